section
/-! ===== lN n to 2^64: shifts, and, or, masks, one bit ===== -/
theorem wb_tb (n : Nat) : (lN n).toBitVec = BitVec.ofNat 64 n := rfl
theorem wb_inj {a b : Int64} (h : a.toBitVec = b.toBitVec) : a = b := Int64.toBitVec_inj.mp h
theorem wb_tn {n : Nat} (h : n < 2 ^ 64) : (lN n).toBitVec.toNat = n := by rw [wb_tb, BitVec.toNat_ofNat, Nat.mod_eq_of_lt h]
theorem wb_of (x : Int64) : ∃ n, n < 2 ^ 64 ∧ x = lN n := ⟨x.toBitVec.toNat, x.toBitVec.isLt, wb_inj (by rw [wb_tb]; simp)⟩
theorem wb_of32 (x : Int32) : ∃ n, n < 2 ^ 32 ∧ x = nI n := ⟨x.toBitVec.toNat, x.toBitVec.isLt, Int32.toBitVec_inj.mp (by show _ = BitVec.ofNat 32 _; simp)⟩
theorem wb_c : ∀ k, k < 64 → ((nI k).toInt64 &&& 63) = lN k := by decide +kernel
theorem wb_cu : ∀ k, k < 64 → ((nI k).toInt64.toUInt64 &&& Int64.toUInt64 63) = UInt64.ofNat k := by decide +kernel
theorem wb_sm : ∀ k, k < 64 → (BitVec.ofNat 64 k).smod 64 = BitVec.ofNat 64 k := by decide +kernel
theorem wb_pw {a b : Nat} (h : a ≤ b) : 2 ^ b = 2 ^ a * 2 ^ (b - a) := by rw [← Nat.pow_add]; congr 1; omega
theorem wb_lt2 {a b : Nat} (h : a < b) : 2 ^ a < 2 ^ b := Nat.pow_lt_pow_right (by decide) h
theorem wb_mod (n : Nat) : lN n = lN (n % 2 ^ 64) := wb_inj (by rw [wb_tb, wb_tb]; apply BitVec.eq_of_toNat_eq; rw [BitVec.toNat_ofNat, BitVec.toNat_ofNat, Nat.mod_mod])
theorem wb_shr {n k : Nat} (hn : n < 2 ^ 64) (hk : k < 64) : ((lN n).toUInt64 >>> ((nI k).toInt64.toUInt64 &&& Int64.toUInt64 63)).toInt64 = lN (n / 2 ^ k) := by
  rw [wb_cu k hk]
  apply wb_inj
  apply BitVec.eq_of_toNat_eq
  show ((lN n).toUInt64 >>> UInt64.ofNat k).toNat = (BitVec.ofNat 64 _).toNat
  have h1 : (UInt64.ofNat k).toNat = k := by
    show (BitVec.ofNat 64 k).toNat = k
    rw [BitVec.toNat_ofNat, Nat.mod_eq_of_lt (by omega)]
  have h2 : (lN n).toUInt64.toNat = n := wb_tn hn
  rw [UInt64.toNat_shiftRight, h1, h2, Nat.mod_eq_of_lt hk, Nat.shiftRight_eq_div_pow, BitVec.toNat_ofNat, Nat.mod_eq_of_lt (Nat.lt_of_le_of_lt (Nat.div_le_self _ _) hn)]
theorem wb_shl (n : Nat) {k : Nat} (hk : k < 64) : lN n <<< ((nI k).toInt64 &&& 63) = lN (n * 2 ^ k) := by
  rw [wb_c k hk]
  apply wb_inj
  rw [Int64.toBitVec_shiftLeft, wb_tb, wb_tb, wb_tb, wb_sm k hk]
  apply BitVec.eq_of_toNat_eq
  rw [BitVec.shiftLeft_eq', BitVec.toNat_shiftLeft, BitVec.toNat_ofNat, BitVec.toNat_ofNat, BitVec.toNat_ofNat, Nat.mod_eq_of_lt (show k < 2 ^ 64 by omega), Nat.shiftLeft_eq, Nat.mul_mod, Nat.mod_mod, ← Nat.mul_mod]
theorem wb_and {a b : Nat} (ha : a < 2 ^ 64) (hb : b < 2 ^ 64) : lN a &&& lN b = lN (a &&& b) := by
  apply wb_inj
  rw [Int64.toBitVec_and, wb_tb, wb_tb, wb_tb]
  apply BitVec.eq_of_toNat_eq
  rw [BitVec.toNat_and, BitVec.toNat_ofNat, BitVec.toNat_ofNat, BitVec.toNat_ofNat, Nat.mod_eq_of_lt ha, Nat.mod_eq_of_lt hb, Nat.mod_eq_of_lt (Nat.and_lt_two_pow _ hb)]
theorem wb_or {a b : Nat} (ha : a < 2 ^ 64) (hb : b < 2 ^ 64) : lN a ||| lN b = lN (a ||| b) := by
  apply wb_inj
  rw [Int64.toBitVec_or, wb_tb, wb_tb, wb_tb]
  apply BitVec.eq_of_toNat_eq
  rw [BitVec.toNat_or, BitVec.toNat_ofNat, BitVec.toNat_ofNat, BitVec.toNat_ofNat, Nat.mod_eq_of_lt ha, Nat.mod_eq_of_lt hb, Nat.mod_eq_of_lt (Nat.or_lt_two_pow ha hb)]
theorem wb_mask {n k : Nat} (hn : n < 2 ^ 64) (hk : k < 64) : lN n &&& lN (2 ^ k - 1) = lN (n % 2 ^ k) := by
  rw [wb_and hn (by have := wb_lt2 hk; omega), Nat.and_two_pow_sub_one_eq_mod]
theorem wb_a1 {n : Nat} (hn : n < 2 ^ 64) : lN n &&& 1 = lN (n % 2) := wb_mask (k := 1) hn (by decide)
theorem wb_bit {n k : Nat} (hn : n < 2 ^ 64) (hk : k < 64) : ((lN n).toUInt64 >>> ((nI k).toInt64.toUInt64 &&& Int64.toUInt64 63)).toInt64 &&& 1 = lN (n / 2 ^ k % 2) := by
  rw [wb_shr hn hk, wb_a1 (Nat.lt_of_le_of_lt (Nat.div_le_self _ _) hn)]
theorem wb_xor {q k : Nat} (hk : k < 63) (h : 2 ^ k ≤ q) (h2 : q < 2 ^ (k + 1)) : lN q ^^^ lN (2 ^ k) = lN (q - 2 ^ k) := by
  obtain ⟨r, rfl⟩ : ∃ r, q = 2 ^ k + r := ⟨q - 2 ^ k, by omega⟩
  have hr : r < 2 ^ k := by rw [Nat.pow_succ] at h2; omega
  have hx : (2 ^ k + r) ^^^ 2 ^ k = r := by
    apply Nat.eq_of_testBit_eq
    intro i
    rw [Nat.testBit_xor, Nat.testBit_two_pow]
    rcases Nat.lt_trichotomy i k with h | h | h
    · rw [Nat.testBit_two_pow_add_gt h]
      simp [show ¬ k = i by omega]
    · subst h
      rw [Nat.testBit_two_pow_add_eq]
      simp
    · have a1 : 2 ^ (k + 1) ≤ 2 ^ i := Nat.pow_le_pow_right (by decide) h
      rw [Nat.testBit_lt_two_pow (show 2 ^ k + r < 2 ^ i by omega), Nat.testBit_lt_two_pow (show r < 2 ^ i by omega)]
      simp [show ¬ k = i by omega]
  have b1 := wb_lt2 (show k + 1 < 64 by omega)
  have b2 := wb_lt2 (show k < 64 by omega)
  apply wb_inj
  rw [Int64.toBitVec_xor, wb_tb, wb_tb, wb_tb]
  apply BitVec.eq_of_toNat_eq
  rw [BitVec.toNat_xor, BitVec.toNat_ofNat, BitVec.toNat_ofNat, BitVec.toNat_ofNat, Nat.mod_eq_of_lt (by omega : 2 ^ k + r < 2 ^ 64), Nat.mod_eq_of_lt b2, hx, Nat.add_sub_cancel_left, Nat.mod_eq_of_lt (by omega)]
/-! ===== Int64 as an unsigned number: uN x ===== -/
def uN (x : Int64) : Nat := x.toUInt64.toNat
theorem uN_lt (x : Int64) : uN x < 18446744073709551616 := x.toUInt64.toNat_lt
theorem uN_inj {x y : Int64} (h : uN x = uN y) : x = y := congrArg UInt64.toInt64 (UInt64.toNat_inj.mp h)
theorem uN_add (x y : Int64) : uN (x + y) = (uN x + uN y) % 18446744073709551616 := by
  show (x.toUInt64 + y.toUInt64).toNat = _
  exact UInt64.toNat_add _ _
theorem uN_mul (x y : Int64) : uN (x * y) = (uN x * uN y) % 18446744073709551616 := by
  show (x.toUInt64 * y.toUInt64).toNat = _
  exact UInt64.toNat_mul _ _
theorem uN_shl (x : Int64) : uN (x <<< ((1 : Int32).toInt64 &&& 63)) = (2 * uN x) % 18446744073709551616 := by
  have h : (((1 : Int32).toInt64 &&& 63).toBitVec.smod 64).toNat = 1 := by decide
  show (x.toBitVec <<< (((1 : Int32).toInt64 &&& 63).toBitVec.smod 64).toNat).toNat = _
  rw [h, BitVec.toNat_shiftLeft, Nat.shiftLeft_eq, Nat.mul_comm]
  rfl
theorem uN_shr (x : Int64) (s : UInt64) : uN (x.toUInt64 >>> s).toInt64 = uN x / 2 ^ (s.toNat % 64) := by
  show (x.toUInt64 >>> s).toNat = _
  rw [UInt64.toNat_shiftRight, Nat.shiftRight_eq_div_pow]
  rfl
theorem uN_s32 (x : Int64) : uN (x.toUInt64 >>> ((32 : Int32).toInt64.toUInt64 &&& Int64.toUInt64 63)).toInt64 = uN x / 4294967296 := by
  have h : ((32 : Int32).toInt64.toUInt64 &&& Int64.toUInt64 63).toNat % 64 = 32 := by decide
  rw [uN_shr, h]
theorem uN_s63 (x : Int64) : uN (x.toUInt64 >>> ((63 : Int32).toInt64.toUInt64 &&& Int64.toUInt64 63)).toInt64 = uN x / 9223372036854775808 := by
  have h : ((63 : Int32).toInt64.toUInt64 &&& Int64.toUInt64 63).toNat % 64 = 63 := by decide
  rw [uN_shr, h]
theorem uN_lo (x : Int64) : uN (x &&& 4294967295) = uN x % 4294967296 := by
  show (x.toUInt64 &&& Int64.toUInt64 4294967295).toNat = _
  rw [UInt64.toNat_and]
  exact Nat.and_two_pow_sub_one_eq_mod _ 32
theorem uN_bit (x : Int64) : (x &&& 1) = 0 ↔ uN x % 2 = 0 := by
  have h : uN (x &&& 1) = uN x % 2 := by
    show (x.toUInt64 &&& Int64.toUInt64 1).toNat = _
    rw [UInt64.toNat_and]
    exact Nat.and_two_pow_sub_one_eq_mod _ 1
  rw [← h]
  exact ⟨fun z => by rw [z]; rfl, fun z => uN_inj (z.trans rfl)⟩
theorem uN_or {x y : Int64} (hy : uN y < 2) : uN ((x <<< ((1 : Int32).toInt64 &&& 63)) ||| y) = (2 * uN x) % 18446744073709551616 + uN y := by
  have h1 : uN ((x <<< ((1 : Int32).toInt64 &&& 63)) ||| y) = uN (x <<< ((1 : Int32).toInt64 &&& 63)) ||| uN y := UInt64.toNat_or _ _
  have h2 : (2 * uN x) % 18446744073709551616 = 2 ^ 1 * (uN x % 9223372036854775808) := by omega
  rw [h1, uN_shl, h2]
  exact (Nat.two_pow_add_eq_or_of_lt (i := 1) hy _).symm
theorem nat_xor {a : Nat} (h : a < 18446744073709551616) : a ^^^ 2 ^ 63 = (a + 9223372036854775808) % 18446744073709551616 := by
  have h1 : (a ^^^ 2 ^ 63) % 2 ^ 63 = a % 2 ^ 63 := by rw [Nat.xor_mod_two_pow, Nat.mod_self, Nat.xor_zero]
  have h2 : (a ^^^ 2 ^ 63) / 2 ^ 63 = (a / 2 ^ 63) ^^^ 1 := by rw [Nat.xor_div_two_pow, Nat.div_self (Nat.two_pow_pos 63)]
  have h3 : a / 2 ^ 63 = 0 ∨ a / 2 ^ 63 = 1 := by omega
  generalize a ^^^ 2 ^ 63 = t at h1 h2
  rcases h3 with h3 | h3
  · rw [h3] at h2
    have h2 : t / 2 ^ 63 = 1 := h2
    omega
  · rw [h3] at h2
    have h2 : t / 2 ^ 63 = 0 := h2
    omega
theorem uN_xor (x : Int64) : uN (x ^^^ (-9223372036854775808)) = (uN x + 9223372036854775808) % 18446744073709551616 := by
  rw [← nat_xor (uN_lt x)]
  exact UInt64.toNat_xor _ _
theorem uN_int (x : Int64) : x.toInt = if 2 * uN x < 18446744073709551616 then (uN x : Int) else (uN x : Int) - 18446744073709551616 := BitVec.toInt_eq_toNat_cond _
theorem uN_le (x y : Int64) : (x ^^^ (-9223372036854775808)) ≤ (y ^^^ (-9223372036854775808)) ↔ uN x ≤ uN y := by
  have hx := uN_lt x
  have hy := uN_lt y
  rw [Int64.le_iff_toInt_le, uN_int, uN_int, uN_xor, uN_xor]
  omega
theorem uN_sk (x : Int64) {k : Nat} (hk : k < 64) : uN (x.toUInt64 >>> ((nI k).toInt64.toUInt64 &&& Int64.toUInt64 63)).toInt64 = uN x / 2 ^ k := by
  have h : ((nI k).toInt64.toUInt64 &&& Int64.toUInt64 63).toNat % 64 = k := by
    rw [nI_l (by omega), UInt64.toNat_and]
    have e : (lN k).toUInt64.toNat = k % 2 ^ 64 := rfl
    have e2 : (Int64.toUInt64 63).toNat = 2 ^ 6 - 1 := by decide
    rw [e, e2, Nat.and_two_pow_sub_one_eq_mod]
    omega
  rw [uN_shr, h]
theorem pk_uLs {f : Nat → Int64} {k : Nat} {x : Int64} : vp_updL f k x k = x := if_pos rfl
theorem pk_uLn {f : Nat → Int64} {k j : Nat} {x : Int64} (h : j ≠ k) : vp_updL f k x j = f j := if_neg h
theorem pk_sub {a b : Nat} (h : b ≤ a) : nI a - nI b = nI (a - b) := by
  obtain ⟨c, rfl⟩ : ∃ c, a = c + b := ⟨a - b, by omega⟩
  rw [← nI_add, Int32.add_sub_cancel, Nat.add_sub_cancel]
theorem pk_m1 (n : Nat) : nI (n + 1) + (-1) = nI n := by
  rw [← nI_1, Int32.add_assoc, show (1 : Int32) + (-1) = 0 from rfl, Int32.add_zero]
theorem pk_ix (x : Int32) {n : Nat} (hn : n < 2 ^ 31) : x < 0 ∨ nI n ≤ x ∨ ∃ j : Nat, j < n ∧ x = nI j := by
  by_cases h : x < 0
  · exact Or.inl h
  · obtain ⟨j, hj, rfl⟩ := nI_of h
    by_cases h2 : j < n
    · exact Or.inr (Or.inr ⟨j, h2, rfl⟩)
    · exact Or.inr (Or.inl (nI_le (by omega) hj))
theorem pk_lT {n : Nat} (h : n < 2 ^ 63) : (lN n).toInt = (n : Int) := lg_ofNat_toInt h
theorem pk_lLT {a b : Nat} (ha : a < 2 ^ 63) (hb : b < 2 ^ 63) : lN a < lN b ↔ a < b := by
  rw [Int64.lt_iff_toInt_lt, pk_lT ha, pk_lT hb]; omega
theorem pk_lLE {a b : Nat} (ha : a < 2 ^ 63) (hb : b < 2 ^ 63) : lN a ≤ lN b ↔ a ≤ b := by
  rw [Int64.le_iff_toInt_le, pk_lT ha, pk_lT hb]; omega
theorem pk_lEQ {a b : Nat} (ha : a < 2 ^ 63) (hb : b < 2 ^ 63) : lN a = lN b ↔ a = b := by
  rw [← Int64.toInt_inj, pk_lT ha, pk_lT hb]; omega
theorem pk_lOf {x : Int64} (h : ¬ x < 0) : ∃ k : Nat, k < 2 ^ 63 ∧ x = lN k := by
  rw [Int64.lt_iff_toInt_lt] at h
  have h0 : (0 : Int64).toInt = 0 := by decide
  have hx := Int64.toInt_lt x
  refine ⟨x.toInt.toNat, by omega, Int64.toInt_inj.mp ?_⟩
  rw [pk_lT (by omega)]
  omega
theorem pk_lDiv {a b : Nat} (ha : a < 2 ^ 63) (h0 : 0 < b) (hb : b < 2 ^ 63) : lN a / lN b = lN (a / b) := by
  apply Int64.toInt_inj.mp
  rw [lg_ldiv_nonneg (by rw [pk_lT ha]; omega) (by rw [pk_lT hb]; omega), pk_lT ha, pk_lT hb, pk_lT (Nat.lt_of_le_of_lt (Nat.div_le_self a b) ha)]
  rfl
theorem pk_lRem {a b : Nat} (ha : a < 2 ^ 63) (h0 : 0 < b) (hb : b < 2 ^ 63) : lN a - lN a / lN b * lN b = lN (a % b) := by
  rw [pk_lDiv ha h0 hb, lN_mul, lN_sub (Nat.div_mul_le_self a b)]
  exact congrArg lN (by have := Nat.div_add_mod' a b; omega)
end
section
/-! ===== registers: the state, isRegister, get, set ===== -/
def hw_S (u : Nat → Int64) : SY := (u 0, u 1, u 2, u 3, u 4, u 5)
theorem hw_reg (r : Int32) : (r < 0 ∨ 6 ≤ r) ∨ ∃ j : Nat, j < 6 ∧ r = nI j := by
  rcases pk_ix r (n := 6) (by decide) with h | h | h
  · exact Or.inl (Or.inl h)
  · exact Or.inl (Or.inr h)
  · exact Or.inr h
theorem hw_ge0 {r c : Int32} (hc : 0 ≤ c) (h : c ≤ r) : ¬ r < 0 := by
  rw [Int32.lt_iff_toInt_lt]
  rw [Int32.le_iff_toInt_le] at h hc
  omega
theorem hw_5 {r : Int32} (h : 6 ≤ r) : 5 < r := by
  rw [Int32.le_iff_toInt_le] at h
  rw [Int32.lt_iff_toInt_lt]
  have a : (6 : Int32).toInt = 6 := by decide
  have b : (5 : Int32).toInt = 5 := by decide
  omega
theorem hw_XB {A B : Prop} {r : Int32} (h : r < 0 ∨ 6 ≤ r) (a : A) : wpX_isRegister (fun z => (z = 0 → A) ∧ (¬ z = 0 → B)) r := by
  rcases h with h | h
  · exact br_t h (br_t rfl a)
  · exact br_f (hw_ge0 (by decide) h) (br_t h (br_t rfl a))
theorem hw_XG {A B : Prop} {j : Nat} (hj : j < 6) (b : B) : wpX_isRegister (fun z => (z = 0 → A) ∧ (¬ z = 0 → B)) (nI j) :=
  br_f (nI_pos (by omega)) (br_f (nI_ge (b := 6) hj (by decide)) (br_f (by decide) b))
theorem hw_YB {A B : Prop} (v : SY) {r : Int32} (h : r < 0 ∨ 6 ≤ r) (a : A) : wpY_isRegister (fun z => (z = 0 → A) ∧ (¬ z = 0 → B)) v r := by
  obtain ⟨v0, v1, v2, v3, v4, v5⟩ := v
  rcases h with h | h
  · exact br_t h (br_t rfl a)
  · exact br_f (hw_ge0 (by decide) h) (br_t (hw_5 h) (br_t rfl a))
theorem hw_YG {A B : Prop} (v : SY) {j : Nat} (hj : j < 6) (b : B) : wpY_isRegister (fun z => (z = 0 → A) ∧ (¬ z = 0 → B)) v (nI j) := by
  obtain ⟨v0, v1, v2, v3, v4, v5⟩ := v
  exact br_f (nI_pos (by omega)) (br_f (nI_nlt (b := j) (a := 5) (by omega) (by decide)) (br_f (by decide) b))
theorem hw_in {j : Nat} (hj : j < 6) : vp_in (nI j) 6 := vp_in_nI hj (by decide)
theorem hw_cl {j : Nat} (hj : j < 6) : (nI j).toNatClampNeg = j := nI_clamp (by omega)
theorem hw_get {post : Int64 → Prop} {u : Nat → Int64} {j : Nat} (hj : j < 6) (h : post (u j)) : wpY_get post (u 0, u 1, u 2, u 3, u 4, u 5) (nI j) := by
  have c : j = 0 ∨ j = 1 ∨ j = 2 ∨ j = 3 ∨ j = 4 ∨ j = 5 := by omega
  rcases c with rfl | rfl | rfl | rfl | rfl | rfl
  · exact br_t rfl h
  · exact br_f (by decide) (br_t rfl h)
  · exact br_f (by decide) (br_f (by decide) (br_t rfl h))
  · exact br_f (by decide) (br_f (by decide) (br_f (by decide) (br_t rfl h)))
  · exact br_f (by decide) (br_f (by decide) (br_f (by decide) (br_f (by decide) (br_t rfl h))))
  · exact br_f (by decide) (br_f (by decide) (br_f (by decide) (br_f (by decide) (br_f (by decide) (br_t rfl h)))))
theorem hw_getB {post : Int64 → Prop} (v : SY) {r : Int32} (hr : r < 0 ∨ 6 ≤ r) (h : post 0) : wpY_get post v r := by
  obtain ⟨v0, v1, v2, v3, v4, v5⟩ := v
  have ne : ∀ c : Int32, 0 ≤ c → c < 6 → ¬ r = c := by
    intro c h1 h2 e
    subst e
    rw [Int32.le_iff_toInt_le] at h1
    rw [Int32.lt_iff_toInt_lt] at h2
    rw [Int32.lt_iff_toInt_lt, Int32.le_iff_toInt_le] at hr
    omega
  exact br_f (ne 0 (by decide) (by decide)) (br_f (ne 1 (by decide) (by decide)) (br_f (ne 2 (by decide) (by decide)) (br_f (ne 3 (by decide) (by decide)) (br_f (ne 4 (by decide) (by decide)) (br_f (ne 5 (by decide) (by decide)) h)))))
theorem hw_set {post : Int32 → SY → Prop} {u : Nat → Int64} {j : Nat} {x : Int64} (hj : j < 6) (h : post 1 (hw_S (vp_updL u j x))) : wpY_set post (u 0, u 1, u 2, u 3, u 4, u 5) (nI j) x := by
  have c : j = 0 ∨ j = 1 ∨ j = 2 ∨ j = 3 ∨ j = 4 ∨ j = 5 := by omega
  rcases c with rfl | rfl | rfl | rfl | rfl | rfl
  · exact hw_YG (hw_S u) hj (br_t rfl (br_f (by decide) (br_f (by decide) (br_f (by decide) (br_f (by decide) (br_f (by decide) (h)))))))
  · exact hw_YG (hw_S u) hj (br_f (by decide) (br_t rfl (br_f (by decide) (br_f (by decide) (br_f (by decide) (br_f (by decide) (h)))))))
  · exact hw_YG (hw_S u) hj (br_f (by decide) (br_f (by decide) (br_t rfl (br_f (by decide) (br_f (by decide) (br_f (by decide) (h)))))))
  · exact hw_YG (hw_S u) hj (br_f (by decide) (br_f (by decide) (br_f (by decide) (br_t rfl (br_f (by decide) (br_f (by decide) (h)))))))
  · exact hw_YG (hw_S u) hj (br_f (by decide) (br_f (by decide) (br_f (by decide) (br_f (by decide) (br_t rfl (br_f (by decide) (h)))))))
  · exact hw_YG (hw_S u) hj (br_f (by decide) (br_f (by decide) (br_f (by decide) (br_f (by decide) (br_f (by decide) (br_t rfl (h)))))))
end
section
/-! ===== unsigned numbers: below, order, quotient ===== -/
theorem hw_uln {n : Nat} (h : n < 18446744073709551616) : uN (lN n) = n := Nat.mod_eq_of_lt h
theorem hw_lun (x : Int64) : lN (uN x) = x := uN_inj (hw_uln (uN_lt x))
theorem hw_eq {x : Int64} {n : Nat} (h : uN x = n) : x = lN n := by rw [← h, hw_lun]
theorem hw_ti (x : Int64) : (uN x < 9223372036854775808 ∧ x.toInt = uN x) ∨ (9223372036854775808 ≤ uN x ∧ uN x < 18446744073709551616 ∧ x.toInt = (uN x : Int) - 18446744073709551616) := by
  have h := uN_int x
  have l := uN_lt x
  split at h <;> omega
theorem hw_z : (0 : Int64).toInt = 0 := by decide
theorem hw_u0 : uN 0 = 0 := by decide
theorem hw_u1 : uN 1 = 1 := by decide
theorem hw_uz (x : Int64) : x = 0 ↔ uN x = 0 := ⟨fun h => by rw [h]; exact hw_u0, fun h => uN_inj (h.trans hw_u0.symm)⟩
theorem hw_nn (x : Int64) : 0 ≤ x ↔ uN x < 9223372036854775808 := by
  rw [Int64.le_iff_toInt_le, hw_z]
  have := hw_ti x
  omega
theorem hw_sub (x y : Int64) : uN (x - y) = (uN x + 18446744073709551616 - uN y) % 18446744073709551616 := by
  have e : uN (x - y + y) = uN x := by rw [Int64.sub_add_cancel]
  rw [uN_add] at e
  have a := uN_lt x
  have b := uN_lt y
  have c := uN_lt (x - y)
  omega
theorem hw_below {post : Int32 → Prop} (v : SY) {a b : Int64} (h1 : uN a < uN b → post 1) (h0 : uN b ≤ uN a → post 0) : wpY_below post v a b := by
  obtain ⟨v0, v1, v2, v3, v4, v5⟩ := v
  have ha := hw_ti a
  have hb := hw_ti b
  have hl : (b ≤ a) ↔ b.toInt ≤ a.toInt := Int64.le_iff_toInt_le
  have h3 : (0 ≤ a) ↔ 0 ≤ a.toInt := Int64.le_iff_toInt_le
  have h4 : (0 ≤ b) ↔ 0 ≤ b.toInt := Int64.le_iff_toInt_le
  have h5 : (b < 0) ↔ b.toInt < 0 := Int64.lt_iff_toInt_lt
  refine br_c (fun z => br_c (fun z2 => h1 ?_) (fun z2 => br_c (fun z3 => h0 ?_) (fun z3 => h1 ?_))) (fun z => br_c (fun z2 => h0 ?_) (fun z2 => br_c (fun z3 => h0 ?_) (fun z3 => h1 ?_)))
  all_goals (first | rw [h3] at z | skip)
  all_goals (first | rw [h4] at z2 | rw [h5] at z2 | skip)
  all_goals (first | rw [hl] at z3 | skip)
  all_goals omega
theorem hw_uord {post : Int64 → Prop} {a b : Int64} (h1 : uN a < uN b → post (-1)) (h0 : uN a = uN b → post 0) (h2 : uN b < uN a → post 1) : wpX_unsignedOrder post a b := by
  have l1 := uN_le b a
  have l2 := uN_le a b
  refine br_c (fun z => br_c (fun z2 => h0 ?_) (fun z2 => h2 ?_)) (fun z => h1 ?_)
  · rw [l1] at z; rw [l2] at z2; omega
  · rw [l1] at z; rw [l2] at z2; omega
  · rw [l1] at z; omega
theorem hw_div {x y : Int64} (hx : uN x < 9223372036854775808) (hy : uN y < 9223372036854775808) (h0 : 0 < uN y) : uN (x / y) = uN x / uN y := by
  have e := pk_lDiv (a := uN x) (b := uN y) (by omega) h0 (by omega)
  rw [hw_lun, hw_lun] at e
  rw [e, hw_uln]
  exact Nat.lt_of_le_of_lt (Nat.div_le_self _ _) (by omega)
theorem hw_hq {A B k s : Nat} (hB : 0 < B) (h : B * k + s = A / 2) (hs : s < B) (hr : A - 2 * (B * k) < B) : A / B = 2 * k := by
  apply Nat.div_eq_of_lt_le
  · rw [show 2 * k * B = 2 * (B * k) by rw [Nat.mul_assoc, Nat.mul_comm k B]]; omega
  · rw [show (2 * k + 1) * B = 2 * (B * k) + B by rw [Nat.add_mul, Nat.mul_assoc, Nat.mul_comm k B, Nat.one_mul]]; omega
theorem hw_hq1 {A B k s : Nat} (hB : 0 < B) (h : B * k + s = A / 2) (hs : s < B) (hr : B ≤ A - 2 * (B * k)) : A / B = 2 * k + 1 := by
  apply Nat.div_eq_of_lt_le
  · rw [show (2 * k + 1) * B = 2 * (B * k) + B by rw [Nat.add_mul, Nat.mul_assoc, Nat.mul_comm k B, Nat.one_mul]]; omega
  · rw [show (2 * k + 1 + 1) * B = 2 * (B * k) + 2 * B by rw [Nat.add_mul, Nat.add_mul, Nat.mul_assoc, Nat.mul_comm k B, Nat.one_mul]; omega]; omega
theorem hw_uq {post : Int64 → Prop} {a b : Int64} (hb : uN b ≠ 0) (h : post (lN (uN a / uN b))) : wpX_unsignedQuotient post a b := by
  have la := uN_lt a
  have lb := uN_lt b
  refine br_c (fun z => ?_) (fun z => ?_)
  · rw [hw_nn] at z
    refine ⟨by rw [hw_uz]; exact hb, ?_⟩
    intro q eq r er
    have e1 : uN (a.toUInt64 >>> ((1 : Int32).toInt64.toUInt64 &&& Int64.toUInt64 63)).toInt64 = uN a / 2 := uN_sk a (k := 1) (by decide)
    have e2 : uN q = 2 * (uN a / 2 / uN b) := by
      rw [eq, uN_shl, hw_div (by omega) z (by omega), e1]
      have : uN a / 2 / uN b ≤ uN a / 2 := Nat.div_le_self _ _
      omega
    have dm := Nat.div_add_mod (uN a / 2) (uN b)
    have ml := Nat.mod_lt (uN a / 2) (Nat.pos_of_ne_zero hb)
    have e3 : uN r = uN a - 2 * (uN b * (uN a / 2 / uN b)) := by
      rw [er, hw_sub, uN_mul, e2, show 2 * (uN a / 2 / uN b) * uN b = 2 * (uN b * (uN a / 2 / uN b)) by rw [Nat.mul_assoc, Nat.mul_comm (uN a / 2 / uN b)]]
      omega
    have lo : uN r < uN b → q = lN (uN a / uN b) := fun hl => by
      rw [hw_hq (Nat.pos_of_ne_zero hb) dm ml (by omega)]
      exact hw_eq e2
    have hi : uN b ≤ uN r → q + 1 = lN (uN a / uN b) := fun hl => by
      rw [hw_hq1 (Nat.pos_of_ne_zero hb) dm ml (by omega)]
      apply hw_eq
      rw [uN_add, e2, hw_u1]
      have := Nat.div_le_self (uN a / 2) (uN b)
      omega
    refine hw_uord (fun hl => br_f (by decide) ?_) (fun hl => br_t (by decide) ?_) (fun hl => br_t (by decide) ?_)
    · rw [lo hl]; exact h
    · rw [hi (by omega)]; exact h
    · rw [hi (by omega)]; exact h
  · rw [hw_nn] at z
    have hi : uN b ≤ uN a → (1 : Int64) = lN (uN a / uN b) := fun hl => by
      rw [Nat.div_eq_of_lt_le (k := 1) (by omega) (by omega)]; rfl
    refine hw_uord (fun hl => br_f (by decide) ?_) (fun hl => br_t (by decide) ?_) (fun hl => br_t (by decide) ?_)
    · rw [Nat.div_eq_of_lt hl] at h; exact h
    · rw [hi (by omega)]; exact h
    · rw [hi (by omega)]; exact h
theorem hw_urem {a b : Int64} (hb : uN b ≠ 0) : a - lN (uN a / uN b) * b = lN (uN a % uN b) := by
  apply hw_eq
  have la := uN_lt a
  have q := Nat.div_le_self (uN a) (uN b)
  have dm := Nat.div_add_mod' (uN a) (uN b)
  have : uN a / uN b * uN b ≤ uN a := Nat.div_mul_le_self _ _
  rw [hw_sub, uN_mul, hw_uln (by omega)]
  omega
end
section
/-! ===== the reference's division, bit by bit ===== -/
theorem hw_a1 (x : Int64) : uN (x &&& 1) = uN x % 2 := by
  show (x.toUInt64 &&& Int64.toUInt64 1).toNat = _
  rw [UInt64.toNat_and]
  exact Nat.and_two_pow_sub_one_eq_mod _ 1
theorem hw_bit (x : Int64) {k : Nat} (hk : k < 64) : uN ((x.toUInt64 >>> ((nI k).toInt64.toUInt64 &&& Int64.toUInt64 63)).toInt64 &&& 1) = uN x / 2 ^ k % 2 := by rw [hw_a1, uN_sk x hk]
theorem hw_1sh {k : Nat} (hk : k < 64) : (1 : Int64) <<< ((nI k).toInt64 &&& 63) = lN (2 ^ k) := by
  have e := wb_shl 1 hk
  rw [Nat.one_mul] at e
  exact e
theorem hw_half (A k : Nat) : A / 2 ^ k = 2 * (A / 2 ^ (k + 1)) + A / 2 ^ k % 2 := by
  rw [Nat.pow_succ, ← Nat.div_div_eq_div_mul]; omega
theorem hw_setb {x : Int64} {Q k : Nat} (hk : k < 64) (h : uN x = Q * 2 ^ (k + 1)) : uN (x ||| lN (2 ^ k)) = (2 * Q + 1) * 2 ^ k := by
  have l : 2 ^ k < 2 ^ 64 := wb_lt2 hk
  have e : uN (x ||| lN (2 ^ k)) = uN x ||| uN (lN (2 ^ k)) := UInt64.toNat_or _ _
  rw [e, h, hw_uln (by omega), Nat.mul_comm Q, ← Nat.two_pow_add_eq_or_of_lt (wb_lt2 (Nat.lt_succ_self k)), Nat.pow_succ]
  grind
theorem hw_ds {M B t : Nat} (hB : 0 < B) (ht : t < 2) : (2 * (M % B) + t < B → (2 * M + t) / B = 2 * (M / B) ∧ (2 * M + t) % B = 2 * (M % B) + t) ∧ (B ≤ 2 * (M % B) + t → (2 * M + t) / B = 2 * (M / B) + 1 ∧ (2 * M + t) % B = 2 * (M % B) + t - B) := by
  have dm := Nat.div_add_mod M B
  have ml := Nat.mod_lt M hB
  have e : 2 * M + t = (2 * (M % B) + t) + B * (2 * (M / B)) := by
    have : B * (2 * (M / B)) = 2 * (B * (M / B)) := by rw [Nat.mul_left_comm]
    omega
  rw [e, Nat.add_mul_div_left _ _ hB, Nat.add_mul_mod_self_left]
  have hN : 2 * (M % B) + t < 2 * B := by omega
  generalize 2 * (M % B) + t = N at *
  constructor
  · intro h
    rw [Nat.div_eq_of_lt h, Nat.mod_eq_of_lt h]
    omega
  · intro h
    rw [Nat.div_eq_of_lt_le (k := 1) (by omega) (by omega), Nat.mod_eq_sub_mod h, Nat.mod_eq_of_lt (by omega)]
    omega
theorem hw_dl {post : Int64 → Prop} {a b : Int64} {p2 : Int32} (f0 f1 f2 f3 f4 f5 : Int64) (hB : 0 < uN b) (h0 : p2 = 0 → post (lN (uN a / uN b))) (h1 : ¬ p2 = 0 → post (lN (uN a % uN b))) : ∀ (m : Nat) (x6 x8 : Int64), m ≤ 64 → uN x6 = uN a / 2 ^ m / uN b * 2 ^ m → uN x8 = uN a / 2 ^ m % uN b → wY_divide_10 post a b p2 f0 f1 f2 f3 f4 f5 (m + 1) x6 x8 (nI m + (-1)) := by
  intro m
  induction m with
  | zero =>
    intro x6 x8 _ e6 e8
    rw [Nat.pow_zero, Nat.div_one, Nat.mul_one] at e6
    rw [Nat.pow_zero, Nat.div_one] at e8
    refine br_t (by decide) (br_c (fun z => ?_) (fun z => ?_))
    · rw [hw_eq e6]; exact h0 z
    · rw [hw_eq e8]; exact h1 z
  | succ k ih =>
    intro x6 x8 hm e6 e8
    rw [pk_m1]
    have hk : k < 64 := by omega
    have hf := hw_half (uN a) k
    have lb := uN_lt b
    have l8 : uN x8 < uN b := by rw [e8]; exact Nat.mod_lt _ hB
    obtain ⟨t, et⟩ : ∃ t, t = uN a / 2 ^ k % 2 := ⟨_, rfl⟩
    have ht : t < 2 := by omega
    rw [← et] at hf
    obtain ⟨d1, d2⟩ := hw_ds (M := uN a / 2 ^ (k + 1)) hB ht
    rw [← hf, ← e8] at d1 d2
    have ub : uN ((a.toUInt64 >>> ((nI k).toInt64.toUInt64 &&& Int64.toUInt64 63)).toInt64 &&& 1) = t := by rw [hw_bit a hk, et]
    have sub : ∀ y : Int64, uN b ≤ 2 * uN x8 + t → uN y = (2 * uN x8) % 18446744073709551616 + t → wY_divide_57 post (wY_divide_10 post a b p2 f0 f1 f2 f3 f4 f5 (k + 1)) a b p2 x6 y (nI k) f0 f1 f2 f3 f4 f5 := by
      intro y hy ey
      intro y8 e y6 e' y10 e''
      obtain ⟨q1, q2⟩ := d2 hy
      rw [e'', e', hw_1sh hk]
      refine ih _ _ (by omega) ?_ ?_
      · rw [hw_setb hk e6, q1]
      · rw [e, hw_sub, ey, q2]
        omega
    have skip : ∀ y : Int64, 2 * uN x8 + t < uN b → uN y = 2 * uN x8 + t → wY_divide_10 post a b p2 f0 f1 f2 f3 f4 f5 (k + 1) x6 y (nI k + (-1)) := by
      intro y hy ey
      obtain ⟨q1, q2⟩ := d1 hy
      refine ih _ _ (by omega) ?_ ?_
      · rw [e6, q1, Nat.pow_succ]; grind
      · rw [ey, q2]
    refine br_f (nI_pos (by omega)) (br_c (fun z => ?_) (fun z => ?_))
    · rw [hw_nn] at z
      intro y ey
      have uy : uN y = (2 * uN x8) % 18446744073709551616 + t := by rw [ey, uN_or (by rw [ub]; exact ht), ub]
      refine br_t rfl (hw_below (f0, f1, f2, f3, f4, f5) (fun hl => br_f (by decide) ?_) (fun hl => br_t rfl (sub y (by omega) uy)))
      intro w ew
      rw [ew]
      exact skip y (by omega) (by omega)
    · rw [hw_nn] at z
      intro y ey
      have uy : uN y = (2 * uN x8) % 18446744073709551616 + t := by rw [ey, uN_or (by rw [ub]; exact ht), ub]
      exact br_f (by decide) (sub y (by omega) uy)
theorem hw_ydiv {post : Int64 → Prop} (v : SY) {a b : Int64} {p2 : Int32} (hb : uN b ≠ 0) (h0 : p2 = 0 → post (lN (uN a / uN b))) (h1 : ¬ p2 = 0 → post (lN (uN a % uN b))) : wpY_divide post v a b p2 := by
  obtain ⟨f0, f1, f2, f3, f4, f5⟩ := v
  have la := uN_lt a
  have z : uN a / 2 ^ 64 = 0 := Nat.div_eq_of_lt la
  refine ⟨65, ?_⟩
  refine hw_dl f0 f1 f2 f3 f4 f5 (Nat.pos_of_ne_zero hb) h0 h1 64 0 0 (by omega) ?_ ?_
  · rw [z, Nat.zero_div, Nat.zero_mul]; rfl
  · rw [z, Nat.zero_mod]; rfl
end
section
/-! ===== root, leadingZeros, power ===== -/
theorem hw_root (x0 : Int64) : ∀ (m : Nat) (x2 : Int64), m ≤ 64 → ∃ r : Int64, (∀ post : Int64 → Prop, post r → wX_squareRoot_6 post x0 (m + 1) x2 (nI m + (-1))) ∧ (∀ (post : Int32 → SY → Prop) (u : Nat → Int64) (d : Nat), d < 6 → post 1 (hw_S (vp_updL u d r)) → wY_root_40 post (nI d) x0 (u 0) (u 1) (u 2) (u 3) (u 4) (u 5) (m + 1) x2 (nI m + (-1))) := by
  intro m
  induction m with
  | zero =>
    intro x2 _
    exact ⟨x2, fun post h => br_t (by decide) h, fun post u d hd h => br_t (by decide) (hw_set (u := u) hd h)⟩
  | succ k ih =>
    intro x2 hm
    rw [pk_m1]
    have p : ¬ nI k < 0 := nI_pos (by omega)
    by_cases c1 : 3037000499 < x2 ||| ((1 : Int64) <<< ((nI k).toInt64 &&& 63))
    · obtain ⟨r, hX, hY⟩ := ih x2 (by omega)
      exact ⟨r, fun post h => br_f p (nm_e (br_t c1 (nm_e (hX post h)))), fun post u d hd h => br_f p (nm_e (br_t c1 (nm_e (hY post u d hd h))))⟩
    · by_cases c2 : x0 < (x2 ||| ((1 : Int64) <<< ((nI k).toInt64 &&& 63))) * (x2 ||| ((1 : Int64) <<< ((nI k).toInt64 &&& 63)))
      · obtain ⟨r, hX, hY⟩ := ih x2 (by omega)
        exact ⟨r, fun post h => br_f p (nm_e (br_f c1 (br_t c2 (nm_e (hX post h))))), fun post u d hd h => br_f p (nm_e (br_f c1 (br_t c2 (nm_e (hY post u d hd h)))))⟩
      · obtain ⟨r, hX, hY⟩ := ih (x2 ||| ((1 : Int64) <<< ((nI k).toInt64 &&& 63))) (by omega)
        exact ⟨r, fun post h => br_f p (nm_e (br_f c1 (br_f c2 (nm_e (hX post h))))), fun post u d hd h => br_f p (nm_e (br_f c1 (br_f c2 (nm_e (hY post u d hd h)))))⟩
theorem hw_lz (x : Int64) (f0 f1 f2 f3 f4 f5 : Int64) (a : Nat → Int64) : ∀ m : Nat, m ≤ 64 → uN x < 2 ^ m → ∃ r : Int32, (∀ post : Int32 → Prop, post r → wX_leadingZeros_19 post x a (m + 1) (nI (64 - m))) ∧ (∀ post : Int32 → Prop, post r → wY_leadingZeros_23 post x f0 f1 f2 f3 f4 f5 (m + 1) (nI (64 - m)) (nI m + (-1))) := by
  intro m
  induction m with
  | zero =>
    intro _ _
    exact ⟨nI 64, fun post h => br_t (by decide) h, fun post h => br_t (by decide) h⟩
  | succ k ih =>
    intro hm hx
    rw [pk_m1]
    have hk : k < 64 := by omega
    have p : ¬ nI k < 0 := nI_pos (by omega)
    have q : ¬ 64 ≤ nI (64 - (k + 1)) := nI_ge (b := 64) (by omega) (by decide)
    have e : (63 : Int32) - nI (64 - (k + 1)) = nI k := by
      have := pk_sub (a := 63) (b := 64 - (k + 1)) (by omega)
      rw [show 63 - (64 - (k + 1)) = k by omega] at this
      exact this
    have us : uN (x.toUInt64 >>> ((nI k).toInt64.toUInt64 &&& Int64.toUInt64 63)).toInt64 = uN x / 2 ^ k := uN_sk x hk
    have ub := hw_bit x hk
    have l2 : uN x / 2 ^ k < 2 := by
      rw [Nat.div_lt_iff_lt_mul (Nat.two_pow_pos k)]
      rw [Nat.pow_succ] at hx
      omega
    by_cases c : uN x < 2 ^ k
    · obtain ⟨r, hX, hY⟩ := ih (by omega) c
      have z : uN x / 2 ^ k = 0 := Nat.div_eq_of_lt c
      have n1 : nI (64 - (k + 1)) + 1 = nI (64 - k) := by rw [nI_1]; congr 1; omega
      refine ⟨r, fun post h => br_f q (br_t ?_ (nm_r n1 (hX post h))), fun post h => br_f p (br_f ?_ (nm_r n1 (nm_e (hY post h))))⟩
      · rw [e, hw_uz, us, z]
      · intro w
        have := congrArg uN w
        rw [ub, z, hw_u1] at this
        omega
    · have z : uN x / 2 ^ k ≠ 0 := by
        intro w
        have := Nat.lt_of_div_eq_zero (Nat.two_pow_pos k) w
        omega
      refine ⟨nI (64 - (k + 1)), fun post h => br_f q (br_f ?_ h), fun post h => br_f p (br_t ?_ h)⟩
      · rw [e, hw_uz, us]; exact z
      · apply uN_inj
        rw [ub, hw_u1]
        omega
def hw_pw (b : Int64) : Nat → Int64
  | 0 => 1
  | n + 1 => hw_pw b n * b
theorem hw_pw2 (b : Int64) : ∀ n : Nat, hw_pw b (2 * n) = hw_pw (b * b) n
  | 0 => rfl
  | n + 1 => by
    have ih := hw_pw2 b n
    rw [show 2 * (n + 1) = 2 * n + 1 + 1 by omega]
    show hw_pw b (2 * n) * b * b = hw_pw (b * b) n * (b * b)
    rw [ih, Int64.mul_assoc]
theorem hw_pwa (b : Int64) : ∀ n m : Nat, hw_pw b (n + m) = hw_pw b n * hw_pw b m
  | n, 0 => by
    show hw_pw b n = hw_pw b n * 1
    rw [Int64.mul_one]
  | n, m + 1 => by
    show hw_pw b (n + m) * b = hw_pw b n * (hw_pw b m * b)
    rw [hw_pwa b n m, Int64.mul_assoc]
theorem hw_raise {post : Int64 → Prop} (e : Int64) : ∀ (m i : Nat) (p s : Int64), i + m = 64 → post (p * hw_pw s (uN e / 2 ^ i)) → wX_raise_9 post e (m + 1) p s (nI i) := by
  intro m
  induction m with
  | zero =>
    intro i p s hi h
    have : i = 64 := by omega
    subst this
    have z : uN e / 2 ^ 64 = 0 := Nat.div_eq_of_lt (uN_lt e)
    rw [z] at h
    have h : post (p * 1) := h
    rw [Int64.mul_one] at h
    exact br_t (by decide) h
  | succ m ih =>
    intro i p s hi h
    have hk : i < 64 := by omega
    have q : ¬ 64 ≤ nI i := nI_ge (b := 64) (by omega) (by decide)
    have hf := hw_half (uN e) i
    have ub := hw_bit e hk
    have c : uN e / 2 ^ i % 2 = 0 ∨ uN e / 2 ^ i % 2 = 1 := by omega
    rcases c with c | c
    · rw [c, Nat.add_zero] at hf
      rw [hf, hw_pw2] at h
      refine br_f q (br_t ?_ (nm_e (nm_r (nI_1 i) (ih (i + 1) p (s * s) (by omega) h))))
      rw [hw_uz, ub, c]
    · rw [c] at hf
      rw [hf] at h
      have h : post (p * (hw_pw s (2 * (uN e / 2 ^ (i + 1))) * s)) := h
      rw [hw_pw2, Int64.mul_comm (hw_pw (s * s) _) s, ← Int64.mul_assoc] at h
      refine br_f q (br_f ?_ (nm_e (nm_e (nm_r (nI_1 i) (ih (i + 1) (p * s) (s * s) (by omega) h)))))
      rw [hw_uz, ub, c]
      decide
theorem hw_ypow {post : Int32 → SY → Prop} {u : Nat → Int64} {d : Nat} (hd : d < 6) (b e : Int64) (h : post 1 (hw_S (vp_updL u d (hw_pw b (uN e))))) : ∀ (m : Nat) (x : Int64), m ≤ 64 → x = hw_pw b (uN e / 2 ^ m) → wY_power_47 post (nI d) b e (u 0) (u 1) (u 2) (u 3) (u 4) (u 5) (m + 1) x (nI m + (-1)) := by
  intro m
  induction m with
  | zero =>
    intro x _ ex
    rw [Nat.pow_zero, Nat.div_one] at ex
    rw [ex]
    exact br_t (by decide) (hw_set (u := u) hd h)
  | succ k ih =>
    intro x hm ex
    rw [pk_m1]
    have hk : k < 64 := by omega
    have p : ¬ nI k < 0 := nI_pos (by omega)
    have hf := hw_half (uN e) k
    have ub := hw_bit e hk
    have sq : x * x = hw_pw b (2 * (uN e / 2 ^ (k + 1))) := by rw [ex, Nat.two_mul, hw_pwa]
    have c : uN e / 2 ^ k % 2 = 0 ∨ uN e / 2 ^ k % 2 = 1 := by omega
    rcases c with c | c
    · rw [c, Nat.add_zero] at hf
      refine br_f p (nm_e (br_f ?_ (nm_e (ih (x * x) (by omega) ?_))))
      · intro w
        have := congrArg uN w
        rw [ub, c, hw_u1] at this
        omega
      · rw [hf]; exact sq
    · rw [c] at hf
      refine br_f p (nm_e (br_t ?_ (nm_e (nm_e (ih (x * x * b) (by omega) ?_)))))
      · apply uN_inj
        rw [ub, c, hw_u1]
      · rw [hf, sq]; rfl
end
section
/-! ===== digits ===== -/
def hw_m (x : Int64) : Nat := x.toInt.natAbs
theorem hw_mle (x : Int64) : hw_m x ≤ 9223372036854775808 := by
  unfold hw_m
  have := hw_ti x
  omega
theorem hw_nT {n : Nat} (h : n ≤ 9223372036854775808) : (-lN n).toInt = -(n : Int) := Int64.toInt_neg_ofNat_of_le h
theorem hw_le0 {x : Int64} (h : x ≤ 0) : x = -lN (hw_m x) := by
  apply Int64.toInt_inj.mp
  rw [hw_nT (hw_mle x)]
  rw [Int64.le_iff_toInt_le, hw_z] at h
  unfold hw_m
  omega
theorem hw_ge {x : Int64} (h : 0 ≤ x) : x = lN (hw_m x) := by
  rw [hw_nn] at h
  have t := hw_ti x
  apply Int64.toInt_inj.mp
  rw [pk_lT (by unfold hw_m; omega)]
  unfold hw_m
  omega
theorem hw_gt0 {x : Int64} (h : ¬ x ≤ 0) : -x = -lN (hw_m x) := by
  have p : 0 ≤ x := by
    rw [Int64.le_iff_toInt_le] at h ⊢
    omega
  rw [← hw_ge p]
theorem hw_neg {post : Int64 → Prop} {x : Int64} (h : post (-lN (hw_m x))) : wpX_negativeOfSize post x := by
  refine br_c (fun z => ?_) (fun z => ?_)
  · have e := hw_le0 z
    rw [← e] at h
    exact h
  · have e := hw_gt0 z
    rw [← e] at h
    exact h
theorem hw_n10 {w : Nat} (h : w ≤ 9223372036854775808) : (-lN w) / 10 = -lN (w / 10) := by
  apply Int64.toInt_inj.mp
  rw [Int64.toInt_div_of_ne_right _ _ (by decide), hw_nT h, hw_nT (by omega), show (10 : Int64).toInt = 10 by decide, Int.neg_tdiv]
  rfl
theorem hw_last {w : Nat} (h : w ≤ 9223372036854775808) : (-(-lN w - -lN w / 10 * 10)).toInt32 = nI (w % 10) := by
  rw [hw_n10 h]
  have e : -(-lN w - -lN (w / 10) * lN 10) = lN w - lN (w / 10) * lN 10 := by
    generalize lN w = p
    generalize lN (w / 10) = q
    generalize lN 10 = t
    grind
  have e2 : -(-lN w - -lN (w / 10) * 10) = lN (w % 10) := by
    refine Eq.trans e ?_
    rw [lN_mul, lN_sub (by omega)]
    congr 1
    omega
  rw [e2, lN_i]
theorem hw_n10lt {w : Nat} (h : w ≤ 9223372036854775808) : (-10 : Int64) < -lN w ↔ w < 10 := by
  rw [Int64.lt_iff_toInt_lt, hw_nT h, show (-10 : Int64).toInt = -10 by decide]
  omega
theorem hw_dV {V : Nat} (hV : V ≤ 9223372036854775808) (i : Nat) : V / 10 ^ i ≤ 9223372036854775808 := Nat.le_trans (Nat.div_le_self _ _) hV
theorem hw_dd (V i : Nat) : V / 10 ^ i / 10 = V / 10 ^ (i + 1) := by rw [Nat.div_div_eq_div_mul, ← Nat.pow_succ]
def hw_C (V c : Nat) : Prop := 1 ≤ c ∧ c ≤ 19 ∧ V < 10 ^ c ∧ (c = 1 ∨ 10 ^ (c - 1) ≤ V)
theorem hw_Ce {V : Nat} : ∀ n : Nat, n ≤ 18 → V < 10 ^ (n + 1) → ∃ c, hw_C V c
  | 0, _, h => ⟨1, by omega, by omega, h, Or.inl rfl⟩
  | n + 1, hn, h => by
    by_cases z : V < 10 ^ (n + 1)
    · exact hw_Ce n (by omega) z
    · exact ⟨n + 2, by omega, by omega, h, Or.inr (by show 10 ^ (n + 1) ≤ V; omega)⟩
theorem hw_CV (x : Int64) : ∃ c, hw_C (hw_m x) c := hw_Ce 18 (by omega) (Nat.lt_of_le_of_lt (hw_mle x) (by decide))
theorem hw_cl8 {V c : Nat} (hV : V ≤ 9223372036854775808) (hc : hw_C V c) {post : Int32 → Prop} (h : post (nI c)) : ∀ m j : Nat, j + 1 + m = c → wX_countDigits_8 post (m + 1) (-lN (V / 10 ^ j)) (nI (j + 1)) := by
  obtain ⟨c1, c19, cV, cL⟩ := hc
  intro m
  induction m with
  | zero =>
    intro j hj
    have : j + 1 = c := hj
    subst this
    refine br_c (fun _ => h) (fun _ => br_t ?_ h)
    rw [hw_n10lt (hw_dV hV j), Nat.div_lt_iff_lt_mul (Nat.pow_pos (by decide))]
    rw [Nat.pow_succ] at cV
    omega
  | succ m ih =>
    intro j hj
    have q : ¬ 19 ≤ nI (j + 1) := nI_ge (b := 19) (by omega) (by decide)
    have g : 10 ^ (j + 1) ≤ V := by
      rcases cL with cL | cL
      · omega
      · exact Nat.le_trans (Nat.pow_le_pow_right (by decide) (by omega)) cL
    refine br_f q (br_f ?_ ⟨by decide, nm_r (e' := -lN (V / 10 ^ (j + 1))) ?_ (nm_r (nI_1 (j + 1)) (ih (j + 1) (by omega)))⟩)
    · rw [hw_n10lt (hw_dV hV j), Nat.not_lt, Nat.le_div_iff_mul_le (Nat.pow_pos (by decide))]
      rw [Nat.pow_succ] at g
      omega
    · rw [hw_n10 (hw_dV hV j), hw_dd]
theorem hw_cnt {x : Int64} {c : Nat} (hc : hw_C (hw_m x) c) {post : Int32 → Prop} (h : post (nI c)) : wpX_countDigits post x := by
  have c1 := hc.1
  refine hw_neg (post := fun r_1 => (∃ n8 : Nat, wX_countDigits_8 post n8 r_1 1)) ⟨c - 1 + 1, ?_⟩
  have k := hw_cl8 (hw_mle x) hc h (c - 1) 0 (by omega)
  rw [Nat.pow_zero, Nat.div_one] at k
  exact k
theorem hw_xd {V k : Nat} (hV : V ≤ 9223372036854775808) (hk : k < 1000) (a : Nat → Int64) {post : Int32 → Prop} (h : post (nI (V / 10 ^ k % 10))) : ∀ m i : Nat, i + m = k → wX_digit_39 post (nI k) a (m + 1) (-lN (V / 10 ^ i)) (nI i) := by
  intro m
  induction m with
  | zero =>
    intro i hi
    have : i = k := hi
    subst this
    refine br_t (nI_le (Nat.le_refl _) (by omega)) ⟨by decide, ?_⟩
    rw [hw_last (hw_dV hV i)]
    exact h
  | succ m ih =>
    intro i hi
    refine br_f (nI_ge (by omega) (by omega)) ⟨by decide, nm_r (e' := -lN (V / 10 ^ (i + 1))) ?_ (nm_r (nI_1 i) (ih (i + 1) (by omega)))⟩
    rw [hw_n10 (hw_dV hV i), hw_dd]
theorem hw_yd {V k : Nat} (hV : V ≤ 9223372036854775808) (hk : k < 1000) (f0 f1 f2 f3 f4 f5 : Int64) {post : Int32 → Prop} (h : post (nI (V / 10 ^ k % 10))) : ∀ m i : Nat, i + m = k → wY_digitOf_17 post (nI k) f0 f1 f2 f3 f4 f5 (m + 1) (-lN (V / 10 ^ i)) (nI i) := by
  intro m
  induction m with
  | zero =>
    intro i hi
    have : i = k := hi
    subst this
    refine br_t (nI_le (Nat.le_refl _) (by omega)) ⟨by decide, ?_⟩
    rw [hw_last (hw_dV hV i)]
    exact h
  | succ m ih =>
    intro i hi
    refine br_f (nI_ge (by omega) (by omega)) ⟨by decide, nm_r (e' := -lN (V / 10 ^ (i + 1))) ?_ (nm_r (nI_1 i) (ih (i + 1) (by omega)))⟩
    rw [hw_n10 (hw_dV hV i), hw_dd]
theorem hw_dOf {post : Int32 → Prop} (v : SY) {x : Int64} {k : Nat} (hk : k < 1000) (h : post (nI (hw_m x / 10 ^ k % 10))) : wpY_digitOf post v x (nI k) := by
  obtain ⟨f0, f1, f2, f3, f4, f5⟩ := v
  have w := hw_yd (hw_mle x) hk f0 f1 f2 f3 f4 f5 h k 0 (by omega)
  rw [Nat.pow_zero, Nat.div_one] at w
  refine br_c (fun z => ⟨k + 1, ?_⟩) (fun z => nm_r (hw_gt0 z) ⟨k + 1, w⟩)
  have e := hw_le0 z
  rw [← e] at w
  exact w
theorem hw_ydl {x : Int64} {c : Nat} (hc : hw_C (hw_m x) c) (f0 f1 f2 f3 f4 f5 : Int64) {post : Int32 → Prop} (h : post (nI c)) : ∀ (m k : Nat) (x4 : Int32), k + m = 19 → 1 ≤ k → (k < c ∨ x4 = nI c) → wY_digits_22 post x f0 f1 f2 f3 f4 f5 (m + 1) x4 (nI k) := by
  obtain ⟨c1, c19, cV, cL⟩ := hc
  intro m
  induction m with
  | zero =>
    intro k x4 hk k1 hx
    have : k = 19 := hk
    subst this
    rcases hx with hx | hx
    · omega
    · rw [hx]
      exact br_t (by decide) h
  | succ m ih =>
    intro k x4 hk k1 hx
    refine br_f (nI_ge (b := 19) (by omega) (by decide)) (hw_dOf (f0, f1, f2, f3, f4, f5) (by omega) ?_)
    refine br_c (fun z => nm_r (nI_1 k) (ih (k + 1) x4 (by omega) (by omega) ?_)) (fun z => nm_r (nI_1 k) (nm_r (nI_1 k) (ih (k + 1) _ (by omega) (by omega) ?_)))
    · have z : hw_m x / 10 ^ k % 10 = 0 := (nI_eq (b := 0) (by omega) (by omega)).mp z
      rcases hx with hx | hx
      · left
        rcases Nat.lt_or_ge (k + 1) c with g | g
        · exact g
        · exfalso
          have e : k = c - 1 := by omega
          rcases cL with cL | cL
          · omega
          · rw [← e] at cL
            have u1 : 1 ≤ hw_m x / 10 ^ k := by
              rw [Nat.le_div_iff_mul_le (Nat.pow_pos (by decide))]
              omega
            have u2 : hw_m x / 10 ^ k < 10 := by
              rw [Nat.div_lt_iff_lt_mul (Nat.pow_pos (by decide))]
              rw [show c = k + 1 by omega, Nat.pow_succ] at cV
              omega
            omega
      · exact Or.inr hx
    · have z : ¬ hw_m x / 10 ^ k % 10 = 0 := fun w => z (congrArg nI w)
      have g : k < c := by
        rcases Nat.lt_or_ge k c with g | g
        · exact g
        · exfalso
          have : 10 ^ c ≤ 10 ^ k := Nat.pow_le_pow_right (by decide) g
          rw [Nat.div_eq_of_lt (by omega)] at z
          exact z rfl
      rcases Nat.lt_or_ge (k + 1) c with g2 | g2
      · exact Or.inl g2
      · exact Or.inr (by congr 1; omega)
end
section
/-! ===== the upper half of a product ===== -/
theorem hw_sar (x : Int64) : (x >>> ((32 : Int32).toInt64 &&& 63)).toInt = x.toInt / 4294967296 := by
  have hD : (((32 : Int32).toInt64 &&& 63).toBitVec.smod 64).toNat = 32 := by decide
  show (x.toBitVec.sshiftRight (((32 : Int32).toInt64 &&& 63).toBitVec.smod 64).toNat).toInt = _
  rw [hD, BitVec.toInt_sshiftRight, Int.shiftRight_eq_div_pow]
  rfl
theorem hw_low (x : Int64) : (x &&& 4294967295).toInt = x.toInt % 4294967296 := by
  have a := hw_ti x
  have b := hw_ti (x &&& 4294967295)
  rw [uN_lo] at b
  omega
theorem hw_pb {x y : Int} (hx : -2147483648 ≤ x) (hx2 : x ≤ 2147483647) (hy : 0 ≤ y) (hy2 : y ≤ 4294967295) : -9223372034707292160 ≤ x * y ∧ x * y ≤ 9223372030412324865 := by
  have a := Int.mul_le_mul_of_nonneg_right hx hy
  have b := Int.mul_le_mul_of_nonneg_right hx2 hy
  omega
theorem hw_ring (p q r s : Int) : (p * 4294967296 + q) * (r * 4294967296 + s) = p * r * 18446744073709551616 + (p * s + q * r) * 4294967296 + q * s := by
  grind
theorem hw_upN (p1 p2 p3 p4 m n : Int) (hm : m = p2 + p4 / 4294967296) (hn : n = p3 + m % 4294967296) : (p1 * 18446744073709551616 + (p2 + p3) * 4294967296 + p4) / 18446744073709551616 = p1 + m / 4294967296 + n / 4294967296 := by
  omega
theorem hw_xup {post : Int64 → Prop} {a b : Int64} (h : post (Int64.ofInt (a.toInt * b.toInt / 18446744073709551616))) : wpX_upperProduct post a b := by
  intro x4 e4 x6 e6 x8 e8 x10 e10 x12 e12 x14 e14 x16 e16
  have la := hw_ti a
  have lb := hw_ti b
  have t4 : x4.toInt = a.toInt / 4294967296 := by rw [e4]; exact hw_sar a
  have t8 : x8.toInt = b.toInt / 4294967296 := by rw [e8]; exact hw_sar b
  have t6 : x6.toInt = a.toInt % 4294967296 := by rw [e6]; exact hw_low a
  have t10 : x10.toInt = b.toInt % 4294967296 := by rw [e10]; exact hw_low b
  have u6 : uN x6 < 4294967296 := by rw [e6, uN_lo]; omega
  have u10 : uN x10 < 4294967296 := by rw [e10, uN_lo]; omega
  have s6 := hw_ti x6
  have s10 := hw_ti x10
  have t12 : x12.toInt = x6.toInt * x10.toInt / 4294967296 := by
    have u : uN x6 * uN x10 ≤ 4294967295 * 4294967295 := Nat.mul_le_mul (by omega) (by omega)
    have e : uN x12 = uN x6 * uN x10 / 4294967296 := by
      rw [e12, uN_s32, uN_mul, Nat.mod_eq_of_lt (by omega)]
    have v6 : x6.toInt = (uN x6 : Int) := by omega
    have v10 : x10.toInt = (uN x10 : Int) := by omega
    have s12 := hw_ti x12
    rw [v6, v10, ← Int.natCast_mul]
    omega
  have b1 := hw_pb (x := x4.toInt) (y := x10.toInt) (by omega) (by omega) (by omega) (by omega)
  have b2 := hw_pb (x := x8.toInt) (y := x6.toInt) (by omega) (by omega) (by omega) (by omega)
  rw [Int.mul_comm] at b2
  have b3 : 0 ≤ x12.toInt ∧ x12.toInt ≤ 4294967295 := by
    have s12 := hw_ti x12
    have : uN x12 < 4294967296 := by
      have l := uN_lt (x6 * x10)
      rw [e12, uN_s32]
      omega
    omega
  have t14 : x14.toInt = x4.toInt * x10.toInt + x12.toInt := by
    have e : x14 = Int64.ofInt (x4.toInt * x10.toInt + x12.toInt) := by
      rw [Int64.ofInt_add, Int64.ofInt_mul, Int64.ofInt_toInt, Int64.ofInt_toInt, Int64.ofInt_toInt]; exact e14
    rw [e, Int64.toInt_ofInt_of_le (by omega) (by omega)]
  have t16 : x16.toInt = x6.toInt * x8.toInt + x14.toInt % 4294967296 := by
    have e : x16 = Int64.ofInt (x6.toInt * x8.toInt + x14.toInt % 4294967296) := by
      rw [Int64.ofInt_add, Int64.ofInt_mul, Int64.ofInt_toInt, Int64.ofInt_toInt, ← hw_low, Int64.ofInt_toInt]; exact e16
    rw [e, Int64.toInt_ofInt_of_le (by omega) (by omega)]
  have fin : x4 * x8 + (x14 >>> ((32 : Int32).toInt64 &&& 63)) + (x16 >>> ((32 : Int32).toInt64 &&& 63)) = Int64.ofInt (x4.toInt * x8.toInt + x14.toInt / 4294967296 + x16.toInt / 4294967296) := by
    rw [Int64.ofInt_add, Int64.ofInt_add, Int64.ofInt_mul, Int64.ofInt_toInt, Int64.ofInt_toInt, ← hw_sar, ← hw_sar, Int64.ofInt_toInt, Int64.ofInt_toInt]
  have ea : a.toInt = x4.toInt * 4294967296 + x6.toInt := by omega
  have eb : b.toInt = x8.toInt * 4294967296 + x10.toInt := by omega
  have ep : a.toInt * b.toInt / 18446744073709551616 = x4.toInt * x8.toInt + x14.toInt / 4294967296 + x16.toInt / 4294967296 := by
    rw [ea, eb, hw_ring]
    exact hw_upN _ _ _ _ _ _ (by rw [t14, t12]) (by rw [t16])
  rw [ep, ← fin] at h
  exact h
theorem hw_so {x y : Int64} (hy : uN y < 2) : (x <<< ((1 : Int32).toInt64 &&& 63)) ||| y = x + x + y := by
  apply uN_inj
  rw [uN_or hy, uN_add, uN_add]
  have := uN_lt x
  omega
theorem hw_ib (b : Int64) {k : Nat} (hk : k < 64) : b.toInt / 2 ^ k = 2 * (b.toInt / 2 ^ (k + 1)) + ((uN b / 2 ^ k % 2 : Nat) : Int) := by
  have e1 : b.toInt / 2 ^ (k + 1) = b.toInt / 2 ^ k / 2 := by
    rw [Int.pow_succ, Int.ediv_ediv_of_nonneg (Int.pow_nonneg (by decide))]
  have e2 : ((uN b / 2 ^ k : Nat) : Int) = (uN b : Int) / 2 ^ k := by
    rw [Int.natCast_ediv]
    congr 1
  have e3 : ∃ z : Int, b.toInt / 2 ^ k = (uN b : Int) / 2 ^ k + 2 * z := by
    rcases hw_ti b with ⟨_, h⟩ | ⟨_, _, h⟩
    · exact ⟨0, by rw [h]; omega⟩
    · refine ⟨-(2 ^ (63 - k)), ?_⟩
      have p : (18446744073709551616 : Int) = 2 ^ k * (2 * 2 ^ (63 - k)) := by
        rw [show (2 : Int) * 2 ^ (63 - k) = 2 ^ (64 - k) by rw [Int.mul_comm, ← Int.pow_succ]; congr 1; omega, ← Int.pow_add, show k + (64 - k) = 64 by omega]
        decide
      rw [h, p, Int.sub_eq_add_neg, ← Int.mul_neg, Int.add_mul_ediv_left _ _ (Int.ne_of_gt (Int.pow_pos (by decide)))]
      omega
  obtain ⟨z, e3⟩ := e3
  rw [e1]
  omega
theorem hw_ul {post : Int64 → Prop} {a b : Int64} (f0 f1 f2 f3 f4 f5 : Int64) (h : post (Int64.ofInt (a.toInt * b.toInt / 18446744073709551616))) : ∀ (m : Nat) (x5 x7 : Int64), m ≤ 63 → x5 = Int64.ofInt (a.toInt * (b.toInt / 2 ^ m) / 18446744073709551616) → (uN x7 : Int) = a.toInt * (b.toInt / 2 ^ m) % 18446744073709551616 → wY_upper_10 post a b f0 f1 f2 f3 f4 f5 (m + 1) x5 x7 (nI m + (-1)) := by
  intro m
  induction m with
  | zero =>
    intro x5 x7 _ e5 _
    rw [Int.pow_zero, Int.ediv_one] at e5
    refine br_t (by decide) ?_
    rw [e5]
    exact h
  | succ k ih =>
    intro x5 x7 hm e5 e7
    rw [pk_m1]
    have hk : k < 64 := by omega
    have hb := hw_ib b hk
    have ub := hw_bit b hk
    have u63 := uN_s63 x7
    have l7 := uN_lt x7
    refine br_f (nI_pos (by omega)) ?_
    intro y5 ey5 y7 ey7
    have uy7 : uN y7 = (2 * uN x7) % 18446744073709551616 := by rw [ey7, uN_shl]
    obtain ⟨P, eP⟩ : ∃ P : Int, P = a.toInt * (b.toInt / 2 ^ (k + 1)) := ⟨_, rfl⟩
    rw [← eP] at e5 e7
    have vy5 : y5 = Int64.ofInt (2 * P / 18446744073709551616) := by
      have ez : (x7.toUInt64 >>> ((63 : Int32).toInt64.toUInt64 &&& Int64.toUInt64 63)).toInt64 = Int64.ofInt ((uN x7 / 9223372036854775808 : Nat) : Int) := by
        rw [Int64.ofInt_eq_ofNat]
        exact hw_eq u63
      rw [ey5, hw_so (by rw [u63]; omega), ez, e5, ← Int64.ofInt_add, ← Int64.ofInt_add]
      congr 1
      omega
    have vy7 : (uN y7 : Int) = 2 * P % 18446744073709551616 := by omega
    have c : uN b / 2 ^ k % 2 = 0 ∨ uN b / 2 ^ k % 2 = 1 := by omega
    rcases c with c | c
    · have eQ : a.toInt * (b.toInt / 2 ^ k) = 2 * P := by
        rw [hb, c, eP, ← Int.mul_assoc 2, Int.mul_comm 2 a.toInt, Int.mul_assoc]
        congr 1
        omega
      refine br_f ?_ (nm_e (ih y5 y7 (by omega) ?_ ?_))
      · intro w
        have := congrArg uN w
        rw [ub, c, hw_u1] at this
        omega
      · rw [eQ]; exact vy5
      · rw [eQ]; exact vy7
    · have eQ : a.toInt * (b.toInt / 2 ^ k) = 2 * P + a.toInt := by
        rw [hb, c, eP, Int.mul_add, ← Int.mul_assoc 2, Int.mul_comm 2 a.toInt, Int.mul_assoc]
        congr 1
        exact Int.mul_one _
      have q63 : ¬ 63 ≤ nI k := nI_ge (b := 63) (by omega) (by decide)
      have la := hw_ti a
      have step : ∀ (y10 s z : Int64) (σ γ : Int), y10 = y7 + a → s = Int64.ofInt σ → z = Int64.ofInt γ → a.toInt = uN a + σ * 18446744073709551616 → γ = ((uN y7 + uN a) / 18446744073709551616 : Nat) → wY_upper_81 post (wY_upper_10 post a b f0 f1 f2 f3 f4 f5 (k + 1)) a b y5 y7 (nI k) y10 s z f0 f1 f2 f3 f4 f5 := by
        intro y10 s z σ γ e10 es ez hσ hγ
        refine br_f q63 (nm_e (nm_e (ih _ _ (by omega) ?_ ?_)))
        · rw [eQ, vy5, es, ez, ← Int64.ofInt_add, ← Int64.ofInt_add]
          congr 1
          omega
        · rw [eQ, e10, uN_add]
          omega
      have l7' := uN_lt y7
      have la' := uN_lt a
      refine br_t ?_ ?_
      · apply uN_inj
        rw [ub, c, hw_u1]
      · intro y10 e10
        have u10 : uN y10 = (uN y7 + uN a) % 18446744073709551616 := by rw [e10, uN_add]
        refine br_c (fun z => ?_) (fun z => ?_)
        · rw [hw_nn] at z
          refine hw_below (f0, f1, f2, f3, f4, f5) (fun hl => br_f (by decide) (step y10 0 1 0 1 e10 rfl rfl (by omega) (by omega))) (fun hl => br_t rfl (step y10 0 0 0 0 e10 rfl rfl (by omega) (by omega)))
        · rw [hw_nn] at z
          refine hw_below (f0, f1, f2, f3, f4, f5) (fun hl => br_f (by decide) (step y10 (-1) 1 (-1) 1 e10 rfl rfl (by omega) (by omega))) (fun hl => br_t rfl (step y10 (-1) 0 (-1) 0 e10 rfl rfl (by omega) (by omega)))
theorem hw_yup {post : Int64 → Prop} (v : SY) {a b : Int64} (h : post (Int64.ofInt (a.toInt * b.toInt / 18446744073709551616))) : wpY_upper post v a b := by
  obtain ⟨f0, f1, f2, f3, f4, f5⟩ := v
  have ul := hw_ul f0 f1 f2 f3 f4 f5 h 63
  have la := hw_ti a
  have lb := hw_ti b
  have la' := uN_lt a
  have ub := hw_bit b (k := 63) (by decide)
  have z5 : ((0 : Int64) <<< ((1 : Int32).toInt64 &&& 63)) ||| (((0 : Int64).toUInt64 >>> ((63 : Int32).toInt64.toUInt64 &&& Int64.toUInt64 63)).toInt64) = 0 := by decide
  have z7 : (0 : Int64) <<< ((1 : Int32).toInt64 &&& 63) = 0 := by decide
  refine ⟨65, br_f (by decide) (nm_r z5 (nm_r z7 ?_))⟩
  have c : uN b / 2 ^ 63 % 2 = 0 ∨ uN b / 2 ^ 63 % 2 = 1 := by omega
  rcases c with c | c
  · have eb : b.toInt / 2 ^ 63 = 0 := by omega
    rw [eb, Int.mul_zero] at ul
    refine br_f ?_ (nm_e (ul 0 0 (by omega) (by decide) (by decide)))
    intro w
    have := congrArg uN w
    rw [show (63 : Int32) = nI 63 from rfl, ub, c, hw_u1] at this
    omega
  · have eb : b.toInt / 2 ^ 63 = -1 := by omega
    rw [eb, Int.mul_neg, Int.mul_one] at ul
    have step : ∀ (y10 s z : Int64) (σ : Int), s = Int64.ofInt σ → a.toInt = uN a + σ * 18446744073709551616 → wY_upper_81 post (wY_upper_10 post a b f0 f1 f2 f3 f4 f5 64) a b 0 0 63 y10 s z f0 f1 f2 f3 f4 f5 := by
      intro y10 s z σ es hσ
      refine br_t (by decide) ?_
      intro y ey
      have uy : uN y = (18446744073709551616 - uN a) % 18446744073709551616 := by
        rw [ey, hw_sub, hw_u0]
      refine hw_below (f0, f1, f2, f3, f4, f5) (fun hl => br_f (by decide) (nm_e (nm_e (ul _ y (by omega) ?_ ?_)))) (fun hl => br_t rfl (nm_e (nm_e (ul _ y (by omega) ?_ ?_))))
      · rw [hw_u0] at hl
        rw [es, show (0 : Int64) = Int64.ofInt 0 from rfl, show (1 : Int64) = Int64.ofInt 1 from rfl, ← Int64.ofInt_add, ← Int64.ofInt_sub]
        congr 1
        omega
      · omega
      · rw [hw_u0] at hl
        rw [es, show (0 : Int64) = Int64.ofInt 0 from rfl, ← Int64.ofInt_add, ← Int64.ofInt_sub]
        congr 1
        omega
      · omega
    refine br_t ?_ ?_
    · apply uN_inj
      rw [hw_u1]
      exact ub.trans c
    · intro y10 e10
      refine br_c (fun z => ?_) (fun z => ?_)
      · rw [hw_nn] at z
        exact hw_below (f0, f1, f2, f3, f4, f5) (fun hl => br_f (by decide) (step y10 0 1 0 rfl (by omega))) (fun hl => br_t rfl (step y10 0 0 0 rfl (by omega)))
      · rw [hw_nn] at z
        exact hw_below (f0, f1, f2, f3, f4, f5) (fun hl => br_f (by decide) (step y10 (-1) 1 (-1) rfl (by omega))) (fun hl => br_t rfl (step y10 (-1) 0 (-1) rfl (by omega)))
end
section
/-! ===== divisor ===== -/
theorem hw_n0 {Q : Nat} (h : Q ≤ 9223372036854775808) : -lN Q = 0 ↔ Q = 0 := by
  rw [← Int64.toInt_inj, hw_nT h, hw_z]
  omega
theorem hw_l0 {Q : Nat} (h : Q ≤ 9223372036854775808) : lN Q = 0 ↔ Q = 0 := by
  rw [hw_uz, hw_uln (by omega)]
theorem hw_nrem {P Q : Nat} (hP : P ≤ 9223372036854775808) (hQ : Q ≤ 9223372036854775808) : -lN P - -lN P / -lN Q * -lN Q = -lN (P % Q) := by
  have e : -lN P / -lN Q = lN (P / Q) := by
    have d := Int64.toInt_div (-lN P) (-lN Q)
    rw [hw_nT hP, hw_nT hQ, Int.neg_tdiv_neg, ← Int.ofNat_tdiv] at d
    have w := (Int64.ofInt_eq_iff_bmod_eq_toInt _ _).mpr d.symm
    rw [Int64.ofInt_eq_ofNat] at w
    exact w.symm
  have dm := Nat.div_add_mod' P Q
  have f : lN P = lN (P / Q) * lN Q + lN (P % Q) := by rw [lN_mul, lN_add, dm]
  rw [e, f]
  generalize lN (P / Q) = x
  generalize lN Q = y
  generalize lN (P % Q) = z
  grind
theorem hw_idle {post : Int32 → SY → Prop} {u : Nat → Int64} {d : Nat} (hd : d < 6) {x4 : Int64} (h : post 1 (hw_S (vp_updL u d x4))) : ∀ m i : Nat, i + m = 130 → wY_divisor_67 post (nI d) (u 0) (u 1) (u 2) (u 3) (u 4) (u 5) (m + 1) x4 0 (nI i) := by
  intro m
  induction m with
  | zero =>
    intro i hi
    have : i = 130 := hi
    subst this
    exact br_t (by decide) (hw_set (u := u) hd h)
  | succ m ih =>
    intro i hi
    exact br_f (nI_ge (b := 130) (by omega) (by decide)) (br_t rfl (nm_r (nI_1 i) (ih (i + 1) (by omega))))
def hw_G (i P Q g : Nat) : Prop := (∀ post : Int64 → Prop, post (lN g) → wX_commonDivisor_15 post (128 - i + 1) (-lN P) (-lN Q) (nI i)) ∧ (∀ (post : Int32 → SY → Prop) (u : Nat → Int64) (d : Nat), d < 6 → post 1 (hw_S (vp_updL u d (lN g))) → wY_divisor_67 post (nI d) (u 0) (u 1) (u 2) (u 3) (u 4) (u 5) (130 - i + 1) (lN P) (lN Q) (nI i))
theorem hw_g0 {i P : Nat} (hi : i ≤ 128) : hw_G i P 0 P := by
  refine ⟨fun post h => ?_, fun post u d hd h => ?_⟩
  · have n : - -lN P = lN P := Int64.neg_neg
    refine br_c (fun _ => ?_) (fun _ => br_t (by decide) ?_)
    · rw [n]; exact h
    · rw [n]; exact h
  · exact hw_idle hd h (130 - i) i (by omega)
theorem hw_gs {i P Q g : Nat} (hi : i < 128) (hP : P ≤ 9223372036854775808) (hQ : Q ≤ 9223372036854775808) (h0 : Q ≠ 0) (ih : hw_G (i + 1) Q (P % Q) g) : hw_G i P Q g := by
  obtain ⟨hX, hY⟩ := ih
  have z : ¬ -lN Q = 0 := fun w => h0 ((hw_n0 hQ).mp w)
  have z2 : ¬ lN Q = 0 := fun w => h0 ((hw_l0 hQ).mp w)
  refine ⟨fun post h => ?_, fun post u d hd h => ?_⟩
  · have x := hX post h
    rw [show 128 - (i + 1) + 1 = 128 - i by omega] at x
    exact br_f (nI_ge (b := 128) (by omega) (by decide)) (br_f z ⟨z, nm_r (hw_nrem hP hQ) (nm_r (nI_1 i) x)⟩)
  · have y := hY post u d hd h
    rw [show 130 - (i + 1) + 1 = 130 - i by omega] at y
    refine br_f (nI_ge (b := 130) (by omega) (by decide)) (br_f z2 (hw_ydiv (u 0, u 1, u 2, u 3, u 4, u 5) ?_ ?_ ?_))
    · rw [hw_uln (by omega)]; exact h0
    · intro w
      exact absurd w (by decide)
    · intro _
      rw [hw_uln (by omega), hw_uln (by omega)]
      exact nm_r (nI_1 i) y
theorem hw_half2 {P Q d : Nat} (h0 : Q ≠ 0) (hl : Q < P) (h : P * Q < 2 ^ (d + 1)) : Q * (P % Q) < 2 ^ d := by
  have m := Nat.mod_lt P (Nat.pos_of_ne_zero h0)
  have a : 2 * (P % Q) ≤ P := by
    have := Nat.mod_eq_sub_mod (Nat.le_of_lt hl)
    have l := Nat.mod_le (P - Q) Q
    omega
  have b : Q * (2 * (P % Q)) ≤ Q * P := Nat.mul_le_mul_left Q a
  rw [Nat.mul_left_comm, Nat.mul_comm Q P] at b
  rw [Nat.pow_succ] at h
  omega
theorem hw_gl : ∀ (d i P Q : Nat), i + d ≤ 128 → P ≤ 9223372036854775808 → Q ≤ 9223372036854775808 → Q < P ∨ Q = 0 → P * Q < 2 ^ d → ∃ g, hw_G i P Q g := by
  intro d
  induction d with
  | zero =>
    intro i P Q hi hP hQ hl h
    have z : Q = 0 := by
      rcases hl with hl | hl
      · rcases Nat.eq_zero_or_pos Q with z | z
        · exact z
        · have := Nat.mul_pos (show 0 < P by omega) z
          omega
      · exact hl
    subst z
    exact ⟨P, hw_g0 (by omega)⟩
  | succ d ih =>
    intro i P Q hi hP hQ hl h
    by_cases z : Q = 0
    · subst z
      exact ⟨P, hw_g0 (by omega)⟩
    · have m := Nat.mod_lt P (Nat.pos_of_ne_zero z)
      obtain ⟨g, hg⟩ := ih (i + 1) Q (P % Q) (by omega) hQ (by omega) (Or.inl m) (hw_half2 z (by omega) h)
      exact ⟨g, hw_gs (by omega) hP hQ z hg⟩
theorem hw_gcd {P Q : Nat} (hP : P ≤ 9223372036854775808) (hQ : Q ≤ 9223372036854775808) : ∃ g, hw_G 0 P Q g := by
  by_cases z : Q = 0
  · subst z
    exact ⟨P, hw_g0 (by omega)⟩
  · have m := Nat.mod_lt P (Nat.pos_of_ne_zero z)
    have b : Q * (P % Q) ≤ 9223372036854775808 * 9223372036854775808 := Nat.mul_le_mul hQ (by omega)
    obtain ⟨g, hg⟩ := hw_gl 127 1 Q (P % Q) (by omega) hQ (by omega) (Or.inl m) (Nat.lt_of_le_of_lt b (by decide))
    exact ⟨g, hw_gs (by omega) hP hQ z hg⟩
theorem hw_abs {post : Int32 → SY → Prop} {u : Nat → Int64} {d : Nat} {a b : Int64} (h : wY_divisor_67 post (nI d) (u 0) (u 1) (u 2) (u 3) (u 4) (u 5) 131 (lN (hw_m a)) (lN (hw_m b)) 0) : (0 ≤ a → wY_divisor_52 post (nI d) a b (u 0) (u 1) (u 2) (u 3) (u 4) (u 5)) ∧ (¬ 0 ≤ a → ∀ x : Int64, x = -a → wY_divisor_52 post (nI d) x b (u 0) (u 1) (u 2) (u 3) (u 4) (u 5)) := by
  have pn : ∀ x : Int64, ¬ 0 ≤ x → -x = lN (hw_m x) := by
    intro x hx
    have l : x ≤ 0 := by
      rw [Int64.le_iff_toInt_le] at hx ⊢
      omega
    have e := hw_le0 l
    have e2 := congrArg (fun y : Int64 => -y) e
    exact e2.trans Int64.neg_neg
  have k : wY_divisor_52 post (nI d) (lN (hw_m a)) b (u 0) (u 1) (u 2) (u 3) (u 4) (u 5) := by
    refine br_c (fun z => ⟨131, ?_⟩) (fun z => nm_r (pn b z) ⟨131, h⟩)
    have e := hw_ge z
    rw [← e] at h
    exact h
  refine br_c (fun z => ?_) (fun z => nm_r (pn a z) k)
  have e := hw_ge z
  rw [← e] at k
  exact k
end
section
/-! ===== apply: the sixteen operations ===== -/
theorem hw_a63 (x : Int64) : uN (x &&& 63) = uN x % 64 := by
  show (x.toUInt64 &&& Int64.toUInt64 63).toNat = _
  rw [UInt64.toNat_and]
  exact Nat.and_two_pow_sub_one_eq_mod _ 6
theorem hw_i32 (x : Int64) : uN x.toInt32.toInt64 % 64 = uN x % 64 := by
  have t : x.toInt32.toInt64.toInt = x.toInt.bmod (2 ^ 32) := by rw [Int32.toInt_toInt64, Int64.toInt_toInt32]
  have a := hw_ti x
  have b := hw_ti x.toInt32.toInt64
  rw [t, Int.bmod_def] at b
  generalize uN x.toInt32.toInt64 = p at *
  generalize uN x = q at *
  generalize x.toInt = z at *
  split at b <;> omega
theorem hw_sh (x : Int64) : x.toInt32.toInt64 &&& 63 = (x &&& 63).toInt32.toInt64 &&& 63 := by
  apply uN_inj
  rw [hw_a63, hw_a63, hw_i32, hw_i32, hw_a63]
  omega
theorem hw_shu (x : Int64) : x.toInt32.toInt64.toUInt64 &&& Int64.toUInt64 63 = (x &&& 63).toInt32.toInt64.toUInt64 &&& Int64.toUInt64 63 := congrArg Int64.toUInt64 (hw_sh x)
theorem hw_cmp (v : SY) (a b : Int64) : ∃ r : Int64, (∀ post : Int64 → Prop, post r → wpX_order post a b) ∧ (∀ post : Int64 → Prop, post r → wpY_compare (fun z => post z.toInt64) v a b 1) := by
  obtain ⟨f0, f1, f2, f3, f4, f5⟩ := v
  by_cases e : a = b
  · subst e
    have l : a ≤ a := Int64.le_refl a
    exact ⟨0, fun post h => br_t l (br_t l h), fun post h => br_t rfl h⟩
  · by_cases l : b ≤ a
    · have n : ¬ a ≤ b := fun w => e (Int64.le_antisymm w l)
      exact ⟨1, fun post h => br_t l (br_f n h), fun post h => br_f e (br_f (by decide) (br_t l (br_t rfl h)))⟩
    · exact ⟨-1, fun post h => br_f l h, fun post h => br_f e (br_f (by decide) (br_f l (br_f (by decide) h)))⟩
theorem hw_ucmp (v : SY) (a b : Int64) : ∃ r : Int64, (∀ post : Int64 → Prop, post r → wpX_unsignedOrder post a b) ∧ (∀ post : Int64 → Prop, post r → wpY_compare (fun z => post z.toInt64) v a b 0) := by
  obtain ⟨f0, f1, f2, f3, f4, f5⟩ := v
  rcases Nat.lt_trichotomy (uN a) (uN b) with l | l | l
  · refine ⟨-1, fun post h => hw_uord (fun _ => h) (fun w => by omega) (fun w => by omega), fun post h => br_f ?_ (br_t rfl (hw_below (f0, f1, f2, f3, f4, f5) (fun _ => br_f (by decide) h) (fun w => by omega)))⟩
    intro w
    rw [w] at l
    omega
  · exact ⟨0, fun post h => hw_uord (fun w => by omega) (fun _ => h) (fun w => by omega), fun post h => br_t (uN_inj l) h⟩
  · refine ⟨1, fun post h => hw_uord (fun w => by omega) (fun w => by omega) (fun _ => h), fun post h => br_f ?_ (br_t rfl (hw_below (f0, f1, f2, f3, f4, f5) (fun w => by omega) (fun _ => br_t rfl h)))⟩
    intro w
    rw [w] at l
    omega
def hw_R (k : Nat) (v : SY) (a b : Int64) : Prop := ∃ r : Int64, (∀ post : Int64 → Prop, post r → wpX_combine post (nI k) a b) ∧ (∀ post : Int64 → Prop, post r → wpY_result post v (nI k) a b)
def hw_D (k : Nat) (v : SY) (a b : Int64) : Prop := ∃ r : Int64, (∀ post : Int64 → Prop, post r → wpX_divide post (nI k) a b) ∧ (∀ post : Int64 → Prop, post r → wpY_result post v (nI k) a b)
theorem hw_o0 (v : SY) (a b : Int64) : hw_R 0 v a b := by
  obtain ⟨f0, f1, f2, f3, f4, f5⟩ := v
  exact ⟨a + b, fun post h => br_f (by decide) (br_f (by decide) (br_t rfl (h))), fun post h => br_t rfl (h)⟩
theorem hw_o1 (v : SY) (a b : Int64) : hw_R 1 v a b := by
  obtain ⟨f0, f1, f2, f3, f4, f5⟩ := v
  exact ⟨a - b, fun post h => br_f (by decide) (br_f (by decide) (br_f (by decide) (br_t rfl (h)))), fun post h => br_f (by decide) (br_t rfl (h))⟩
theorem hw_o2 (v : SY) (a b : Int64) : hw_R 2 v a b := by
  obtain ⟨f0, f1, f2, f3, f4, f5⟩ := v
  exact ⟨a * b, fun post h => br_f (by decide) (br_f (by decide) (br_f (by decide) (br_f (by decide) (br_t rfl (h))))), fun post h => br_f (by decide) (br_f (by decide) (br_t rfl (h)))⟩
theorem hw_o5 (v : SY) (a b : Int64) : hw_R 5 v a b := by
  obtain ⟨f0, f1, f2, f3, f4, f5⟩ := v
  exact ⟨a &&& b, fun post h => br_f (by decide) (br_f (by decide) (br_f (by decide) (br_f (by decide) (br_f (by decide) (br_f (by decide) (br_f (by decide) (br_t rfl (h)))))))), fun post h => br_f (by decide) (br_f (by decide) (br_f (by decide) (br_t rfl (h))))⟩
theorem hw_o6 (v : SY) (a b : Int64) : hw_R 6 v a b := by
  obtain ⟨f0, f1, f2, f3, f4, f5⟩ := v
  exact ⟨a ||| b, fun post h => br_f (by decide) (br_f (by decide) (br_f (by decide) (br_f (by decide) (br_f (by decide) (br_f (by decide) (br_f (by decide) (br_f (by decide) (br_t rfl (h))))))))), fun post h => br_f (by decide) (br_f (by decide) (br_f (by decide) (br_f (by decide) (br_t rfl (h)))))⟩
theorem hw_o7 (v : SY) (a b : Int64) : hw_R 7 v a b := by
  obtain ⟨f0, f1, f2, f3, f4, f5⟩ := v
  exact ⟨a ^^^ b, fun post h => br_f (by decide) (br_f (by decide) (br_f (by decide) (br_f (by decide) (br_f (by decide) (br_f (by decide) (br_f (by decide) (br_f (by decide) (br_f (by decide) (br_t rfl (h)))))))))), fun post h => br_f (by decide) (br_f (by decide) (br_f (by decide) (br_f (by decide) (br_f (by decide) (br_t rfl (h))))))⟩
theorem hw_o8 (v : SY) (a b : Int64) : hw_R 8 v a b := by
  obtain ⟨f0, f1, f2, f3, f4, f5⟩ := v
  refine ⟨a <<< (b.toInt32.toInt64 &&& 63), fun post h => br_f (by decide) (br_f (by decide) (br_f (by decide) (br_f (by decide) (br_f (by decide) (br_f (by decide) (br_f (by decide) (br_f (by decide) (br_f (by decide) (br_f (by decide) (br_t rfl (h))))))))))), fun post h => ?_⟩
  rw [hw_sh] at h
  exact br_f (by decide) (br_f (by decide) (br_f (by decide) (br_f (by decide) (br_f (by decide) (br_f (by decide) (br_f (by decide) (br_f (by decide) (nm_e (br_t rfl h)))))))))
theorem hw_o9 (v : SY) (a b : Int64) : hw_R 9 v a b := by
  obtain ⟨f0, f1, f2, f3, f4, f5⟩ := v
  refine ⟨a >>> (b.toInt32.toInt64 &&& 63), fun post h => br_f (by decide) (br_f (by decide) (br_f (by decide) (br_f (by decide) (br_f (by decide) (br_f (by decide) (br_f (by decide) (br_f (by decide) (br_f (by decide) (br_f (by decide) (br_f (by decide) (br_t rfl (h)))))))))))), fun post h => ?_⟩
  rw [hw_sh] at h
  exact br_f (by decide) (br_f (by decide) (br_f (by decide) (br_f (by decide) (br_f (by decide) (br_f (by decide) (br_f (by decide) (br_f (by decide) (nm_e (br_f (by decide) (br_t rfl h))))))))))
theorem hw_o10 (v : SY) (a b : Int64) : hw_R 10 v a b := by
  obtain ⟨f0, f1, f2, f3, f4, f5⟩ := v
  refine ⟨(a.toUInt64 >>> (b.toInt32.toInt64.toUInt64 &&& Int64.toUInt64 63)).toInt64, fun post h => br_f (by decide) (br_f (by decide) (br_f (by decide) (br_f (by decide) (br_f (by decide) (br_f (by decide) (br_f (by decide) (br_f (by decide) (br_f (by decide) (br_f (by decide) (br_f (by decide) (br_f (by decide) (br_t rfl (h))))))))))))), fun post h => ?_⟩
  rw [hw_shu] at h
  exact br_f (by decide) (br_f (by decide) (br_f (by decide) (br_f (by decide) (br_f (by decide) (br_f (by decide) (br_f (by decide) (br_f (by decide) (nm_e (br_f (by decide) (br_f (by decide) (h)))))))))))
theorem hw_o11 (v : SY) (a b : Int64) : hw_R 11 v a b := by
  obtain ⟨f0, f1, f2, f3, f4, f5⟩ := v
  obtain ⟨r, hX, hY⟩ := hw_cmp (f0, f1, f2, f3, f4, f5) a b
  exact ⟨r, fun post h => br_f (by decide) (br_f (by decide) (br_f (by decide) (br_f (by decide) (br_f (by decide) (br_f (by decide) (br_f (by decide) (br_f (by decide) (br_f (by decide) (br_f (by decide) (br_f (by decide) (br_f (by decide) (br_f (by decide) (br_t rfl (hX post h)))))))))))))), fun post h => br_f (by decide) (br_f (by decide) (br_f (by decide) (br_f (by decide) (br_f (by decide) (br_f (by decide) (br_f (by decide) (br_t (by decide) (br_t rfl (br_t rfl (hY post h))))))))))⟩
theorem hw_o12 (v : SY) (a b : Int64) : hw_R 12 v a b := by
  obtain ⟨f0, f1, f2, f3, f4, f5⟩ := v
  obtain ⟨r, hX, hY⟩ := hw_ucmp (f0, f1, f2, f3, f4, f5) a b
  exact ⟨r, fun post h => br_f (by decide) (br_f (by decide) (br_f (by decide) (br_f (by decide) (br_f (by decide) (br_f (by decide) (br_f (by decide) (br_f (by decide) (br_f (by decide) (br_f (by decide) (br_f (by decide) (br_f (by decide) (br_f (by decide) (br_f (by decide) (br_t rfl (hX post h))))))))))))))), fun post h => br_f (by decide) (br_f (by decide) (br_f (by decide) (br_f (by decide) (br_f (by decide) (br_f (by decide) (br_f (by decide) (br_t (by decide) (br_f (by decide) (br_t rfl (br_f (by decide) (hY post h)))))))))))⟩
theorem hw_o13 (v : SY) (a b : Int64) : hw_R 13 v a b := by
  obtain ⟨f0, f1, f2, f3, f4, f5⟩ := v
  exact ⟨_, fun post h => br_f (by decide) (br_t (by decide) (hw_xup h)), fun post h => br_f (by decide) (br_f (by decide) (br_f (by decide) (br_f (by decide) (br_f (by decide) (br_f (by decide) (br_f (by decide) (br_t (by decide) (br_f (by decide) (br_f (by decide) (br_t rfl (hw_yup (f0, f1, f2, f3, f4, f5) h)))))))))))⟩
theorem hw_d3 (v : SY) (a b : Int64) (hz : ¬ b = 0) : hw_D 3 v a b := by
  obtain ⟨f0, f1, f2, f3, f4, f5⟩ := v
  exact ⟨a / b, fun post h => br_t rfl ⟨hz, h⟩, fun post h => br_f (by decide) (br_f (by decide) (br_f (by decide) (br_f (by decide) (br_f (by decide) (br_f (by decide) (br_t (by decide) (br_f (by decide) (br_f (by decide) (br_f (by decide) (br_f hz (br_t rfl ⟨hz, h⟩)))))))))))⟩
theorem hw_d4 (v : SY) (a b : Int64) (hz : ¬ b = 0) : hw_D 4 v a b := by
  obtain ⟨f0, f1, f2, f3, f4, f5⟩ := v
  exact ⟨a - a / b * b, fun post h => br_f (by decide) (br_t rfl ⟨hz, h⟩), fun post h => br_f (by decide) (br_f (by decide) (br_f (by decide) (br_f (by decide) (br_f (by decide) (br_f (by decide) (br_t (by decide) (br_f (by decide) (br_f (by decide) (br_f (by decide) (br_f hz (br_f (by decide) (br_t rfl ⟨hz, h⟩))))))))))))⟩
theorem hw_d14 (v : SY) (a b : Int64) (hz : ¬ b = 0) : hw_D 14 v a b := by
  obtain ⟨f0, f1, f2, f3, f4, f5⟩ := v
  have hb : uN b ≠ 0 := fun w => hz ((hw_uz b).mpr w)
  exact ⟨lN (uN a / uN b), fun post h => br_f (by decide) (br_f (by decide) (br_t rfl (hw_uq hb h))), fun post h => br_f (by decide) (br_f (by decide) (br_f (by decide) (br_f (by decide) (br_f (by decide) (br_f (by decide) (br_f (by decide) (br_t (by decide) (br_f (by decide) (br_f (by decide) (br_f (by decide) (br_f hz (br_f (by decide) (br_f (by decide) (br_f (by decide) (hw_ydiv (f0, f1, f2, f3, f4, f5) hb (fun _ => h) (fun w => absurd rfl w))))))))))))))))⟩
theorem hw_d15 (v : SY) (a b : Int64) (hz : ¬ b = 0) : hw_D 15 v a b := by
  obtain ⟨f0, f1, f2, f3, f4, f5⟩ := v
  have hb : uN b ≠ 0 := fun w => hz ((hw_uz b).mpr w)
  refine ⟨lN (uN a % uN b), fun post h => br_f (by decide) (br_f (by decide) (br_f (by decide) (hw_uq hb ?_))), fun post h => br_f (by decide) (br_f (by decide) (br_f (by decide) (br_f (by decide) (br_f (by decide) (br_f (by decide) (br_f (by decide) (br_t (by decide) (br_f (by decide) (br_f (by decide) (br_f (by decide) (br_f hz (br_f (by decide) (br_f (by decide) (br_t rfl (hw_ydiv (f0, f1, f2, f3, f4, f5) hb (fun w => absurd w (by decide)) (fun _ => h))))))))))))))))⟩
  rw [hw_urem hb]
  exact h
theorem hw_allR (k : Nat) (hk : k ≤ 15) (h3 : k ≠ 3) (h4 : k ≠ 4) (h14 : k ≠ 14) (h15 : k ≠ 15) (v : SY) (a b : Int64) : hw_R k v a b := by
  have c : k = 0 ∨ k = 1 ∨ k = 2 ∨ k = 5 ∨ k = 6 ∨ k = 7 ∨ k = 8 ∨ k = 9 ∨ k = 10 ∨ k = 11 ∨ k = 12 ∨ k = 13 := by omega
  rcases c with rfl | rfl | rfl | rfl | rfl | rfl | rfl | rfl | rfl | rfl | rfl | rfl
  · exact hw_o0 v a b
  · exact hw_o1 v a b
  · exact hw_o2 v a b
  · exact hw_o5 v a b
  · exact hw_o6 v a b
  · exact hw_o7 v a b
  · exact hw_o8 v a b
  · exact hw_o9 v a b
  · exact hw_o10 v a b
  · exact hw_o11 v a b
  · exact hw_o12 v a b
  · exact hw_o13 v a b
theorem hw_allD (k : Nat) (hk : k = 3 ∨ k = 4 ∨ k = 14 ∨ k = 15) (v : SY) (a b : Int64) (hz : ¬ b = 0) : hw_D k v a b := by
  rcases hk with rfl | rfl | rfl | rfl
  · exact hw_d3 v a b hz
  · exact hw_d4 v a b hz
  · exact hw_d14 v a b hz
  · exact hw_d15 v a b hz
end
section
/-! ===== what is owed ===== -/
/-- the six fields of the reference hold what the component's array holds -/
def i_Rel (_ : Nat) (u : SX) (v : SY) : Prop := v = hw_S u
theorem i_up {k : Nat} {u : SX} {v : SY} (h : i_Rel k u v) : i_Rel (k + 5) u v := h
theorem i_vc0 : wpX_init (fun u => wpY_init (fun v => i_Rel 0 u v)) := rfl
theorem i_vc_set {k : Nat} {u : SX} {v : SY} (I : i_Rel k u v) (hk : k + 5 ≤ 2560) (v1 : Int32) (a1 : Int64) : wpX_set (fun r u' => wpY_set (fun r' v' => r' = r ∧ i_Rel (k + 5) u' v') v v1 a1) u v1 a1 := by
  have I : v = hw_S u := I
  subst I
  rcases hw_reg v1 with h | ⟨j, hj, rfl⟩
  · exact hw_XB h (hw_YB (hw_S u) h ⟨rfl, rfl⟩)
  · exact hw_XG hj ⟨hw_in hj, nm_r (e' := vp_updL u j a1) (by rw [hw_cl hj]) (hw_set (u := u) hj ⟨rfl, rfl⟩)⟩
theorem i_vc_get {k : Nat} {u : SX} {v : SY} (I : i_Rel k u v) (hk : k + 5 ≤ 2560) (v1 : Int32) : wpX_get (fun r => wpY_get (fun r' => r' = r ∧ i_Rel (k + 5) u v) v v1) u v1 := by
  have I : v = hw_S u := I
  subst I
  rcases hw_reg v1 with h | ⟨j, hj, rfl⟩
  · exact hw_XB h (hw_getB (hw_S u) h ⟨rfl, rfl⟩)
  · refine hw_XG hj ⟨hw_in hj, ?_⟩
    rw [hw_cl hj]
    exact hw_get (u := u) hj ⟨rfl, rfl⟩
theorem hw_ne {k c : Nat} (hk : k ≤ 15) (hc : c ≤ 15) (h : k ≠ c) : ¬ nI k = nI c := fun e => h ((nI_eq (by omega) (by omega)).mp e)
theorem i_vc_apply {k : Nat} {u : SX} {v : SY} (I : i_Rel k u v) (hk : k + 5 ≤ 2560) (v1 : Int32) (v2 : Int32) (v3 : Int32) (v4 : Int32) : wpX_apply (fun r u' => wpY_apply (fun r' v' => r' = r ∧ i_Rel (k + 5) u' v') v v1 v2 v3 v4) u v1 v2 v3 v4 := by
  have I : v = hw_S u := I
  subst I
  by_cases c0 : v1 < 0
  · exact br_t c0 (br_t c0 ⟨rfl, rfl⟩)
  by_cases c15 : 15 < v1
  · exact br_f c0 (br_t c15 (br_f c0 (br_t c15 ⟨rfl, rfl⟩)))
  rcases hw_reg v2 with h | ⟨d, hd, rfl⟩
  · exact br_f c0 (br_f c15 (hw_XB h (br_f c0 (br_f c15 (hw_YB (hw_S u) h ⟨rfl, rfl⟩)))))
  rcases hw_reg v3 with h | ⟨a, ha, rfl⟩
  · exact br_f c0 (br_f c15 (hw_XG hd (hw_XB h (br_f c0 (br_f c15 (hw_YG (hw_S u) hd (hw_YB (hw_S u) h ⟨rfl, rfl⟩)))))))
  rcases hw_reg v4 with h | ⟨b, hb, rfl⟩
  · exact br_f c0 (br_f c15 (hw_XG hd (hw_XG ha (hw_XB h (br_f c0 (br_f c15 (hw_YG (hw_S u) hd (hw_YG (hw_S u) ha (hw_YB (hw_S u) h ⟨rfl, rfl⟩)))))))))
  obtain ⟨o, ho, rfl⟩ := nI_of2 (M := 15) (n := 15) (by decide) c0 (Int32.not_lt.mp c15)
  refine br_f c0 (br_f c15 (hw_XG hd (hw_XG ha (hw_XG hb ⟨hw_in ha, nm_r (e' := u a) (by rw [hw_cl ha]) ⟨hw_in hb, nm_r (e' := u b) (by rw [hw_cl hb]) ?_⟩⟩))))
  by_cases hD : o = 3 ∨ o = 4 ∨ o = 14 ∨ o = 15
  · have isX : ∀ P : Int32 → Prop, P 1 → wpX_isDivision P (nI o) := by
      intro P h
      rcases hD with rfl | rfl | rfl | rfl
      · exact br_t rfl h
      · exact br_f (by decide) (br_t rfl h)
      · exact br_f (by decide) (br_f (by decide) (br_t rfl h))
      · exact br_f (by decide) (br_f (by decide) (br_f (by decide) (br_t rfl h)))
    have isY : ∀ A B : Prop, A → (nI o = 3 → A) ∧ (¬ nI o = 3 → (nI o = 4 → A) ∧ (¬ nI o = 4 → (nI o = 14 → A) ∧ (¬ nI o = 14 → (nI o = 15 → A) ∧ (¬ nI o = 15 → B)))) := by
      intro A B h
      rcases hD with rfl | rfl | rfl | rfl
      · exact br_t rfl h
      · exact br_f (by decide) (br_t rfl h)
      · exact br_f (by decide) (br_f (by decide) (br_t rfl h))
      · exact br_f (by decide) (br_f (by decide) (br_f (by decide) (br_t rfl h)))
    by_cases z : u b = 0
    · exact isX _ (br_f (by decide) (br_t z (br_f c0 (br_f c15 (hw_YG (hw_S u) hd (hw_YG (hw_S u) ha (hw_YG (hw_S u) hb (hw_get (u := u) ha (hw_get (u := u) hb (isY _ _ (br_f (by decide) (br_t z (⟨rfl, rfl⟩)))))))))))))
    · obtain ⟨r, hX, hY⟩ := hw_allD o hD (hw_S u) (u a) (u b) z
      exact isX _ (br_f (by decide) (br_f z (hX _ ⟨hw_in hd, nm_r (e' := vp_updL u d r) (by rw [hw_cl hd]) (br_f c0 (br_f c15 (hw_YG (hw_S u) hd (hw_YG (hw_S u) ha (hw_YG (hw_S u) hb (hw_get (u := u) ha (hw_get (u := u) hb (isY _ _ (br_f (by decide) (br_f z (hY _ (hw_set (u := u) hd ⟨rfl, rfl⟩))))))))))))⟩)))
  · have n3 : ¬ nI o = 3 := hw_ne (c := 3) ho (by omega) (by omega)
    have n4 : ¬ nI o = 4 := hw_ne (c := 4) ho (by omega) (by omega)
    have n14 : ¬ nI o = 14 := hw_ne (c := 14) ho (by omega) (by omega)
    have n15 : ¬ nI o = 15 := hw_ne (c := 15) ho (by omega) (by omega)
    obtain ⟨r, hX, hY⟩ := hw_allR o ho (by omega) (by omega) (by omega) (by omega) (hw_S u) (u a) (u b)
    exact br_f n3 (br_f n4 (br_f n14 (br_f n15 (br_t rfl (hX _ ⟨hw_in hd, nm_r (e' := vp_updL u d r) (by rw [hw_cl hd]) (br_f c0 (br_f c15 (hw_YG (hw_S u) hd (hw_YG (hw_S u) ha (hw_YG (hw_S u) hb (hw_get (u := u) ha (hw_get (u := u) hb (br_f n3 (br_f n4 (br_f n14 (br_f n15 (br_t rfl (hY _ (hw_set (u := u) hd ⟨rfl, rfl⟩))))))))))))))⟩)))))
theorem i_vc_typeDigit {k : Nat} {u : SX} {v : SY} (I : i_Rel k u v) (hk : k + 5 ≤ 2560) (v1 : Int32) (v2 : Int32) : wpX_typeDigit (fun r u' => wpY_typeDigit (fun r' v' => r' = r ∧ i_Rel (k + 5) u' v') v v1 v2) u v1 v2 := by
  have I : v = hw_S u := I
  subst I
  rcases hw_reg v1 with h | ⟨j, hj, rfl⟩
  · exact hw_XB h (hw_YB (hw_S u) h ⟨rfl, rfl⟩)
  by_cases c1 : v2 < 0
  · exact hw_XG hj (br_t c1 (hw_YG (hw_S u) hj (br_t c1 ⟨rfl, rfl⟩)))
  by_cases c2 : v2 ≤ 9
  · exact hw_XG hj (br_f c1 (br_t c2 ⟨hw_in hj, hw_in hj, nm_r (e' := vp_updL u j (u j * 10 + v2.toInt64)) (by rw [hw_cl hj]) (hw_YG (hw_S u) hj (br_f c1 (br_t c2 (hw_get (u := u) hj (nm_e (hw_set (u := u) hj ⟨rfl, rfl⟩))))))⟩))
  · exact hw_XG hj (br_f c1 (br_f c2 (hw_YG (hw_S u) hj (br_f c1 (br_f c2 ⟨rfl, rfl⟩)))))
theorem hw_ydg {post : Int32 → Prop} {u : Nat → Int64} {j c : Nat} (hj : j < 6) (hc : hw_C (hw_m (u j)) c) (h : post (nI c)) : wpY_digits post (u 0, u 1, u 2, u 3, u 4, u 5) (nI j) := by
  refine hw_YG (hw_S u) hj (hw_get (u := u) hj ⟨19, ?_⟩)
  refine hw_ydl hc (u 0) (u 1) (u 2) (u 3) (u 4) (u 5) h 18 1 1 (by omega) (by omega) ?_
  have c1 := hc.1
  rcases Nat.lt_or_ge 1 c with g | g
  · exact Or.inl g
  · have : c = 1 := by omega
    subst this
    exact Or.inr rfl
theorem i_vc_digits {k : Nat} {u : SX} {v : SY} (I : i_Rel k u v) (hk : k + 5 ≤ 2560) (v1 : Int32) : wpX_digits (fun r => wpY_digits (fun r' => r' = r ∧ i_Rel (k + 5) u v) v v1) u v1 := by
  have I : v = hw_S u := I
  subst I
  rcases hw_reg v1 with h | ⟨j, hj, rfl⟩
  · exact hw_XB h (hw_YB (hw_S u) h ⟨rfl, rfl⟩)
  · obtain ⟨c, hc⟩ := hw_CV (u j)
    refine hw_XG hj ⟨hw_in hj, ?_⟩
    rw [hw_cl hj]
    exact hw_cnt hc (hw_ydg hj hc ⟨rfl, rfl⟩)
theorem i_vc_digit {k : Nat} {u : SX} {v : SY} (I : i_Rel k u v) (hk : k + 5 ≤ 2560) (v1 : Int32) (v2 : Int32) : wpX_digit (fun r => wpY_digit (fun r' => r' = r ∧ i_Rel (k + 5) u v) v v1 v2) u v1 v2 := by
  have I : v = hw_S u := I
  subst I
  rcases hw_reg v1 with h | ⟨j, hj, rfl⟩
  · exact hw_XB h (hw_YB (hw_S u) h ⟨rfl, rfl⟩)
  by_cases c1 : v2 < 0
  · exact hw_XG hj (br_t c1 (hw_YG (hw_S u) hj (br_t c1 ⟨rfl, rfl⟩)))
  obtain ⟨c, hc⟩ := hw_CV (u j)
  have c19 := hc.2.1
  obtain ⟨n, hn, rfl⟩ := nI_of c1
  refine hw_XG hj (br_f c1 ⟨hw_in hj, ?_⟩)
  rw [hw_cl hj]
  refine hw_cnt hc ?_
  by_cases l : n < c
  · have l' : nI n < nI c := nI_lt l (by omega)
    have w := hw_xd (post := fun r => wpY_digit (fun r' => r' = r ∧ i_Rel (k + 5) u (hw_S u)) (hw_S u) (nI j) (nI n)) (hw_mle (u j)) (show n < 1000 by omega) u (hw_YG (hw_S u) hj (br_f c1 (hw_ydg hj hc (br_t l' (hw_get (u := u) hj (hw_dOf (hw_S u) (by omega) ⟨rfl, rfl⟩)))))) n 0 (by omega)
    rw [Nat.pow_zero, Nat.div_one] at w
    exact br_t l' ⟨hw_in hj, hw_neg ⟨n + 1, w⟩⟩
  · have l' : ¬ nI n < nI c := nI_nlt (by omega) (by omega)
    exact br_f l' (hw_YG (hw_S u) hj (br_f c1 (hw_ydg hj hc (br_f l' ⟨rfl, rfl⟩))))
theorem i_vc_root {k : Nat} {u : SX} {v : SY} (I : i_Rel k u v) (hk : k + 5 ≤ 2560) (v1 : Int32) (v2 : Int32) : wpX_root (fun r u' => wpY_root (fun r' v' => r' = r ∧ i_Rel (k + 5) u' v') v v1 v2) u v1 v2 := by
  have I : v = hw_S u := I
  subst I
  rcases hw_reg v1 with h | ⟨d, hd, rfl⟩
  · exact hw_XB h (hw_YB (hw_S u) h ⟨rfl, rfl⟩)
  rcases hw_reg v2 with h | ⟨a, ha, rfl⟩
  · exact hw_XG hd (hw_XB h (hw_YG (hw_S u) hd (hw_YB (hw_S u) h ⟨rfl, rfl⟩)))
  refine hw_XG hd (hw_XG ha ⟨hw_in ha, ?_⟩)
  rw [hw_cl ha, hw_cl hd]
  by_cases c : 0 ≤ u a
  · obtain ⟨r, hX, hY⟩ := hw_root (u a) 32 0 (by omega)
    exact br_t c ⟨hw_in ha, ⟨33, hX _ ⟨hw_in hd, nm_e (hw_YG (hw_S u) hd (hw_YG (hw_S u) ha (hw_get (u := u) ha (br_t c ⟨33, hY _ u d hd ⟨rfl, rfl⟩⟩))))⟩⟩⟩
  · exact br_f c (hw_YG (hw_S u) hd (hw_YG (hw_S u) ha (hw_get (u := u) ha (br_f c ⟨rfl, rfl⟩))))
theorem i_vc_leadingZeros {k : Nat} {u : SX} {v : SY} (I : i_Rel k u v) (hk : k + 5 ≤ 2560) (v1 : Int32) : wpX_leadingZeros (fun r => wpY_leadingZeros (fun r' => r' = r ∧ i_Rel (k + 5) u v) v v1) u v1 := by
  have I : v = hw_S u := I
  subst I
  rcases hw_reg v1 with h | ⟨j, hj, rfl⟩
  · exact hw_XB h (hw_YB (hw_S u) h ⟨rfl, rfl⟩)
  · obtain ⟨r, hX, hY⟩ := hw_lz (u j) (u 0) (u 1) (u 2) (u 3) (u 4) (u 5) u 64 (by omega) (uN_lt (u j))
    exact hw_XG hj ⟨hw_in hj, nm_r (e' := u j) (by rw [hw_cl hj]) ⟨65, hX _ (hw_YG (hw_S u) hj (hw_get (u := u) hj ⟨65, hY _ ⟨rfl, rfl⟩⟩))⟩⟩
theorem hw_raise0 {post : Int64 → Prop} {a e : Int64} (h : post (hw_pw a (uN e))) : wpX_raise post a e := by
  refine ⟨65, hw_raise e 64 0 1 a rfl ?_⟩
  rw [Nat.pow_zero, Nat.div_one, Int64.one_mul]
  exact h
theorem i_vc_power {k : Nat} {u : SX} {v : SY} (I : i_Rel k u v) (hk : k + 5 ≤ 2560) (v1 : Int32) (v2 : Int32) (v3 : Int32) : wpX_power (fun r u' => wpY_power (fun r' v' => r' = r ∧ i_Rel (k + 5) u' v') v v1 v2 v3) u v1 v2 v3 := by
  have I : v = hw_S u := I
  subst I
  rcases hw_reg v1 with h | ⟨d, hd, rfl⟩
  · exact hw_XB h (hw_YB (hw_S u) h ⟨rfl, rfl⟩)
  rcases hw_reg v2 with h | ⟨a, ha, rfl⟩
  · exact hw_XG hd (hw_XB h (hw_YG (hw_S u) hd (hw_YB (hw_S u) h ⟨rfl, rfl⟩)))
  rcases hw_reg v3 with h | ⟨b, hb, rfl⟩
  · exact hw_XG hd (hw_XG ha (hw_XB h (hw_YG (hw_S u) hd (hw_YG (hw_S u) ha (hw_YB (hw_S u) h ⟨rfl, rfl⟩)))))
  refine hw_XG hd (hw_XG ha (hw_XG hb ⟨hw_in ha, hw_in hb, ?_⟩))
  rw [hw_cl ha, hw_cl hb, hw_cl hd]
  refine hw_raise0 ⟨hw_in hd, nm_e (hw_YG (hw_S u) hd (hw_YG (hw_S u) ha (hw_YG (hw_S u) hb (hw_get (u := u) ha (hw_get (u := u) hb ⟨65, hw_ypow hd (u a) (u b) ⟨rfl, rfl⟩ 64 1 (by omega) ?_⟩)))))⟩
  rw [Nat.div_eq_of_lt (uN_lt (u b))]
  rfl
theorem i_vc_divisor {k : Nat} {u : SX} {v : SY} (I : i_Rel k u v) (hk : k + 5 ≤ 2560) (v1 : Int32) (v2 : Int32) (v3 : Int32) : wpX_divisor (fun r u' => wpY_divisor (fun r' v' => r' = r ∧ i_Rel (k + 5) u' v') v v1 v2 v3) u v1 v2 v3 := by
  have I : v = hw_S u := I
  subst I
  rcases hw_reg v1 with h | ⟨d, hd, rfl⟩
  · exact hw_XB h (hw_YB (hw_S u) h ⟨rfl, rfl⟩)
  rcases hw_reg v2 with h | ⟨a, ha, rfl⟩
  · exact hw_XG hd (hw_XB h (hw_YG (hw_S u) hd (hw_YB (hw_S u) h ⟨rfl, rfl⟩)))
  rcases hw_reg v3 with h | ⟨b, hb, rfl⟩
  · exact hw_XG hd (hw_XG ha (hw_XB h (hw_YG (hw_S u) hd (hw_YG (hw_S u) ha (hw_YB (hw_S u) h ⟨rfl, rfl⟩)))))
  refine hw_XG hd (hw_XG ha (hw_XG hb ⟨hw_in ha, hw_in hb, ?_⟩))
  rw [hw_cl ha, hw_cl hb, hw_cl hd]
  obtain ⟨g, hX, hY⟩ := hw_gcd (hw_mle (u a)) (hw_mle (u b))
  exact hw_neg (hw_neg ⟨129, hX _ ⟨hw_in hd, nm_e (hw_YG (hw_S u) hd (hw_YG (hw_S u) ha (hw_YG (hw_S u) hb (hw_get (u := u) ha (hw_get (u := u) hb (hw_abs (hY _ u d hd ⟨rfl, rfl⟩)))))))⟩⟩)
end
