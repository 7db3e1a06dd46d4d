section
/-! ===== lN n to 2^64: shifts, and, or, masks, one bit ===== -/
theorem wb_tb (n : Nat) : (lN n).toBitVec = BitVec.ofNat 64 n := rfl
theorem wb_inj {a b : Int64} (h : a.toBitVec = b.toBitVec) : a = b := Int64.toBitVec_inj.mp h
theorem wb_tn {n : Nat} (h : n < 2 ^ 64) : (lN n).toBitVec.toNat = n := by rw [wb_tb, BitVec.toNat_ofNat, Nat.mod_eq_of_lt h]
theorem wb_of (x : Int64) : ∃ n, n < 2 ^ 64 ∧ x = lN n := ⟨x.toBitVec.toNat, x.toBitVec.isLt, wb_inj (by rw [wb_tb]; simp)⟩
theorem wb_of32 (x : Int32) : ∃ n, n < 2 ^ 32 ∧ x = nI n := ⟨x.toBitVec.toNat, x.toBitVec.isLt, Int32.toBitVec_inj.mp (by show _ = BitVec.ofNat 32 _; simp)⟩
theorem wb_c : ∀ k, k < 64 → ((nI k).toInt64 &&& 63) = lN k := by decide +kernel
theorem wb_cu : ∀ k, k < 64 → ((nI k).toInt64.toUInt64 &&& Int64.toUInt64 63) = UInt64.ofNat k := by decide +kernel
theorem wb_sm : ∀ k, k < 64 → (BitVec.ofNat 64 k).smod 64 = BitVec.ofNat 64 k := by decide +kernel
theorem wb_pw {a b : Nat} (h : a ≤ b) : 2 ^ b = 2 ^ a * 2 ^ (b - a) := by rw [← Nat.pow_add]; congr 1; omega
theorem wb_lt2 {a b : Nat} (h : a < b) : 2 ^ a < 2 ^ b := Nat.pow_lt_pow_right (by decide) h
theorem wb_mod (n : Nat) : lN n = lN (n % 2 ^ 64) := wb_inj (by rw [wb_tb, wb_tb]; apply BitVec.eq_of_toNat_eq; rw [BitVec.toNat_ofNat, BitVec.toNat_ofNat, Nat.mod_mod])
theorem wb_shr {n k : Nat} (hn : n < 2 ^ 64) (hk : k < 64) : ((lN n).toUInt64 >>> ((nI k).toInt64.toUInt64 &&& Int64.toUInt64 63)).toInt64 = lN (n / 2 ^ k) := by
  rw [wb_cu k hk]
  apply wb_inj
  apply BitVec.eq_of_toNat_eq
  show ((lN n).toUInt64 >>> UInt64.ofNat k).toNat = (BitVec.ofNat 64 _).toNat
  have h1 : (UInt64.ofNat k).toNat = k := by
    show (BitVec.ofNat 64 k).toNat = k
    rw [BitVec.toNat_ofNat, Nat.mod_eq_of_lt (by omega)]
  have h2 : (lN n).toUInt64.toNat = n := wb_tn hn
  rw [UInt64.toNat_shiftRight, h1, h2, Nat.mod_eq_of_lt hk, Nat.shiftRight_eq_div_pow, BitVec.toNat_ofNat, Nat.mod_eq_of_lt (Nat.lt_of_le_of_lt (Nat.div_le_self _ _) hn)]
theorem wb_shl (n : Nat) {k : Nat} (hk : k < 64) : lN n <<< ((nI k).toInt64 &&& 63) = lN (n * 2 ^ k) := by
  rw [wb_c k hk]
  apply wb_inj
  rw [Int64.toBitVec_shiftLeft, wb_tb, wb_tb, wb_tb, wb_sm k hk]
  apply BitVec.eq_of_toNat_eq
  rw [BitVec.shiftLeft_eq', BitVec.toNat_shiftLeft, BitVec.toNat_ofNat, BitVec.toNat_ofNat, BitVec.toNat_ofNat, Nat.mod_eq_of_lt (show k < 2 ^ 64 by omega), Nat.shiftLeft_eq, Nat.mul_mod, Nat.mod_mod, ← Nat.mul_mod]
theorem wb_and {a b : Nat} (ha : a < 2 ^ 64) (hb : b < 2 ^ 64) : lN a &&& lN b = lN (a &&& b) := by
  apply wb_inj
  rw [Int64.toBitVec_and, wb_tb, wb_tb, wb_tb]
  apply BitVec.eq_of_toNat_eq
  rw [BitVec.toNat_and, BitVec.toNat_ofNat, BitVec.toNat_ofNat, BitVec.toNat_ofNat, Nat.mod_eq_of_lt ha, Nat.mod_eq_of_lt hb, Nat.mod_eq_of_lt (Nat.and_lt_two_pow _ hb)]
theorem wb_or {a b : Nat} (ha : a < 2 ^ 64) (hb : b < 2 ^ 64) : lN a ||| lN b = lN (a ||| b) := by
  apply wb_inj
  rw [Int64.toBitVec_or, wb_tb, wb_tb, wb_tb]
  apply BitVec.eq_of_toNat_eq
  rw [BitVec.toNat_or, BitVec.toNat_ofNat, BitVec.toNat_ofNat, BitVec.toNat_ofNat, Nat.mod_eq_of_lt ha, Nat.mod_eq_of_lt hb, Nat.mod_eq_of_lt (Nat.or_lt_two_pow ha hb)]
theorem wb_mask {n k : Nat} (hn : n < 2 ^ 64) (hk : k < 64) : lN n &&& lN (2 ^ k - 1) = lN (n % 2 ^ k) := by
  rw [wb_and hn (by have := wb_lt2 hk; omega), Nat.and_two_pow_sub_one_eq_mod]
theorem wb_a1 {n : Nat} (hn : n < 2 ^ 64) : lN n &&& 1 = lN (n % 2) := wb_mask (k := 1) hn (by decide)
theorem wb_bit {n k : Nat} (hn : n < 2 ^ 64) (hk : k < 64) : ((lN n).toUInt64 >>> ((nI k).toInt64.toUInt64 &&& Int64.toUInt64 63)).toInt64 &&& 1 = lN (n / 2 ^ k % 2) := by
  rw [wb_shr hn hk, wb_a1 (Nat.lt_of_le_of_lt (Nat.div_le_self _ _) hn)]
theorem wb_xor {q k : Nat} (hk : k < 63) (h : 2 ^ k ≤ q) (h2 : q < 2 ^ (k + 1)) : lN q ^^^ lN (2 ^ k) = lN (q - 2 ^ k) := by
  obtain ⟨r, rfl⟩ : ∃ r, q = 2 ^ k + r := ⟨q - 2 ^ k, by omega⟩
  have hr : r < 2 ^ k := by rw [Nat.pow_succ] at h2; omega
  have hx : (2 ^ k + r) ^^^ 2 ^ k = r := by
    apply Nat.eq_of_testBit_eq
    intro i
    rw [Nat.testBit_xor, Nat.testBit_two_pow]
    rcases Nat.lt_trichotomy i k with h | h | h
    · rw [Nat.testBit_two_pow_add_gt h]
      simp [show ¬ k = i by omega]
    · subst h
      rw [Nat.testBit_two_pow_add_eq]
      simp
    · have a1 : 2 ^ (k + 1) ≤ 2 ^ i := Nat.pow_le_pow_right (by decide) h
      rw [Nat.testBit_lt_two_pow (show 2 ^ k + r < 2 ^ i by omega), Nat.testBit_lt_two_pow (show r < 2 ^ i by omega)]
      simp [show ¬ k = i by omega]
  have b1 := wb_lt2 (show k + 1 < 64 by omega)
  have b2 := wb_lt2 (show k < 64 by omega)
  apply wb_inj
  rw [Int64.toBitVec_xor, wb_tb, wb_tb, wb_tb]
  apply BitVec.eq_of_toNat_eq
  rw [BitVec.toNat_xor, BitVec.toNat_ofNat, BitVec.toNat_ofNat, BitVec.toNat_ofNat, Nat.mod_eq_of_lt (by omega : 2 ^ k + r < 2 ^ 64), Nat.mod_eq_of_lt b2, hx, Nat.add_sub_cancel_left, Nat.mod_eq_of_lt (by omega)]
/-! ===== Int64 as an unsigned number: uN x ===== -/
def uN (x : Int64) : Nat := x.toUInt64.toNat
theorem uN_lt (x : Int64) : uN x < 18446744073709551616 := x.toUInt64.toNat_lt
theorem uN_inj {x y : Int64} (h : uN x = uN y) : x = y := congrArg UInt64.toInt64 (UInt64.toNat_inj.mp h)
theorem uN_add (x y : Int64) : uN (x + y) = (uN x + uN y) % 18446744073709551616 := by
  show (x.toUInt64 + y.toUInt64).toNat = _
  exact UInt64.toNat_add _ _
theorem uN_mul (x y : Int64) : uN (x * y) = (uN x * uN y) % 18446744073709551616 := by
  show (x.toUInt64 * y.toUInt64).toNat = _
  exact UInt64.toNat_mul _ _
theorem uN_shl (x : Int64) : uN (x <<< ((1 : Int32).toInt64 &&& 63)) = (2 * uN x) % 18446744073709551616 := by
  have h : (((1 : Int32).toInt64 &&& 63).toBitVec.smod 64).toNat = 1 := by decide
  show (x.toBitVec <<< (((1 : Int32).toInt64 &&& 63).toBitVec.smod 64).toNat).toNat = _
  rw [h, BitVec.toNat_shiftLeft, Nat.shiftLeft_eq, Nat.mul_comm]
  rfl
theorem uN_shr (x : Int64) (s : UInt64) : uN (x.toUInt64 >>> s).toInt64 = uN x / 2 ^ (s.toNat % 64) := by
  show (x.toUInt64 >>> s).toNat = _
  rw [UInt64.toNat_shiftRight, Nat.shiftRight_eq_div_pow]
  rfl
theorem uN_s32 (x : Int64) : uN (x.toUInt64 >>> ((32 : Int32).toInt64.toUInt64 &&& Int64.toUInt64 63)).toInt64 = uN x / 4294967296 := by
  have h : ((32 : Int32).toInt64.toUInt64 &&& Int64.toUInt64 63).toNat % 64 = 32 := by decide
  rw [uN_shr, h]
theorem uN_s63 (x : Int64) : uN (x.toUInt64 >>> ((63 : Int32).toInt64.toUInt64 &&& Int64.toUInt64 63)).toInt64 = uN x / 9223372036854775808 := by
  have h : ((63 : Int32).toInt64.toUInt64 &&& Int64.toUInt64 63).toNat % 64 = 63 := by decide
  rw [uN_shr, h]
theorem uN_lo (x : Int64) : uN (x &&& 4294967295) = uN x % 4294967296 := by
  show (x.toUInt64 &&& Int64.toUInt64 4294967295).toNat = _
  rw [UInt64.toNat_and]
  exact Nat.and_two_pow_sub_one_eq_mod _ 32
theorem uN_bit (x : Int64) : (x &&& 1) = 0 ↔ uN x % 2 = 0 := by
  have h : uN (x &&& 1) = uN x % 2 := by
    show (x.toUInt64 &&& Int64.toUInt64 1).toNat = _
    rw [UInt64.toNat_and]
    exact Nat.and_two_pow_sub_one_eq_mod _ 1
  rw [← h]
  exact ⟨fun z => by rw [z]; rfl, fun z => uN_inj (z.trans rfl)⟩
theorem uN_or {x y : Int64} (hy : uN y < 2) : uN ((x <<< ((1 : Int32).toInt64 &&& 63)) ||| y) = (2 * uN x) % 18446744073709551616 + uN y := by
  have h1 : uN ((x <<< ((1 : Int32).toInt64 &&& 63)) ||| y) = uN (x <<< ((1 : Int32).toInt64 &&& 63)) ||| uN y := UInt64.toNat_or _ _
  have h2 : (2 * uN x) % 18446744073709551616 = 2 ^ 1 * (uN x % 9223372036854775808) := by omega
  rw [h1, uN_shl, h2]
  exact (Nat.two_pow_add_eq_or_of_lt (i := 1) hy _).symm
theorem nat_xor {a : Nat} (h : a < 18446744073709551616) : a ^^^ 2 ^ 63 = (a + 9223372036854775808) % 18446744073709551616 := by
  have h1 : (a ^^^ 2 ^ 63) % 2 ^ 63 = a % 2 ^ 63 := by rw [Nat.xor_mod_two_pow, Nat.mod_self, Nat.xor_zero]
  have h2 : (a ^^^ 2 ^ 63) / 2 ^ 63 = (a / 2 ^ 63) ^^^ 1 := by rw [Nat.xor_div_two_pow, Nat.div_self (Nat.two_pow_pos 63)]
  have h3 : a / 2 ^ 63 = 0 ∨ a / 2 ^ 63 = 1 := by omega
  generalize a ^^^ 2 ^ 63 = t at h1 h2
  rcases h3 with h3 | h3
  · rw [h3] at h2
    have h2 : t / 2 ^ 63 = 1 := h2
    omega
  · rw [h3] at h2
    have h2 : t / 2 ^ 63 = 0 := h2
    omega
theorem uN_xor (x : Int64) : uN (x ^^^ (-9223372036854775808)) = (uN x + 9223372036854775808) % 18446744073709551616 := by
  rw [← nat_xor (uN_lt x)]
  exact UInt64.toNat_xor _ _
theorem uN_int (x : Int64) : x.toInt = if 2 * uN x < 18446744073709551616 then (uN x : Int) else (uN x : Int) - 18446744073709551616 := BitVec.toInt_eq_toNat_cond _
theorem uN_le (x y : Int64) : (x ^^^ (-9223372036854775808)) ≤ (y ^^^ (-9223372036854775808)) ↔ uN x ≤ uN y := by
  have hx := uN_lt x
  have hy := uN_lt y
  rw [Int64.le_iff_toInt_le, uN_int, uN_int, uN_xor, uN_xor]
  omega
theorem uN_sk (x : Int64) {k : Nat} (hk : k < 64) : uN (x.toUInt64 >>> ((nI k).toInt64.toUInt64 &&& Int64.toUInt64 63)).toInt64 = uN x / 2 ^ k := by
  have h : ((nI k).toInt64.toUInt64 &&& Int64.toUInt64 63).toNat % 64 = k := by
    rw [nI_l (by omega), UInt64.toNat_and]
    have e : (lN k).toUInt64.toNat = k % 2 ^ 64 := rfl
    have e2 : (Int64.toUInt64 63).toNat = 2 ^ 6 - 1 := by decide
    rw [e, e2, Nat.and_two_pow_sub_one_eq_mod]
    omega
  rw [uN_shr, h]
theorem pk_uLs {f : Nat → Int64} {k : Nat} {x : Int64} : vp_updL f k x k = x := if_pos rfl
theorem pk_uLn {f : Nat → Int64} {k j : Nat} {x : Int64} (h : j ≠ k) : vp_updL f k x j = f j := if_neg h
theorem pk_sub {a b : Nat} (h : b ≤ a) : nI a - nI b = nI (a - b) := by
  obtain ⟨c, rfl⟩ : ∃ c, a = c + b := ⟨a - b, by omega⟩
  rw [← nI_add, Int32.add_sub_cancel, Nat.add_sub_cancel]
theorem pk_m1 (n : Nat) : nI (n + 1) + (-1) = nI n := by
  rw [← nI_1, Int32.add_assoc, show (1 : Int32) + (-1) = 0 from rfl, Int32.add_zero]
theorem pk_ix (x : Int32) {n : Nat} (hn : n < 2 ^ 31) : x < 0 ∨ nI n ≤ x ∨ ∃ j : Nat, j < n ∧ x = nI j := by
  by_cases h : x < 0
  · exact Or.inl h
  · obtain ⟨j, hj, rfl⟩ := nI_of h
    by_cases h2 : j < n
    · exact Or.inr (Or.inr ⟨j, h2, rfl⟩)
    · exact Or.inr (Or.inl (nI_le (by omega) hj))
theorem pk_lT {n : Nat} (h : n < 2 ^ 63) : (lN n).toInt = (n : Int) := lg_ofNat_toInt h
theorem pk_lLT {a b : Nat} (ha : a < 2 ^ 63) (hb : b < 2 ^ 63) : lN a < lN b ↔ a < b := by
  rw [Int64.lt_iff_toInt_lt, pk_lT ha, pk_lT hb]; omega
theorem pk_lLE {a b : Nat} (ha : a < 2 ^ 63) (hb : b < 2 ^ 63) : lN a ≤ lN b ↔ a ≤ b := by
  rw [Int64.le_iff_toInt_le, pk_lT ha, pk_lT hb]; omega
theorem pk_lEQ {a b : Nat} (ha : a < 2 ^ 63) (hb : b < 2 ^ 63) : lN a = lN b ↔ a = b := by
  rw [← Int64.toInt_inj, pk_lT ha, pk_lT hb]; omega
theorem pk_lOf {x : Int64} (h : ¬ x < 0) : ∃ k : Nat, k < 2 ^ 63 ∧ x = lN k := by
  rw [Int64.lt_iff_toInt_lt] at h
  have h0 : (0 : Int64).toInt = 0 := by decide
  have hx := Int64.toInt_lt x
  refine ⟨x.toInt.toNat, by omega, Int64.toInt_inj.mp ?_⟩
  rw [pk_lT (by omega)]
  omega
theorem pk_lDiv {a b : Nat} (ha : a < 2 ^ 63) (h0 : 0 < b) (hb : b < 2 ^ 63) : lN a / lN b = lN (a / b) := by
  apply Int64.toInt_inj.mp
  rw [lg_ldiv_nonneg (by rw [pk_lT ha]; omega) (by rw [pk_lT hb]; omega), pk_lT ha, pk_lT hb, pk_lT (Nat.lt_of_le_of_lt (Nat.div_le_self a b) ha)]
  rfl
theorem pk_lRem {a b : Nat} (ha : a < 2 ^ 63) (h0 : 0 < b) (hb : b < 2 ^ 63) : lN a - lN a / lN b * lN b = lN (a % b) := by
  rw [pk_lDiv ha h0 hb, lN_mul, lN_sub (Nat.div_mul_le_self a b)]
  exact congrArg lN (by have := Nat.div_add_mod' a b; omega)
end
section
/-! ===== registers: the state, isRegister, get, set ===== -/
def hw_S (u : Nat → Int64) : SY := (u 0, u 1, u 2, u 3, u 4, u 5)
theorem hw_reg (r : Int32) : (r < 0 ∨ 6 ≤ r) ∨ ∃ j : Nat, j < 6 ∧ r = nI j := by
  rcases pk_ix r (n := 6) (by decide) with h | h | h
  · exact Or.inl (Or.inl h)
  · exact Or.inl (Or.inr h)
  · exact Or.inr h
theorem hw_ge0 {r c : Int32} (hc : 0 ≤ c) (h : c ≤ r) : ¬ r < 0 := by
  rw [Int32.lt_iff_toInt_lt]
  rw [Int32.le_iff_toInt_le] at h hc
  omega
theorem hw_5 {r : Int32} (h : 6 ≤ r) : 5 < r := by
  rw [Int32.le_iff_toInt_le] at h
  rw [Int32.lt_iff_toInt_lt]
  have a : (6 : Int32).toInt = 6 := by decide
  have b : (5 : Int32).toInt = 5 := by decide
  omega
theorem hw_XB {A B : Prop} {r : Int32} (h : r < 0 ∨ 6 ≤ r) (a : A) : wpX_isRegister (fun z => (z = 0 → A) ∧ (¬ z = 0 → B)) r := by
  rcases h with h | h
  · exact br_t h (br_t rfl a)
  · exact br_f (hw_ge0 (by decide) h) (br_t h (br_t rfl a))
theorem hw_XG {A B : Prop} {j : Nat} (hj : j < 6) (b : B) : wpX_isRegister (fun z => (z = 0 → A) ∧ (¬ z = 0 → B)) (nI j) :=
  br_f (nI_pos (by omega)) (br_f (nI_ge (b := 6) hj (by decide)) (br_f (by decide) b))
theorem hw_YB {A B : Prop} (v : SY) {r : Int32} (h : r < 0 ∨ 6 ≤ r) (a : A) : wpY_isRegister (fun z => (z = 0 → A) ∧ (¬ z = 0 → B)) v r := by
  obtain ⟨v0, v1, v2, v3, v4, v5⟩ := v
  rcases h with h | h
  · exact br_t h (br_t rfl a)
  · exact br_f (hw_ge0 (by decide) h) (br_t (hw_5 h) (br_t rfl a))
theorem hw_YG {A B : Prop} (v : SY) {j : Nat} (hj : j < 6) (b : B) : wpY_isRegister (fun z => (z = 0 → A) ∧ (¬ z = 0 → B)) v (nI j) := by
  obtain ⟨v0, v1, v2, v3, v4, v5⟩ := v
  exact br_f (nI_pos (by omega)) (br_f (nI_nlt (b := j) (a := 5) (by omega) (by decide)) (br_f (by decide) b))
theorem hw_in {j : Nat} (hj : j < 6) : vp_in (nI j) 6 := vp_in_nI hj (by decide)
theorem hw_cl {j : Nat} (hj : j < 6) : (nI j).toNatClampNeg = j := nI_clamp (by omega)
theorem hw_get {post : Int64 → Prop} {u : Nat → Int64} {j : Nat} (hj : j < 6) (h : post (u j)) : wpY_get post (u 0, u 1, u 2, u 3, u 4, u 5) (nI j) := by
  have c : j = 0 ∨ j = 1 ∨ j = 2 ∨ j = 3 ∨ j = 4 ∨ j = 5 := by omega
  rcases c with rfl | rfl | rfl | rfl | rfl | rfl
  · exact br_t rfl h
  · exact br_f (by decide) (br_t rfl h)
  · exact br_f (by decide) (br_f (by decide) (br_t rfl h))
  · exact br_f (by decide) (br_f (by decide) (br_f (by decide) (br_t rfl h)))
  · exact br_f (by decide) (br_f (by decide) (br_f (by decide) (br_f (by decide) (br_t rfl h))))
  · exact br_f (by decide) (br_f (by decide) (br_f (by decide) (br_f (by decide) (br_f (by decide) (br_t rfl h)))))
theorem hw_getB {post : Int64 → Prop} (v : SY) {r : Int32} (hr : r < 0 ∨ 6 ≤ r) (h : post 0) : wpY_get post v r := by
  obtain ⟨v0, v1, v2, v3, v4, v5⟩ := v
  have ne : ∀ c : Int32, 0 ≤ c → c < 6 → ¬ r = c := by
    intro c h1 h2 e
    subst e
    rw [Int32.le_iff_toInt_le] at h1
    rw [Int32.lt_iff_toInt_lt] at h2
    rw [Int32.lt_iff_toInt_lt, Int32.le_iff_toInt_le] at hr
    omega
  exact br_f (ne 0 (by decide) (by decide)) (br_f (ne 1 (by decide) (by decide)) (br_f (ne 2 (by decide) (by decide)) (br_f (ne 3 (by decide) (by decide)) (br_f (ne 4 (by decide) (by decide)) (br_f (ne 5 (by decide) (by decide)) h)))))
theorem hw_set {post : Int32 → SY → Prop} {u : Nat → Int64} {j : Nat} {x : Int64} (hj : j < 6) (h : post 1 (hw_S (vp_updL u j x))) : wpY_set post (u 0, u 1, u 2, u 3, u 4, u 5) (nI j) x := by
  have c : j = 0 ∨ j = 1 ∨ j = 2 ∨ j = 3 ∨ j = 4 ∨ j = 5 := by omega
  rcases c with rfl | rfl | rfl | rfl | rfl | rfl
  · exact hw_YG (hw_S u) hj (br_t rfl (br_f (by decide) (br_f (by decide) (br_f (by decide) (br_f (by decide) (br_f (by decide) (h)))))))
  · exact hw_YG (hw_S u) hj (br_f (by decide) (br_t rfl (br_f (by decide) (br_f (by decide) (br_f (by decide) (br_f (by decide) (h)))))))
  · exact hw_YG (hw_S u) hj (br_f (by decide) (br_f (by decide) (br_t rfl (br_f (by decide) (br_f (by decide) (br_f (by decide) (h)))))))
  · exact hw_YG (hw_S u) hj (br_f (by decide) (br_f (by decide) (br_f (by decide) (br_t rfl (br_f (by decide) (br_f (by decide) (h)))))))
  · exact hw_YG (hw_S u) hj (br_f (by decide) (br_f (by decide) (br_f (by decide) (br_f (by decide) (br_t rfl (br_f (by decide) (h)))))))
  · exact hw_YG (hw_S u) hj (br_f (by decide) (br_f (by decide) (br_f (by decide) (br_f (by decide) (br_f (by decide) (br_t rfl (h)))))))
end
section
/-! ===== unsigned numbers: below, order, quotient ===== -/
theorem hw_uln {n : Nat} (h : n < 18446744073709551616) : uN (lN n) = n := Nat.mod_eq_of_lt h
theorem hw_lun (x : Int64) : lN (uN x) = x := uN_inj (hw_uln (uN_lt x))
theorem hw_eq {x : Int64} {n : Nat} (h : uN x = n) : x = lN n := by rw [← h, hw_lun]
theorem hw_ti (x : Int64) : (uN x < 9223372036854775808 ∧ x.toInt = uN x) ∨ (9223372036854775808 ≤ uN x ∧ uN x < 18446744073709551616 ∧ x.toInt = (uN x : Int) - 18446744073709551616) := by
  have h := uN_int x
  have l := uN_lt x
  split at h <;> omega
theorem hw_z : (0 : Int64).toInt = 0 := by decide
theorem hw_u0 : uN 0 = 0 := by decide
theorem hw_u1 : uN 1 = 1 := by decide
theorem hw_uz (x : Int64) : x = 0 ↔ uN x = 0 := ⟨fun h => by rw [h]; exact hw_u0, fun h => uN_inj (h.trans hw_u0.symm)⟩
theorem hw_nn (x : Int64) : 0 ≤ x ↔ uN x < 9223372036854775808 := by
  rw [Int64.le_iff_toInt_le, hw_z]
  have := hw_ti x
  omega
theorem hw_sub (x y : Int64) : uN (x - y) = (uN x + 18446744073709551616 - uN y) % 18446744073709551616 := by
  have e : uN (x - y + y) = uN x := by rw [Int64.sub_add_cancel]
  rw [uN_add] at e
  have a := uN_lt x
  have b := uN_lt y
  have c := uN_lt (x - y)
  omega
theorem hw_below {post : Int32 → Prop} (v : SY) {a b : Int64} (h1 : uN a < uN b → post 1) (h0 : uN b ≤ uN a → post 0) : wpY_below post v a b := by
  obtain ⟨v0, v1, v2, v3, v4, v5⟩ := v
  have ha := hw_ti a
  have hb := hw_ti b
  have hl : (b ≤ a) ↔ b.toInt ≤ a.toInt := Int64.le_iff_toInt_le
  have h3 : (0 ≤ a) ↔ 0 ≤ a.toInt := Int64.le_iff_toInt_le
  have h4 : (0 ≤ b) ↔ 0 ≤ b.toInt := Int64.le_iff_toInt_le
  have h5 : (b < 0) ↔ b.toInt < 0 := Int64.lt_iff_toInt_lt
  refine br_c (fun z => br_c (fun z2 => h1 ?_) (fun z2 => br_c (fun z3 => h0 ?_) (fun z3 => h1 ?_))) (fun z => br_c (fun z2 => h0 ?_) (fun z2 => br_c (fun z3 => h0 ?_) (fun z3 => h1 ?_)))
  all_goals (first | rw [h3] at z | skip)
  all_goals (first | rw [h4] at z2 | rw [h5] at z2 | skip)
  all_goals (first | rw [hl] at z3 | skip)
  all_goals omega
theorem hw_uord {post : Int64 → Prop} {a b : Int64} (h1 : uN a < uN b → post (-1)) (h0 : uN a = uN b → post 0) (h2 : uN b < uN a → post 1) : wpX_unsignedOrder post a b := by
  have l1 := uN_le b a
  have l2 := uN_le a b
  refine br_c (fun z => br_c (fun z2 => h0 ?_) (fun z2 => h2 ?_)) (fun z => h1 ?_)
  · rw [l1] at z; rw [l2] at z2; omega
  · rw [l1] at z; rw [l2] at z2; omega
  · rw [l1] at z; omega
theorem hw_div {x y : Int64} (hx : uN x < 9223372036854775808) (hy : uN y < 9223372036854775808) (h0 : 0 < uN y) : uN (x / y) = uN x / uN y := by
  have e := pk_lDiv (a := uN x) (b := uN y) (by omega) h0 (by omega)
  rw [hw_lun, hw_lun] at e
  rw [e, hw_uln]
  exact Nat.lt_of_le_of_lt (Nat.div_le_self _ _) (by omega)
theorem hw_hq {A B k s : Nat} (hB : 0 < B) (h : B * k + s = A / 2) (hs : s < B) (hr : A - 2 * (B * k) < B) : A / B = 2 * k := by
  apply Nat.div_eq_of_lt_le
  · rw [show 2 * k * B = 2 * (B * k) by rw [Nat.mul_assoc, Nat.mul_comm k B]]; omega
  · rw [show (2 * k + 1) * B = 2 * (B * k) + B by rw [Nat.add_mul, Nat.mul_assoc, Nat.mul_comm k B, Nat.one_mul]]; omega
theorem hw_hq1 {A B k s : Nat} (hB : 0 < B) (h : B * k + s = A / 2) (hs : s < B) (hr : B ≤ A - 2 * (B * k)) : A / B = 2 * k + 1 := by
  apply Nat.div_eq_of_lt_le
  · rw [show (2 * k + 1) * B = 2 * (B * k) + B by rw [Nat.add_mul, Nat.mul_assoc, Nat.mul_comm k B, Nat.one_mul]]; omega
  · rw [show (2 * k + 1 + 1) * B = 2 * (B * k) + 2 * B by rw [Nat.add_mul, Nat.add_mul, Nat.mul_assoc, Nat.mul_comm k B, Nat.one_mul]; omega]; omega
theorem hw_uq {post : Int64 → Prop} {a b : Int64} (hb : uN b ≠ 0) (h : post (lN (uN a / uN b))) : wpX_unsignedQuotient post a b := by
  have la := uN_lt a
  have lb := uN_lt b
  refine br_c (fun z => ?_) (fun z => ?_)
  · rw [hw_nn] at z
    refine ⟨by rw [hw_uz]; exact hb, ?_⟩
    intro q eq r er
    have e1 : uN (a.toUInt64 >>> ((1 : Int32).toInt64.toUInt64 &&& Int64.toUInt64 63)).toInt64 = uN a / 2 := uN_sk a (k := 1) (by decide)
    have e2 : uN q = 2 * (uN a / 2 / uN b) := by
      rw [eq, uN_shl, hw_div (by omega) z (by omega), e1]
      have : uN a / 2 / uN b ≤ uN a / 2 := Nat.div_le_self _ _
      omega
    have dm := Nat.div_add_mod (uN a / 2) (uN b)
    have ml := Nat.mod_lt (uN a / 2) (Nat.pos_of_ne_zero hb)
    have e3 : uN r = uN a - 2 * (uN b * (uN a / 2 / uN b)) := by
      rw [er, hw_sub, uN_mul, e2, show 2 * (uN a / 2 / uN b) * uN b = 2 * (uN b * (uN a / 2 / uN b)) by rw [Nat.mul_assoc, Nat.mul_comm (uN a / 2 / uN b)]]
      omega
    have lo : uN r < uN b → q = lN (uN a / uN b) := fun hl => by
      rw [hw_hq (Nat.pos_of_ne_zero hb) dm ml (by omega)]
      exact hw_eq e2
    have hi : uN b ≤ uN r → q + 1 = lN (uN a / uN b) := fun hl => by
      rw [hw_hq1 (Nat.pos_of_ne_zero hb) dm ml (by omega)]
      apply hw_eq
      rw [uN_add, e2, hw_u1]
      have := Nat.div_le_self (uN a / 2) (uN b)
      omega
    refine hw_uord (fun hl => br_f (by decide) ?_) (fun hl => br_t (by decide) ?_) (fun hl => br_t (by decide) ?_)
    · rw [lo hl]; exact h
    · rw [hi (by omega)]; exact h
    · rw [hi (by omega)]; exact h
  · rw [hw_nn] at z
    have hi : uN b ≤ uN a → (1 : Int64) = lN (uN a / uN b) := fun hl => by
      rw [Nat.div_eq_of_lt_le (k := 1) (by omega) (by omega)]; rfl
    refine hw_uord (fun hl => br_f (by decide) ?_) (fun hl => br_t (by decide) ?_) (fun hl => br_t (by decide) ?_)
    · rw [Nat.div_eq_of_lt hl] at h; exact h
    · rw [hi (by omega)]; exact h
    · rw [hi (by omega)]; exact h
theorem hw_urem {a b : Int64} (hb : uN b ≠ 0) : a - lN (uN a / uN b) * b = lN (uN a % uN b) := by
  apply hw_eq
  have la := uN_lt a
  have q := Nat.div_le_self (uN a) (uN b)
  have dm := Nat.div_add_mod' (uN a) (uN b)
  have : uN a / uN b * uN b ≤ uN a := Nat.div_mul_le_self _ _
  rw [hw_sub, uN_mul, hw_uln (by omega)]
  omega
end
section
/-! ===== the reference's division, bit by bit ===== -/
theorem hw_a1 (x : Int64) : uN (x &&& 1) = uN x % 2 := by
  show (x.toUInt64 &&& Int64.toUInt64 1).toNat = _
  rw [UInt64.toNat_and]
  exact Nat.and_two_pow_sub_one_eq_mod _ 1
theorem hw_bit (x : Int64) {k : Nat} (hk : k < 64) : uN ((x.toUInt64 >>> ((nI k).toInt64.toUInt64 &&& Int64.toUInt64 63)).toInt64 &&& 1) = uN x / 2 ^ k % 2 := by rw [hw_a1, uN_sk x hk]
theorem hw_1sh {k : Nat} (hk : k < 64) : (1 : Int64) <<< ((nI k).toInt64 &&& 63) = lN (2 ^ k) := by
  have e := wb_shl 1 hk
  rw [Nat.one_mul] at e
  exact e
theorem hw_half (A k : Nat) : A / 2 ^ k = 2 * (A / 2 ^ (k + 1)) + A / 2 ^ k % 2 := by
  rw [Nat.pow_succ, ← Nat.div_div_eq_div_mul]; omega
theorem hw_setb {x : Int64} {Q k : Nat} (hk : k < 64) (h : uN x = Q * 2 ^ (k + 1)) : uN (x ||| lN (2 ^ k)) = (2 * Q + 1) * 2 ^ k := by
  have l : 2 ^ k < 2 ^ 64 := wb_lt2 hk
  have e : uN (x ||| lN (2 ^ k)) = uN x ||| uN (lN (2 ^ k)) := UInt64.toNat_or _ _
  rw [e, h, hw_uln (by omega), Nat.mul_comm Q, ← Nat.two_pow_add_eq_or_of_lt (wb_lt2 (Nat.lt_succ_self k)), Nat.pow_succ]
  grind
theorem hw_ds {M B t : Nat} (hB : 0 < B) (ht : t < 2) : (2 * (M % B) + t < B → (2 * M + t) / B = 2 * (M / B) ∧ (2 * M + t) % B = 2 * (M % B) + t) ∧ (B ≤ 2 * (M % B) + t → (2 * M + t) / B = 2 * (M / B) + 1 ∧ (2 * M + t) % B = 2 * (M % B) + t - B) := by
  have dm := Nat.div_add_mod M B
  have ml := Nat.mod_lt M hB
  have e : 2 * M + t = (2 * (M % B) + t) + B * (2 * (M / B)) := by
    have : B * (2 * (M / B)) = 2 * (B * (M / B)) := by rw [Nat.mul_left_comm]
    omega
  rw [e, Nat.add_mul_div_left _ _ hB, Nat.add_mul_mod_self_left]
  have hN : 2 * (M % B) + t < 2 * B := by omega
  generalize 2 * (M % B) + t = N at *
  constructor
  · intro h
    rw [Nat.div_eq_of_lt h, Nat.mod_eq_of_lt h]
    omega
  · intro h
    rw [Nat.div_eq_of_lt_le (k := 1) (by omega) (by omega), Nat.mod_eq_sub_mod h, Nat.mod_eq_of_lt (by omega)]
    omega
theorem hw_dl {post : Int64 → Prop} {a b : Int64} {p2 : Int32} (f0 f1 f2 f3 f4 f5 : Int64) (hB : 0 < uN b) (h0 : p2 = 0 → post (lN (uN a / uN b))) (h1 : ¬ p2 = 0 → post (lN (uN a % uN b))) : ∀ (m : Nat) (x6 x8 : Int64), m ≤ 64 → uN x6 = uN a / 2 ^ m / uN b * 2 ^ m → uN x8 = uN a / 2 ^ m % uN b → wY_divide_10 post a b p2 f0 f1 f2 f3 f4 f5 (m + 1) x6 x8 (nI m + (-1)) := by
  intro m
  induction m with
  | zero =>
    intro x6 x8 _ e6 e8
    rw [Nat.pow_zero, Nat.div_one, Nat.mul_one] at e6
    rw [Nat.pow_zero, Nat.div_one] at e8
    refine br_t (by decide) (br_c (fun z => ?_) (fun z => ?_))
    · rw [hw_eq e6]; exact h0 z
    · rw [hw_eq e8]; exact h1 z
  | succ k ih =>
    intro x6 x8 hm e6 e8
    rw [pk_m1]
    have hk : k < 64 := by omega
    have hf := hw_half (uN a) k
    have lb := uN_lt b
    have l8 : uN x8 < uN b := by rw [e8]; exact Nat.mod_lt _ hB
    obtain ⟨t, et⟩ : ∃ t, t = uN a / 2 ^ k % 2 := ⟨_, rfl⟩
    have ht : t < 2 := by omega
    rw [← et] at hf
    obtain ⟨d1, d2⟩ := hw_ds (M := uN a / 2 ^ (k + 1)) hB ht
    rw [← hf, ← e8] at d1 d2
    have ub : uN ((a.toUInt64 >>> ((nI k).toInt64.toUInt64 &&& Int64.toUInt64 63)).toInt64 &&& 1) = t := by rw [hw_bit a hk, et]
    have sub : ∀ y : Int64, uN b ≤ 2 * uN x8 + t → uN y = (2 * uN x8) % 18446744073709551616 + t → wY_divide_57 post (wY_divide_10 post a b p2 f0 f1 f2 f3 f4 f5 (k + 1)) a b p2 x6 y (nI k) f0 f1 f2 f3 f4 f5 := by
      intro y hy ey
      intro y8 e y6 e' y10 e''
      obtain ⟨q1, q2⟩ := d2 hy
      rw [e'', e', hw_1sh hk]
      refine ih _ _ (by omega) ?_ ?_
      · rw [hw_setb hk e6, q1]
      · rw [e, hw_sub, ey, q2]
        omega
    have skip : ∀ y : Int64, 2 * uN x8 + t < uN b → uN y = 2 * uN x8 + t → wY_divide_10 post a b p2 f0 f1 f2 f3 f4 f5 (k + 1) x6 y (nI k + (-1)) := by
      intro y hy ey
      obtain ⟨q1, q2⟩ := d1 hy
      refine ih _ _ (by omega) ?_ ?_
      · rw [e6, q1, Nat.pow_succ]; grind
      · rw [ey, q2]
    refine br_f (nI_pos (by omega)) (br_c (fun z => ?_) (fun z => ?_))
    · rw [hw_nn] at z
      intro y ey
      have uy : uN y = (2 * uN x8) % 18446744073709551616 + t := by rw [ey, uN_or (by rw [ub]; exact ht), ub]
      refine br_t rfl (hw_below (f0, f1, f2, f3, f4, f5) (fun hl => br_f (by decide) ?_) (fun hl => br_t rfl (sub y (by omega) uy)))
      intro w ew
      rw [ew]
      exact skip y (by omega) (by omega)
    · rw [hw_nn] at z
      intro y ey
      have uy : uN y = (2 * uN x8) % 18446744073709551616 + t := by rw [ey, uN_or (by rw [ub]; exact ht), ub]
      exact br_f (by decide) (sub y (by omega) uy)
theorem hw_ydiv {post : Int64 → Prop} (v : SY) {a b : Int64} {p2 : Int32} (hb : uN b ≠ 0) (h0 : p2 = 0 → post (lN (uN a / uN b))) (h1 : ¬ p2 = 0 → post (lN (uN a % uN b))) : wpY_divide post v a b p2 := by
  obtain ⟨f0, f1, f2, f3, f4, f5⟩ := v
  have la := uN_lt a
  have z : uN a / 2 ^ 64 = 0 := Nat.div_eq_of_lt la
  refine ⟨65, ?_⟩
  refine hw_dl f0 f1 f2 f3 f4 f5 (Nat.pos_of_ne_zero hb) h0 h1 64 0 0 (by omega) ?_ ?_
  · rw [z, Nat.zero_div, Nat.zero_mul]; rfl
  · rw [z, Nat.zero_mod]; rfl
end
section
/-! ===== root, leadingZeros, power ===== -/
theorem hw_root (x0 : Int64) : ∀ (m : Nat) (x2 : Int64), m ≤ 64 → ∃ r : Int64, (∀ post : Int64 → Prop, post r → wX_squareRoot_6 post x0 (m + 1) x2 (nI m + (-1))) ∧ (∀ (post : Int32 → SY → Prop) (u : Nat → Int64) (d : Nat), d < 6 → post 1 (hw_S (vp_updL u d r)) → wY_root_40 post (nI d) x0 (u 0) (u 1) (u 2) (u 3) (u 4) (u 5) (m + 1) x2 (nI m + (-1))) := by
  intro m
  induction m with
  | zero =>
    intro x2 _
    exact ⟨x2, fun post h => br_t (by decide) h, fun post u d hd h => br_t (by decide) (hw_set (u := u) hd h)⟩
  | succ k ih =>
    intro x2 hm
    rw [pk_m1]
    have p : ¬ nI k < 0 := nI_pos (by omega)
    by_cases c1 : 3037000499 < x2 ||| ((1 : Int64) <<< ((nI k).toInt64 &&& 63))
    · obtain ⟨r, hX, hY⟩ := ih x2 (by omega)
      exact ⟨r, fun post h => br_f p (nm_e (br_t c1 (nm_e (hX post h)))), fun post u d hd h => br_f p (nm_e (br_t c1 (nm_e (hY post u d hd h))))⟩
    · by_cases c2 : x0 < (x2 ||| ((1 : Int64) <<< ((nI k).toInt64 &&& 63))) * (x2 ||| ((1 : Int64) <<< ((nI k).toInt64 &&& 63)))
      · obtain ⟨r, hX, hY⟩ := ih x2 (by omega)
        exact ⟨r, fun post h => br_f p (nm_e (br_f c1 (br_t c2 (nm_e (hX post h))))), fun post u d hd h => br_f p (nm_e (br_f c1 (br_t c2 (nm_e (hY post u d hd h)))))⟩
      · obtain ⟨r, hX, hY⟩ := ih (x2 ||| ((1 : Int64) <<< ((nI k).toInt64 &&& 63))) (by omega)
        exact ⟨r, fun post h => br_f p (nm_e (br_f c1 (br_f c2 (nm_e (hX post h))))), fun post u d hd h => br_f p (nm_e (br_f c1 (br_f c2 (nm_e (hY post u d hd h)))))⟩
theorem hw_lz (x : Int64) (f0 f1 f2 f3 f4 f5 : Int64) (a : Nat → Int64) : ∀ m : Nat, m ≤ 64 → uN x < 2 ^ m → ∃ r : Int32, (∀ post : Int32 → Prop, post r → wX_leadingZeros_19 post x a (m + 1) (nI (64 - m))) ∧ (∀ post : Int32 → Prop, post r → wY_leadingZeros_23 post x f0 f1 f2 f3 f4 f5 (m + 1) (nI (64 - m)) (nI m + (-1))) := by
  intro m
  induction m with
  | zero =>
    intro _ _
    exact ⟨nI 64, fun post h => br_t (by decide) h, fun post h => br_t (by decide) h⟩
  | succ k ih =>
    intro hm hx
    rw [pk_m1]
    have hk : k < 64 := by omega
    have p : ¬ nI k < 0 := nI_pos (by omega)
    have q : ¬ 64 ≤ nI (64 - (k + 1)) := nI_ge (b := 64) (by omega) (by decide)
    have e : (63 : Int32) - nI (64 - (k + 1)) = nI k := by
      have := pk_sub (a := 63) (b := 64 - (k + 1)) (by omega)
      rw [show 63 - (64 - (k + 1)) = k by omega] at this
      exact this
    have us : uN (x.toUInt64 >>> ((nI k).toInt64.toUInt64 &&& Int64.toUInt64 63)).toInt64 = uN x / 2 ^ k := uN_sk x hk
    have ub := hw_bit x hk
    have l2 : uN x / 2 ^ k < 2 := by
      rw [Nat.div_lt_iff_lt_mul (Nat.two_pow_pos k)]
      rw [Nat.pow_succ] at hx
      omega
    by_cases c : uN x < 2 ^ k
    · obtain ⟨r, hX, hY⟩ := ih (by omega) c
      have z : uN x / 2 ^ k = 0 := Nat.div_eq_of_lt c
      have n1 : nI (64 - (k + 1)) + 1 = nI (64 - k) := by rw [nI_1]; congr 1; omega
      refine ⟨r, fun post h => br_f q (br_t ?_ (nm_r n1 (hX post h))), fun post h => br_f p (br_f ?_ (nm_r n1 (nm_e (hY post h))))⟩
      · rw [e, hw_uz, us, z]
      · intro w
        have := congrArg uN w
        rw [ub, z, hw_u1] at this
        omega
    · have z : uN x / 2 ^ k ≠ 0 := by
        intro w
        have := Nat.lt_of_div_eq_zero (Nat.two_pow_pos k) w
        omega
      refine ⟨nI (64 - (k + 1)), fun post h => br_f q (br_f ?_ h), fun post h => br_f p (br_t ?_ h)⟩
      · rw [e, hw_uz, us]; exact z
      · apply uN_inj
        rw [ub, hw_u1]
        omega
def hw_pw (b : Int64) : Nat → Int64
  | 0 => 1
  | n + 1 => hw_pw b n * b
theorem hw_pw2 (b : Int64) : ∀ n : Nat, hw_pw b (2 * n) = hw_pw (b * b) n
  | 0 => rfl
  | n + 1 => by
    have ih := hw_pw2 b n
    rw [show 2 * (n + 1) = 2 * n + 1 + 1 by omega]
    show hw_pw b (2 * n) * b * b = hw_pw (b * b) n * (b * b)
    rw [ih, Int64.mul_assoc]
theorem hw_pwa (b : Int64) : ∀ n m : Nat, hw_pw b (n + m) = hw_pw b n * hw_pw b m
  | n, 0 => by
    show hw_pw b n = hw_pw b n * 1
    rw [Int64.mul_one]
  | n, m + 1 => by
    show hw_pw b (n + m) * b = hw_pw b n * (hw_pw b m * b)
    rw [hw_pwa b n m, Int64.mul_assoc]
theorem hw_raise {post : Int64 → Prop} (e : Int64) : ∀ (m i : Nat) (p s : Int64), i + m = 64 → post (p * hw_pw s (uN e / 2 ^ i)) → wX_raise_9 post e (m + 1) p s (nI i) := by
  intro m
  induction m with
  | zero =>
    intro i p s hi h
    have : i = 64 := by omega
    subst this
    have z : uN e / 2 ^ 64 = 0 := Nat.div_eq_of_lt (uN_lt e)
    rw [z] at h
    have h : post (p * 1) := h
    rw [Int64.mul_one] at h
    exact br_t (by decide) h
  | succ m ih =>
    intro i p s hi h
    have hk : i < 64 := by omega
    have q : ¬ 64 ≤ nI i := nI_ge (b := 64) (by omega) (by decide)
    have hf := hw_half (uN e) i
    have ub := hw_bit e hk
    have c : uN e / 2 ^ i % 2 = 0 ∨ uN e / 2 ^ i % 2 = 1 := by omega
    rcases c with c | c
    · rw [c, Nat.add_zero] at hf
      rw [hf, hw_pw2] at h
      refine br_f q (br_t ?_ (nm_e (nm_r (nI_1 i) (ih (i + 1) p (s * s) (by omega) h))))
      rw [hw_uz, ub, c]
    · rw [c] at hf
      rw [hf] at h
      have h : post (p * (hw_pw s (2 * (uN e / 2 ^ (i + 1))) * s)) := h
      rw [hw_pw2, Int64.mul_comm (hw_pw (s * s) _) s, ← Int64.mul_assoc] at h
      refine br_f q (br_f ?_ (nm_e (nm_e (nm_r (nI_1 i) (ih (i + 1) (p * s) (s * s) (by omega) h)))))
      rw [hw_uz, ub, c]
      decide
theorem hw_ypow {post : Int32 → SY → Prop} {u : Nat → Int64} {d : Nat} (hd : d < 6) (b e : Int64) (h : post 1 (hw_S (vp_updL u d (hw_pw b (uN e))))) : ∀ (m : Nat) (x : Int64), m ≤ 64 → x = hw_pw b (uN e / 2 ^ m) → wY_power_47 post (nI d) b e (u 0) (u 1) (u 2) (u 3) (u 4) (u 5) (m + 1) x (nI m + (-1)) := by
  intro m
  induction m with
  | zero =>
    intro x _ ex
    rw [Nat.pow_zero, Nat.div_one] at ex
    rw [ex]
    exact br_t (by decide) (hw_set (u := u) hd h)
  | succ k ih =>
    intro x hm ex
    rw [pk_m1]
    have hk : k < 64 := by omega
    have p : ¬ nI k < 0 := nI_pos (by omega)
    have hf := hw_half (uN e) k
    have ub := hw_bit e hk
    have sq : x * x = hw_pw b (2 * (uN e / 2 ^ (k + 1))) := by rw [ex, Nat.two_mul, hw_pwa]
    have c : uN e / 2 ^ k % 2 = 0 ∨ uN e / 2 ^ k % 2 = 1 := by omega
    rcases c with c | c
    · rw [c, Nat.add_zero] at hf
      refine br_f p (nm_e (br_f ?_ (nm_e (ih (x * x) (by omega) ?_))))
      · intro w
        have := congrArg uN w
        rw [ub, c, hw_u1] at this
        omega
      · rw [hf]; exact sq
    · rw [c] at hf
      refine br_f p (nm_e (br_t ?_ (nm_e (nm_e (ih (x * x * b) (by omega) ?_)))))
      · apply uN_inj
        rw [ub, c, hw_u1]
      · rw [hf, sq]; rfl
end
