/-! ===== unsigned numbers: below, order, quotient ===== -/
theorem hw_uln {n : Nat} (h : n < 18446744073709551616) : uN (lN n) = n := Nat.mod_eq_of_lt h
theorem hw_lun (x : Int64) : lN (uN x) = x := uN_inj (hw_uln (uN_lt x))
theorem hw_eq {x : Int64} {n : Nat} (h : uN x = n) : x = lN n := by rw [← h, hw_lun]
theorem hw_ti (x : Int64) : (uN x < 9223372036854775808 ∧ x.toInt = uN x) ∨ (9223372036854775808 ≤ uN x ∧ uN x < 18446744073709551616 ∧ x.toInt = (uN x : Int) - 18446744073709551616) := by
  have h := uN_int x
  have l := uN_lt x
  split at h <;> omega
theorem hw_z : (0 : Int64).toInt = 0 := by decide
theorem hw_u0 : uN 0 = 0 := by decide
theorem hw_u1 : uN 1 = 1 := by decide
theorem hw_uz (x : Int64) : x = 0 ↔ uN x = 0 := ⟨fun h => by rw [h]; exact hw_u0, fun h => uN_inj (h.trans hw_u0.symm)⟩
theorem hw_nn (x : Int64) : 0 ≤ x ↔ uN x < 9223372036854775808 := by
  rw [Int64.le_iff_toInt_le, hw_z]
  have := hw_ti x
  omega
theorem hw_sub (x y : Int64) : uN (x - y) = (uN x + 18446744073709551616 - uN y) % 18446744073709551616 := by
  have e : uN (x - y + y) = uN x := by rw [Int64.sub_add_cancel]
  rw [uN_add] at e
  have a := uN_lt x
  have b := uN_lt y
  have c := uN_lt (x - y)
  omega
theorem hw_below {post : Int32 → Prop} (v : SY) {a b : Int64} (h1 : uN a < uN b → post 1) (h0 : uN b ≤ uN a → post 0) : wpY_below post v a b := by
  obtain ⟨v0, v1, v2, v3, v4, v5⟩ := v
  have ha := hw_ti a
  have hb := hw_ti b
  have hl : (b ≤ a) ↔ b.toInt ≤ a.toInt := Int64.le_iff_toInt_le
  have h3 : (0 ≤ a) ↔ 0 ≤ a.toInt := Int64.le_iff_toInt_le
  have h4 : (0 ≤ b) ↔ 0 ≤ b.toInt := Int64.le_iff_toInt_le
  have h5 : (b < 0) ↔ b.toInt < 0 := Int64.lt_iff_toInt_lt
  refine br_c (fun z => br_c (fun z2 => h1 ?_) (fun z2 => br_c (fun z3 => h0 ?_) (fun z3 => h1 ?_))) (fun z => br_c (fun z2 => h0 ?_) (fun z2 => br_c (fun z3 => h0 ?_) (fun z3 => h1 ?_)))
  all_goals (first | rw [h3] at z | skip)
  all_goals (first | rw [h4] at z2 | rw [h5] at z2 | skip)
  all_goals (first | rw [hl] at z3 | skip)
  all_goals omega
theorem hw_uord {post : Int64 → Prop} {a b : Int64} (h1 : uN a < uN b → post (-1)) (h0 : uN a = uN b → post 0) (h2 : uN b < uN a → post 1) : wpX_unsignedOrder post a b := by
  have l1 := uN_le b a
  have l2 := uN_le a b
  refine br_c (fun z => br_c (fun z2 => h0 ?_) (fun z2 => h2 ?_)) (fun z => h1 ?_)
  · rw [l1] at z; rw [l2] at z2; omega
  · rw [l1] at z; rw [l2] at z2; omega
  · rw [l1] at z; omega
theorem hw_div {x y : Int64} (hx : uN x < 9223372036854775808) (hy : uN y < 9223372036854775808) (h0 : 0 < uN y) : uN (x / y) = uN x / uN y := by
  have e := pk_lDiv (a := uN x) (b := uN y) (by omega) h0 (by omega)
  rw [hw_lun, hw_lun] at e
  rw [e, hw_uln]
  exact Nat.lt_of_le_of_lt (Nat.div_le_self _ _) (by omega)
theorem hw_hq {A B k s : Nat} (hB : 0 < B) (h : B * k + s = A / 2) (hs : s < B) (hr : A - 2 * (B * k) < B) : A / B = 2 * k := by
  apply Nat.div_eq_of_lt_le
  · rw [show 2 * k * B = 2 * (B * k) by rw [Nat.mul_assoc, Nat.mul_comm k B]]; omega
  · rw [show (2 * k + 1) * B = 2 * (B * k) + B by rw [Nat.add_mul, Nat.mul_assoc, Nat.mul_comm k B, Nat.one_mul]]; omega
theorem hw_hq1 {A B k s : Nat} (hB : 0 < B) (h : B * k + s = A / 2) (hs : s < B) (hr : B ≤ A - 2 * (B * k)) : A / B = 2 * k + 1 := by
  apply Nat.div_eq_of_lt_le
  · rw [show (2 * k + 1) * B = 2 * (B * k) + B by rw [Nat.add_mul, Nat.mul_assoc, Nat.mul_comm k B, Nat.one_mul]]; omega
  · rw [show (2 * k + 1 + 1) * B = 2 * (B * k) + 2 * B by rw [Nat.add_mul, Nat.add_mul, Nat.mul_assoc, Nat.mul_comm k B, Nat.one_mul]; omega]; omega
theorem hw_uq {post : Int64 → Prop} {a b : Int64} (hb : uN b ≠ 0) (h : post (lN (uN a / uN b))) : wpX_unsignedQuotient post a b := by
  have la := uN_lt a
  have lb := uN_lt b
  refine br_c (fun z => ?_) (fun z => ?_)
  · rw [hw_nn] at z
    refine ⟨by rw [hw_uz]; exact hb, ?_⟩
    intro q eq r er
    have e1 : uN (a.toUInt64 >>> ((1 : Int32).toInt64.toUInt64 &&& Int64.toUInt64 63)).toInt64 = uN a / 2 := uN_sk a (k := 1) (by decide)
    have e2 : uN q = 2 * (uN a / 2 / uN b) := by
      rw [eq, uN_shl, hw_div (by omega) z (by omega), e1]
      have : uN a / 2 / uN b ≤ uN a / 2 := Nat.div_le_self _ _
      omega
    have dm := Nat.div_add_mod (uN a / 2) (uN b)
    have ml := Nat.mod_lt (uN a / 2) (Nat.pos_of_ne_zero hb)
    have e3 : uN r = uN a - 2 * (uN b * (uN a / 2 / uN b)) := by
      rw [er, hw_sub, uN_mul, e2, show 2 * (uN a / 2 / uN b) * uN b = 2 * (uN b * (uN a / 2 / uN b)) by rw [Nat.mul_assoc, Nat.mul_comm (uN a / 2 / uN b)]]
      omega
    have lo : uN r < uN b → q = lN (uN a / uN b) := fun hl => by
      rw [hw_hq (Nat.pos_of_ne_zero hb) dm ml (by omega)]
      exact hw_eq e2
    have hi : uN b ≤ uN r → q + 1 = lN (uN a / uN b) := fun hl => by
      rw [hw_hq1 (Nat.pos_of_ne_zero hb) dm ml (by omega)]
      apply hw_eq
      rw [uN_add, e2, hw_u1]
      have := Nat.div_le_self (uN a / 2) (uN b)
      omega
    refine hw_uord (fun hl => br_f (by decide) ?_) (fun hl => br_t (by decide) ?_) (fun hl => br_t (by decide) ?_)
    · rw [lo hl]; exact h
    · rw [hi (by omega)]; exact h
    · rw [hi (by omega)]; exact h
  · rw [hw_nn] at z
    have hi : uN b ≤ uN a → (1 : Int64) = lN (uN a / uN b) := fun hl => by
      rw [Nat.div_eq_of_lt_le (k := 1) (by omega) (by omega)]; rfl
    refine hw_uord (fun hl => br_f (by decide) ?_) (fun hl => br_t (by decide) ?_) (fun hl => br_t (by decide) ?_)
    · rw [Nat.div_eq_of_lt hl] at h; exact h
    · rw [hi (by omega)]; exact h
    · rw [hi (by omega)]; exact h
theorem hw_urem {a b : Int64} (hb : uN b ≠ 0) : a - lN (uN a / uN b) * b = lN (uN a % uN b) := by
  apply hw_eq
  have la := uN_lt a
  have q := Nat.div_le_self (uN a) (uN b)
  have dm := Nat.div_add_mod' (uN a) (uN b)
  have : uN a / uN b * uN b ≤ uN a := Nat.div_mul_le_self _ _
  rw [hw_sub, uN_mul, hw_uln (by omega)]
  omega
