/-! ===== the reference's division, bit by bit ===== -/
theorem hw_a1 (x : Int64) : uN (x &&& 1) = uN x % 2 := by
  show (x.toUInt64 &&& Int64.toUInt64 1).toNat = _
  rw [UInt64.toNat_and]
  exact Nat.and_two_pow_sub_one_eq_mod _ 1
theorem hw_bit (x : Int64) {k : Nat} (hk : k < 64) : uN ((x.toUInt64 >>> ((nI k).toInt64.toUInt64 &&& Int64.toUInt64 63)).toInt64 &&& 1) = uN x / 2 ^ k % 2 := by rw [hw_a1, uN_sk x hk]
theorem hw_1sh {k : Nat} (hk : k < 64) : (1 : Int64) <<< ((nI k).toInt64 &&& 63) = lN (2 ^ k) := by
  have e := wb_shl 1 hk
  rw [Nat.one_mul] at e
  exact e
theorem hw_half (A k : Nat) : A / 2 ^ k = 2 * (A / 2 ^ (k + 1)) + A / 2 ^ k % 2 := by
  rw [Nat.pow_succ, ← Nat.div_div_eq_div_mul]; omega
theorem hw_setb {x : Int64} {Q k : Nat} (hk : k < 64) (h : uN x = Q * 2 ^ (k + 1)) : uN (x ||| lN (2 ^ k)) = (2 * Q + 1) * 2 ^ k := by
  have l : 2 ^ k < 2 ^ 64 := wb_lt2 hk
  have e : uN (x ||| lN (2 ^ k)) = uN x ||| uN (lN (2 ^ k)) := UInt64.toNat_or _ _
  rw [e, h, hw_uln (by omega), Nat.mul_comm Q, ← Nat.two_pow_add_eq_or_of_lt (wb_lt2 (Nat.lt_succ_self k)), Nat.pow_succ]
  grind
theorem hw_ds {M B t : Nat} (hB : 0 < B) (ht : t < 2) : (2 * (M % B) + t < B → (2 * M + t) / B = 2 * (M / B) ∧ (2 * M + t) % B = 2 * (M % B) + t) ∧ (B ≤ 2 * (M % B) + t → (2 * M + t) / B = 2 * (M / B) + 1 ∧ (2 * M + t) % B = 2 * (M % B) + t - B) := by
  have dm := Nat.div_add_mod M B
  have ml := Nat.mod_lt M hB
  have e : 2 * M + t = (2 * (M % B) + t) + B * (2 * (M / B)) := by
    have : B * (2 * (M / B)) = 2 * (B * (M / B)) := by rw [Nat.mul_left_comm]
    omega
  rw [e, Nat.add_mul_div_left _ _ hB, Nat.add_mul_mod_self_left]
  have hN : 2 * (M % B) + t < 2 * B := by omega
  generalize 2 * (M % B) + t = N at *
  constructor
  · intro h
    rw [Nat.div_eq_of_lt h, Nat.mod_eq_of_lt h]
    omega
  · intro h
    rw [Nat.div_eq_of_lt_le (k := 1) (by omega) (by omega), Nat.mod_eq_sub_mod h, Nat.mod_eq_of_lt (by omega)]
    omega
theorem hw_dl {post : Int64 → Prop} {a b : Int64} {p2 : Int32} (f0 f1 f2 f3 f4 f5 : Int64) (hB : 0 < uN b) (h0 : p2 = 0 → post (lN (uN a / uN b))) (h1 : ¬ p2 = 0 → post (lN (uN a % uN b))) : ∀ (m : Nat) (x6 x8 : Int64), m ≤ 64 → uN x6 = uN a / 2 ^ m / uN b * 2 ^ m → uN x8 = uN a / 2 ^ m % uN b → wY_divide_10 post a b p2 f0 f1 f2 f3 f4 f5 (m + 1) x6 x8 (nI m + (-1)) := by
  intro m
  induction m with
  | zero =>
    intro x6 x8 _ e6 e8
    rw [Nat.pow_zero, Nat.div_one, Nat.mul_one] at e6
    rw [Nat.pow_zero, Nat.div_one] at e8
    refine br_t (by decide) (br_c (fun z => ?_) (fun z => ?_))
    · rw [hw_eq e6]; exact h0 z
    · rw [hw_eq e8]; exact h1 z
  | succ k ih =>
    intro x6 x8 hm e6 e8
    rw [pk_m1]
    have hk : k < 64 := by omega
    have hf := hw_half (uN a) k
    have lb := uN_lt b
    have l8 : uN x8 < uN b := by rw [e8]; exact Nat.mod_lt _ hB
    obtain ⟨t, et⟩ : ∃ t, t = uN a / 2 ^ k % 2 := ⟨_, rfl⟩
    have ht : t < 2 := by omega
    rw [← et] at hf
    obtain ⟨d1, d2⟩ := hw_ds (M := uN a / 2 ^ (k + 1)) hB ht
    rw [← hf, ← e8] at d1 d2
    have ub : uN ((a.toUInt64 >>> ((nI k).toInt64.toUInt64 &&& Int64.toUInt64 63)).toInt64 &&& 1) = t := by rw [hw_bit a hk, et]
    have sub : ∀ y : Int64, uN b ≤ 2 * uN x8 + t → uN y = (2 * uN x8) % 18446744073709551616 + t → wY_divide_57 post (wY_divide_10 post a b p2 f0 f1 f2 f3 f4 f5 (k + 1)) a b p2 x6 y (nI k) f0 f1 f2 f3 f4 f5 := by
      intro y hy ey
      intro y8 e y6 e' y10 e''
      obtain ⟨q1, q2⟩ := d2 hy
      rw [e'', e', hw_1sh hk]
      refine ih _ _ (by omega) ?_ ?_
      · rw [hw_setb hk e6, q1]
      · rw [e, hw_sub, ey, q2]
        omega
    have skip : ∀ y : Int64, 2 * uN x8 + t < uN b → uN y = 2 * uN x8 + t → wY_divide_10 post a b p2 f0 f1 f2 f3 f4 f5 (k + 1) x6 y (nI k + (-1)) := by
      intro y hy ey
      obtain ⟨q1, q2⟩ := d1 hy
      refine ih _ _ (by omega) ?_ ?_
      · rw [e6, q1, Nat.pow_succ]; grind
      · rw [ey, q2]
    refine br_f (nI_pos (by omega)) (br_c (fun z => ?_) (fun z => ?_))
    · rw [hw_nn] at z
      intro y ey
      have uy : uN y = (2 * uN x8) % 18446744073709551616 + t := by rw [ey, uN_or (by rw [ub]; exact ht), ub]
      refine br_t rfl (hw_below (f0, f1, f2, f3, f4, f5) (fun hl => br_f (by decide) ?_) (fun hl => br_t rfl (sub y (by omega) uy)))
      intro w ew
      rw [ew]
      exact skip y (by omega) (by omega)
    · rw [hw_nn] at z
      intro y ey
      have uy : uN y = (2 * uN x8) % 18446744073709551616 + t := by rw [ey, uN_or (by rw [ub]; exact ht), ub]
      exact br_f (by decide) (sub y (by omega) uy)
theorem hw_ydiv {post : Int64 → Prop} (v : SY) {a b : Int64} {p2 : Int32} (hb : uN b ≠ 0) (h0 : p2 = 0 → post (lN (uN a / uN b))) (h1 : ¬ p2 = 0 → post (lN (uN a % uN b))) : wpY_divide post v a b p2 := by
  obtain ⟨f0, f1, f2, f3, f4, f5⟩ := v
  have la := uN_lt a
  have z : uN a / 2 ^ 64 = 0 := Nat.div_eq_of_lt la
  refine ⟨65, ?_⟩
  refine hw_dl f0 f1 f2 f3 f4 f5 (Nat.pos_of_ne_zero hb) h0 h1 64 0 0 (by omega) ?_ ?_
  · rw [z, Nat.zero_div, Nat.zero_mul]; rfl
  · rw [z, Nat.zero_mod]; rfl
