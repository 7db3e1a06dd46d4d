/-! ===== the upper half of a product ===== -/
theorem hw_sar (x : Int64) : (x >>> ((32 : Int32).toInt64 &&& 63)).toInt = x.toInt / 4294967296 := by
  have hD : (((32 : Int32).toInt64 &&& 63).toBitVec.smod 64).toNat = 32 := by decide
  show (x.toBitVec.sshiftRight (((32 : Int32).toInt64 &&& 63).toBitVec.smod 64).toNat).toInt = _
  rw [hD, BitVec.toInt_sshiftRight, Int.shiftRight_eq_div_pow]
  rfl
theorem hw_low (x : Int64) : (x &&& 4294967295).toInt = x.toInt % 4294967296 := by
  have a := hw_ti x
  have b := hw_ti (x &&& 4294967295)
  rw [uN_lo] at b
  omega
theorem hw_pb {x y : Int} (hx : -2147483648 ≤ x) (hx2 : x ≤ 2147483647) (hy : 0 ≤ y) (hy2 : y ≤ 4294967295) : -9223372034707292160 ≤ x * y ∧ x * y ≤ 9223372030412324865 := by
  have a := Int.mul_le_mul_of_nonneg_right hx hy
  have b := Int.mul_le_mul_of_nonneg_right hx2 hy
  omega
theorem hw_ring (p q r s : Int) : (p * 4294967296 + q) * (r * 4294967296 + s) = p * r * 18446744073709551616 + (p * s + q * r) * 4294967296 + q * s := by
  grind
theorem hw_upN (p1 p2 p3 p4 m n : Int) (hm : m = p2 + p4 / 4294967296) (hn : n = p3 + m % 4294967296) : (p1 * 18446744073709551616 + (p2 + p3) * 4294967296 + p4) / 18446744073709551616 = p1 + m / 4294967296 + n / 4294967296 := by
  omega
theorem hw_xup {post : Int64 → Prop} {a b : Int64} (h : post (Int64.ofInt (a.toInt * b.toInt / 18446744073709551616))) : wpX_upperProduct post a b := by
  intro x4 e4 x6 e6 x8 e8 x10 e10 x12 e12 x14 e14 x16 e16
  have la := hw_ti a
  have lb := hw_ti b
  have t4 : x4.toInt = a.toInt / 4294967296 := by rw [e4]; exact hw_sar a
  have t8 : x8.toInt = b.toInt / 4294967296 := by rw [e8]; exact hw_sar b
  have t6 : x6.toInt = a.toInt % 4294967296 := by rw [e6]; exact hw_low a
  have t10 : x10.toInt = b.toInt % 4294967296 := by rw [e10]; exact hw_low b
  have u6 : uN x6 < 4294967296 := by rw [e6, uN_lo]; omega
  have u10 : uN x10 < 4294967296 := by rw [e10, uN_lo]; omega
  have s6 := hw_ti x6
  have s10 := hw_ti x10
  have t12 : x12.toInt = x6.toInt * x10.toInt / 4294967296 := by
    have u : uN x6 * uN x10 ≤ 4294967295 * 4294967295 := Nat.mul_le_mul (by omega) (by omega)
    have e : uN x12 = uN x6 * uN x10 / 4294967296 := by
      rw [e12, uN_s32, uN_mul, Nat.mod_eq_of_lt (by omega)]
    have v6 : x6.toInt = (uN x6 : Int) := by omega
    have v10 : x10.toInt = (uN x10 : Int) := by omega
    have s12 := hw_ti x12
    rw [v6, v10, ← Int.natCast_mul]
    omega
  have b1 := hw_pb (x := x4.toInt) (y := x10.toInt) (by omega) (by omega) (by omega) (by omega)
  have b2 := hw_pb (x := x8.toInt) (y := x6.toInt) (by omega) (by omega) (by omega) (by omega)
  rw [Int.mul_comm] at b2
  have b3 : 0 ≤ x12.toInt ∧ x12.toInt ≤ 4294967295 := by
    have s12 := hw_ti x12
    have : uN x12 < 4294967296 := by
      have l := uN_lt (x6 * x10)
      rw [e12, uN_s32]
      omega
    omega
  have t14 : x14.toInt = x4.toInt * x10.toInt + x12.toInt := by
    have e : x14 = Int64.ofInt (x4.toInt * x10.toInt + x12.toInt) := by
      rw [Int64.ofInt_add, Int64.ofInt_mul, Int64.ofInt_toInt, Int64.ofInt_toInt, Int64.ofInt_toInt]; exact e14
    rw [e, Int64.toInt_ofInt_of_le (by omega) (by omega)]
  have t16 : x16.toInt = x6.toInt * x8.toInt + x14.toInt % 4294967296 := by
    have e : x16 = Int64.ofInt (x6.toInt * x8.toInt + x14.toInt % 4294967296) := by
      rw [Int64.ofInt_add, Int64.ofInt_mul, Int64.ofInt_toInt, Int64.ofInt_toInt, ← hw_low, Int64.ofInt_toInt]; exact e16
    rw [e, Int64.toInt_ofInt_of_le (by omega) (by omega)]
  have fin : x4 * x8 + (x14 >>> ((32 : Int32).toInt64 &&& 63)) + (x16 >>> ((32 : Int32).toInt64 &&& 63)) = Int64.ofInt (x4.toInt * x8.toInt + x14.toInt / 4294967296 + x16.toInt / 4294967296) := by
    rw [Int64.ofInt_add, Int64.ofInt_add, Int64.ofInt_mul, Int64.ofInt_toInt, Int64.ofInt_toInt, ← hw_sar, ← hw_sar, Int64.ofInt_toInt, Int64.ofInt_toInt]
  have ea : a.toInt = x4.toInt * 4294967296 + x6.toInt := by omega
  have eb : b.toInt = x8.toInt * 4294967296 + x10.toInt := by omega
  have ep : a.toInt * b.toInt / 18446744073709551616 = x4.toInt * x8.toInt + x14.toInt / 4294967296 + x16.toInt / 4294967296 := by
    rw [ea, eb, hw_ring]
    exact hw_upN _ _ _ _ _ _ (by rw [t14, t12]) (by rw [t16])
  rw [ep, ← fin] at h
  exact h
theorem hw_so {x y : Int64} (hy : uN y < 2) : (x <<< ((1 : Int32).toInt64 &&& 63)) ||| y = x + x + y := by
  apply uN_inj
  rw [uN_or hy, uN_add, uN_add]
  have := uN_lt x
  omega
theorem hw_ib (b : Int64) {k : Nat} (hk : k < 64) : b.toInt / 2 ^ k = 2 * (b.toInt / 2 ^ (k + 1)) + ((uN b / 2 ^ k % 2 : Nat) : Int) := by
  have e1 : b.toInt / 2 ^ (k + 1) = b.toInt / 2 ^ k / 2 := by
    rw [Int.pow_succ, Int.ediv_ediv_of_nonneg (Int.pow_nonneg (by decide))]
  have e2 : ((uN b / 2 ^ k : Nat) : Int) = (uN b : Int) / 2 ^ k := by
    rw [Int.natCast_ediv]
    congr 1
  have e3 : ∃ z : Int, b.toInt / 2 ^ k = (uN b : Int) / 2 ^ k + 2 * z := by
    rcases hw_ti b with ⟨_, h⟩ | ⟨_, _, h⟩
    · exact ⟨0, by rw [h]; omega⟩
    · refine ⟨-(2 ^ (63 - k)), ?_⟩
      have p : (18446744073709551616 : Int) = 2 ^ k * (2 * 2 ^ (63 - k)) := by
        rw [show (2 : Int) * 2 ^ (63 - k) = 2 ^ (64 - k) by rw [Int.mul_comm, ← Int.pow_succ]; congr 1; omega, ← Int.pow_add, show k + (64 - k) = 64 by omega]
        decide
      rw [h, p, Int.sub_eq_add_neg, ← Int.mul_neg, Int.add_mul_ediv_left _ _ (Int.ne_of_gt (Int.pow_pos (by decide)))]
      omega
  obtain ⟨z, e3⟩ := e3
  rw [e1]
  omega
theorem hw_ul {post : Int64 → Prop} {a b : Int64} (f0 f1 f2 f3 f4 f5 : Int64) (h : post (Int64.ofInt (a.toInt * b.toInt / 18446744073709551616))) : ∀ (m : Nat) (x5 x7 : Int64), m ≤ 63 → x5 = Int64.ofInt (a.toInt * (b.toInt / 2 ^ m) / 18446744073709551616) → (uN x7 : Int) = a.toInt * (b.toInt / 2 ^ m) % 18446744073709551616 → wY_upper_10 post a b f0 f1 f2 f3 f4 f5 (m + 1) x5 x7 (nI m + (-1)) := by
  intro m
  induction m with
  | zero =>
    intro x5 x7 _ e5 _
    rw [Int.pow_zero, Int.ediv_one] at e5
    refine br_t (by decide) ?_
    rw [e5]
    exact h
  | succ k ih =>
    intro x5 x7 hm e5 e7
    rw [pk_m1]
    have hk : k < 64 := by omega
    have hb := hw_ib b hk
    have ub := hw_bit b hk
    have u63 := uN_s63 x7
    have l7 := uN_lt x7
    refine br_f (nI_pos (by omega)) ?_
    intro y5 ey5 y7 ey7
    have uy7 : uN y7 = (2 * uN x7) % 18446744073709551616 := by rw [ey7, uN_shl]
    obtain ⟨P, eP⟩ : ∃ P : Int, P = a.toInt * (b.toInt / 2 ^ (k + 1)) := ⟨_, rfl⟩
    rw [← eP] at e5 e7
    have vy5 : y5 = Int64.ofInt (2 * P / 18446744073709551616) := by
      have ez : (x7.toUInt64 >>> ((63 : Int32).toInt64.toUInt64 &&& Int64.toUInt64 63)).toInt64 = Int64.ofInt ((uN x7 / 9223372036854775808 : Nat) : Int) := by
        rw [Int64.ofInt_eq_ofNat]
        exact hw_eq u63
      rw [ey5, hw_so (by rw [u63]; omega), ez, e5, ← Int64.ofInt_add, ← Int64.ofInt_add]
      congr 1
      omega
    have vy7 : (uN y7 : Int) = 2 * P % 18446744073709551616 := by omega
    have c : uN b / 2 ^ k % 2 = 0 ∨ uN b / 2 ^ k % 2 = 1 := by omega
    rcases c with c | c
    · have eQ : a.toInt * (b.toInt / 2 ^ k) = 2 * P := by
        rw [hb, c, eP, ← Int.mul_assoc 2, Int.mul_comm 2 a.toInt, Int.mul_assoc]
        congr 1
        omega
      refine br_f ?_ (nm_e (ih y5 y7 (by omega) ?_ ?_))
      · intro w
        have := congrArg uN w
        rw [ub, c, hw_u1] at this
        omega
      · rw [eQ]; exact vy5
      · rw [eQ]; exact vy7
    · have eQ : a.toInt * (b.toInt / 2 ^ k) = 2 * P + a.toInt := by
        rw [hb, c, eP, Int.mul_add, ← Int.mul_assoc 2, Int.mul_comm 2 a.toInt, Int.mul_assoc]
        congr 1
        exact Int.mul_one _
      have q63 : ¬ 63 ≤ nI k := nI_ge (b := 63) (by omega) (by decide)
      have la := hw_ti a
      have step : ∀ (y10 s z : Int64) (σ γ : Int), y10 = y7 + a → s = Int64.ofInt σ → z = Int64.ofInt γ → a.toInt = uN a + σ * 18446744073709551616 → γ = ((uN y7 + uN a) / 18446744073709551616 : Nat) → wY_upper_81 post (wY_upper_10 post a b f0 f1 f2 f3 f4 f5 (k + 1)) a b y5 y7 (nI k) y10 s z f0 f1 f2 f3 f4 f5 := by
        intro y10 s z σ γ e10 es ez hσ hγ
        refine br_f q63 (nm_e (nm_e (ih _ _ (by omega) ?_ ?_)))
        · rw [eQ, vy5, es, ez, ← Int64.ofInt_add, ← Int64.ofInt_add]
          congr 1
          omega
        · rw [eQ, e10, uN_add]
          omega
      have l7' := uN_lt y7
      have la' := uN_lt a
      refine br_t ?_ ?_
      · apply uN_inj
        rw [ub, c, hw_u1]
      · intro y10 e10
        have u10 : uN y10 = (uN y7 + uN a) % 18446744073709551616 := by rw [e10, uN_add]
        refine br_c (fun z => ?_) (fun z => ?_)
        · rw [hw_nn] at z
          refine hw_below (f0, f1, f2, f3, f4, f5) (fun hl => br_f (by decide) (step y10 0 1 0 1 e10 rfl rfl (by omega) (by omega))) (fun hl => br_t rfl (step y10 0 0 0 0 e10 rfl rfl (by omega) (by omega)))
        · rw [hw_nn] at z
          refine hw_below (f0, f1, f2, f3, f4, f5) (fun hl => br_f (by decide) (step y10 (-1) 1 (-1) 1 e10 rfl rfl (by omega) (by omega))) (fun hl => br_t rfl (step y10 (-1) 0 (-1) 0 e10 rfl rfl (by omega) (by omega)))
theorem hw_yup {post : Int64 → Prop} (v : SY) {a b : Int64} (h : post (Int64.ofInt (a.toInt * b.toInt / 18446744073709551616))) : wpY_upper post v a b := by
  obtain ⟨f0, f1, f2, f3, f4, f5⟩ := v
  have ul := hw_ul f0 f1 f2 f3 f4 f5 h 63
  have la := hw_ti a
  have lb := hw_ti b
  have la' := uN_lt a
  have ub := hw_bit b (k := 63) (by decide)
  have z5 : ((0 : Int64) <<< ((1 : Int32).toInt64 &&& 63)) ||| (((0 : Int64).toUInt64 >>> ((63 : Int32).toInt64.toUInt64 &&& Int64.toUInt64 63)).toInt64) = 0 := by decide
  have z7 : (0 : Int64) <<< ((1 : Int32).toInt64 &&& 63) = 0 := by decide
  refine ⟨65, br_f (by decide) (nm_r z5 (nm_r z7 ?_))⟩
  have c : uN b / 2 ^ 63 % 2 = 0 ∨ uN b / 2 ^ 63 % 2 = 1 := by omega
  rcases c with c | c
  · have eb : b.toInt / 2 ^ 63 = 0 := by omega
    rw [eb, Int.mul_zero] at ul
    refine br_f ?_ (nm_e (ul 0 0 (by omega) (by decide) (by decide)))
    intro w
    have := congrArg uN w
    rw [show (63 : Int32) = nI 63 from rfl, ub, c, hw_u1] at this
    omega
  · have eb : b.toInt / 2 ^ 63 = -1 := by omega
    rw [eb, Int.mul_neg, Int.mul_one] at ul
    have step : ∀ (y10 s z : Int64) (σ : Int), s = Int64.ofInt σ → a.toInt = uN a + σ * 18446744073709551616 → wY_upper_81 post (wY_upper_10 post a b f0 f1 f2 f3 f4 f5 64) a b 0 0 63 y10 s z f0 f1 f2 f3 f4 f5 := by
      intro y10 s z σ es hσ
      refine br_t (by decide) ?_
      intro y ey
      have uy : uN y = (18446744073709551616 - uN a) % 18446744073709551616 := by
        rw [ey, hw_sub, hw_u0]
      refine hw_below (f0, f1, f2, f3, f4, f5) (fun hl => br_f (by decide) (nm_e (nm_e (ul _ y (by omega) ?_ ?_)))) (fun hl => br_t rfl (nm_e (nm_e (ul _ y (by omega) ?_ ?_))))
      · rw [hw_u0] at hl
        rw [es, show (0 : Int64) = Int64.ofInt 0 from rfl, show (1 : Int64) = Int64.ofInt 1 from rfl, ← Int64.ofInt_add, ← Int64.ofInt_sub]
        congr 1
        omega
      · omega
      · rw [hw_u0] at hl
        rw [es, show (0 : Int64) = Int64.ofInt 0 from rfl, ← Int64.ofInt_add, ← Int64.ofInt_sub]
        congr 1
        omega
      · omega
    refine br_t ?_ ?_
    · apply uN_inj
      rw [hw_u1]
      exact ub.trans c
    · intro y10 e10
      refine br_c (fun z => ?_) (fun z => ?_)
      · rw [hw_nn] at z
        exact hw_below (f0, f1, f2, f3, f4, f5) (fun hl => br_f (by decide) (step y10 0 1 0 rfl (by omega))) (fun hl => br_t rfl (step y10 0 0 0 rfl (by omega)))
      · rw [hw_nn] at z
        exact hw_below (f0, f1, f2, f3, f4, f5) (fun hl => br_f (by decide) (step y10 (-1) 1 (-1) rfl (by omega))) (fun hl => br_t rfl (step y10 (-1) 0 (-1) rfl (by omega)))
