/-! ===== digits ===== -/
def hw_m (x : Int64) : Nat := x.toInt.natAbs
theorem hw_mle (x : Int64) : hw_m x ≤ 9223372036854775808 := by
  unfold hw_m
  have := hw_ti x
  omega
theorem hw_nT {n : Nat} (h : n ≤ 9223372036854775808) : (-lN n).toInt = -(n : Int) := Int64.toInt_neg_ofNat_of_le h
theorem hw_le0 {x : Int64} (h : x ≤ 0) : x = -lN (hw_m x) := by
  apply Int64.toInt_inj.mp
  rw [hw_nT (hw_mle x)]
  rw [Int64.le_iff_toInt_le, hw_z] at h
  unfold hw_m
  omega
theorem hw_ge {x : Int64} (h : 0 ≤ x) : x = lN (hw_m x) := by
  rw [hw_nn] at h
  have t := hw_ti x
  apply Int64.toInt_inj.mp
  rw [pk_lT (by unfold hw_m; omega)]
  unfold hw_m
  omega
theorem hw_gt0 {x : Int64} (h : ¬ x ≤ 0) : -x = -lN (hw_m x) := by
  have p : 0 ≤ x := by
    rw [Int64.le_iff_toInt_le] at h ⊢
    omega
  rw [← hw_ge p]
theorem hw_neg {post : Int64 → Prop} {x : Int64} (h : post (-lN (hw_m x))) : wpX_negativeOfSize post x := by
  refine br_c (fun z => ?_) (fun z => ?_)
  · have e := hw_le0 z
    rw [← e] at h
    exact h
  · have e := hw_gt0 z
    rw [← e] at h
    exact h
theorem hw_n10 {w : Nat} (h : w ≤ 9223372036854775808) : (-lN w) / 10 = -lN (w / 10) := by
  apply Int64.toInt_inj.mp
  rw [Int64.toInt_div_of_ne_right _ _ (by decide), hw_nT h, hw_nT (by omega), show (10 : Int64).toInt = 10 by decide, Int.neg_tdiv]
  rfl
theorem hw_last {w : Nat} (h : w ≤ 9223372036854775808) : (-(-lN w - -lN w / 10 * 10)).toInt32 = nI (w % 10) := by
  rw [hw_n10 h]
  have e : -(-lN w - -lN (w / 10) * lN 10) = lN w - lN (w / 10) * lN 10 := by
    generalize lN w = p
    generalize lN (w / 10) = q
    generalize lN 10 = t
    grind
  have e2 : -(-lN w - -lN (w / 10) * 10) = lN (w % 10) := by
    refine Eq.trans e ?_
    rw [lN_mul, lN_sub (by omega)]
    congr 1
    omega
  rw [e2, lN_i]
theorem hw_n10lt {w : Nat} (h : w ≤ 9223372036854775808) : (-10 : Int64) < -lN w ↔ w < 10 := by
  rw [Int64.lt_iff_toInt_lt, hw_nT h, show (-10 : Int64).toInt = -10 by decide]
  omega
theorem hw_dV {V : Nat} (hV : V ≤ 9223372036854775808) (i : Nat) : V / 10 ^ i ≤ 9223372036854775808 := Nat.le_trans (Nat.div_le_self _ _) hV
theorem hw_dd (V i : Nat) : V / 10 ^ i / 10 = V / 10 ^ (i + 1) := by rw [Nat.div_div_eq_div_mul, ← Nat.pow_succ]
def hw_C (V c : Nat) : Prop := 1 ≤ c ∧ c ≤ 19 ∧ V < 10 ^ c ∧ (c = 1 ∨ 10 ^ (c - 1) ≤ V)
theorem hw_Ce {V : Nat} : ∀ n : Nat, n ≤ 18 → V < 10 ^ (n + 1) → ∃ c, hw_C V c
  | 0, _, h => ⟨1, by omega, by omega, h, Or.inl rfl⟩
  | n + 1, hn, h => by
    by_cases z : V < 10 ^ (n + 1)
    · exact hw_Ce n (by omega) z
    · exact ⟨n + 2, by omega, by omega, h, Or.inr (by show 10 ^ (n + 1) ≤ V; omega)⟩
theorem hw_CV (x : Int64) : ∃ c, hw_C (hw_m x) c := hw_Ce 18 (by omega) (Nat.lt_of_le_of_lt (hw_mle x) (by decide))
theorem hw_cl8 {V c : Nat} (hV : V ≤ 9223372036854775808) (hc : hw_C V c) {post : Int32 → Prop} (h : post (nI c)) : ∀ m j : Nat, j + 1 + m = c → wX_countDigits_8 post (m + 1) (-lN (V / 10 ^ j)) (nI (j + 1)) := by
  obtain ⟨c1, c19, cV, cL⟩ := hc
  intro m
  induction m with
  | zero =>
    intro j hj
    have : j + 1 = c := hj
    subst this
    refine br_c (fun _ => h) (fun _ => br_t ?_ h)
    rw [hw_n10lt (hw_dV hV j), Nat.div_lt_iff_lt_mul (Nat.pow_pos (by decide))]
    rw [Nat.pow_succ] at cV
    omega
  | succ m ih =>
    intro j hj
    have q : ¬ 19 ≤ nI (j + 1) := nI_ge (b := 19) (by omega) (by decide)
    have g : 10 ^ (j + 1) ≤ V := by
      rcases cL with cL | cL
      · omega
      · exact Nat.le_trans (Nat.pow_le_pow_right (by decide) (by omega)) cL
    refine br_f q (br_f ?_ ⟨by decide, nm_r (e' := -lN (V / 10 ^ (j + 1))) ?_ (nm_r (nI_1 (j + 1)) (ih (j + 1) (by omega)))⟩)
    · rw [hw_n10lt (hw_dV hV j), Nat.not_lt, Nat.le_div_iff_mul_le (Nat.pow_pos (by decide))]
      rw [Nat.pow_succ] at g
      omega
    · rw [hw_n10 (hw_dV hV j), hw_dd]
theorem hw_cnt {x : Int64} {c : Nat} (hc : hw_C (hw_m x) c) {post : Int32 → Prop} (h : post (nI c)) : wpX_countDigits post x := by
  have c1 := hc.1
  refine hw_neg (post := fun r_1 => (∃ n8 : Nat, wX_countDigits_8 post n8 r_1 1)) ⟨c - 1 + 1, ?_⟩
  have k := hw_cl8 (hw_mle x) hc h (c - 1) 0 (by omega)
  rw [Nat.pow_zero, Nat.div_one] at k
  exact k
theorem hw_xd {V k : Nat} (hV : V ≤ 9223372036854775808) (hk : k < 1000) (a : Nat → Int64) {post : Int32 → Prop} (h : post (nI (V / 10 ^ k % 10))) : ∀ m i : Nat, i + m = k → wX_digit_39 post (nI k) a (m + 1) (-lN (V / 10 ^ i)) (nI i) := by
  intro m
  induction m with
  | zero =>
    intro i hi
    have : i = k := hi
    subst this
    refine br_t (nI_le (Nat.le_refl _) (by omega)) ⟨by decide, ?_⟩
    rw [hw_last (hw_dV hV i)]
    exact h
  | succ m ih =>
    intro i hi
    refine br_f (nI_ge (by omega) (by omega)) ⟨by decide, nm_r (e' := -lN (V / 10 ^ (i + 1))) ?_ (nm_r (nI_1 i) (ih (i + 1) (by omega)))⟩
    rw [hw_n10 (hw_dV hV i), hw_dd]
theorem hw_yd {V k : Nat} (hV : V ≤ 9223372036854775808) (hk : k < 1000) (f0 f1 f2 f3 f4 f5 : Int64) {post : Int32 → Prop} (h : post (nI (V / 10 ^ k % 10))) : ∀ m i : Nat, i + m = k → wY_digitOf_17 post (nI k) f0 f1 f2 f3 f4 f5 (m + 1) (-lN (V / 10 ^ i)) (nI i) := by
  intro m
  induction m with
  | zero =>
    intro i hi
    have : i = k := hi
    subst this
    refine br_t (nI_le (Nat.le_refl _) (by omega)) ⟨by decide, ?_⟩
    rw [hw_last (hw_dV hV i)]
    exact h
  | succ m ih =>
    intro i hi
    refine br_f (nI_ge (by omega) (by omega)) ⟨by decide, nm_r (e' := -lN (V / 10 ^ (i + 1))) ?_ (nm_r (nI_1 i) (ih (i + 1) (by omega)))⟩
    rw [hw_n10 (hw_dV hV i), hw_dd]
theorem hw_dOf {post : Int32 → Prop} (v : SY) {x : Int64} {k : Nat} (hk : k < 1000) (h : post (nI (hw_m x / 10 ^ k % 10))) : wpY_digitOf post v x (nI k) := by
  obtain ⟨f0, f1, f2, f3, f4, f5⟩ := v
  have w := hw_yd (hw_mle x) hk f0 f1 f2 f3 f4 f5 h k 0 (by omega)
  rw [Nat.pow_zero, Nat.div_one] at w
  refine br_c (fun z => ⟨k + 1, ?_⟩) (fun z => nm_r (hw_gt0 z) ⟨k + 1, w⟩)
  have e := hw_le0 z
  rw [← e] at w
  exact w
theorem hw_ydl {x : Int64} {c : Nat} (hc : hw_C (hw_m x) c) (f0 f1 f2 f3 f4 f5 : Int64) {post : Int32 → Prop} (h : post (nI c)) : ∀ (m k : Nat) (x4 : Int32), k + m = 19 → 1 ≤ k → (k < c ∨ x4 = nI c) → wY_digits_22 post x f0 f1 f2 f3 f4 f5 (m + 1) x4 (nI k) := by
  obtain ⟨c1, c19, cV, cL⟩ := hc
  intro m
  induction m with
  | zero =>
    intro k x4 hk k1 hx
    have : k = 19 := hk
    subst this
    rcases hx with hx | hx
    · omega
    · rw [hx]
      exact br_t (by decide) h
  | succ m ih =>
    intro k x4 hk k1 hx
    refine br_f (nI_ge (b := 19) (by omega) (by decide)) (hw_dOf (f0, f1, f2, f3, f4, f5) (by omega) ?_)
    refine br_c (fun z => nm_r (nI_1 k) (ih (k + 1) x4 (by omega) (by omega) ?_)) (fun z => nm_r (nI_1 k) (nm_r (nI_1 k) (ih (k + 1) _ (by omega) (by omega) ?_)))
    · have z : hw_m x / 10 ^ k % 10 = 0 := (nI_eq (b := 0) (by omega) (by omega)).mp z
      rcases hx with hx | hx
      · left
        rcases Nat.lt_or_ge (k + 1) c with g | g
        · exact g
        · exfalso
          have e : k = c - 1 := by omega
          rcases cL with cL | cL
          · omega
          · rw [← e] at cL
            have u1 : 1 ≤ hw_m x / 10 ^ k := by
              rw [Nat.le_div_iff_mul_le (Nat.pow_pos (by decide))]
              omega
            have u2 : hw_m x / 10 ^ k < 10 := by
              rw [Nat.div_lt_iff_lt_mul (Nat.pow_pos (by decide))]
              rw [show c = k + 1 by omega, Nat.pow_succ] at cV
              omega
            omega
      · exact Or.inr hx
    · have z : ¬ hw_m x / 10 ^ k % 10 = 0 := fun w => z (congrArg nI w)
      have g : k < c := by
        rcases Nat.lt_or_ge k c with g | g
        · exact g
        · exfalso
          have : 10 ^ c ≤ 10 ^ k := Nat.pow_le_pow_right (by decide) g
          rw [Nat.div_eq_of_lt (by omega)] at z
          exact z rfl
      rcases Nat.lt_or_ge (k + 1) c with g2 | g2
      · exact Or.inl g2
      · exact Or.inr (by congr 1; omega)
