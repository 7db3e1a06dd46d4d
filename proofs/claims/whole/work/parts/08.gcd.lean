/-! ===== divisor ===== -/
theorem hw_n0 {Q : Nat} (h : Q ≤ 9223372036854775808) : -lN Q = 0 ↔ Q = 0 := by
  rw [← Int64.toInt_inj, hw_nT h, hw_z]
  omega
theorem hw_l0 {Q : Nat} (h : Q ≤ 9223372036854775808) : lN Q = 0 ↔ Q = 0 := by
  rw [hw_uz, hw_uln (by omega)]
theorem hw_nrem {P Q : Nat} (hP : P ≤ 9223372036854775808) (hQ : Q ≤ 9223372036854775808) : -lN P - -lN P / -lN Q * -lN Q = -lN (P % Q) := by
  have e : -lN P / -lN Q = lN (P / Q) := by
    have d := Int64.toInt_div (-lN P) (-lN Q)
    rw [hw_nT hP, hw_nT hQ, Int.neg_tdiv_neg, ← Int.ofNat_tdiv] at d
    have w := (Int64.ofInt_eq_iff_bmod_eq_toInt _ _).mpr d.symm
    rw [Int64.ofInt_eq_ofNat] at w
    exact w.symm
  have dm := Nat.div_add_mod' P Q
  have f : lN P = lN (P / Q) * lN Q + lN (P % Q) := by rw [lN_mul, lN_add, dm]
  rw [e, f]
  generalize lN (P / Q) = x
  generalize lN Q = y
  generalize lN (P % Q) = z
  grind
theorem hw_idle {post : Int32 → SY → Prop} {u : Nat → Int64} {d : Nat} (hd : d < 6) {x4 : Int64} (h : post 1 (hw_S (vp_updL u d x4))) : ∀ m i : Nat, i + m = 130 → wY_divisor_67 post (nI d) (u 0) (u 1) (u 2) (u 3) (u 4) (u 5) (m + 1) x4 0 (nI i) := by
  intro m
  induction m with
  | zero =>
    intro i hi
    have : i = 130 := hi
    subst this
    exact br_t (by decide) (hw_set (u := u) hd h)
  | succ m ih =>
    intro i hi
    exact br_f (nI_ge (b := 130) (by omega) (by decide)) (br_t rfl (nm_r (nI_1 i) (ih (i + 1) (by omega))))
def hw_G (i P Q g : Nat) : Prop := (∀ post : Int64 → Prop, post (lN g) → wX_commonDivisor_15 post (128 - i + 1) (-lN P) (-lN Q) (nI i)) ∧ (∀ (post : Int32 → SY → Prop) (u : Nat → Int64) (d : Nat), d < 6 → post 1 (hw_S (vp_updL u d (lN g))) → wY_divisor_67 post (nI d) (u 0) (u 1) (u 2) (u 3) (u 4) (u 5) (130 - i + 1) (lN P) (lN Q) (nI i))
theorem hw_g0 {i P : Nat} (hi : i ≤ 128) : hw_G i P 0 P := by
  refine ⟨fun post h => ?_, fun post u d hd h => ?_⟩
  · have n : - -lN P = lN P := Int64.neg_neg
    refine br_c (fun _ => ?_) (fun _ => br_t (by decide) ?_)
    · rw [n]; exact h
    · rw [n]; exact h
  · exact hw_idle hd h (130 - i) i (by omega)
theorem hw_gs {i P Q g : Nat} (hi : i < 128) (hP : P ≤ 9223372036854775808) (hQ : Q ≤ 9223372036854775808) (h0 : Q ≠ 0) (ih : hw_G (i + 1) Q (P % Q) g) : hw_G i P Q g := by
  obtain ⟨hX, hY⟩ := ih
  have z : ¬ -lN Q = 0 := fun w => h0 ((hw_n0 hQ).mp w)
  have z2 : ¬ lN Q = 0 := fun w => h0 ((hw_l0 hQ).mp w)
  refine ⟨fun post h => ?_, fun post u d hd h => ?_⟩
  · have x := hX post h
    rw [show 128 - (i + 1) + 1 = 128 - i by omega] at x
    exact br_f (nI_ge (b := 128) (by omega) (by decide)) (br_f z ⟨z, nm_r (hw_nrem hP hQ) (nm_r (nI_1 i) x)⟩)
  · have y := hY post u d hd h
    rw [show 130 - (i + 1) + 1 = 130 - i by omega] at y
    refine br_f (nI_ge (b := 130) (by omega) (by decide)) (br_f z2 (hw_ydiv (u 0, u 1, u 2, u 3, u 4, u 5) ?_ ?_ ?_))
    · rw [hw_uln (by omega)]; exact h0
    · intro w
      exact absurd w (by decide)
    · intro _
      rw [hw_uln (by omega), hw_uln (by omega)]
      exact nm_r (nI_1 i) y
theorem hw_half2 {P Q d : Nat} (h0 : Q ≠ 0) (hl : Q < P) (h : P * Q < 2 ^ (d + 1)) : Q * (P % Q) < 2 ^ d := by
  have m := Nat.mod_lt P (Nat.pos_of_ne_zero h0)
  have a : 2 * (P % Q) ≤ P := by
    have := Nat.mod_eq_sub_mod (Nat.le_of_lt hl)
    have l := Nat.mod_le (P - Q) Q
    omega
  have b : Q * (2 * (P % Q)) ≤ Q * P := Nat.mul_le_mul_left Q a
  rw [Nat.mul_left_comm, Nat.mul_comm Q P] at b
  rw [Nat.pow_succ] at h
  omega
theorem hw_gl : ∀ (d i P Q : Nat), i + d ≤ 128 → P ≤ 9223372036854775808 → Q ≤ 9223372036854775808 → Q < P ∨ Q = 0 → P * Q < 2 ^ d → ∃ g, hw_G i P Q g := by
  intro d
  induction d with
  | zero =>
    intro i P Q hi hP hQ hl h
    have z : Q = 0 := by
      rcases hl with hl | hl
      · rcases Nat.eq_zero_or_pos Q with z | z
        · exact z
        · have := Nat.mul_pos (show 0 < P by omega) z
          omega
      · exact hl
    subst z
    exact ⟨P, hw_g0 (by omega)⟩
  | succ d ih =>
    intro i P Q hi hP hQ hl h
    by_cases z : Q = 0
    · subst z
      exact ⟨P, hw_g0 (by omega)⟩
    · have m := Nat.mod_lt P (Nat.pos_of_ne_zero z)
      obtain ⟨g, hg⟩ := ih (i + 1) Q (P % Q) (by omega) hQ (by omega) (Or.inl m) (hw_half2 z (by omega) h)
      exact ⟨g, hw_gs (by omega) hP hQ z hg⟩
theorem hw_gcd {P Q : Nat} (hP : P ≤ 9223372036854775808) (hQ : Q ≤ 9223372036854775808) : ∃ g, hw_G 0 P Q g := by
  by_cases z : Q = 0
  · subst z
    exact ⟨P, hw_g0 (by omega)⟩
  · have m := Nat.mod_lt P (Nat.pos_of_ne_zero z)
    have b : Q * (P % Q) ≤ 9223372036854775808 * 9223372036854775808 := Nat.mul_le_mul hQ (by omega)
    obtain ⟨g, hg⟩ := hw_gl 127 1 Q (P % Q) (by omega) hQ (by omega) (Or.inl m) (Nat.lt_of_le_of_lt b (by decide))
    exact ⟨g, hw_gs (by omega) hP hQ z hg⟩
theorem hw_abs {post : Int32 → SY → Prop} {u : Nat → Int64} {d : Nat} {a b : Int64} (h : wY_divisor_67 post (nI d) (u 0) (u 1) (u 2) (u 3) (u 4) (u 5) 131 (lN (hw_m a)) (lN (hw_m b)) 0) : (0 ≤ a → wY_divisor_52 post (nI d) a b (u 0) (u 1) (u 2) (u 3) (u 4) (u 5)) ∧ (¬ 0 ≤ a → ∀ x : Int64, x = -a → wY_divisor_52 post (nI d) x b (u 0) (u 1) (u 2) (u 3) (u 4) (u 5)) := by
  have pn : ∀ x : Int64, ¬ 0 ≤ x → -x = lN (hw_m x) := by
    intro x hx
    have l : x ≤ 0 := by
      rw [Int64.le_iff_toInt_le] at hx ⊢
      omega
    have e := hw_le0 l
    have e2 := congrArg (fun y : Int64 => -y) e
    exact e2.trans Int64.neg_neg
  have k : wY_divisor_52 post (nI d) (lN (hw_m a)) b (u 0) (u 1) (u 2) (u 3) (u 4) (u 5) := by
    refine br_c (fun z => ⟨131, ?_⟩) (fun z => nm_r (pn b z) ⟨131, h⟩)
    have e := hw_ge z
    rw [← e] at h
    exact h
  refine br_c (fun z => ?_) (fun z => nm_r (pn a z) k)
  have e := hw_ge z
  rw [← e] at k
  exact k
