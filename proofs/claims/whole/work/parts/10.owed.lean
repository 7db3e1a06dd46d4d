/-! ===== what is owed ===== -/
/-- the six fields of the reference hold what the component's array holds -/
def i_Rel (_ : Nat) (u : SX) (v : SY) : Prop := v = hw_S u
theorem i_up {k : Nat} {u : SX} {v : SY} (h : i_Rel k u v) : i_Rel (k + 5) u v := h
theorem i_vc0 : wpX_init (fun u => wpY_init (fun v => i_Rel 0 u v)) := rfl
theorem i_vc_set {k : Nat} {u : SX} {v : SY} (I : i_Rel k u v) (hk : k + 5 ≤ 2560) (v1 : Int32) (a1 : Int64) : wpX_set (fun r u' => wpY_set (fun r' v' => r' = r ∧ i_Rel (k + 5) u' v') v v1 a1) u v1 a1 := by
  have I : v = hw_S u := I
  subst I
  rcases hw_reg v1 with h | ⟨j, hj, rfl⟩
  · exact hw_XB h (hw_YB (hw_S u) h ⟨rfl, rfl⟩)
  · exact hw_XG hj ⟨hw_in hj, nm_r (e' := vp_updL u j a1) (by rw [hw_cl hj]) (hw_set (u := u) hj ⟨rfl, rfl⟩)⟩
theorem i_vc_get {k : Nat} {u : SX} {v : SY} (I : i_Rel k u v) (hk : k + 5 ≤ 2560) (v1 : Int32) : wpX_get (fun r => wpY_get (fun r' => r' = r ∧ i_Rel (k + 5) u v) v v1) u v1 := by
  have I : v = hw_S u := I
  subst I
  rcases hw_reg v1 with h | ⟨j, hj, rfl⟩
  · exact hw_XB h (hw_getB (hw_S u) h ⟨rfl, rfl⟩)
  · refine hw_XG hj ⟨hw_in hj, ?_⟩
    rw [hw_cl hj]
    exact hw_get (u := u) hj ⟨rfl, rfl⟩
theorem hw_ne {k c : Nat} (hk : k ≤ 15) (hc : c ≤ 15) (h : k ≠ c) : ¬ nI k = nI c := fun e => h ((nI_eq (by omega) (by omega)).mp e)
theorem i_vc_apply {k : Nat} {u : SX} {v : SY} (I : i_Rel k u v) (hk : k + 5 ≤ 2560) (v1 : Int32) (v2 : Int32) (v3 : Int32) (v4 : Int32) : wpX_apply (fun r u' => wpY_apply (fun r' v' => r' = r ∧ i_Rel (k + 5) u' v') v v1 v2 v3 v4) u v1 v2 v3 v4 := by
  have I : v = hw_S u := I
  subst I
  by_cases c0 : v1 < 0
  · exact br_t c0 (br_t c0 ⟨rfl, rfl⟩)
  by_cases c15 : 15 < v1
  · exact br_f c0 (br_t c15 (br_f c0 (br_t c15 ⟨rfl, rfl⟩)))
  rcases hw_reg v2 with h | ⟨d, hd, rfl⟩
  · exact br_f c0 (br_f c15 (hw_XB h (br_f c0 (br_f c15 (hw_YB (hw_S u) h ⟨rfl, rfl⟩)))))
  rcases hw_reg v3 with h | ⟨a, ha, rfl⟩
  · exact br_f c0 (br_f c15 (hw_XG hd (hw_XB h (br_f c0 (br_f c15 (hw_YG (hw_S u) hd (hw_YB (hw_S u) h ⟨rfl, rfl⟩)))))))
  rcases hw_reg v4 with h | ⟨b, hb, rfl⟩
  · exact br_f c0 (br_f c15 (hw_XG hd (hw_XG ha (hw_XB h (br_f c0 (br_f c15 (hw_YG (hw_S u) hd (hw_YG (hw_S u) ha (hw_YB (hw_S u) h ⟨rfl, rfl⟩)))))))))
  obtain ⟨o, ho, rfl⟩ := nI_of2 (M := 15) (n := 15) (by decide) c0 (Int32.not_lt.mp c15)
  refine br_f c0 (br_f c15 (hw_XG hd (hw_XG ha (hw_XG hb ⟨hw_in ha, nm_r (e' := u a) (by rw [hw_cl ha]) ⟨hw_in hb, nm_r (e' := u b) (by rw [hw_cl hb]) ?_⟩⟩))))
  by_cases hD : o = 3 ∨ o = 4 ∨ o = 14 ∨ o = 15
  · have isX : ∀ P : Int32 → Prop, P 1 → wpX_isDivision P (nI o) := by
      intro P h
      rcases hD with rfl | rfl | rfl | rfl
      · exact br_t rfl h
      · exact br_f (by decide) (br_t rfl h)
      · exact br_f (by decide) (br_f (by decide) (br_t rfl h))
      · exact br_f (by decide) (br_f (by decide) (br_f (by decide) (br_t rfl h)))
    have isY : ∀ A B : Prop, A → (nI o = 3 → A) ∧ (¬ nI o = 3 → (nI o = 4 → A) ∧ (¬ nI o = 4 → (nI o = 14 → A) ∧ (¬ nI o = 14 → (nI o = 15 → A) ∧ (¬ nI o = 15 → B)))) := by
      intro A B h
      rcases hD with rfl | rfl | rfl | rfl
      · exact br_t rfl h
      · exact br_f (by decide) (br_t rfl h)
      · exact br_f (by decide) (br_f (by decide) (br_t rfl h))
      · exact br_f (by decide) (br_f (by decide) (br_f (by decide) (br_t rfl h)))
    by_cases z : u b = 0
    · exact isX _ (br_f (by decide) (br_t z (br_f c0 (br_f c15 (hw_YG (hw_S u) hd (hw_YG (hw_S u) ha (hw_YG (hw_S u) hb (hw_get (u := u) ha (hw_get (u := u) hb (isY _ _ (br_f (by decide) (br_t z (⟨rfl, rfl⟩)))))))))))))
    · obtain ⟨r, hX, hY⟩ := hw_allD o hD (hw_S u) (u a) (u b) z
      exact isX _ (br_f (by decide) (br_f z (hX _ ⟨hw_in hd, nm_r (e' := vp_updL u d r) (by rw [hw_cl hd]) (br_f c0 (br_f c15 (hw_YG (hw_S u) hd (hw_YG (hw_S u) ha (hw_YG (hw_S u) hb (hw_get (u := u) ha (hw_get (u := u) hb (isY _ _ (br_f (by decide) (br_f z (hY _ (hw_set (u := u) hd ⟨rfl, rfl⟩))))))))))))⟩)))
  · have n3 : ¬ nI o = 3 := hw_ne (c := 3) ho (by omega) (by omega)
    have n4 : ¬ nI o = 4 := hw_ne (c := 4) ho (by omega) (by omega)
    have n14 : ¬ nI o = 14 := hw_ne (c := 14) ho (by omega) (by omega)
    have n15 : ¬ nI o = 15 := hw_ne (c := 15) ho (by omega) (by omega)
    obtain ⟨r, hX, hY⟩ := hw_allR o ho (by omega) (by omega) (by omega) (by omega) (hw_S u) (u a) (u b)
    exact br_f n3 (br_f n4 (br_f n14 (br_f n15 (br_t rfl (hX _ ⟨hw_in hd, nm_r (e' := vp_updL u d r) (by rw [hw_cl hd]) (br_f c0 (br_f c15 (hw_YG (hw_S u) hd (hw_YG (hw_S u) ha (hw_YG (hw_S u) hb (hw_get (u := u) ha (hw_get (u := u) hb (br_f n3 (br_f n4 (br_f n14 (br_f n15 (br_t rfl (hY _ (hw_set (u := u) hd ⟨rfl, rfl⟩))))))))))))))⟩)))))
theorem i_vc_typeDigit {k : Nat} {u : SX} {v : SY} (I : i_Rel k u v) (hk : k + 5 ≤ 2560) (v1 : Int32) (v2 : Int32) : wpX_typeDigit (fun r u' => wpY_typeDigit (fun r' v' => r' = r ∧ i_Rel (k + 5) u' v') v v1 v2) u v1 v2 := by
  have I : v = hw_S u := I
  subst I
  rcases hw_reg v1 with h | ⟨j, hj, rfl⟩
  · exact hw_XB h (hw_YB (hw_S u) h ⟨rfl, rfl⟩)
  by_cases c1 : v2 < 0
  · exact hw_XG hj (br_t c1 (hw_YG (hw_S u) hj (br_t c1 ⟨rfl, rfl⟩)))
  by_cases c2 : v2 ≤ 9
  · exact hw_XG hj (br_f c1 (br_t c2 ⟨hw_in hj, hw_in hj, nm_r (e' := vp_updL u j (u j * 10 + v2.toInt64)) (by rw [hw_cl hj]) (hw_YG (hw_S u) hj (br_f c1 (br_t c2 (hw_get (u := u) hj (nm_e (hw_set (u := u) hj ⟨rfl, rfl⟩))))))⟩))
  · exact hw_XG hj (br_f c1 (br_f c2 (hw_YG (hw_S u) hj (br_f c1 (br_f c2 ⟨rfl, rfl⟩)))))
theorem hw_ydg {post : Int32 → Prop} {u : Nat → Int64} {j c : Nat} (hj : j < 6) (hc : hw_C (hw_m (u j)) c) (h : post (nI c)) : wpY_digits post (u 0, u 1, u 2, u 3, u 4, u 5) (nI j) := by
  refine hw_YG (hw_S u) hj (hw_get (u := u) hj ⟨19, ?_⟩)
  refine hw_ydl hc (u 0) (u 1) (u 2) (u 3) (u 4) (u 5) h 18 1 1 (by omega) (by omega) ?_
  have c1 := hc.1
  rcases Nat.lt_or_ge 1 c with g | g
  · exact Or.inl g
  · have : c = 1 := by omega
    subst this
    exact Or.inr rfl
theorem i_vc_digits {k : Nat} {u : SX} {v : SY} (I : i_Rel k u v) (hk : k + 5 ≤ 2560) (v1 : Int32) : wpX_digits (fun r => wpY_digits (fun r' => r' = r ∧ i_Rel (k + 5) u v) v v1) u v1 := by
  have I : v = hw_S u := I
  subst I
  rcases hw_reg v1 with h | ⟨j, hj, rfl⟩
  · exact hw_XB h (hw_YB (hw_S u) h ⟨rfl, rfl⟩)
  · obtain ⟨c, hc⟩ := hw_CV (u j)
    refine hw_XG hj ⟨hw_in hj, ?_⟩
    rw [hw_cl hj]
    exact hw_cnt hc (hw_ydg hj hc ⟨rfl, rfl⟩)
theorem i_vc_digit {k : Nat} {u : SX} {v : SY} (I : i_Rel k u v) (hk : k + 5 ≤ 2560) (v1 : Int32) (v2 : Int32) : wpX_digit (fun r => wpY_digit (fun r' => r' = r ∧ i_Rel (k + 5) u v) v v1 v2) u v1 v2 := by
  have I : v = hw_S u := I
  subst I
  rcases hw_reg v1 with h | ⟨j, hj, rfl⟩
  · exact hw_XB h (hw_YB (hw_S u) h ⟨rfl, rfl⟩)
  by_cases c1 : v2 < 0
  · exact hw_XG hj (br_t c1 (hw_YG (hw_S u) hj (br_t c1 ⟨rfl, rfl⟩)))
  obtain ⟨c, hc⟩ := hw_CV (u j)
  have c19 := hc.2.1
  obtain ⟨n, hn, rfl⟩ := nI_of c1
  refine hw_XG hj (br_f c1 ⟨hw_in hj, ?_⟩)
  rw [hw_cl hj]
  refine hw_cnt hc ?_
  by_cases l : n < c
  · have l' : nI n < nI c := nI_lt l (by omega)
    have w := hw_xd (post := fun r => wpY_digit (fun r' => r' = r ∧ i_Rel (k + 5) u (hw_S u)) (hw_S u) (nI j) (nI n)) (hw_mle (u j)) (show n < 1000 by omega) u (hw_YG (hw_S u) hj (br_f c1 (hw_ydg hj hc (br_t l' (hw_get (u := u) hj (hw_dOf (hw_S u) (by omega) ⟨rfl, rfl⟩)))))) n 0 (by omega)
    rw [Nat.pow_zero, Nat.div_one] at w
    exact br_t l' ⟨hw_in hj, hw_neg ⟨n + 1, w⟩⟩
  · have l' : ¬ nI n < nI c := nI_nlt (by omega) (by omega)
    exact br_f l' (hw_YG (hw_S u) hj (br_f c1 (hw_ydg hj hc (br_f l' ⟨rfl, rfl⟩))))
theorem i_vc_root {k : Nat} {u : SX} {v : SY} (I : i_Rel k u v) (hk : k + 5 ≤ 2560) (v1 : Int32) (v2 : Int32) : wpX_root (fun r u' => wpY_root (fun r' v' => r' = r ∧ i_Rel (k + 5) u' v') v v1 v2) u v1 v2 := by
  have I : v = hw_S u := I
  subst I
  rcases hw_reg v1 with h | ⟨d, hd, rfl⟩
  · exact hw_XB h (hw_YB (hw_S u) h ⟨rfl, rfl⟩)
  rcases hw_reg v2 with h | ⟨a, ha, rfl⟩
  · exact hw_XG hd (hw_XB h (hw_YG (hw_S u) hd (hw_YB (hw_S u) h ⟨rfl, rfl⟩)))
  refine hw_XG hd (hw_XG ha ⟨hw_in ha, ?_⟩)
  rw [hw_cl ha, hw_cl hd]
  by_cases c : 0 ≤ u a
  · obtain ⟨r, hX, hY⟩ := hw_root (u a) 32 0 (by omega)
    exact br_t c ⟨hw_in ha, ⟨33, hX _ ⟨hw_in hd, nm_e (hw_YG (hw_S u) hd (hw_YG (hw_S u) ha (hw_get (u := u) ha (br_t c ⟨33, hY _ u d hd ⟨rfl, rfl⟩⟩))))⟩⟩⟩
  · exact br_f c (hw_YG (hw_S u) hd (hw_YG (hw_S u) ha (hw_get (u := u) ha (br_f c ⟨rfl, rfl⟩))))
theorem i_vc_leadingZeros {k : Nat} {u : SX} {v : SY} (I : i_Rel k u v) (hk : k + 5 ≤ 2560) (v1 : Int32) : wpX_leadingZeros (fun r => wpY_leadingZeros (fun r' => r' = r ∧ i_Rel (k + 5) u v) v v1) u v1 := by
  have I : v = hw_S u := I
  subst I
  rcases hw_reg v1 with h | ⟨j, hj, rfl⟩
  · exact hw_XB h (hw_YB (hw_S u) h ⟨rfl, rfl⟩)
  · obtain ⟨r, hX, hY⟩ := hw_lz (u j) (u 0) (u 1) (u 2) (u 3) (u 4) (u 5) u 64 (by omega) (uN_lt (u j))
    exact hw_XG hj ⟨hw_in hj, nm_r (e' := u j) (by rw [hw_cl hj]) ⟨65, hX _ (hw_YG (hw_S u) hj (hw_get (u := u) hj ⟨65, hY _ ⟨rfl, rfl⟩⟩))⟩⟩
theorem hw_raise0 {post : Int64 → Prop} {a e : Int64} (h : post (hw_pw a (uN e))) : wpX_raise post a e := by
  refine ⟨65, hw_raise e 64 0 1 a rfl ?_⟩
  rw [Nat.pow_zero, Nat.div_one, Int64.one_mul]
  exact h
theorem i_vc_power {k : Nat} {u : SX} {v : SY} (I : i_Rel k u v) (hk : k + 5 ≤ 2560) (v1 : Int32) (v2 : Int32) (v3 : Int32) : wpX_power (fun r u' => wpY_power (fun r' v' => r' = r ∧ i_Rel (k + 5) u' v') v v1 v2 v3) u v1 v2 v3 := by
  have I : v = hw_S u := I
  subst I
  rcases hw_reg v1 with h | ⟨d, hd, rfl⟩
  · exact hw_XB h (hw_YB (hw_S u) h ⟨rfl, rfl⟩)
  rcases hw_reg v2 with h | ⟨a, ha, rfl⟩
  · exact hw_XG hd (hw_XB h (hw_YG (hw_S u) hd (hw_YB (hw_S u) h ⟨rfl, rfl⟩)))
  rcases hw_reg v3 with h | ⟨b, hb, rfl⟩
  · exact hw_XG hd (hw_XG ha (hw_XB h (hw_YG (hw_S u) hd (hw_YG (hw_S u) ha (hw_YB (hw_S u) h ⟨rfl, rfl⟩)))))
  refine hw_XG hd (hw_XG ha (hw_XG hb ⟨hw_in ha, hw_in hb, ?_⟩))
  rw [hw_cl ha, hw_cl hb, hw_cl hd]
  refine hw_raise0 ⟨hw_in hd, nm_e (hw_YG (hw_S u) hd (hw_YG (hw_S u) ha (hw_YG (hw_S u) hb (hw_get (u := u) ha (hw_get (u := u) hb ⟨65, hw_ypow hd (u a) (u b) ⟨rfl, rfl⟩ 64 1 (by omega) ?_⟩)))))⟩
  rw [Nat.div_eq_of_lt (uN_lt (u b))]
  rfl
theorem i_vc_divisor {k : Nat} {u : SX} {v : SY} (I : i_Rel k u v) (hk : k + 5 ≤ 2560) (v1 : Int32) (v2 : Int32) (v3 : Int32) : wpX_divisor (fun r u' => wpY_divisor (fun r' v' => r' = r ∧ i_Rel (k + 5) u' v') v v1 v2 v3) u v1 v2 v3 := by
  have I : v = hw_S u := I
  subst I
  rcases hw_reg v1 with h | ⟨d, hd, rfl⟩
  · exact hw_XB h (hw_YB (hw_S u) h ⟨rfl, rfl⟩)
  rcases hw_reg v2 with h | ⟨a, ha, rfl⟩
  · exact hw_XG hd (hw_XB h (hw_YG (hw_S u) hd (hw_YB (hw_S u) h ⟨rfl, rfl⟩)))
  rcases hw_reg v3 with h | ⟨b, hb, rfl⟩
  · exact hw_XG hd (hw_XG ha (hw_XB h (hw_YG (hw_S u) hd (hw_YG (hw_S u) ha (hw_YB (hw_S u) h ⟨rfl, rfl⟩)))))
  refine hw_XG hd (hw_XG ha (hw_XG hb ⟨hw_in ha, hw_in hb, ?_⟩))
  rw [hw_cl ha, hw_cl hb, hw_cl hd]
  obtain ⟨g, hX, hY⟩ := hw_gcd (hw_mle (u a)) (hw_mle (u b))
  exact hw_neg (hw_neg ⟨129, hX _ ⟨hw_in hd, nm_e (hw_YG (hw_S u) hd (hw_YG (hw_S u) ha (hw_YG (hw_S u) hb (hw_get (u := u) ha (hw_get (u := u) hb (hw_abs (hY _ u d hd ⟨rfl, rfl⟩)))))))⟩⟩)
