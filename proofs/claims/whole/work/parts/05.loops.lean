/-! ===== root, leadingZeros, power ===== -/
theorem hw_root (x0 : Int64) : ∀ (m : Nat) (x2 : Int64), m ≤ 64 → ∃ r : Int64, (∀ post : Int64 → Prop, post r → wX_squareRoot_6 post x0 (m + 1) x2 (nI m + (-1))) ∧ (∀ (post : Int32 → SY → Prop) (u : Nat → Int64) (d : Nat), d < 6 → post 1 (hw_S (vp_updL u d r)) → wY_root_40 post (nI d) x0 (u 0) (u 1) (u 2) (u 3) (u 4) (u 5) (m + 1) x2 (nI m + (-1))) := by
  intro m
  induction m with
  | zero =>
    intro x2 _
    exact ⟨x2, fun post h => br_t (by decide) h, fun post u d hd h => br_t (by decide) (hw_set (u := u) hd h)⟩
  | succ k ih =>
    intro x2 hm
    rw [pk_m1]
    have p : ¬ nI k < 0 := nI_pos (by omega)
    by_cases c1 : 3037000499 < x2 ||| ((1 : Int64) <<< ((nI k).toInt64 &&& 63))
    · obtain ⟨r, hX, hY⟩ := ih x2 (by omega)
      exact ⟨r, fun post h => br_f p (nm_e (br_t c1 (nm_e (hX post h)))), fun post u d hd h => br_f p (nm_e (br_t c1 (nm_e (hY post u d hd h))))⟩
    · by_cases c2 : x0 < (x2 ||| ((1 : Int64) <<< ((nI k).toInt64 &&& 63))) * (x2 ||| ((1 : Int64) <<< ((nI k).toInt64 &&& 63)))
      · obtain ⟨r, hX, hY⟩ := ih x2 (by omega)
        exact ⟨r, fun post h => br_f p (nm_e (br_f c1 (br_t c2 (nm_e (hX post h))))), fun post u d hd h => br_f p (nm_e (br_f c1 (br_t c2 (nm_e (hY post u d hd h)))))⟩
      · obtain ⟨r, hX, hY⟩ := ih (x2 ||| ((1 : Int64) <<< ((nI k).toInt64 &&& 63))) (by omega)
        exact ⟨r, fun post h => br_f p (nm_e (br_f c1 (br_f c2 (nm_e (hX post h))))), fun post u d hd h => br_f p (nm_e (br_f c1 (br_f c2 (nm_e (hY post u d hd h)))))⟩
theorem hw_lz (x : Int64) (f0 f1 f2 f3 f4 f5 : Int64) (a : Nat → Int64) : ∀ m : Nat, m ≤ 64 → uN x < 2 ^ m → ∃ r : Int32, (∀ post : Int32 → Prop, post r → wX_leadingZeros_19 post x a (m + 1) (nI (64 - m))) ∧ (∀ post : Int32 → Prop, post r → wY_leadingZeros_23 post x f0 f1 f2 f3 f4 f5 (m + 1) (nI (64 - m)) (nI m + (-1))) := by
  intro m
  induction m with
  | zero =>
    intro _ _
    exact ⟨nI 64, fun post h => br_t (by decide) h, fun post h => br_t (by decide) h⟩
  | succ k ih =>
    intro hm hx
    rw [pk_m1]
    have hk : k < 64 := by omega
    have p : ¬ nI k < 0 := nI_pos (by omega)
    have q : ¬ 64 ≤ nI (64 - (k + 1)) := nI_ge (b := 64) (by omega) (by decide)
    have e : (63 : Int32) - nI (64 - (k + 1)) = nI k := by
      have := pk_sub (a := 63) (b := 64 - (k + 1)) (by omega)
      rw [show 63 - (64 - (k + 1)) = k by omega] at this
      exact this
    have us : uN (x.toUInt64 >>> ((nI k).toInt64.toUInt64 &&& Int64.toUInt64 63)).toInt64 = uN x / 2 ^ k := uN_sk x hk
    have ub := hw_bit x hk
    have l2 : uN x / 2 ^ k < 2 := by
      rw [Nat.div_lt_iff_lt_mul (Nat.two_pow_pos k)]
      rw [Nat.pow_succ] at hx
      omega
    by_cases c : uN x < 2 ^ k
    · obtain ⟨r, hX, hY⟩ := ih (by omega) c
      have z : uN x / 2 ^ k = 0 := Nat.div_eq_of_lt c
      have n1 : nI (64 - (k + 1)) + 1 = nI (64 - k) := by rw [nI_1]; congr 1; omega
      refine ⟨r, fun post h => br_f q (br_t ?_ (nm_r n1 (hX post h))), fun post h => br_f p (br_f ?_ (nm_r n1 (nm_e (hY post h))))⟩
      · rw [e, hw_uz, us, z]
      · intro w
        have := congrArg uN w
        rw [ub, z, hw_u1] at this
        omega
    · have z : uN x / 2 ^ k ≠ 0 := by
        intro w
        have := Nat.lt_of_div_eq_zero (Nat.two_pow_pos k) w
        omega
      refine ⟨nI (64 - (k + 1)), fun post h => br_f q (br_f ?_ h), fun post h => br_f p (br_t ?_ h)⟩
      · rw [e, hw_uz, us]; exact z
      · apply uN_inj
        rw [ub, hw_u1]
        omega
def hw_pw (b : Int64) : Nat → Int64
  | 0 => 1
  | n + 1 => hw_pw b n * b
theorem hw_pw2 (b : Int64) : ∀ n : Nat, hw_pw b (2 * n) = hw_pw (b * b) n
  | 0 => rfl
  | n + 1 => by
    have ih := hw_pw2 b n
    rw [show 2 * (n + 1) = 2 * n + 1 + 1 by omega]
    show hw_pw b (2 * n) * b * b = hw_pw (b * b) n * (b * b)
    rw [ih, Int64.mul_assoc]
theorem hw_pwa (b : Int64) : ∀ n m : Nat, hw_pw b (n + m) = hw_pw b n * hw_pw b m
  | n, 0 => by
    show hw_pw b n = hw_pw b n * 1
    rw [Int64.mul_one]
  | n, m + 1 => by
    show hw_pw b (n + m) * b = hw_pw b n * (hw_pw b m * b)
    rw [hw_pwa b n m, Int64.mul_assoc]
theorem hw_raise {post : Int64 → Prop} (e : Int64) : ∀ (m i : Nat) (p s : Int64), i + m = 64 → post (p * hw_pw s (uN e / 2 ^ i)) → wX_raise_9 post e (m + 1) p s (nI i) := by
  intro m
  induction m with
  | zero =>
    intro i p s hi h
    have : i = 64 := by omega
    subst this
    have z : uN e / 2 ^ 64 = 0 := Nat.div_eq_of_lt (uN_lt e)
    rw [z] at h
    have h : post (p * 1) := h
    rw [Int64.mul_one] at h
    exact br_t (by decide) h
  | succ m ih =>
    intro i p s hi h
    have hk : i < 64 := by omega
    have q : ¬ 64 ≤ nI i := nI_ge (b := 64) (by omega) (by decide)
    have hf := hw_half (uN e) i
    have ub := hw_bit e hk
    have c : uN e / 2 ^ i % 2 = 0 ∨ uN e / 2 ^ i % 2 = 1 := by omega
    rcases c with c | c
    · rw [c, Nat.add_zero] at hf
      rw [hf, hw_pw2] at h
      refine br_f q (br_t ?_ (nm_e (nm_r (nI_1 i) (ih (i + 1) p (s * s) (by omega) h))))
      rw [hw_uz, ub, c]
    · rw [c] at hf
      rw [hf] at h
      have h : post (p * (hw_pw s (2 * (uN e / 2 ^ (i + 1))) * s)) := h
      rw [hw_pw2, Int64.mul_comm (hw_pw (s * s) _) s, ← Int64.mul_assoc] at h
      refine br_f q (br_f ?_ (nm_e (nm_e (nm_r (nI_1 i) (ih (i + 1) (p * s) (s * s) (by omega) h)))))
      rw [hw_uz, ub, c]
      decide
theorem hw_ypow {post : Int32 → SY → Prop} {u : Nat → Int64} {d : Nat} (hd : d < 6) (b e : Int64) (h : post 1 (hw_S (vp_updL u d (hw_pw b (uN e))))) : ∀ (m : Nat) (x : Int64), m ≤ 64 → x = hw_pw b (uN e / 2 ^ m) → wY_power_47 post (nI d) b e (u 0) (u 1) (u 2) (u 3) (u 4) (u 5) (m + 1) x (nI m + (-1)) := by
  intro m
  induction m with
  | zero =>
    intro x _ ex
    rw [Nat.pow_zero, Nat.div_one] at ex
    rw [ex]
    exact br_t (by decide) (hw_set (u := u) hd h)
  | succ k ih =>
    intro x hm ex
    rw [pk_m1]
    have hk : k < 64 := by omega
    have p : ¬ nI k < 0 := nI_pos (by omega)
    have hf := hw_half (uN e) k
    have ub := hw_bit e hk
    have sq : x * x = hw_pw b (2 * (uN e / 2 ^ (k + 1))) := by rw [ex, Nat.two_mul, hw_pwa]
    have c : uN e / 2 ^ k % 2 = 0 ∨ uN e / 2 ^ k % 2 = 1 := by omega
    rcases c with c | c
    · rw [c, Nat.add_zero] at hf
      refine br_f p (nm_e (br_f ?_ (nm_e (ih (x * x) (by omega) ?_))))
      · intro w
        have := congrArg uN w
        rw [ub, c, hw_u1] at this
        omega
      · rw [hf]; exact sq
    · rw [c] at hf
      refine br_f p (nm_e (br_t ?_ (nm_e (nm_e (ih (x * x * b) (by omega) ?_)))))
      · apply uN_inj
        rw [ub, c, hw_u1]
      · rw [hf, sq]; rfl
