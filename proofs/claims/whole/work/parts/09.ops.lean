/-! ===== apply: the sixteen operations ===== -/
theorem hw_a63 (x : Int64) : uN (x &&& 63) = uN x % 64 := by
  show (x.toUInt64 &&& Int64.toUInt64 63).toNat = _
  rw [UInt64.toNat_and]
  exact Nat.and_two_pow_sub_one_eq_mod _ 6
theorem hw_i32 (x : Int64) : uN x.toInt32.toInt64 % 64 = uN x % 64 := by
  have t : x.toInt32.toInt64.toInt = x.toInt.bmod (2 ^ 32) := by rw [Int32.toInt_toInt64, Int64.toInt_toInt32]
  have a := hw_ti x
  have b := hw_ti x.toInt32.toInt64
  rw [t, Int.bmod_def] at b
  generalize uN x.toInt32.toInt64 = p at *
  generalize uN x = q at *
  generalize x.toInt = z at *
  split at b <;> omega
theorem hw_sh (x : Int64) : x.toInt32.toInt64 &&& 63 = (x &&& 63).toInt32.toInt64 &&& 63 := by
  apply uN_inj
  rw [hw_a63, hw_a63, hw_i32, hw_i32, hw_a63]
  omega
theorem hw_shu (x : Int64) : x.toInt32.toInt64.toUInt64 &&& Int64.toUInt64 63 = (x &&& 63).toInt32.toInt64.toUInt64 &&& Int64.toUInt64 63 := congrArg Int64.toUInt64 (hw_sh x)
theorem hw_cmp (v : SY) (a b : Int64) : ∃ r : Int64, (∀ post : Int64 → Prop, post r → wpX_order post a b) ∧ (∀ post : Int64 → Prop, post r → wpY_compare (fun z => post z.toInt64) v a b 1) := by
  obtain ⟨f0, f1, f2, f3, f4, f5⟩ := v
  by_cases e : a = b
  · subst e
    have l : a ≤ a := Int64.le_refl a
    exact ⟨0, fun post h => br_t l (br_t l h), fun post h => br_t rfl h⟩
  · by_cases l : b ≤ a
    · have n : ¬ a ≤ b := fun w => e (Int64.le_antisymm w l)
      exact ⟨1, fun post h => br_t l (br_f n h), fun post h => br_f e (br_f (by decide) (br_t l (br_t rfl h)))⟩
    · exact ⟨-1, fun post h => br_f l h, fun post h => br_f e (br_f (by decide) (br_f l (br_f (by decide) h)))⟩
theorem hw_ucmp (v : SY) (a b : Int64) : ∃ r : Int64, (∀ post : Int64 → Prop, post r → wpX_unsignedOrder post a b) ∧ (∀ post : Int64 → Prop, post r → wpY_compare (fun z => post z.toInt64) v a b 0) := by
  obtain ⟨f0, f1, f2, f3, f4, f5⟩ := v
  rcases Nat.lt_trichotomy (uN a) (uN b) with l | l | l
  · refine ⟨-1, fun post h => hw_uord (fun _ => h) (fun w => by omega) (fun w => by omega), fun post h => br_f ?_ (br_t rfl (hw_below (f0, f1, f2, f3, f4, f5) (fun _ => br_f (by decide) h) (fun w => by omega)))⟩
    intro w
    rw [w] at l
    omega
  · exact ⟨0, fun post h => hw_uord (fun w => by omega) (fun _ => h) (fun w => by omega), fun post h => br_t (uN_inj l) h⟩
  · refine ⟨1, fun post h => hw_uord (fun w => by omega) (fun w => by omega) (fun _ => h), fun post h => br_f ?_ (br_t rfl (hw_below (f0, f1, f2, f3, f4, f5) (fun w => by omega) (fun _ => br_t rfl h)))⟩
    intro w
    rw [w] at l
    omega
def hw_R (k : Nat) (v : SY) (a b : Int64) : Prop := ∃ r : Int64, (∀ post : Int64 → Prop, post r → wpX_combine post (nI k) a b) ∧ (∀ post : Int64 → Prop, post r → wpY_result post v (nI k) a b)
def hw_D (k : Nat) (v : SY) (a b : Int64) : Prop := ∃ r : Int64, (∀ post : Int64 → Prop, post r → wpX_divide post (nI k) a b) ∧ (∀ post : Int64 → Prop, post r → wpY_result post v (nI k) a b)
theorem hw_o0 (v : SY) (a b : Int64) : hw_R 0 v a b := by
  obtain ⟨f0, f1, f2, f3, f4, f5⟩ := v
  exact ⟨a + b, fun post h => br_f (by decide) (br_f (by decide) (br_t rfl (h))), fun post h => br_t rfl (h)⟩
theorem hw_o1 (v : SY) (a b : Int64) : hw_R 1 v a b := by
  obtain ⟨f0, f1, f2, f3, f4, f5⟩ := v
  exact ⟨a - b, fun post h => br_f (by decide) (br_f (by decide) (br_f (by decide) (br_t rfl (h)))), fun post h => br_f (by decide) (br_t rfl (h))⟩
theorem hw_o2 (v : SY) (a b : Int64) : hw_R 2 v a b := by
  obtain ⟨f0, f1, f2, f3, f4, f5⟩ := v
  exact ⟨a * b, fun post h => br_f (by decide) (br_f (by decide) (br_f (by decide) (br_f (by decide) (br_t rfl (h))))), fun post h => br_f (by decide) (br_f (by decide) (br_t rfl (h)))⟩
theorem hw_o5 (v : SY) (a b : Int64) : hw_R 5 v a b := by
  obtain ⟨f0, f1, f2, f3, f4, f5⟩ := v
  exact ⟨a &&& b, fun post h => br_f (by decide) (br_f (by decide) (br_f (by decide) (br_f (by decide) (br_f (by decide) (br_f (by decide) (br_f (by decide) (br_t rfl (h)))))))), fun post h => br_f (by decide) (br_f (by decide) (br_f (by decide) (br_t rfl (h))))⟩
theorem hw_o6 (v : SY) (a b : Int64) : hw_R 6 v a b := by
  obtain ⟨f0, f1, f2, f3, f4, f5⟩ := v
  exact ⟨a ||| b, fun post h => br_f (by decide) (br_f (by decide) (br_f (by decide) (br_f (by decide) (br_f (by decide) (br_f (by decide) (br_f (by decide) (br_f (by decide) (br_t rfl (h))))))))), fun post h => br_f (by decide) (br_f (by decide) (br_f (by decide) (br_f (by decide) (br_t rfl (h)))))⟩
theorem hw_o7 (v : SY) (a b : Int64) : hw_R 7 v a b := by
  obtain ⟨f0, f1, f2, f3, f4, f5⟩ := v
  exact ⟨a ^^^ b, fun post h => br_f (by decide) (br_f (by decide) (br_f (by decide) (br_f (by decide) (br_f (by decide) (br_f (by decide) (br_f (by decide) (br_f (by decide) (br_f (by decide) (br_t rfl (h)))))))))), fun post h => br_f (by decide) (br_f (by decide) (br_f (by decide) (br_f (by decide) (br_f (by decide) (br_t rfl (h))))))⟩
theorem hw_o8 (v : SY) (a b : Int64) : hw_R 8 v a b := by
  obtain ⟨f0, f1, f2, f3, f4, f5⟩ := v
  refine ⟨a <<< (b.toInt32.toInt64 &&& 63), fun post h => br_f (by decide) (br_f (by decide) (br_f (by decide) (br_f (by decide) (br_f (by decide) (br_f (by decide) (br_f (by decide) (br_f (by decide) (br_f (by decide) (br_f (by decide) (br_t rfl (h))))))))))), fun post h => ?_⟩
  rw [hw_sh] at h
  exact br_f (by decide) (br_f (by decide) (br_f (by decide) (br_f (by decide) (br_f (by decide) (br_f (by decide) (br_f (by decide) (br_f (by decide) (nm_e (br_t rfl h)))))))))
theorem hw_o9 (v : SY) (a b : Int64) : hw_R 9 v a b := by
  obtain ⟨f0, f1, f2, f3, f4, f5⟩ := v
  refine ⟨a >>> (b.toInt32.toInt64 &&& 63), fun post h => br_f (by decide) (br_f (by decide) (br_f (by decide) (br_f (by decide) (br_f (by decide) (br_f (by decide) (br_f (by decide) (br_f (by decide) (br_f (by decide) (br_f (by decide) (br_f (by decide) (br_t rfl (h)))))))))))), fun post h => ?_⟩
  rw [hw_sh] at h
  exact br_f (by decide) (br_f (by decide) (br_f (by decide) (br_f (by decide) (br_f (by decide) (br_f (by decide) (br_f (by decide) (br_f (by decide) (nm_e (br_f (by decide) (br_t rfl h))))))))))
theorem hw_o10 (v : SY) (a b : Int64) : hw_R 10 v a b := by
  obtain ⟨f0, f1, f2, f3, f4, f5⟩ := v
  refine ⟨(a.toUInt64 >>> (b.toInt32.toInt64.toUInt64 &&& Int64.toUInt64 63)).toInt64, fun post h => br_f (by decide) (br_f (by decide) (br_f (by decide) (br_f (by decide) (br_f (by decide) (br_f (by decide) (br_f (by decide) (br_f (by decide) (br_f (by decide) (br_f (by decide) (br_f (by decide) (br_f (by decide) (br_t rfl (h))))))))))))), fun post h => ?_⟩
  rw [hw_shu] at h
  exact br_f (by decide) (br_f (by decide) (br_f (by decide) (br_f (by decide) (br_f (by decide) (br_f (by decide) (br_f (by decide) (br_f (by decide) (nm_e (br_f (by decide) (br_f (by decide) (h)))))))))))
theorem hw_o11 (v : SY) (a b : Int64) : hw_R 11 v a b := by
  obtain ⟨f0, f1, f2, f3, f4, f5⟩ := v
  obtain ⟨r, hX, hY⟩ := hw_cmp (f0, f1, f2, f3, f4, f5) a b
  exact ⟨r, fun post h => br_f (by decide) (br_f (by decide) (br_f (by decide) (br_f (by decide) (br_f (by decide) (br_f (by decide) (br_f (by decide) (br_f (by decide) (br_f (by decide) (br_f (by decide) (br_f (by decide) (br_f (by decide) (br_f (by decide) (br_t rfl (hX post h)))))))))))))), fun post h => br_f (by decide) (br_f (by decide) (br_f (by decide) (br_f (by decide) (br_f (by decide) (br_f (by decide) (br_f (by decide) (br_t (by decide) (br_t rfl (br_t rfl (hY post h))))))))))⟩
theorem hw_o12 (v : SY) (a b : Int64) : hw_R 12 v a b := by
  obtain ⟨f0, f1, f2, f3, f4, f5⟩ := v
  obtain ⟨r, hX, hY⟩ := hw_ucmp (f0, f1, f2, f3, f4, f5) a b
  exact ⟨r, fun post h => br_f (by decide) (br_f (by decide) (br_f (by decide) (br_f (by decide) (br_f (by decide) (br_f (by decide) (br_f (by decide) (br_f (by decide) (br_f (by decide) (br_f (by decide) (br_f (by decide) (br_f (by decide) (br_f (by decide) (br_f (by decide) (br_t rfl (hX post h))))))))))))))), fun post h => br_f (by decide) (br_f (by decide) (br_f (by decide) (br_f (by decide) (br_f (by decide) (br_f (by decide) (br_f (by decide) (br_t (by decide) (br_f (by decide) (br_t rfl (br_f (by decide) (hY post h)))))))))))⟩
theorem hw_o13 (v : SY) (a b : Int64) : hw_R 13 v a b := by
  obtain ⟨f0, f1, f2, f3, f4, f5⟩ := v
  exact ⟨_, fun post h => br_f (by decide) (br_t (by decide) (hw_xup h)), fun post h => br_f (by decide) (br_f (by decide) (br_f (by decide) (br_f (by decide) (br_f (by decide) (br_f (by decide) (br_f (by decide) (br_t (by decide) (br_f (by decide) (br_f (by decide) (br_t rfl (hw_yup (f0, f1, f2, f3, f4, f5) h)))))))))))⟩
theorem hw_d3 (v : SY) (a b : Int64) (hz : ¬ b = 0) : hw_D 3 v a b := by
  obtain ⟨f0, f1, f2, f3, f4, f5⟩ := v
  exact ⟨a / b, fun post h => br_t rfl ⟨hz, h⟩, fun post h => br_f (by decide) (br_f (by decide) (br_f (by decide) (br_f (by decide) (br_f (by decide) (br_f (by decide) (br_t (by decide) (br_f (by decide) (br_f (by decide) (br_f (by decide) (br_f hz (br_t rfl ⟨hz, h⟩)))))))))))⟩
theorem hw_d4 (v : SY) (a b : Int64) (hz : ¬ b = 0) : hw_D 4 v a b := by
  obtain ⟨f0, f1, f2, f3, f4, f5⟩ := v
  exact ⟨a - a / b * b, fun post h => br_f (by decide) (br_t rfl ⟨hz, h⟩), fun post h => br_f (by decide) (br_f (by decide) (br_f (by decide) (br_f (by decide) (br_f (by decide) (br_f (by decide) (br_t (by decide) (br_f (by decide) (br_f (by decide) (br_f (by decide) (br_f hz (br_f (by decide) (br_t rfl ⟨hz, h⟩))))))))))))⟩
theorem hw_d14 (v : SY) (a b : Int64) (hz : ¬ b = 0) : hw_D 14 v a b := by
  obtain ⟨f0, f1, f2, f3, f4, f5⟩ := v
  have hb : uN b ≠ 0 := fun w => hz ((hw_uz b).mpr w)
  exact ⟨lN (uN a / uN b), fun post h => br_f (by decide) (br_f (by decide) (br_t rfl (hw_uq hb h))), fun post h => br_f (by decide) (br_f (by decide) (br_f (by decide) (br_f (by decide) (br_f (by decide) (br_f (by decide) (br_f (by decide) (br_t (by decide) (br_f (by decide) (br_f (by decide) (br_f (by decide) (br_f hz (br_f (by decide) (br_f (by decide) (br_f (by decide) (hw_ydiv (f0, f1, f2, f3, f4, f5) hb (fun _ => h) (fun w => absurd rfl w))))))))))))))))⟩
theorem hw_d15 (v : SY) (a b : Int64) (hz : ¬ b = 0) : hw_D 15 v a b := by
  obtain ⟨f0, f1, f2, f3, f4, f5⟩ := v
  have hb : uN b ≠ 0 := fun w => hz ((hw_uz b).mpr w)
  refine ⟨lN (uN a % uN b), fun post h => br_f (by decide) (br_f (by decide) (br_f (by decide) (hw_uq hb ?_))), fun post h => br_f (by decide) (br_f (by decide) (br_f (by decide) (br_f (by decide) (br_f (by decide) (br_f (by decide) (br_f (by decide) (br_t (by decide) (br_f (by decide) (br_f (by decide) (br_f (by decide) (br_f hz (br_f (by decide) (br_f (by decide) (br_t rfl (hw_ydiv (f0, f1, f2, f3, f4, f5) hb (fun w => absurd w (by decide)) (fun _ => h))))))))))))))))⟩
  rw [hw_urem hb]
  exact h
theorem hw_allR (k : Nat) (hk : k ≤ 15) (h3 : k ≠ 3) (h4 : k ≠ 4) (h14 : k ≠ 14) (h15 : k ≠ 15) (v : SY) (a b : Int64) : hw_R k v a b := by
  have c : k = 0 ∨ k = 1 ∨ k = 2 ∨ k = 5 ∨ k = 6 ∨ k = 7 ∨ k = 8 ∨ k = 9 ∨ k = 10 ∨ k = 11 ∨ k = 12 ∨ k = 13 := by omega
  rcases c with rfl | rfl | rfl | rfl | rfl | rfl | rfl | rfl | rfl | rfl | rfl | rfl
  · exact hw_o0 v a b
  · exact hw_o1 v a b
  · exact hw_o2 v a b
  · exact hw_o5 v a b
  · exact hw_o6 v a b
  · exact hw_o7 v a b
  · exact hw_o8 v a b
  · exact hw_o9 v a b
  · exact hw_o10 v a b
  · exact hw_o11 v a b
  · exact hw_o12 v a b
  · exact hw_o13 v a b
theorem hw_allD (k : Nat) (hk : k = 3 ∨ k = 4 ∨ k = 14 ∨ k = 15) (v : SY) (a b : Int64) (hz : ¬ b = 0) : hw_D k v a b := by
  rcases hk with rfl | rfl | rfl | rfl
  · exact hw_d3 v a b hz
  · exact hw_d4 v a b hz
  · exact hw_d14 v a b hz
  · exact hw_d15 v a b hz
