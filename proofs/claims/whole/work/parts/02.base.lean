/-! ===== registers: the state, isRegister, get, set ===== -/
def hw_S (u : Nat → Int64) : SY := (u 0, u 1, u 2, u 3, u 4, u 5)
theorem hw_reg (r : Int32) : (r < 0 ∨ 6 ≤ r) ∨ ∃ j : Nat, j < 6 ∧ r = nI j := by
  rcases pk_ix r (n := 6) (by decide) with h | h | h
  · exact Or.inl (Or.inl h)
  · exact Or.inl (Or.inr h)
  · exact Or.inr h
theorem hw_ge0 {r c : Int32} (hc : 0 ≤ c) (h : c ≤ r) : ¬ r < 0 := by
  rw [Int32.lt_iff_toInt_lt]
  rw [Int32.le_iff_toInt_le] at h hc
  omega
theorem hw_5 {r : Int32} (h : 6 ≤ r) : 5 < r := by
  rw [Int32.le_iff_toInt_le] at h
  rw [Int32.lt_iff_toInt_lt]
  have a : (6 : Int32).toInt = 6 := by decide
  have b : (5 : Int32).toInt = 5 := by decide
  omega
theorem hw_XB {A B : Prop} {r : Int32} (h : r < 0 ∨ 6 ≤ r) (a : A) : wpX_isRegister (fun z => (z = 0 → A) ∧ (¬ z = 0 → B)) r := by
  rcases h with h | h
  · exact br_t h (br_t rfl a)
  · exact br_f (hw_ge0 (by decide) h) (br_t h (br_t rfl a))
theorem hw_XG {A B : Prop} {j : Nat} (hj : j < 6) (b : B) : wpX_isRegister (fun z => (z = 0 → A) ∧ (¬ z = 0 → B)) (nI j) :=
  br_f (nI_pos (by omega)) (br_f (nI_ge (b := 6) hj (by decide)) (br_f (by decide) b))
theorem hw_YB {A B : Prop} (v : SY) {r : Int32} (h : r < 0 ∨ 6 ≤ r) (a : A) : wpY_isRegister (fun z => (z = 0 → A) ∧ (¬ z = 0 → B)) v r := by
  obtain ⟨v0, v1, v2, v3, v4, v5⟩ := v
  rcases h with h | h
  · exact br_t h (br_t rfl a)
  · exact br_f (hw_ge0 (by decide) h) (br_t (hw_5 h) (br_t rfl a))
theorem hw_YG {A B : Prop} (v : SY) {j : Nat} (hj : j < 6) (b : B) : wpY_isRegister (fun z => (z = 0 → A) ∧ (¬ z = 0 → B)) v (nI j) := by
  obtain ⟨v0, v1, v2, v3, v4, v5⟩ := v
  exact br_f (nI_pos (by omega)) (br_f (nI_nlt (b := j) (a := 5) (by omega) (by decide)) (br_f (by decide) b))
theorem hw_in {j : Nat} (hj : j < 6) : vp_in (nI j) 6 := vp_in_nI hj (by decide)
theorem hw_cl {j : Nat} (hj : j < 6) : (nI j).toNatClampNeg = j := nI_clamp (by omega)
theorem hw_get {post : Int64 → Prop} {u : Nat → Int64} {j : Nat} (hj : j < 6) (h : post (u j)) : wpY_get post (u 0, u 1, u 2, u 3, u 4, u 5) (nI j) := by
  have c : j = 0 ∨ j = 1 ∨ j = 2 ∨ j = 3 ∨ j = 4 ∨ j = 5 := by omega
  rcases c with rfl | rfl | rfl | rfl | rfl | rfl
  · exact br_t rfl h
  · exact br_f (by decide) (br_t rfl h)
  · exact br_f (by decide) (br_f (by decide) (br_t rfl h))
  · exact br_f (by decide) (br_f (by decide) (br_f (by decide) (br_t rfl h)))
  · exact br_f (by decide) (br_f (by decide) (br_f (by decide) (br_f (by decide) (br_t rfl h))))
  · exact br_f (by decide) (br_f (by decide) (br_f (by decide) (br_f (by decide) (br_f (by decide) (br_t rfl h)))))
theorem hw_getB {post : Int64 → Prop} (v : SY) {r : Int32} (hr : r < 0 ∨ 6 ≤ r) (h : post 0) : wpY_get post v r := by
  obtain ⟨v0, v1, v2, v3, v4, v5⟩ := v
  have ne : ∀ c : Int32, 0 ≤ c → c < 6 → ¬ r = c := by
    intro c h1 h2 e
    subst e
    rw [Int32.le_iff_toInt_le] at h1
    rw [Int32.lt_iff_toInt_lt] at h2
    rw [Int32.lt_iff_toInt_lt, Int32.le_iff_toInt_le] at hr
    omega
  exact br_f (ne 0 (by decide) (by decide)) (br_f (ne 1 (by decide) (by decide)) (br_f (ne 2 (by decide) (by decide)) (br_f (ne 3 (by decide) (by decide)) (br_f (ne 4 (by decide) (by decide)) (br_f (ne 5 (by decide) (by decide)) h)))))
theorem hw_set {post : Int32 → SY → Prop} {u : Nat → Int64} {j : Nat} {x : Int64} (hj : j < 6) (h : post 1 (hw_S (vp_updL u j x))) : wpY_set post (u 0, u 1, u 2, u 3, u 4, u 5) (nI j) x := by
  have c : j = 0 ∨ j = 1 ∨ j = 2 ∨ j = 3 ∨ j = 4 ∨ j = 5 := by omega
  rcases c with rfl | rfl | rfl | rfl | rfl | rfl
  · exact hw_YG (hw_S u) hj (br_t rfl (br_f (by decide) (br_f (by decide) (br_f (by decide) (br_f (by decide) (br_f (by decide) (h)))))))
  · exact hw_YG (hw_S u) hj (br_f (by decide) (br_t rfl (br_f (by decide) (br_f (by decide) (br_f (by decide) (br_f (by decide) (h)))))))
  · exact hw_YG (hw_S u) hj (br_f (by decide) (br_f (by decide) (br_t rfl (br_f (by decide) (br_f (by decide) (br_f (by decide) (h)))))))
  · exact hw_YG (hw_S u) hj (br_f (by decide) (br_f (by decide) (br_f (by decide) (br_t rfl (br_f (by decide) (br_f (by decide) (h)))))))
  · exact hw_YG (hw_S u) hj (br_f (by decide) (br_f (by decide) (br_f (by decide) (br_f (by decide) (br_t rfl (br_f (by decide) (h)))))))
  · exact hw_YG (hw_S u) hj (br_f (by decide) (br_f (by decide) (br_f (by decide) (br_f (by decide) (br_f (by decide) (br_t rfl (h)))))))
