/-! the small private methods of both sides, with a general post -/
variable {n : Nat} {s : Int32} {x y w t : Nat → Int32}
theorem kd_10 : ¬ (1 : Int32) = 0 := by decide
theorem kd_640 : ¬ (64 : Int32) = 0 := by decide
theorem kd_200 : (200 : Int32).toInt = ((200 : Nat) : Int) := by decide +kernel
theorem kd_n200 : nI 200 = 200 := by decide +kernel
theorem kd_le200 : (200 : Int32) ≤ nI 200 := by rw [kd_n200]; exact Int32.le_refl _
theorem kd_lt200 {p : Nat} (hp : p < 200) : ¬ (200 : Int32) ≤ nI p := by rw [← kd_n200]; exact nI_ge hp (by omega)
theorem kd_nlt {n : Nat} (hn : n ≤ 200) : nI n < 200 ↔ n < 200 := by rw [← kd_n200]; exact nI_ltI (by omega) (by omega)
theorem kd_neq {n : Nat} (hn : n ≤ 200) : nI n = 200 ↔ n = 200 := by rw [← kd_n200]; exact nI_eq (by omega) (by omega)
theorem kd_v {p : Nat} (hp : p < 200) : vp_in (nI p) 200 := vp_in_nI hp (by omega)
theorem kd_c {p : Nat} (hp : p < 200) : (nI p).toNatClampNeg = p := nI_clamp (by omega)
abbrev kd_P (a b : Int32) : Prop := ¬ a < 0 ∧ ¬ 64 ≤ a ∧ ¬ b < 0 ∧ ¬ 64 ≤ b
abbrev kd_S (c : Int32) : Prop := ¬ c < 0 ∧ ¬ 4096 ≤ c ∧ ¬ (c / 64) < (c - c / 64 * 64)
theorem kd_xPlace {post : Int32 → Prop} {a b : Int32} (h1 : kd_P a b → post 1) (h0 : ¬ kd_P a b → post 0) : wpX_isPlace post a b :=
  br_c (fun z => h0 (fun q => q.1 z)) (fun z1 => br_c (fun z => h0 (fun q => q.2.1 z)) (fun z2 => br_c (fun z => h0 (fun q => q.2.2.1 z)) (fun z3 => br_c (fun z => h0 (fun q => q.2.2.2 z)) (fun z4 => h1 ⟨z1, z2, z3, z4⟩))))
theorem kd_yPlace {post : Int32 → Prop} {a b : Int32} (h1 : kd_P a b → post 1) (h0 : ¬ kd_P a b → post 0) : wpY_isPlace post (nI n, s, x, y, w, t) a b :=
  br_c (fun z => h0 (fun q => q.1 z)) (fun z1 => br_c (fun z => h0 (fun q => q.2.1 ((kd_64 a).mpr z))) (fun z2 => br_c (fun z => h0 (fun q => q.2.2.1 z)) (fun z3 => br_c (fun z => h0 (fun q => q.2.2.2 ((kd_64 b).mpr z))) (fun z4 => h1 ⟨z1, fun z => z2 ((kd_64 a).mp z), z3, fun z => z4 ((kd_64 b).mp z)⟩))))
theorem kd_xSpan {post : Int32 → Prop} {c : Int32} (h1 : kd_S c → post 1) (h0 : ¬ kd_S c → post 0) : wpX_isSpan post c :=
  br_c (fun z => h0 (fun q => q.1 z)) (fun z1 => br_c (fun z => h0 (fun q => q.2.1 z)) (fun z2 => ⟨kd_640, kd_640, br_c (fun z => h0 (fun q => q.2.2 z)) (fun z3 => h1 ⟨z1, z2, z3⟩)⟩))
theorem kd_ySide {post : Int32 → Prop} {c : Int32} (h1 : kd_S c → post 1) (h0 : ¬ kd_S c → post 0) : wpY_isSide post (nI n, s, x, y, w, t) c :=
  br_c (fun z => h0 (fun q => q.1 z)) (fun z1 => br_c (fun z => h0 (fun q => q.2.1 ((kd_4096 c).mpr z))) (fun z2 => ⟨kd_640, kd_640, br_c (fun z => h0 (fun q => q.2.2 z)) (fun z3 => h1 ⟨z1, fun z => z2 ((kd_4096 c).mp z), z3⟩)⟩))
theorem kd_xRect {post : Int32 → Prop} {c l : Int32} (h1 : kd_S c ∧ kd_S l → post 1) (h0 : ¬ (kd_S c ∧ kd_S l) → post 0) : wpX_isRectangle post c l := by
  unfold wpX_isRectangle
  refine kd_xSpan (fun z1 => br_f kd_10 ?_) (fun z => br_t rfl (h0 (fun q => z q.1)))
  exact kd_xSpan (fun z2 => br_f kd_10 (h1 ⟨z1, z2⟩)) (fun z => br_t rfl (h0 (fun q => z q.2)))
theorem kd_yRect {post : Int32 → Prop} {c l r : Int32} {A : Prop} (h1 : kd_S c ∧ kd_S l → A) (h0 : ¬ (kd_S c ∧ kd_S l) → post r) :
    wpY_isSide (fun r_1 => (((r_1 = 0 → (post r)) ∧ (¬ r_1 = 0 → (wpY_isSide (fun r_9 => (((r_9 = 0 → (post r)) ∧ (¬ r_9 = 0 → A)))) (nI n, s, x, y, w, t) l))))) (nI n, s, x, y, w, t) c := by
  refine kd_ySide (fun z1 => br_f kd_10 ?_) (fun z => br_t rfl (h0 (fun q => z q.1)))
  exact kd_ySide (fun z2 => br_f kd_10 (h1 ⟨z1, z2⟩)) (fun z => br_t rfl (h0 (fun q => z q.2)))
theorem kd_xThere1 {post : Int32 → Prop} {j : Nat} (hj : j < 200) (h : ¬ t j = 0) (h1 : post 1) : wpX_isThere post (nI n, s, x, y, w, t) (nI j) := by
  have z : ¬ t (nI j).toNatClampNeg = 0 := by rw [kd_c hj]; exact h
  exact br_f (nI_pos (by omega)) (br_f (kd_lt200 hj) ⟨kd_v hj, br_f z h1⟩)
theorem kd_xThere0 {post : Int32 → Prop} {p : Int32} (h : ∀ j, j < 200 → p = nI j → t j = 0) (h0 : post 0) : wpX_isThere post (nI n, s, x, y, w, t) p := by
  refine br_c (fun _ => h0) (fun z1 => br_c (fun _ => h0) (fun z2 => ?_))
  obtain ⟨j, hj, e⟩ := kd_in kd_200 z1 z2
  subst e
  have z : t (nI j).toNatClampNeg = 0 := by rw [kd_c hj]; exact h j hj rfl
  exact ⟨kd_v hj, br_t z h0⟩
theorem kd_yPoint1 {post : Int32 → Prop} {j : Nat} (hn : n ≤ 200) (hj : j < n) (h : ¬ t j = 0) (h1 : post 1) : wpY_isPoint post (nI n, s, x, y, w, t) (nI j) := by
  have hj' : j < 200 := by omega
  have z : ¬ t (nI j).toNatClampNeg = 0 := by rw [kd_c hj']; exact h
  exact br_f (nI_pos (by omega)) (br_f (nI_ge hj (by omega)) ⟨kd_v hj', br_f z h1⟩)
theorem kd_yPoint0 {post : Int32 → Prop} {p : Int32} (hn : n ≤ 200) (h : ∀ j, j < 200 → p = nI j → t j = 0) (h0 : post 0) : wpY_isPoint post (nI n, s, x, y, w, t) p := by
  refine br_c (fun _ => h0) (fun z1 => br_c (fun _ => h0) (fun z2 => ?_))
  obtain ⟨j, hj0, e⟩ := nI_of z1
  subst e
  have hj : j < 200 := by
    rw [nI_leI (by omega) hj0] at z2
    omega
  have z : t (nI j).toNatClampNeg = 0 := by rw [kd_c hj]; exact h j hj rfl
  exact ⟨kd_v hj, br_t z h0⟩
theorem kd_T (p : Int32) (ht : ∀ j, n ≤ j → t j = 0) : (∃ j, j < n ∧ p = nI j ∧ ¬ t j = 0) ∨ (∀ j, j < 200 → p = nI j → t j = 0) := by
  by_cases c : ∃ j, j < n ∧ p = nI j ∧ ¬ t j = 0
  · exact Or.inl c
  · refine Or.inr (fun j _ e => ?_)
    by_cases z : t j = 0
    · exact z
    · exact absurd ⟨j, Nat.lt_of_not_le (fun q => z (ht j q)), e, z⟩ c
def kd_L (x y t : Nat → Int32) (c l : Int32) (j : Nat) : Bool :=
  decide (¬ t j = 0 ∧ ¬ x j < c - c / 64 * 64 ∧ ¬ c / 64 < x j ∧ ¬ y j < l - l / 64 * 64 ∧ ¬ l / 64 < y j)
theorem kd_L_i {c l : Int32} {j : Nat} : kd_L x y t c l j = true ↔ (¬ t j = 0 ∧ ¬ x j < c - c / 64 * 64 ∧ ¬ c / 64 < x j ∧ ¬ y j < l - l / 64 * 64 ∧ ¬ l / 64 < y j) := by
  unfold kd_L
  exact decide_eq_true_iff
theorem kd_xInSpan {post : Int32 → Prop} {v c : Int32} (h1 : ¬ v < c - c / 64 * 64 → ¬ c / 64 < v → post 1) (h0 : ¬ (¬ v < c - c / 64 * 64 ∧ ¬ c / 64 < v) → post 0) : wpX_isInSpan post v c :=
  ⟨kd_640, br_c (fun z => h0 (fun q => q.1 z)) (fun z1 => ⟨kd_640, br_c (fun z => h0 (fun q => q.2 z)) (fun z2 => h1 z1 z2)⟩)⟩
theorem kd_xLies {post : Int32 → Prop} {c l : Int32} {j : Nat} (hj : j < 200) (h1 : kd_L x y t c l j = true → post 1) (h0 : ¬ kd_L x y t c l j = true → post 0) : wpX_liesIn post (nI n, s, x, y, w, t) (nI j) c l := by
  rw [kd_L_i] at h1 h0
  unfold wpX_liesIn
  dsimp only
  rw [kd_c hj]
  by_cases z : t j = 0
  · refine kd_xThere0 (fun i hi e => ?_) (br_t rfl (h0 (fun q => q.1 z)))
    rw [← (nI_eq (by omega) (by omega)).mp e]
    exact z
  · refine kd_xThere1 hj z (br_f kd_10 ⟨kd_v hj, ?_⟩)
    refine kd_xInSpan (fun a1 a2 => br_f kd_10 ⟨kd_v hj, ?_⟩) (fun q => br_t rfl (h0 (fun r => q ⟨r.2.1, r.2.2.1⟩)))
    exact kd_xInSpan (fun b1 b2 => br_f kd_10 (h1 ⟨z, a1, a2, b1, b2⟩)) (fun q => br_t rfl (h0 (fun r => q ⟨r.2.2.2.1, r.2.2.2.2⟩)))
theorem kd_yLies {post : Int32 → Prop} {c l : Int32} {j : Nat} (hj : j < 200) (h1 : kd_L x y t c l j = true → post 1) (h0 : ¬ kd_L x y t c l j = true → post 0) : wpY_lies post (nI n, s, x, y, w, t) (nI j) c l := by
  rw [kd_L_i] at h1 h0
  unfold wpY_lies
  dsimp only
  rw [kd_c hj]
  refine ⟨kd_v hj, br_c (fun z => h0 (fun q => q.1 z)) (fun z1 => ⟨kd_v hj, kd_640, br_c (fun z => h0 (fun q => q.2.1 z)) (fun z2 => ⟨kd_v hj, kd_640, br_c (fun z => h0 (fun q => q.2.2.1 z)) (fun z3 => ⟨kd_v hj, kd_640, ?_⟩)⟩)⟩)⟩
  exact br_c (fun z => h0 (fun q => q.2.2.2.1 z)) (fun z4 => ⟨kd_v hj, kd_640, br_c (fun z => h0 (fun q => q.2.2.2.2 z)) (fun z5 => h1 ⟨z1, z2, z3, z4, z5⟩)⟩)
theorem kd_xDist {post : Int32 → Prop} {a b : Int32} {j : Nat} (hj : j < 200) (h : post (kd_D x y j a b)) : wpX_distance post (nI n, s, x, y, w, t) (nI j) a b := by
  unfold wpX_distance
  dsimp only
  rw [kd_c hj]
  exact ⟨kd_v hj, nm_e ⟨kd_v hj, nm_e h⟩⟩
theorem kd_yDist {post : Int32 → Prop} {a b : Int32} {j : Nat} (hj : j < 200) (h : post (kd_D x y j a b)) : wpY_distance post (nI n, s, x, y, w, t) (nI j) a b := by
  unfold wpY_distance
  dsimp only
  rw [kd_c hj]
  exact ⟨kd_v hj, kd_v hj, kd_v hj, kd_v hj, h⟩
