/-! heaviest: X keeps the best weight beside the best point -/
def kd_hX (L : Nat → Bool) (w : Nat → Int32) (p : Nat) (s : Int32 × Int32) : Int32 × Int32 :=
  if L p = true ∧ ¬ w p ≤ s.2 then (nI p, w p) else s
def kd_hY (L : Nat → Bool) (w : Nat → Int32) (p : Nat) (b : Int32) : Int32 :=
  if L p = true ∧ (b < 0 ∨ ¬ w p ≤ w b.toNatClampNeg) then nI p else b
def kd_hR (w : Nat → Int32) (s : Int32 × Int32) (b : Int32) : Prop :=
  s.1 = b ∧ ((b = -4 ∧ s.2 = -1) ∨ ∃ j, j < 200 ∧ b = nI j ∧ s.2 = w j)
theorem kd_m1 {x : Int32} (h : 0 ≤ x) : ¬ x ≤ -1 := by
  rw [Int32.le_iff_toInt_le] at h ⊢
  have e0 : (0 : Int32).toInt = 0 := by decide +kernel
  have e1 : (-1 : Int32).toInt = -1 := by decide +kernel
  omega
theorem kd_hS {L : Nat → Bool} {w : Nat → Int32} (hw : ∀ j, 0 ≤ w j) {p : Nat} (hp : p < 200) {s : Int32 × Int32} {b : Int32} (h : kd_hR w s b) : kd_hR w (kd_hX L w p s) (kd_hY L w p b) := by
  unfold kd_hX kd_hY
  by_cases c : L p = true
  · obtain ⟨h1, h2⟩ := h
    rcases h2 with ⟨h2, h3⟩ | ⟨j, hj, h2, h3⟩
    · have hb : b < 0 := by rw [h2]; decide
      have hA : L p = true ∧ ¬ w p ≤ s.2 := ⟨c, by rw [h3]; exact kd_m1 (hw p)⟩
      have hB : L p = true ∧ (b < 0 ∨ ¬ w p ≤ w b.toNatClampNeg) := ⟨c, Or.inl hb⟩
      rw [if_pos hA, if_pos hB]
      exact ⟨rfl, Or.inr ⟨p, hp, rfl, rfl⟩⟩
    · have e : w b.toNatClampNeg = w j := by rw [h2, nI_clamp (by omega)]
      have hb : ¬ b < 0 := by rw [h2]; exact nI_pos (by omega)
      by_cases z : w p ≤ w j
      · have hA : ¬ (L p = true ∧ ¬ w p ≤ s.2) := fun q => q.2 (by rw [h3]; exact z)
        have hB : ¬ (L p = true ∧ (b < 0 ∨ ¬ w p ≤ w b.toNatClampNeg)) := fun q => q.2.elim hb (fun r => r (by rw [e]; exact z))
        rw [if_neg hA, if_neg hB]
        exact ⟨h1, Or.inr ⟨j, hj, h2, h3⟩⟩
      · have hA : L p = true ∧ ¬ w p ≤ s.2 := ⟨c, by rw [h3]; exact z⟩
        have hB : L p = true ∧ (b < 0 ∨ ¬ w p ≤ w b.toNatClampNeg) := ⟨c, Or.inr (by rw [e]; exact z)⟩
        rw [if_pos hA, if_pos hB]
        exact ⟨rfl, Or.inr ⟨p, hp, rfl, rfl⟩⟩
  · have hA : ¬ (L p = true ∧ ¬ w p ≤ s.2) := fun q => c q.1
    have hB : ¬ (L p = true ∧ (b < 0 ∨ ¬ w p ≤ w b.toNatClampNeg)) := fun q => c q.1
    rw [if_neg hA, if_neg hB]
    exact h
theorem kd_hE {L : Nat → Bool} {w : Nat → Int32} (hw : ∀ j, 0 ≤ w j) : ∀ (d p : Nat) (s : Int32 × Int32) (b : Int32), p + d ≤ 200 → kd_hR w s b → (kd_sc (kd_hX L w) d p s).1 = kd_sc (kd_hY L w) d p b := by
  intro d
  induction d with
  | zero => intro p s b _ h; exact h.1
  | succ d ih =>
    intro p s b hp h
    exact ih (p + 1) _ _ (by omega) (kd_hS hw (by omega) h)
def kd_hI (b : Int32) : Prop := b = -4 ∨ ∃ j, j < 200 ∧ b = nI j
theorem kd_hI_s {L : Nat → Bool} {w : Nat → Int32} {p : Nat} (hp : p < 200) {b : Int32} (h : kd_hI b) : kd_hI (kd_hY L w p b) := by
  unfold kd_hY
  by_cases c : L p = true ∧ (b < 0 ∨ ¬ w p ≤ w b.toNatClampNeg)
  · rw [if_pos c]; exact Or.inr ⟨p, hp, rfl⟩
  · rw [if_neg c]; exact h
/-! numbers -/
theorem kd_64 (x : Int32) : 64 ≤ x ↔ 63 < x := by
  rw [Int32.le_iff_toInt_le, Int32.lt_iff_toInt_lt]
  have e0 : (64 : Int32).toInt = 64 := by decide +kernel
  have e1 : (63 : Int32).toInt = 63 := by decide +kernel
  omega
theorem kd_4096 (x : Int32) : 4096 ≤ x ↔ 4095 < x := by
  rw [Int32.le_iff_toInt_le, Int32.lt_iff_toInt_lt]
  have e0 : (4096 : Int32).toInt = 4096 := by decide +kernel
  have e1 : (4095 : Int32).toInt = 4095 := by decide +kernel
  omega
theorem kd_in {x : Int32} {B : Nat} {M : Int32} (hM : M.toInt = (B : Int)) (h0 : ¬ x < 0) (h1 : ¬ M ≤ x) : ∃ i, i < B ∧ x = nI i := by
  obtain ⟨j, hj, e⟩ := nI_of h0
  refine ⟨j, ?_, e⟩
  rw [Int32.le_iff_toInt_le, hM, e, nI_toInt hj] at h1
  omega
theorem kd_s40 {s : Int32} (h : s.toInt ≤ 40) : 40 ≤ s ↔ s = 40 := by
  rw [Int32.le_iff_toInt_le, ← Int32.toInt_inj]
  have e0 : (40 : Int32).toInt = 40 := by decide +kernel
  omega
theorem kd_s1 {s : Int32} (h : s.toInt ≤ 40) (h' : ¬ 40 ≤ s) (hl : -3000 ≤ s.toInt) : (s + 1).toInt = s.toInt + 1 ∧ s.toInt + 1 ≤ 40 := by
  rw [Int32.le_iff_toInt_le] at h'
  have e0 : (40 : Int32).toInt = 40 := by decide +kernel
  have e1 : (1 : Int32).toInt = 1 := by decide +kernel
  refine ⟨?_, by omega⟩
  rw [Int32.toInt_add, e1]
  exact Int.bmod_eq_of_le (by omega) (by omega)
theorem kd_s2 {s : Int32} (h : s.toInt ≤ 40) (hl : -3000 ≤ s.toInt) : (s - 1).toInt = s.toInt - 1 := by
  have e1 : (1 : Int32).toInt = 1 := by decide +kernel
  rw [Int32.toInt_sub, e1]
  exact Int.bmod_eq_of_le (by omega) (by omega)
/-! what both sides keep alike -/
def kd_I (k n : Nat) (s : Int32) (x y w t : Nat → Int32) : Prop :=
  n ≤ 200 ∧ -(k : Int) ≤ s.toInt ∧ s.toInt ≤ 40 ∧ kd_R 64 x ∧ kd_R 64 y ∧ kd_R 100 w ∧ ∀ j, n ≤ j → t j = 0
theorem kd_I_up {k n : Nat} {s : Int32} {x y w t : Nat → Int32} (h : kd_I k n s x y w t) : kd_I (k + 4) n s x y w t := by
  obtain ⟨h1, h2, h3⟩ := h
  exact ⟨h1, by omega, h3⟩
theorem kd_R_upd {B : Nat} {x : Nat → Int32} (h : kd_R B x) {a : Int32} (ha : ∃ i, i < B ∧ a = nI i) (p : Nat) : kd_R B (upd x p a) := by
  intro j
  by_cases c : j = p
  · have e : upd x p a j = a := if_pos c
    rw [e]; exact ha
  · have e : upd x p a j = x j := if_neg c
    rw [e]; exact h j
theorem kd_I_add {k n : Nat} {s : Int32} {x y w t : Nat → Int32} (h : kd_I k n s x y w t) (hk : k + 4 ≤ 2048) (hn : n < 200) (hs : ¬ 40 ≤ s) {a b c : Int32} (v : Int32)
    (ha : ∃ i, i < 64 ∧ a = nI i) (hb : ∃ i, i < 64 ∧ b = nI i) (hc : ∃ i, i < 100 ∧ c = nI i) : kd_I (k + 4) (n + 1) (s + 1) (upd x n a) (upd y n b) (upd w n c) (upd t n v) := by
  obtain ⟨h1, h2, h3, hx, hy, hw, ht⟩ := h
  obtain ⟨e, l⟩ := kd_s1 h3 hs (by omega)
  refine ⟨by omega, by omega, by omega, kd_R_upd hx ha n, kd_R_upd hy hb n, kd_R_upd hw hc n, fun j hj => ?_⟩
  have e : upd t n v j = t j := if_neg (by omega)
  rw [e]; exact ht j (by omega)
theorem kd_I_rem {k n : Nat} {s : Int32} {x y w t : Nat → Int32} (h : kd_I k n s x y w t) (hk : k + 4 ≤ 2048) (p : Nat) : kd_I (k + 4) n (s - 1) x y w (upd t p 0) := by
  obtain ⟨h1, h2, h3, hx, hy, hw, ht⟩ := h
  have e := kd_s2 h3 (by omega)
  refine ⟨h1, by omega, by omega, hx, hy, hw, fun j hj => ?_⟩
  by_cases c : j = p
  · exact if_pos c
  · have e : upd t p 0 j = t j := if_neg c
    rw [e]; exact ht j hj
theorem kd_I_mov {k n : Nat} {s : Int32} {x y w t : Nat → Int32} (h : kd_I k n s x y w t) {a b : Int32}
    (ha : ∃ i, i < 64 ∧ a = nI i) (hb : ∃ i, i < 64 ∧ b = nI i) (p : Nat) : kd_I (k + 4) n s (upd x p a) (upd y p b) w t := by
  obtain ⟨h1, h2, h3, hx, hy, hw, ht⟩ := h
  exact ⟨h1, by omega, h3, kd_R_upd hx ha p, kd_R_upd hy hb p, hw, ht⟩
theorem kd_I_w {k n : Nat} {s : Int32} {x y w t : Nat → Int32} (h : kd_I k n s x y w t) (j : Nat) : 0 ≤ w j := by
  obtain ⟨h1, h2, h3, hx, hy, hw, ht⟩ := h
  obtain ⟨i, hi, e⟩ := hw j
  rw [e]; exact nI_pos' (by omega)
