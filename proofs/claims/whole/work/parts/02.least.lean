/-! the least of a set of distances, whichever way it is run through -/
def kd_mn (a d : Int32) : Int32 := if a = -4 ∨ d < a then d else a
def kd_M (S : Int32 → Prop) (r : Int32) : Prop := (r = -4 ∧ ∀ d, ¬ S d) ∨ (S r ∧ 0 ≤ r ∧ ∀ d, S d → r ≤ d)
theorem kd_M_one {S S' : Int32 → Prop} {r r' : Int32} (h : kd_M S r) (h' : kd_M S' r') (e : ∀ d, S d ↔ S' d) : r = r' := by
  rcases h with ⟨h1, h2⟩ | ⟨h1, _, h2⟩
  · rcases h' with ⟨h3, _⟩ | ⟨h3, _, _⟩
    · rw [h1, h3]
    · exact absurd ((e r').mpr h3) (h2 r')
  · rcases h' with ⟨_, h4⟩ | ⟨h3, _, h4⟩
    · exact absurd ((e r).mp h1) (h4 r)
    · exact Int32.le_antisymm (h2 r' ((e r').mpr h3)) (h4 r ((e r).mp h1))
theorem kd_M_eq {S S' : Int32 → Prop} {r : Int32} (h : kd_M S r) (e : ∀ d, S d ↔ S' d) : kd_M S' r := by
  rcases h with ⟨h1, h2⟩ | ⟨h1, h0, h2⟩
  · exact Or.inl ⟨h1, fun d z => h2 d ((e d).mpr z)⟩
  · exact Or.inr ⟨(e r).mp h1, h0, fun d z => h2 d ((e d).mpr z)⟩
theorem kd_M_put {S : Int32 → Prop} {r d : Int32} (h : kd_M S r) (hd : 0 ≤ d) : kd_M (fun e => S e ∨ e = d) (kd_mn r d) := by
  unfold kd_mn
  rcases h with ⟨h1, h2⟩ | ⟨h1, h0, h2⟩
  · rw [if_pos (Or.inl h1)]
    refine Or.inr ⟨Or.inr rfl, hd, fun e z => ?_⟩
    rcases z with z | z
    · exact absurd z (h2 e)
    · rw [z]; exact Int32.le_refl _
  · by_cases c : r = -4 ∨ d < r
    · rw [if_pos c]
      have hlt : d < r := by
        rcases c with c | c
        · rw [c] at h0
          exact absurd h0 (by decide +kernel)
        · exact c
      refine Or.inr ⟨Or.inr rfl, hd, fun e z => ?_⟩
      rcases z with z | z
      · exact Int32.le_trans (Int32.le_of_lt hlt) (h2 e z)
      · rw [z]; exact Int32.le_refl _
    · rw [if_neg c]
      refine Or.inr ⟨Or.inl h1, h0, fun e z => ?_⟩
      rcases z with z | z
      · exact h2 e z
      · rw [z]; exact Int32.not_lt.mp (fun w => c (Or.inr w))
theorem kd_M_sc {f : Nat → Int32 → Int32} {E : Nat → Int32 → Prop} (hf : ∀ p a (S : Int32 → Prop), kd_M S a → kd_M (fun e => S e ∨ E p e) (f p a)) :
    ∀ d p a (S : Int32 → Prop), kd_M S a → kd_M (fun e => S e ∨ ∃ q, p ≤ q ∧ q < p + d ∧ E q e) (kd_sc f d p a) := by
  intro d
  induction d with
  | zero =>
    intro p a S h
    refine kd_M_eq h (fun e => ⟨Or.inl, fun z => ?_⟩)
    rcases z with z | ⟨q, h1, h2, _⟩
    · exact z
    · exact absurd h2 (by omega)
  | succ d ih =>
    intro p a S h
    refine kd_M_eq (ih (p + 1) (f p a) _ (hf p a S h)) (fun e => ⟨fun z => ?_, fun z => ?_⟩)
    · rcases z with (z | z) | ⟨q, h1, h2, h3⟩
      · exact Or.inl z
      · exact Or.inr ⟨p, Nat.le_refl p, by omega, z⟩
      · exact Or.inr ⟨q, by omega, by omega, h3⟩
    · rcases z with z | ⟨q, h1, h2, h3⟩
      · exact Or.inl (Or.inl z)
      · by_cases c : q = p
        · rw [c] at h3; exact Or.inl (Or.inr h3)
        · exact Or.inr ⟨q, by omega, by omega, h3⟩
/-! the distance -/
def kd_D (x y : Nat → Int32) (p : Nat) (a b : Int32) : Int32 := (x p - a) * (x p - a) + (y p - b) * (y p - b)
def kd_R (B : Nat) (x : Nat → Int32) : Prop := ∀ j, ∃ i, i < B ∧ x j = nI i
theorem kd_sq : ∀ i : Fin 64, ∀ j : Fin 64, 0 ≤ (nI i.val - nI j.val) * (nI i.val - nI j.val) ∧ (nI i.val - nI j.val) * (nI i.val - nI j.val) ≤ 4000 := by
  decide +kernel
theorem kd_4000 : (4000 : Int32).toInt = ((4000 : Nat) : Int) := by decide +kernel
theorem kd_sqN {x : Nat → Int32} (h : kd_R 64 x) (p q : Nat) : ∃ m, m ≤ 4000 ∧ (x p - x q) * (x p - x q) = nI m := by
  obtain ⟨i, hi, ei⟩ := h p
  obtain ⟨j, hj, ej⟩ := h q
  have z := kd_sq ⟨i, hi⟩ ⟨j, hj⟩
  rw [ei, ej]
  exact nI_of2 kd_4000 (Int32.not_lt.mpr z.1) z.2
theorem kd_D_pos {x y : Nat → Int32} (hx : kd_R 64 x) (hy : kd_R 64 y) (p q : Nat) : 0 ≤ kd_D x y p (x q) (y q) := by
  obtain ⟨m, hm, em⟩ := kd_sqN hx p q
  obtain ⟨m', hm', em'⟩ := kd_sqN hy p q
  unfold kd_D
  rw [em, em', nI_add]
  exact nI_pos' (by omega)
theorem kd_D_sym (x y : Nat → Int32) (p q : Nat) : kd_D x y p (x q) (y q) = kd_D x y q (x p) (y p) := by
  unfold kd_D
  grind
/-! closest: X runs q above p, Y runs q below p -/
def kd_fX (x y t : Nat → Int32) (p : Nat) (a : Int32) : Int32 :=
  if t p = 0 then a else kd_sc (fun q a => if t q = 0 then a else kd_mn a (kd_D x y p (x q) (y q))) (200 - (p + 1)) (p + 1) a
def kd_fY (x y t : Nat → Int32) (p : Nat) (a : Int32) : Int32 :=
  kd_sc (fun q a => if t p = 0 ∨ t q = 0 then a else kd_mn a (kd_D x y p (x q) (y q))) p 0 a
theorem kd_M_fX {x y t : Nat → Int32} (hx : kd_R 64 x) (hy : kd_R 64 y) (p : Nat) (a : Int32) (S : Int32 → Prop) (h : kd_M S a) :
    kd_M (fun e => S e ∨ (¬ t p = 0 ∧ ∃ q, p + 1 ≤ q ∧ q < p + 1 + (200 - (p + 1)) ∧ (¬ t q = 0 ∧ e = kd_D x y p (x q) (y q)))) (kd_fX x y t p a) := by
  unfold kd_fX
  by_cases c : t p = 0
  · rw [if_pos c]
    exact kd_M_eq h (fun e => ⟨Or.inl, fun z => z.elim id (fun w => absurd c w.1)⟩)
  · rw [if_neg c]
    refine kd_M_eq (kd_M_sc (E := fun q e => ¬ t q = 0 ∧ e = kd_D x y p (x q) (y q)) ?_ (200 - (p + 1)) (p + 1) a S h) (fun e => ⟨fun z => z.elim Or.inl (fun w => Or.inr ⟨c, w⟩), fun z => z.elim Or.inl (fun w => Or.inr w.2)⟩)
    intro q b S' h'
    by_cases cq : t q = 0
    · show kd_M _ (if t q = 0 then b else kd_mn b (kd_D x y p (x q) (y q)))
      rw [if_pos cq]
      exact kd_M_eq h' (fun e => ⟨Or.inl, fun z => z.elim id (fun w => absurd cq w.1)⟩)
    · show kd_M _ (if t q = 0 then b else kd_mn b (kd_D x y p (x q) (y q)))
      rw [if_neg cq]
      exact kd_M_eq (kd_M_put h' (kd_D_pos hx hy p q)) (fun e => ⟨fun z => z.elim Or.inl (fun w => Or.inr ⟨cq, w⟩), fun z => z.elim Or.inl (fun w => Or.inr w.2)⟩)
theorem kd_M_fY {x y t : Nat → Int32} (hx : kd_R 64 x) (hy : kd_R 64 y) (p : Nat) (a : Int32) (S : Int32 → Prop) (h : kd_M S a) :
    kd_M (fun e => S e ∨ ∃ q, 0 ≤ q ∧ q < 0 + p ∧ (¬ (t p = 0 ∨ t q = 0) ∧ e = kd_D x y p (x q) (y q))) (kd_fY x y t p a) := by
  unfold kd_fY
  refine kd_M_sc (E := fun q e => ¬ (t p = 0 ∨ t q = 0) ∧ e = kd_D x y p (x q) (y q)) ?_ p 0 a S h
  intro q b S' h'
  by_cases cq : t p = 0 ∨ t q = 0
  · show kd_M _ (if t p = 0 ∨ t q = 0 then b else kd_mn b (kd_D x y p (x q) (y q)))
    rw [if_pos cq]
    exact kd_M_eq h' (fun e => ⟨Or.inl, fun z => z.elim id (fun w => absurd cq w.1)⟩)
  · show kd_M _ (if t p = 0 ∨ t q = 0 then b else kd_mn b (kd_D x y p (x q) (y q)))
    rw [if_neg cq]
    exact kd_M_eq (kd_M_put h' (kd_D_pos hx hy p q)) (fun e => ⟨fun z => z.elim Or.inl (fun w => Or.inr ⟨cq, w⟩), fun z => z.elim Or.inl (fun w => Or.inr w.2)⟩)
theorem kd_M_0 : kd_M (fun _ => False) (-4) := Or.inl ⟨rfl, fun _ z => z⟩
theorem kd_close {x y t : Nat → Int32} {n : Nat} (hx : kd_R 64 x) (hy : kd_R 64 y) (hn : n ≤ 200) (ht : ∀ j, n ≤ j → t j = 0) :
    kd_sc (kd_fX x y t) 200 0 (-4) = kd_sc (kd_fY x y t) n 0 (-4) := by
  refine kd_M_one (kd_M_sc (kd_M_fX (t := t) hx hy) 200 0 (-4) _ kd_M_0) (kd_M_sc (kd_M_fY (t := t) hx hy) n 0 (-4) _ kd_M_0) (fun e => ⟨fun z => ?_, fun z => ?_⟩)
  · rcases z with z | ⟨p, _, hp, cp, q, hq, hq', cq, eq⟩
    · exact z.elim
    · have hqn : q < n := Nat.lt_of_not_le (fun w => cq (ht q w))
      refine Or.inr ⟨q, by omega, by omega, p, by omega, by omega, fun w => w.elim cq cp, ?_⟩
      rw [eq]; exact kd_D_sym x y p q
  · rcases z with z | ⟨p, _, hp, q, _, hq, c, eq⟩
    · exact z.elim
    · refine Or.inr ⟨q, by omega, by omega, fun w => c (Or.inr w), p, by omega, by omega, fun w => c (Or.inl w), ?_⟩
      rw [eq]; exact kd_D_sym x y p q
