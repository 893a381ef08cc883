section
/-! Pure part: scans, first finds, any, and the least distance. -/
def kd_sc {α : Type} (f : Nat → α → α) : Nat → Nat → α → α
  | 0, _, a => a
  | d + 1, p, a => kd_sc f d (p + 1) (f p a)
theorem kd_sc_id {α : Type} {f : Nat → α → α} : ∀ (d p : Nat) (a : α), (∀ q, p ≤ q → ∀ b, f q b = b) → kd_sc f d p a = a := by
  intro d
  induction d with
  | zero => intro p a _; rfl
  | succ d ih =>
    intro p a h
    show kd_sc f d (p + 1) (f p a) = a
    rw [h p (Nat.le_refl p) a]
    exact ih (p + 1) a (fun q hq b => h q (by omega) b)
theorem kd_sc_cut {α : Type} {f : Nat → α → α} : ∀ (d e p : Nat) (a : α), (∀ q, p + d ≤ q → ∀ b, f q b = b) → kd_sc f (d + e) p a = kd_sc f d p a := by
  intro d
  induction d with
  | zero =>
    intro e p a h
    rw [Nat.zero_add]
    exact kd_sc_id e p a (fun q hq b => h q (by omega) b)
  | succ d ih =>
    intro e p a h
    rw [Nat.add_right_comm d 1 e]
    show kd_sc f (d + e) (p + 1) (f p a) = kd_sc f d (p + 1) (f p a)
    exact ih e (p + 1) _ (fun q hq b => h q (by omega) b)
theorem kd_sc_200 {α : Type} {f : Nat → α → α} {n : Nat} (hn : n ≤ 200) (a : α) (h : ∀ q, n ≤ q → ∀ b, f q b = b) : kd_sc f 200 0 a = kd_sc f n 0 a := by
  have he : 200 = n + (200 - n) := by omega
  rw [he]
  exact kd_sc_cut n (200 - n) 0 a (fun q hq b => h q (by omega) b)
def kd_fs (P : Nat → Bool) : Nat → Nat → Int32
  | 0, _ => -4
  | d + 1, p => if P p = true then nI p else kd_fs P d (p + 1)
theorem kd_fs_id {P : Nat → Bool} : ∀ (d p : Nat), (∀ q, p ≤ q → ¬ P q = true) → kd_fs P d p = -4 := by
  intro d
  induction d with
  | zero => intro p _; rfl
  | succ d ih =>
    intro p h
    show (if P p = true then nI p else kd_fs P d (p + 1)) = -4
    rw [if_neg (h p (Nat.le_refl p))]
    exact ih (p + 1) (fun q hq => h q (by omega))
theorem kd_fs_cut {P : Nat → Bool} : ∀ (d e p : Nat), (∀ q, p + d ≤ q → ¬ P q = true) → kd_fs P (d + e) p = kd_fs P d p := by
  intro d
  induction d with
  | zero =>
    intro e p h
    rw [Nat.zero_add]
    exact kd_fs_id e p (fun q hq => h q (by omega))
  | succ d ih =>
    intro e p h
    rw [Nat.add_right_comm d 1 e]
    show (if P p = true then nI p else kd_fs P (d + e) (p + 1)) = (if P p = true then nI p else kd_fs P d (p + 1))
    rw [ih e (p + 1) (fun q hq => h q (by omega))]
theorem kd_fs_200 {P : Nat → Bool} {n : Nat} (hn : n ≤ 200) (h : ∀ q, n ≤ q → ¬ P q = true) : kd_fs P 200 0 = kd_fs P n 0 := by
  have he : 200 = n + (200 - n) := by omega
  rw [he]
  exact kd_fs_cut n (200 - n) 0 (fun q hq => h q (by omega))
def kd_an (P : Nat → Bool) : Nat → Nat → Bool
  | 0, _ => false
  | d + 1, p => if P p = true then true else kd_an P d (p + 1)
theorem kd_an_id {P : Nat → Bool} : ∀ (d p : Nat), (∀ q, p ≤ q → ¬ P q = true) → kd_an P d p = false := by
  intro d
  induction d with
  | zero => intro p _; rfl
  | succ d ih =>
    intro p h
    show (if P p = true then true else kd_an P d (p + 1)) = false
    rw [if_neg (h p (Nat.le_refl p))]
    exact ih (p + 1) (fun q hq => h q (by omega))
theorem kd_an_cut {P : Nat → Bool} : ∀ (d e p : Nat), (∀ q, p + d ≤ q → ¬ P q = true) → kd_an P (d + e) p = kd_an P d p := by
  intro d
  induction d with
  | zero =>
    intro e p h
    rw [Nat.zero_add]
    exact kd_an_id e p (fun q hq => h q (by omega))
  | succ d ih =>
    intro e p h
    rw [Nat.add_right_comm d 1 e]
    show (if P p = true then true else kd_an P (d + e) (p + 1)) = (if P p = true then true else kd_an P d (p + 1))
    rw [ih e (p + 1) (fun q hq => h q (by omega))]
theorem kd_an_200 {P : Nat → Bool} {n : Nat} (hn : n ≤ 200) (h : ∀ q, n ≤ q → ¬ P q = true) : kd_an P 200 0 = kd_an P n 0 := by
  have he : 200 = n + (200 - n) := by omega
  rw [he]
  exact kd_an_cut n (200 - n) 0 (fun q hq => h q (by omega))
/-! loops against scans -/
theorem kd_lpI {α : Type} (W : Nat → Int32 → α → Prop) (post : α → Prop) (f : Nat → α → α) (I : Nat → α → Prop) (N : Nat)
    (hx : ∀ n a, post a → W (n + 1) (nI N) a)
    (hs : ∀ n p a, p < N → I p a → W n (nI (p + 1)) (f p a) → W (n + 1) (nI p) a)
    (hI : ∀ p a, p < N → I p a → I (p + 1) (f p a)) :
    ∀ d p a, p + d = N → I p a → post (kd_sc f d p a) → W (d + 1) (nI p) a := by
  intro d
  induction d with
  | zero =>
    intro p a hp _ h
    have e : p = N := by omega
    rw [e]
    exact hx 0 a h
  | succ d ih =>
    intro p a hp hi h
    exact hs (d + 1) p a (by omega) hi (ih (p + 1) (f p a) (by omega) (hI p a (by omega) hi) h)
theorem kd_lp {α : Type} (W : Nat → Int32 → α → Prop) (post : α → Prop) (f : Nat → α → α) (N : Nat)
    (hx : ∀ n a, post a → W (n + 1) (nI N) a)
    (hs : ∀ n p a, p < N → W n (nI (p + 1)) (f p a) → W (n + 1) (nI p) a)
    (d p : Nat) (a : α) (hp : p + d = N) (h : post (kd_sc f d p a)) : W (d + 1) (nI p) a :=
  kd_lpI W post f (fun _ _ => True) N hx (fun n p a hp _ h => hs n p a hp h) (fun _ _ _ _ => trivial) d p a hp trivial h
theorem kd_sc_inv {α : Type} {f : Nat → α → α} {I : α → Prop} (hf : ∀ p a, I a → I (f p a)) : ∀ (d p : Nat) (a : α), I a → I (kd_sc f d p a) := by
  intro d
  induction d with
  | zero => intro p a h; exact h
  | succ d ih => intro p a h; exact ih (p + 1) (f p a) (hf p a h)
theorem kd_lf (W : Nat → Int32 → Prop) (post : Int32 → Prop) (P : Nat → Bool) (N : Nat)
    (hx : ∀ n, post (-4) → W (n + 1) (nI N))
    (hs : ∀ n p, p < N → (P p = true → post (nI p)) → (¬ P p = true → W n (nI (p + 1))) → W (n + 1) (nI p)) :
    ∀ d p, p + d = N → post (kd_fs P d p) → W (d + 1) (nI p) := by
  intro d
  induction d with
  | zero =>
    intro p hp h
    have e : p = N := by omega
    rw [e]
    exact hx 0 h
  | succ d ih =>
    intro p hp h
    have h' : post (if P p = true then nI p else kd_fs P d (p + 1)) := h
    by_cases z : P p = true
    · rw [if_pos z] at h'
      exact hs (d + 1) p (by omega) (fun _ => h') (fun q => absurd z q)
    · rw [if_neg z] at h'
      exact hs (d + 1) p (by omega) (fun q => absurd q z) (fun _ => ih (p + 1) (by omega) h')
theorem kd_la (W : Nat → Int32 → Prop) (post : Int32 → Prop) (P : Nat → Bool) (N : Nat)
    (hx : ∀ n, post 0 → W (n + 1) (nI N))
    (hs : ∀ n p, p < N → (P p = true → post 1) → (¬ P p = true → W n (nI (p + 1))) → W (n + 1) (nI p)) :
    ∀ d p, p + d = N → (kd_an P d p = true → post 1) → (¬ kd_an P d p = true → post 0) → W (d + 1) (nI p) := by
  intro d
  induction d with
  | zero =>
    intro p hp _ h
    have e : p = N := by omega
    rw [e]
    exact hx 0 (h (fun q => Bool.noConfusion q))
  | succ d ih =>
    intro p hp h1 h0
    by_cases z : P p = true
    · have e : kd_an P (d + 1) p = true := if_pos z
      exact hs (d + 1) p (by omega) (fun _ => h1 e) (fun q => absurd z q)
    · have e : kd_an P (d + 1) p = kd_an P d (p + 1) := if_neg z
      rw [e] at h1 h0
      exact hs (d + 1) p (by omega) (fun q => absurd q z) (fun _ => ih (p + 1) (by omega) h1 h0)
end
section
/-! the least of a set of distances, whichever way it is run through -/
def kd_mn (a d : Int32) : Int32 := if a = -4 ∨ d < a then d else a
def kd_M (S : Int32 → Prop) (r : Int32) : Prop := (r = -4 ∧ ∀ d, ¬ S d) ∨ (S r ∧ 0 ≤ r ∧ ∀ d, S d → r ≤ d)
theorem kd_M_one {S S' : Int32 → Prop} {r r' : Int32} (h : kd_M S r) (h' : kd_M S' r') (e : ∀ d, S d ↔ S' d) : r = r' := by
  rcases h with ⟨h1, h2⟩ | ⟨h1, _, h2⟩
  · rcases h' with ⟨h3, _⟩ | ⟨h3, _, _⟩
    · rw [h1, h3]
    · exact absurd ((e r').mpr h3) (h2 r')
  · rcases h' with ⟨_, h4⟩ | ⟨h3, _, h4⟩
    · exact absurd ((e r).mp h1) (h4 r)
    · exact Int32.le_antisymm (h2 r' ((e r').mpr h3)) (h4 r ((e r).mp h1))
theorem kd_M_eq {S S' : Int32 → Prop} {r : Int32} (h : kd_M S r) (e : ∀ d, S d ↔ S' d) : kd_M S' r := by
  rcases h with ⟨h1, h2⟩ | ⟨h1, h0, h2⟩
  · exact Or.inl ⟨h1, fun d z => h2 d ((e d).mpr z)⟩
  · exact Or.inr ⟨(e r).mp h1, h0, fun d z => h2 d ((e d).mpr z)⟩
theorem kd_M_put {S : Int32 → Prop} {r d : Int32} (h : kd_M S r) (hd : 0 ≤ d) : kd_M (fun e => S e ∨ e = d) (kd_mn r d) := by
  unfold kd_mn
  rcases h with ⟨h1, h2⟩ | ⟨h1, h0, h2⟩
  · rw [if_pos (Or.inl h1)]
    refine Or.inr ⟨Or.inr rfl, hd, fun e z => ?_⟩
    rcases z with z | z
    · exact absurd z (h2 e)
    · rw [z]; exact Int32.le_refl _
  · by_cases c : r = -4 ∨ d < r
    · rw [if_pos c]
      have hlt : d < r := by
        rcases c with c | c
        · rw [c] at h0
          exact absurd h0 (by decide +kernel)
        · exact c
      refine Or.inr ⟨Or.inr rfl, hd, fun e z => ?_⟩
      rcases z with z | z
      · exact Int32.le_trans (Int32.le_of_lt hlt) (h2 e z)
      · rw [z]; exact Int32.le_refl _
    · rw [if_neg c]
      refine Or.inr ⟨Or.inl h1, h0, fun e z => ?_⟩
      rcases z with z | z
      · exact h2 e z
      · rw [z]; exact Int32.not_lt.mp (fun w => c (Or.inr w))
theorem kd_M_sc {f : Nat → Int32 → Int32} {E : Nat → Int32 → Prop} (hf : ∀ p a (S : Int32 → Prop), kd_M S a → kd_M (fun e => S e ∨ E p e) (f p a)) :
    ∀ d p a (S : Int32 → Prop), kd_M S a → kd_M (fun e => S e ∨ ∃ q, p ≤ q ∧ q < p + d ∧ E q e) (kd_sc f d p a) := by
  intro d
  induction d with
  | zero =>
    intro p a S h
    refine kd_M_eq h (fun e => ⟨Or.inl, fun z => ?_⟩)
    rcases z with z | ⟨q, h1, h2, _⟩
    · exact z
    · exact absurd h2 (by omega)
  | succ d ih =>
    intro p a S h
    refine kd_M_eq (ih (p + 1) (f p a) _ (hf p a S h)) (fun e => ⟨fun z => ?_, fun z => ?_⟩)
    · rcases z with (z | z) | ⟨q, h1, h2, h3⟩
      · exact Or.inl z
      · exact Or.inr ⟨p, Nat.le_refl p, by omega, z⟩
      · exact Or.inr ⟨q, by omega, by omega, h3⟩
    · rcases z with z | ⟨q, h1, h2, h3⟩
      · exact Or.inl (Or.inl z)
      · by_cases c : q = p
        · rw [c] at h3; exact Or.inl (Or.inr h3)
        · exact Or.inr ⟨q, by omega, by omega, h3⟩
/-! the distance -/
def kd_D (x y : Nat → Int32) (p : Nat) (a b : Int32) : Int32 := (x p - a) * (x p - a) + (y p - b) * (y p - b)
def kd_R (B : Nat) (x : Nat → Int32) : Prop := ∀ j, ∃ i, i < B ∧ x j = nI i
theorem kd_sq : ∀ i : Fin 64, ∀ j : Fin 64, 0 ≤ (nI i.val - nI j.val) * (nI i.val - nI j.val) ∧ (nI i.val - nI j.val) * (nI i.val - nI j.val) ≤ 4000 := by
  decide +kernel
theorem kd_4000 : (4000 : Int32).toInt = ((4000 : Nat) : Int) := by decide +kernel
theorem kd_sqN {x : Nat → Int32} (h : kd_R 64 x) (p q : Nat) : ∃ m, m ≤ 4000 ∧ (x p - x q) * (x p - x q) = nI m := by
  obtain ⟨i, hi, ei⟩ := h p
  obtain ⟨j, hj, ej⟩ := h q
  have z := kd_sq ⟨i, hi⟩ ⟨j, hj⟩
  rw [ei, ej]
  exact nI_of2 kd_4000 (Int32.not_lt.mpr z.1) z.2
theorem kd_D_pos {x y : Nat → Int32} (hx : kd_R 64 x) (hy : kd_R 64 y) (p q : Nat) : 0 ≤ kd_D x y p (x q) (y q) := by
  obtain ⟨m, hm, em⟩ := kd_sqN hx p q
  obtain ⟨m', hm', em'⟩ := kd_sqN hy p q
  unfold kd_D
  rw [em, em', nI_add]
  exact nI_pos' (by omega)
theorem kd_D_sym (x y : Nat → Int32) (p q : Nat) : kd_D x y p (x q) (y q) = kd_D x y q (x p) (y p) := by
  unfold kd_D
  grind
/-! closest: X runs q above p, Y runs q below p -/
def kd_fX (x y t : Nat → Int32) (p : Nat) (a : Int32) : Int32 :=
  if t p = 0 then a else kd_sc (fun q a => if t q = 0 then a else kd_mn a (kd_D x y p (x q) (y q))) (200 - (p + 1)) (p + 1) a
def kd_fY (x y t : Nat → Int32) (p : Nat) (a : Int32) : Int32 :=
  kd_sc (fun q a => if t p = 0 ∨ t q = 0 then a else kd_mn a (kd_D x y p (x q) (y q))) p 0 a
theorem kd_M_fX {x y t : Nat → Int32} (hx : kd_R 64 x) (hy : kd_R 64 y) (p : Nat) (a : Int32) (S : Int32 → Prop) (h : kd_M S a) :
    kd_M (fun e => S e ∨ (¬ t p = 0 ∧ ∃ q, p + 1 ≤ q ∧ q < p + 1 + (200 - (p + 1)) ∧ (¬ t q = 0 ∧ e = kd_D x y p (x q) (y q)))) (kd_fX x y t p a) := by
  unfold kd_fX
  by_cases c : t p = 0
  · rw [if_pos c]
    exact kd_M_eq h (fun e => ⟨Or.inl, fun z => z.elim id (fun w => absurd c w.1)⟩)
  · rw [if_neg c]
    refine kd_M_eq (kd_M_sc (E := fun q e => ¬ t q = 0 ∧ e = kd_D x y p (x q) (y q)) ?_ (200 - (p + 1)) (p + 1) a S h) (fun e => ⟨fun z => z.elim Or.inl (fun w => Or.inr ⟨c, w⟩), fun z => z.elim Or.inl (fun w => Or.inr w.2)⟩)
    intro q b S' h'
    by_cases cq : t q = 0
    · show kd_M _ (if t q = 0 then b else kd_mn b (kd_D x y p (x q) (y q)))
      rw [if_pos cq]
      exact kd_M_eq h' (fun e => ⟨Or.inl, fun z => z.elim id (fun w => absurd cq w.1)⟩)
    · show kd_M _ (if t q = 0 then b else kd_mn b (kd_D x y p (x q) (y q)))
      rw [if_neg cq]
      exact kd_M_eq (kd_M_put h' (kd_D_pos hx hy p q)) (fun e => ⟨fun z => z.elim Or.inl (fun w => Or.inr ⟨cq, w⟩), fun z => z.elim Or.inl (fun w => Or.inr w.2)⟩)
theorem kd_M_fY {x y t : Nat → Int32} (hx : kd_R 64 x) (hy : kd_R 64 y) (p : Nat) (a : Int32) (S : Int32 → Prop) (h : kd_M S a) :
    kd_M (fun e => S e ∨ ∃ q, 0 ≤ q ∧ q < 0 + p ∧ (¬ (t p = 0 ∨ t q = 0) ∧ e = kd_D x y p (x q) (y q))) (kd_fY x y t p a) := by
  unfold kd_fY
  refine kd_M_sc (E := fun q e => ¬ (t p = 0 ∨ t q = 0) ∧ e = kd_D x y p (x q) (y q)) ?_ p 0 a S h
  intro q b S' h'
  by_cases cq : t p = 0 ∨ t q = 0
  · show kd_M _ (if t p = 0 ∨ t q = 0 then b else kd_mn b (kd_D x y p (x q) (y q)))
    rw [if_pos cq]
    exact kd_M_eq h' (fun e => ⟨Or.inl, fun z => z.elim id (fun w => absurd cq w.1)⟩)
  · show kd_M _ (if t p = 0 ∨ t q = 0 then b else kd_mn b (kd_D x y p (x q) (y q)))
    rw [if_neg cq]
    exact kd_M_eq (kd_M_put h' (kd_D_pos hx hy p q)) (fun e => ⟨fun z => z.elim Or.inl (fun w => Or.inr ⟨cq, w⟩), fun z => z.elim Or.inl (fun w => Or.inr w.2)⟩)
theorem kd_M_0 : kd_M (fun _ => False) (-4) := Or.inl ⟨rfl, fun _ z => z⟩
theorem kd_close {x y t : Nat → Int32} {n : Nat} (hx : kd_R 64 x) (hy : kd_R 64 y) (hn : n ≤ 200) (ht : ∀ j, n ≤ j → t j = 0) :
    kd_sc (kd_fX x y t) 200 0 (-4) = kd_sc (kd_fY x y t) n 0 (-4) := by
  refine kd_M_one (kd_M_sc (kd_M_fX (t := t) hx hy) 200 0 (-4) _ kd_M_0) (kd_M_sc (kd_M_fY (t := t) hx hy) n 0 (-4) _ kd_M_0) (fun e => ⟨fun z => ?_, fun z => ?_⟩)
  · rcases z with z | ⟨p, _, hp, cp, q, hq, hq', cq, eq⟩
    · exact z.elim
    · have hqn : q < n := Nat.lt_of_not_le (fun w => cq (ht q w))
      refine Or.inr ⟨q, by omega, by omega, p, by omega, by omega, fun w => w.elim cq cp, ?_⟩
      rw [eq]; exact kd_D_sym x y p q
  · rcases z with z | ⟨p, _, hp, q, _, hq, c, eq⟩
    · exact z.elim
    · refine Or.inr ⟨q, by omega, by omega, fun w => c (Or.inr w), p, by omega, by omega, fun w => c (Or.inl w), ?_⟩
      rw [eq]; exact kd_D_sym x y p q
end
section
/-! heaviest: X keeps the best weight beside the best point -/
def kd_hX (L : Nat → Bool) (w : Nat → Int32) (p : Nat) (s : Int32 × Int32) : Int32 × Int32 :=
  if L p = true ∧ ¬ w p ≤ s.2 then (nI p, w p) else s
def kd_hY (L : Nat → Bool) (w : Nat → Int32) (p : Nat) (b : Int32) : Int32 :=
  if L p = true ∧ (b < 0 ∨ ¬ w p ≤ w b.toNatClampNeg) then nI p else b
def kd_hR (w : Nat → Int32) (s : Int32 × Int32) (b : Int32) : Prop :=
  s.1 = b ∧ ((b = -4 ∧ s.2 = -1) ∨ ∃ j, j < 200 ∧ b = nI j ∧ s.2 = w j)
theorem kd_m1 {x : Int32} (h : 0 ≤ x) : ¬ x ≤ -1 := by
  rw [Int32.le_iff_toInt_le] at h ⊢
  have e0 : (0 : Int32).toInt = 0 := by decide +kernel
  have e1 : (-1 : Int32).toInt = -1 := by decide +kernel
  omega
theorem kd_hS {L : Nat → Bool} {w : Nat → Int32} (hw : ∀ j, 0 ≤ w j) {p : Nat} (hp : p < 200) {s : Int32 × Int32} {b : Int32} (h : kd_hR w s b) : kd_hR w (kd_hX L w p s) (kd_hY L w p b) := by
  unfold kd_hX kd_hY
  by_cases c : L p = true
  · obtain ⟨h1, h2⟩ := h
    rcases h2 with ⟨h2, h3⟩ | ⟨j, hj, h2, h3⟩
    · have hb : b < 0 := by rw [h2]; decide
      have hA : L p = true ∧ ¬ w p ≤ s.2 := ⟨c, by rw [h3]; exact kd_m1 (hw p)⟩
      have hB : L p = true ∧ (b < 0 ∨ ¬ w p ≤ w b.toNatClampNeg) := ⟨c, Or.inl hb⟩
      rw [if_pos hA, if_pos hB]
      exact ⟨rfl, Or.inr ⟨p, hp, rfl, rfl⟩⟩
    · have e : w b.toNatClampNeg = w j := by rw [h2, nI_clamp (by omega)]
      have hb : ¬ b < 0 := by rw [h2]; exact nI_pos (by omega)
      by_cases z : w p ≤ w j
      · have hA : ¬ (L p = true ∧ ¬ w p ≤ s.2) := fun q => q.2 (by rw [h3]; exact z)
        have hB : ¬ (L p = true ∧ (b < 0 ∨ ¬ w p ≤ w b.toNatClampNeg)) := fun q => q.2.elim hb (fun r => r (by rw [e]; exact z))
        rw [if_neg hA, if_neg hB]
        exact ⟨h1, Or.inr ⟨j, hj, h2, h3⟩⟩
      · have hA : L p = true ∧ ¬ w p ≤ s.2 := ⟨c, by rw [h3]; exact z⟩
        have hB : L p = true ∧ (b < 0 ∨ ¬ w p ≤ w b.toNatClampNeg) := ⟨c, Or.inr (by rw [e]; exact z)⟩
        rw [if_pos hA, if_pos hB]
        exact ⟨rfl, Or.inr ⟨p, hp, rfl, rfl⟩⟩
  · have hA : ¬ (L p = true ∧ ¬ w p ≤ s.2) := fun q => c q.1
    have hB : ¬ (L p = true ∧ (b < 0 ∨ ¬ w p ≤ w b.toNatClampNeg)) := fun q => c q.1
    rw [if_neg hA, if_neg hB]
    exact h
theorem kd_hE {L : Nat → Bool} {w : Nat → Int32} (hw : ∀ j, 0 ≤ w j) : ∀ (d p : Nat) (s : Int32 × Int32) (b : Int32), p + d ≤ 200 → kd_hR w s b → (kd_sc (kd_hX L w) d p s).1 = kd_sc (kd_hY L w) d p b := by
  intro d
  induction d with
  | zero => intro p s b _ h; exact h.1
  | succ d ih =>
    intro p s b hp h
    exact ih (p + 1) _ _ (by omega) (kd_hS hw (by omega) h)
def kd_hI (b : Int32) : Prop := b = -4 ∨ ∃ j, j < 200 ∧ b = nI j
theorem kd_hI_s {L : Nat → Bool} {w : Nat → Int32} {p : Nat} (hp : p < 200) {b : Int32} (h : kd_hI b) : kd_hI (kd_hY L w p b) := by
  unfold kd_hY
  by_cases c : L p = true ∧ (b < 0 ∨ ¬ w p ≤ w b.toNatClampNeg)
  · rw [if_pos c]; exact Or.inr ⟨p, hp, rfl⟩
  · rw [if_neg c]; exact h
/-! numbers -/
theorem kd_64 (x : Int32) : 64 ≤ x ↔ 63 < x := by
  rw [Int32.le_iff_toInt_le, Int32.lt_iff_toInt_lt]
  have e0 : (64 : Int32).toInt = 64 := by decide +kernel
  have e1 : (63 : Int32).toInt = 63 := by decide +kernel
  omega
theorem kd_4096 (x : Int32) : 4096 ≤ x ↔ 4095 < x := by
  rw [Int32.le_iff_toInt_le, Int32.lt_iff_toInt_lt]
  have e0 : (4096 : Int32).toInt = 4096 := by decide +kernel
  have e1 : (4095 : Int32).toInt = 4095 := by decide +kernel
  omega
theorem kd_in {x : Int32} {B : Nat} {M : Int32} (hM : M.toInt = (B : Int)) (h0 : ¬ x < 0) (h1 : ¬ M ≤ x) : ∃ i, i < B ∧ x = nI i := by
  obtain ⟨j, hj, e⟩ := nI_of h0
  refine ⟨j, ?_, e⟩
  rw [Int32.le_iff_toInt_le, hM, e, nI_toInt hj] at h1
  omega
theorem kd_s40 {s : Int32} (h : s.toInt ≤ 40) : 40 ≤ s ↔ s = 40 := by
  rw [Int32.le_iff_toInt_le, ← Int32.toInt_inj]
  have e0 : (40 : Int32).toInt = 40 := by decide +kernel
  omega
theorem kd_s1 {s : Int32} (h : s.toInt ≤ 40) (h' : ¬ 40 ≤ s) (hl : -3000 ≤ s.toInt) : (s + 1).toInt = s.toInt + 1 ∧ s.toInt + 1 ≤ 40 := by
  rw [Int32.le_iff_toInt_le] at h'
  have e0 : (40 : Int32).toInt = 40 := by decide +kernel
  have e1 : (1 : Int32).toInt = 1 := by decide +kernel
  refine ⟨?_, by omega⟩
  rw [Int32.toInt_add, e1]
  exact Int.bmod_eq_of_le (by omega) (by omega)
theorem kd_s2 {s : Int32} (h : s.toInt ≤ 40) (hl : -3000 ≤ s.toInt) : (s - 1).toInt = s.toInt - 1 := by
  have e1 : (1 : Int32).toInt = 1 := by decide +kernel
  rw [Int32.toInt_sub, e1]
  exact Int.bmod_eq_of_le (by omega) (by omega)
/-! what both sides keep alike -/
def kd_I (k n : Nat) (s : Int32) (x y w t : Nat → Int32) : Prop :=
  n ≤ 200 ∧ -(k : Int) ≤ s.toInt ∧ s.toInt ≤ 40 ∧ kd_R 64 x ∧ kd_R 64 y ∧ kd_R 100 w ∧ ∀ j, n ≤ j → t j = 0
theorem kd_I_up {k n : Nat} {s : Int32} {x y w t : Nat → Int32} (h : kd_I k n s x y w t) : kd_I (k + 4) n s x y w t := by
  obtain ⟨h1, h2, h3⟩ := h
  exact ⟨h1, by omega, h3⟩
theorem kd_R_upd {B : Nat} {x : Nat → Int32} (h : kd_R B x) {a : Int32} (ha : ∃ i, i < B ∧ a = nI i) (p : Nat) : kd_R B (upd x p a) := by
  intro j
  by_cases c : j = p
  · have e : upd x p a j = a := if_pos c
    rw [e]; exact ha
  · have e : upd x p a j = x j := if_neg c
    rw [e]; exact h j
theorem kd_I_add {k n : Nat} {s : Int32} {x y w t : Nat → Int32} (h : kd_I k n s x y w t) (hk : k + 4 ≤ 2048) (hn : n < 200) (hs : ¬ 40 ≤ s) {a b c : Int32} (v : Int32)
    (ha : ∃ i, i < 64 ∧ a = nI i) (hb : ∃ i, i < 64 ∧ b = nI i) (hc : ∃ i, i < 100 ∧ c = nI i) : kd_I (k + 4) (n + 1) (s + 1) (upd x n a) (upd y n b) (upd w n c) (upd t n v) := by
  obtain ⟨h1, h2, h3, hx, hy, hw, ht⟩ := h
  obtain ⟨e, l⟩ := kd_s1 h3 hs (by omega)
  refine ⟨by omega, by omega, by omega, kd_R_upd hx ha n, kd_R_upd hy hb n, kd_R_upd hw hc n, fun j hj => ?_⟩
  have e : upd t n v j = t j := if_neg (by omega)
  rw [e]; exact ht j (by omega)
theorem kd_I_rem {k n : Nat} {s : Int32} {x y w t : Nat → Int32} (h : kd_I k n s x y w t) (hk : k + 4 ≤ 2048) (p : Nat) : kd_I (k + 4) n (s - 1) x y w (upd t p 0) := by
  obtain ⟨h1, h2, h3, hx, hy, hw, ht⟩ := h
  have e := kd_s2 h3 (by omega)
  refine ⟨h1, by omega, by omega, hx, hy, hw, fun j hj => ?_⟩
  by_cases c : j = p
  · exact if_pos c
  · have e : upd t p 0 j = t j := if_neg c
    rw [e]; exact ht j hj
theorem kd_I_mov {k n : Nat} {s : Int32} {x y w t : Nat → Int32} (h : kd_I k n s x y w t) {a b : Int32}
    (ha : ∃ i, i < 64 ∧ a = nI i) (hb : ∃ i, i < 64 ∧ b = nI i) (p : Nat) : kd_I (k + 4) n s (upd x p a) (upd y p b) w t := by
  obtain ⟨h1, h2, h3, hx, hy, hw, ht⟩ := h
  exact ⟨h1, by omega, h3, kd_R_upd hx ha p, kd_R_upd hy hb p, hw, ht⟩
theorem kd_I_w {k n : Nat} {s : Int32} {x y w t : Nat → Int32} (h : kd_I k n s x y w t) (j : Nat) : 0 ≤ w j := by
  obtain ⟨h1, h2, h3, hx, hy, hw, ht⟩ := h
  obtain ⟨i, hi, e⟩ := hw j
  rw [e]; exact nI_pos' (by omega)
end
section
/-! the small private methods of both sides, with a general post -/
variable {n : Nat} {s : Int32} {x y w t : Nat → Int32}
theorem kd_10 : ¬ (1 : Int32) = 0 := by decide
theorem kd_640 : ¬ (64 : Int32) = 0 := by decide
theorem kd_200 : (200 : Int32).toInt = ((200 : Nat) : Int) := by decide +kernel
theorem kd_n200 : nI 200 = 200 := by decide +kernel
theorem kd_le200 : (200 : Int32) ≤ nI 200 := by rw [kd_n200]; exact Int32.le_refl _
theorem kd_lt200 {p : Nat} (hp : p < 200) : ¬ (200 : Int32) ≤ nI p := by rw [← kd_n200]; exact nI_ge hp (by omega)
theorem kd_nlt {n : Nat} (hn : n ≤ 200) : nI n < 200 ↔ n < 200 := by rw [← kd_n200]; exact nI_ltI (by omega) (by omega)
theorem kd_neq {n : Nat} (hn : n ≤ 200) : nI n = 200 ↔ n = 200 := by rw [← kd_n200]; exact nI_eq (by omega) (by omega)
theorem kd_v {p : Nat} (hp : p < 200) : vp_in (nI p) 200 := vp_in_nI hp (by omega)
theorem kd_c {p : Nat} (hp : p < 200) : (nI p).toNatClampNeg = p := nI_clamp (by omega)
abbrev kd_P (a b : Int32) : Prop := ¬ a < 0 ∧ ¬ 64 ≤ a ∧ ¬ b < 0 ∧ ¬ 64 ≤ b
abbrev kd_S (c : Int32) : Prop := ¬ c < 0 ∧ ¬ 4096 ≤ c ∧ ¬ (c / 64) < (c - c / 64 * 64)
theorem kd_xPlace {post : Int32 → Prop} {a b : Int32} (h1 : kd_P a b → post 1) (h0 : ¬ kd_P a b → post 0) : wpX_isPlace post a b :=
  br_c (fun z => h0 (fun q => q.1 z)) (fun z1 => br_c (fun z => h0 (fun q => q.2.1 z)) (fun z2 => br_c (fun z => h0 (fun q => q.2.2.1 z)) (fun z3 => br_c (fun z => h0 (fun q => q.2.2.2 z)) (fun z4 => h1 ⟨z1, z2, z3, z4⟩))))
theorem kd_yPlace {post : Int32 → Prop} {a b : Int32} (h1 : kd_P a b → post 1) (h0 : ¬ kd_P a b → post 0) : wpY_isPlace post (nI n, s, x, y, w, t) a b :=
  br_c (fun z => h0 (fun q => q.1 z)) (fun z1 => br_c (fun z => h0 (fun q => q.2.1 ((kd_64 a).mpr z))) (fun z2 => br_c (fun z => h0 (fun q => q.2.2.1 z)) (fun z3 => br_c (fun z => h0 (fun q => q.2.2.2 ((kd_64 b).mpr z))) (fun z4 => h1 ⟨z1, fun z => z2 ((kd_64 a).mp z), z3, fun z => z4 ((kd_64 b).mp z)⟩))))
theorem kd_xSpan {post : Int32 → Prop} {c : Int32} (h1 : kd_S c → post 1) (h0 : ¬ kd_S c → post 0) : wpX_isSpan post c :=
  br_c (fun z => h0 (fun q => q.1 z)) (fun z1 => br_c (fun z => h0 (fun q => q.2.1 z)) (fun z2 => ⟨kd_640, kd_640, br_c (fun z => h0 (fun q => q.2.2 z)) (fun z3 => h1 ⟨z1, z2, z3⟩)⟩))
theorem kd_ySide {post : Int32 → Prop} {c : Int32} (h1 : kd_S c → post 1) (h0 : ¬ kd_S c → post 0) : wpY_isSide post (nI n, s, x, y, w, t) c :=
  br_c (fun z => h0 (fun q => q.1 z)) (fun z1 => br_c (fun z => h0 (fun q => q.2.1 ((kd_4096 c).mpr z))) (fun z2 => ⟨kd_640, kd_640, br_c (fun z => h0 (fun q => q.2.2 z)) (fun z3 => h1 ⟨z1, fun z => z2 ((kd_4096 c).mp z), z3⟩)⟩))
theorem kd_xRect {post : Int32 → Prop} {c l : Int32} (h1 : kd_S c ∧ kd_S l → post 1) (h0 : ¬ (kd_S c ∧ kd_S l) → post 0) : wpX_isRectangle post c l := by
  unfold wpX_isRectangle
  refine kd_xSpan (fun z1 => br_f kd_10 ?_) (fun z => br_t rfl (h0 (fun q => z q.1)))
  exact kd_xSpan (fun z2 => br_f kd_10 (h1 ⟨z1, z2⟩)) (fun z => br_t rfl (h0 (fun q => z q.2)))
theorem kd_yRect {post : Int32 → Prop} {c l r : Int32} {A : Prop} (h1 : kd_S c ∧ kd_S l → A) (h0 : ¬ (kd_S c ∧ kd_S l) → post r) :
    wpY_isSide (fun r_1 => (((r_1 = 0 → (post r)) ∧ (¬ r_1 = 0 → (wpY_isSide (fun r_9 => (((r_9 = 0 → (post r)) ∧ (¬ r_9 = 0 → A)))) (nI n, s, x, y, w, t) l))))) (nI n, s, x, y, w, t) c := by
  refine kd_ySide (fun z1 => br_f kd_10 ?_) (fun z => br_t rfl (h0 (fun q => z q.1)))
  exact kd_ySide (fun z2 => br_f kd_10 (h1 ⟨z1, z2⟩)) (fun z => br_t rfl (h0 (fun q => z q.2)))
theorem kd_xThere1 {post : Int32 → Prop} {j : Nat} (hj : j < 200) (h : ¬ t j = 0) (h1 : post 1) : wpX_isThere post (nI n, s, x, y, w, t) (nI j) := by
  have z : ¬ t (nI j).toNatClampNeg = 0 := by rw [kd_c hj]; exact h
  exact br_f (nI_pos (by omega)) (br_f (kd_lt200 hj) ⟨kd_v hj, br_f z h1⟩)
theorem kd_xThere0 {post : Int32 → Prop} {p : Int32} (h : ∀ j, j < 200 → p = nI j → t j = 0) (h0 : post 0) : wpX_isThere post (nI n, s, x, y, w, t) p := by
  refine br_c (fun _ => h0) (fun z1 => br_c (fun _ => h0) (fun z2 => ?_))
  obtain ⟨j, hj, e⟩ := kd_in kd_200 z1 z2
  subst e
  have z : t (nI j).toNatClampNeg = 0 := by rw [kd_c hj]; exact h j hj rfl
  exact ⟨kd_v hj, br_t z h0⟩
theorem kd_yPoint1 {post : Int32 → Prop} {j : Nat} (hn : n ≤ 200) (hj : j < n) (h : ¬ t j = 0) (h1 : post 1) : wpY_isPoint post (nI n, s, x, y, w, t) (nI j) := by
  have hj' : j < 200 := by omega
  have z : ¬ t (nI j).toNatClampNeg = 0 := by rw [kd_c hj']; exact h
  exact br_f (nI_pos (by omega)) (br_f (nI_ge hj (by omega)) ⟨kd_v hj', br_f z h1⟩)
theorem kd_yPoint0 {post : Int32 → Prop} {p : Int32} (hn : n ≤ 200) (h : ∀ j, j < 200 → p = nI j → t j = 0) (h0 : post 0) : wpY_isPoint post (nI n, s, x, y, w, t) p := by
  refine br_c (fun _ => h0) (fun z1 => br_c (fun _ => h0) (fun z2 => ?_))
  obtain ⟨j, hj0, e⟩ := nI_of z1
  subst e
  have hj : j < 200 := by
    rw [nI_leI (by omega) hj0] at z2
    omega
  have z : t (nI j).toNatClampNeg = 0 := by rw [kd_c hj]; exact h j hj rfl
  exact ⟨kd_v hj, br_t z h0⟩
theorem kd_T (p : Int32) (ht : ∀ j, n ≤ j → t j = 0) : (∃ j, j < n ∧ p = nI j ∧ ¬ t j = 0) ∨ (∀ j, j < 200 → p = nI j → t j = 0) := by
  by_cases c : ∃ j, j < n ∧ p = nI j ∧ ¬ t j = 0
  · exact Or.inl c
  · refine Or.inr (fun j _ e => ?_)
    by_cases z : t j = 0
    · exact z
    · exact absurd ⟨j, Nat.lt_of_not_le (fun q => z (ht j q)), e, z⟩ c
def kd_L (x y t : Nat → Int32) (c l : Int32) (j : Nat) : Bool :=
  decide (¬ t j = 0 ∧ ¬ x j < c - c / 64 * 64 ∧ ¬ c / 64 < x j ∧ ¬ y j < l - l / 64 * 64 ∧ ¬ l / 64 < y j)
theorem kd_L_i {c l : Int32} {j : Nat} : kd_L x y t c l j = true ↔ (¬ t j = 0 ∧ ¬ x j < c - c / 64 * 64 ∧ ¬ c / 64 < x j ∧ ¬ y j < l - l / 64 * 64 ∧ ¬ l / 64 < y j) := by
  unfold kd_L
  exact decide_eq_true_iff
theorem kd_xInSpan {post : Int32 → Prop} {v c : Int32} (h1 : ¬ v < c - c / 64 * 64 → ¬ c / 64 < v → post 1) (h0 : ¬ (¬ v < c - c / 64 * 64 ∧ ¬ c / 64 < v) → post 0) : wpX_isInSpan post v c :=
  ⟨kd_640, br_c (fun z => h0 (fun q => q.1 z)) (fun z1 => ⟨kd_640, br_c (fun z => h0 (fun q => q.2 z)) (fun z2 => h1 z1 z2)⟩)⟩
theorem kd_xLies {post : Int32 → Prop} {c l : Int32} {j : Nat} (hj : j < 200) (h1 : kd_L x y t c l j = true → post 1) (h0 : ¬ kd_L x y t c l j = true → post 0) : wpX_liesIn post (nI n, s, x, y, w, t) (nI j) c l := by
  rw [kd_L_i] at h1 h0
  unfold wpX_liesIn
  dsimp only
  rw [kd_c hj]
  by_cases z : t j = 0
  · refine kd_xThere0 (fun i hi e => ?_) (br_t rfl (h0 (fun q => q.1 z)))
    rw [← (nI_eq (by omega) (by omega)).mp e]
    exact z
  · refine kd_xThere1 hj z (br_f kd_10 ⟨kd_v hj, ?_⟩)
    refine kd_xInSpan (fun a1 a2 => br_f kd_10 ⟨kd_v hj, ?_⟩) (fun q => br_t rfl (h0 (fun r => q ⟨r.2.1, r.2.2.1⟩)))
    exact kd_xInSpan (fun b1 b2 => br_f kd_10 (h1 ⟨z, a1, a2, b1, b2⟩)) (fun q => br_t rfl (h0 (fun r => q ⟨r.2.2.2.1, r.2.2.2.2⟩)))
theorem kd_yLies {post : Int32 → Prop} {c l : Int32} {j : Nat} (hj : j < 200) (h1 : kd_L x y t c l j = true → post 1) (h0 : ¬ kd_L x y t c l j = true → post 0) : wpY_lies post (nI n, s, x, y, w, t) (nI j) c l := by
  rw [kd_L_i] at h1 h0
  unfold wpY_lies
  dsimp only
  rw [kd_c hj]
  refine ⟨kd_v hj, br_c (fun z => h0 (fun q => q.1 z)) (fun z1 => ⟨kd_v hj, kd_640, br_c (fun z => h0 (fun q => q.2.1 z)) (fun z2 => ⟨kd_v hj, kd_640, br_c (fun z => h0 (fun q => q.2.2.1 z)) (fun z3 => ⟨kd_v hj, kd_640, ?_⟩)⟩)⟩)⟩
  exact br_c (fun z => h0 (fun q => q.2.2.2.1 z)) (fun z4 => ⟨kd_v hj, kd_640, br_c (fun z => h0 (fun q => q.2.2.2.2 z)) (fun z5 => h1 ⟨z1, z2, z3, z4, z5⟩)⟩)
theorem kd_xDist {post : Int32 → Prop} {a b : Int32} {j : Nat} (hj : j < 200) (h : post (kd_D x y j a b)) : wpX_distance post (nI n, s, x, y, w, t) (nI j) a b := by
  unfold wpX_distance
  dsimp only
  rw [kd_c hj]
  exact ⟨kd_v hj, nm_e ⟨kd_v hj, nm_e h⟩⟩
theorem kd_yDist {post : Int32 → Prop} {a b : Int32} {j : Nat} (hj : j < 200) (h : post (kd_D x y j a b)) : wpY_distance post (nI n, s, x, y, w, t) (nI j) a b := by
  unfold wpY_distance
  dsimp only
  rw [kd_c hj]
  exact ⟨kd_v hj, kd_v hj, kd_v hj, kd_v hj, h⟩
end
section
/-! the class's loops against the scans -/
variable {n : Nat} {s : Int32} {x y w t : Nat → Int32}
def kd_fc (L : Nat → Bool) (j : Nat) (a : Int32) : Int32 := if L j = true then a + 1 else a
def kd_fw (L : Nat → Bool) (w : Nat → Int32) (j : Nat) (a : Int32) : Int32 := if L j = true then a + w j else a
def kd_N (L : Nat → Bool) (fr : Int32) (j : Nat) : Bool := decide (¬ nI j < fr) && L j
theorem kd_N_i {L : Nat → Bool} {fr : Int32} {j : Nat} : kd_N L fr j = true ↔ (¬ nI j < fr ∧ L j = true) := by
  unfold kd_N
  rw [Bool.and_eq_true, decide_eq_true_iff]
def kd_fd (x y t : Nat → Int32) (a b d : Int32) (q : Nat) (c : Int32) : Int32 := if ¬ t q = 0 ∧ ¬ d < kd_D x y q a b then c + 1 else c
def kd_fr (x y t : Nat → Int32) (a b own : Int32) (p q : Nat) (c : Int32) : Int32 :=
  if ¬ t q = 0 ∧ (kd_D x y q a b < own ∨ (kd_D x y q a b = own ∧ ¬ nI p ≤ nI q)) then c + 1 else c
def kd_rk (x y t : Nat → Int32) (a b : Int32) (N p : Nat) : Int32 := kd_sc (kd_fr x y t a b (kd_D x y p a b) p) N 0 0
def kd_K (x y t : Nat → Int32) (a b k : Int32) (N p : Nat) : Bool := decide (¬ t p = 0 ∧ kd_rk x y t a b N p = k)
theorem kd_K_i {a b k : Int32} {N p : Nat} : kd_K x y t a b k N p = true ↔ (¬ t p = 0 ∧ kd_rk x y t a b N p = k) := by
  unfold kd_K
  exact decide_eq_true_iff
def kd_B (x y t : Nat → Int32) (p q : Nat) : Bool := decide (¬ t q = 0 ∧ ¬ x q < x p ∧ ¬ y q < y p ∧ (x p < x q ∨ ¬ y q ≤ y p))
theorem kd_B_i {p q : Nat} : kd_B x y t p q = true ↔ (¬ t q = 0 ∧ ¬ x q < x p ∧ ¬ y q < y p ∧ (x p < x q ∨ ¬ y q ≤ y p)) := by
  unfold kd_B
  exact decide_eq_true_iff
def kd_ff (x y t : Nat → Int32) (N p : Nat) (c : Int32) : Int32 := if ¬ t p = 0 ∧ ¬ kd_an (kd_B x y t p) N 0 = true then c + 1 else c
theorem kd_xCount {post : Int32 → Prop} {c l : Int32} (h1 : kd_S c ∧ kd_S l → post (kd_sc (kd_fc (kd_L x y t c l)) 200 0 0)) (h0 : ¬ (kd_S c ∧ kd_S l) → post (-1)) : wpX_count post (nI n, s, x, y, w, t) c l := by
  unfold wpX_count
  dsimp only
  refine kd_xRect (fun z => br_f kd_10 ?_) (fun z => br_t rfl (h0 z))
  refine ⟨200 + 1, kd_lp (fun m i a => wX_count_15 post c l (nI n) s x y w t m a i) post (kd_fc (kd_L x y t c l)) 200 (fun m a hp => br_t kd_le200 hp) ?_ 200 0 0 rfl (h1 z)⟩
  intro m p a hp h
  refine br_f (kd_lt200 hp) (kd_xLies hp (fun z => br_f kd_10 (nm_e (nm_r (nI_1 p) ?_))) (fun z => br_t rfl (nm_r (nI_1 p) ?_)))
  · have e : kd_fc (kd_L x y t c l) p a = a + 1 := if_pos z
    rw [e] at h; exact h
  · have e : kd_fc (kd_L x y t c l) p a = a := if_neg z
    rw [e] at h; exact h
theorem kd_xWeight {post : Int32 → Prop} {c l : Int32} (h1 : kd_S c ∧ kd_S l → post (kd_sc (kd_fw (kd_L x y t c l) w) 200 0 0)) (h0 : ¬ (kd_S c ∧ kd_S l) → post (-1)) : wpX_weight post (nI n, s, x, y, w, t) c l := by
  unfold wpX_weight
  dsimp only
  refine kd_xRect (fun z => br_f kd_10 ?_) (fun z => br_t rfl (h0 z))
  refine ⟨200 + 1, kd_lp (fun m i a => wX_weight_15 post c l (nI n) s x y w t m a i) post (kd_fw (kd_L x y t c l) w) 200 (fun m a hp => br_t kd_le200 hp) ?_ 200 0 0 rfl (h1 z)⟩
  intro m p a hp h
  have ew : a + w (nI p).toNatClampNeg = a + w p := by rw [kd_c hp]
  refine br_f (kd_lt200 hp) (kd_xLies hp (fun z => br_f kd_10 ⟨kd_v hp, nm_r ew (nm_r (nI_1 p) ?_)⟩) (fun z => br_t rfl (nm_r (nI_1 p) ?_)))
  · have e : kd_fw (kd_L x y t c l) w p a = a + w p := if_pos z
    rw [e] at h; exact h
  · have e : kd_fw (kd_L x y t c l) w p a = a := if_neg z
    rw [e] at h; exact h
theorem kd_xHeavy {post : Int32 → Prop} {c l : Int32} (h1 : kd_S c ∧ kd_S l → post (kd_sc (kd_hX (kd_L x y t c l) w) 200 0 (-4, -1)).1) (h0 : ¬ (kd_S c ∧ kd_S l) → post (-1)) : wpX_heaviest post (nI n, s, x, y, w, t) c l := by
  unfold wpX_heaviest
  dsimp only
  refine kd_xRect (fun z => br_f kd_10 ?_) (fun z => br_t rfl (h0 z))
  refine ⟨200 + 1, kd_lp (fun m i (a : Int32 × Int32) => wX_heaviest_19 post c l (nI n) s x y w t m a.1 a.2 i) (fun a => post a.1) (kd_hX (kd_L x y t c l) w) 200 (fun m a hp => br_t kd_le200 hp) ?_ 200 0 (-4, -1) rfl (h1 z)⟩
  intro m p a hp h
  have ew : w (nI p).toNatClampNeg = w p := by rw [kd_c hp]
  refine br_f (kd_lt200 hp) (kd_xLies hp (fun z => br_f kd_10 ⟨kd_v hp, br_c (fun z2 => nm_r (nI_1 p) ?_) (fun z2 => ⟨kd_v hp, nm_r ew (nm_r (nI_1 p) ?_)⟩)⟩) (fun z => br_t rfl (nm_r (nI_1 p) ?_)))
  · rw [ew] at z2
    have e : kd_hX (kd_L x y t c l) w p a = a := if_neg (fun q => q.2 z2)
    rw [e] at h; exact h
  · rw [ew] at z2
    have e : kd_hX (kd_L x y t c l) w p a = (nI p, w p) := if_pos ⟨z, z2⟩
    rw [e] at h; exact h
  · have e : kd_hX (kd_L x y t c l) w p a = a := if_neg (fun q => z q.1)
    rw [e] at h; exact h
theorem kd_xNext {post : Int32 → Prop} {c l fr : Int32} (h1 : kd_S c ∧ kd_S l → post (kd_fs (kd_N (kd_L x y t c l) fr) 200 0)) (h0 : ¬ (kd_S c ∧ kd_S l) → post (-1)) : wpX_next post (nI n, s, x, y, w, t) c l fr := by
  unfold wpX_next
  dsimp only
  refine kd_xRect (fun z => br_f kd_10 ?_) (fun z => br_t rfl (h0 z))
  refine ⟨200 + 1, kd_lf (fun m i => wX_next_13 post c l fr (nI n) s x y w t m i) post (kd_N (kd_L x y t c l) fr) 200 (fun m hp => br_t kd_le200 hp) ?_ 200 0 rfl (h1 z)⟩
  intro m p hp ht hf
  rw [kd_N_i] at ht hf
  exact br_f (kd_lt200 hp) (br_c (fun z2 => nm_r (nI_1 p) (hf (fun q => q.1 z2))) (fun z2 => kd_xLies hp (fun z3 => br_f kd_10 (ht ⟨z2, z3⟩)) (fun z3 => br_t rfl (nm_r (nI_1 p) (hf (fun q => z3 q.2))))))
theorem kd_xRank {post : Int32 → Prop} {a b : Int32} {p : Nat} (hp : p < 200) (h : post (kd_rk x y t a b 200 p)) : wpX_rank post (nI n, s, x, y, w, t) (nI p) a b := by
  unfold wpX_rank
  dsimp only
  refine kd_xDist hp ⟨200 + 1, kd_lp (fun m i c => wX_rank_15 post (nI p) a b (kd_D x y p a b) (nI n) s x y w t m c i) post (kd_fr x y t a b (kd_D x y p a b) p) 200 (fun m c hp => br_t kd_le200 hp) ?_ 200 0 0 rfl h⟩
  intro m q c hq h
  have et : t (nI q).toNatClampNeg = t q := by rw [kd_c hq]
  refine br_f (kd_lt200 hq) ⟨kd_v hq, br_c (fun z0 => nm_r (nI_1 q) ?_) (fun z0 => kd_xDist hq (br_c (fun z1 => nm_e (nm_r (nI_1 q) ?_)) (fun z1 => br_c (fun z2 => br_c (fun z3 => nm_r (nI_1 q) ?_) (fun z3 => nm_e (nm_r (nI_1 q) ?_))) (fun z2 => nm_r (nI_1 q) ?_))))⟩
  · have e : kd_fr x y t a b (kd_D x y p a b) p q c = c := if_neg (fun r => r.1 (et.symm.trans z0))
    rw [e] at h; exact h
  · have e : kd_fr x y t a b (kd_D x y p a b) p q c = c + 1 := if_pos ⟨fun r => z0 (et.trans r), Or.inl z1⟩
    rw [e] at h; exact h
  · have e : kd_fr x y t a b (kd_D x y p a b) p q c = c := if_neg (fun r => r.2.elim z1 (fun k => k.2 z3))
    rw [e] at h; exact h
  · have e : kd_fr x y t a b (kd_D x y p a b) p q c = c + 1 := if_pos ⟨fun r => z0 (et.trans r), Or.inr ⟨z2, z3⟩⟩
    rw [e] at h; exact h
  · have e : kd_fr x y t a b (kd_D x y p a b) p q c = c := if_neg (fun r => r.2.elim z1 (fun k => z2 k.1))
    rw [e] at h; exact h
theorem kd_xPoint {post : Int32 → Prop} {a b k : Int32} (h : post (kd_fs (kd_K x y t a b k 200) 200 0)) : wpX_pointOfRank post (nI n, s, x, y, w, t) a b k := by
  unfold wpX_pointOfRank
  dsimp only
  refine ⟨200 + 1, kd_lf (fun m i => wX_pointOfRank_3 post a b k (nI n) s x y w t m i) post (kd_K x y t a b k 200) 200 (fun m hp => br_t kd_le200 hp) ?_ 200 0 rfl h⟩
  intro m p hp ht hf
  rw [kd_K_i] at ht hf
  have et : t (nI p).toNatClampNeg = t p := by rw [kd_c hp]
  exact br_f (kd_lt200 hp) ⟨kd_v hp, br_c (fun z0 => nm_r (nI_1 p) (hf (fun q => q.1 (et.symm.trans z0)))) (fun z0 => kd_xRank hp (br_c (fun z1 => ht ⟨fun r => z0 (et.trans r), z1⟩) (fun z1 => nm_r (nI_1 p) (hf (fun q => z1 q.2)))))⟩
theorem kd_xNear {post : Int32 → Prop} {a b k : Int32} (h1 : kd_P a b → post (kd_fs (kd_K x y t a b k 200) 200 0)) (h0 : ¬ kd_P a b → post (-1)) : wpX_near post (nI n, s, x, y, w, t) a b k := by
  unfold wpX_near
  dsimp only
  exact kd_xPlace (fun z => br_f kd_10 (kd_xPoint (h1 z))) (fun z => br_t rfl (h0 z))
theorem kd_xNearest {post : Int32 → Prop} {a b : Int32} (h1 : kd_P a b → post (kd_fs (kd_K x y t a b 0 200) 200 0)) (h0 : ¬ kd_P a b → post (-1)) : wpX_nearest post (nI n, s, x, y, w, t) a b := by
  unfold wpX_nearest
  dsimp only
  exact kd_xPlace (fun z => br_f kd_10 (kd_xPoint (h1 z))) (fun z => br_t rfl (h0 z))
theorem kd_xWithin {post : Int32 → Prop} {a b d : Int32} (h1 : kd_P a b → post (kd_sc (kd_fd x y t a b d) 200 0 0)) (h0 : ¬ kd_P a b → post (-1)) : wpX_within post (nI n, s, x, y, w, t) a b d := by
  unfold wpX_within
  dsimp only
  refine kd_xPlace (fun z => br_f kd_10 ?_) (fun z => br_t rfl (h0 z))
  refine ⟨200 + 1, kd_lp (fun m i c => wX_within_16 post a b d (nI n) s x y w t m c i) post (kd_fd x y t a b d) 200 (fun m c hp => br_t kd_le200 hp) ?_ 200 0 0 rfl (h1 z)⟩
  intro m q c hq h
  have et : t (nI q).toNatClampNeg = t q := by rw [kd_c hq]
  refine br_f (kd_lt200 hq) ⟨kd_v hq, br_c (fun z0 => nm_r (nI_1 q) ?_) (fun z0 => kd_xDist hq (br_c (fun z1 => nm_r (nI_1 q) ?_) (fun z1 => nm_e (nm_r (nI_1 q) ?_))))⟩
  · have e : kd_fd x y t a b d q c = c := if_neg (fun r => r.1 (et.symm.trans z0))
    rw [e] at h; exact h
  · have e : kd_fd x y t a b d q c = c := if_neg (fun r => r.2 z1)
    rw [e] at h; exact h
  · have e : kd_fd x y t a b d q c = c + 1 := if_pos ⟨fun r => z0 (et.trans r), z1⟩
    rw [e] at h; exact h
theorem kd_xBeaten {post : Int32 → Prop} {p : Nat} (hp : p < 200) (h1 : kd_an (kd_B x y t p) 200 0 = true → post 1) (h0 : ¬ kd_an (kd_B x y t p) 200 0 = true → post 0) : wpX_isBeaten post (nI n, s, x, y, w, t) (nI p) := by
  unfold wpX_isBeaten
  dsimp only
  refine ⟨200 + 1, kd_la (fun m i => wX_isBeaten_2 post (nI p) (nI n) s x y w t m i) post (kd_B x y t p) 200 (fun m hp => br_t kd_le200 hp) ?_ 200 0 rfl h1 h0⟩
  intro m q hq ht hf
  rw [kd_B_i] at ht hf
  have et : t (nI q).toNatClampNeg = t q := by rw [kd_c hq]
  have eq : (nI q).toNatClampNeg = q := kd_c hq
  have ep : (nI p).toNatClampNeg = p := kd_c hp
  refine br_f (kd_lt200 hq) ⟨kd_v hq, br_c (fun z0 => nm_r (nI_1 q) (hf (fun r => r.1 (et.symm.trans z0)))) (fun z0 => ?_)⟩
  rw [eq] at z0
  rw [eq, ep]
  refine ⟨kd_v hq, kd_v hp, br_c (fun z1 => nm_r (nI_1 q) (hf (fun r => r.2.1 z1))) (fun z1 => ⟨kd_v hq, kd_v hp, br_c (fun z2 => nm_r (nI_1 q) (hf (fun r => r.2.2.1 z2))) (fun z2 => ⟨kd_v hq, kd_v hp, ?_⟩)⟩)⟩
  exact br_c (fun z3 => ht ⟨z0, z1, z2, Or.inl z3⟩) (fun z3 => ⟨kd_v hq, kd_v hp, br_c (fun z4 => nm_r (nI_1 q) (hf (fun r => r.2.2.2.elim z3 (fun k => k z4)))) (fun z4 => ht ⟨z0, z1, z2, Or.inr z4⟩)⟩)
theorem kd_xFront {post : Int32 → Prop} (h : post (kd_sc (kd_ff x y t 200) 200 0 0)) : wpX_front post (nI n, s, x, y, w, t) := by
  unfold wpX_front
  dsimp only
  refine ⟨200 + 1, kd_lp (fun m i c => wX_front_4 post (nI n) s x y w t m c i) post (kd_ff x y t 200) 200 (fun m c hp => br_t kd_le200 hp) ?_ 200 0 0 rfl h⟩
  intro m q c hq h
  have et : t (nI q).toNatClampNeg = t q := by rw [kd_c hq]
  refine br_f (kd_lt200 hq) ⟨kd_v hq, br_c (fun z0 => nm_r (nI_1 q) ?_) (fun z0 => kd_xBeaten hq (fun z1 => br_f kd_10 (nm_r (nI_1 q) ?_)) (fun z1 => br_t rfl (nm_e (nm_r (nI_1 q) ?_))))⟩
  · have e : kd_ff x y t 200 q c = c := if_neg (fun r => r.1 (et.symm.trans z0))
    rw [e] at h; exact h
  · have e : kd_ff x y t 200 q c = c := if_neg (fun r => r.2 z1)
    rw [e] at h; exact h
  · have e : kd_ff x y t 200 q c = c + 1 := if_pos ⟨fun r => z0 (et.trans r), z1⟩
    rw [e] at h; exact h
def kd_gX (x y t : Nat → Int32) (p q : Nat) (a : Int32) : Int32 := if t q = 0 then a else kd_mn a (kd_D x y p (x q) (y q))
theorem kd_mn_d {a d : Int32} (h : a = -4) : kd_mn a d = d := if_pos (Or.inl h)
theorem kd_mn_a {a d : Int32} (h : ¬ a = -4) (h' : a ≤ d) : kd_mn a d = a := if_neg (fun r => r.elim h (fun k => Int32.not_lt.mpr h' k))
theorem kd_mn_l {a d : Int32} (h' : ¬ a ≤ d) : kd_mn a d = d := if_pos (Or.inr (Int32.not_le.mp h'))
theorem kd_xCloseIn {post : Int32 → Prop} {J : Int32 → Int32 → Prop} {p : Nat} (hp : p < 200) {a : Int32} (h : J (kd_sc (kd_gX x y t p) (200 - (p + 1)) (p + 1) a) (nI (p + 1))) : ∃ m, wX_closest_25 post J (nI p) (nI n) s x y w t m a (nI (p + 1)) := by
  refine ⟨200 - (p + 1) + 1, kd_lp (fun m i a => wX_closest_25 post J (nI p) (nI n) s x y w t m a i) (fun a => J a (nI (p + 1))) (kd_gX x y t p) 200 (fun m a hJ => br_t kd_le200 (nm_r (nI_1 p) hJ)) ?_ (200 - (p + 1)) (p + 1) a (by omega) h⟩
  intro m q a hq h
  have et : t (nI q).toNatClampNeg = t q := by rw [kd_c hq]
  have ex : x (nI q).toNatClampNeg = x q := by rw [kd_c hq]
  have ey : y (nI q).toNatClampNeg = y q := by rw [kd_c hq]
  refine br_f (kd_lt200 hq) ⟨kd_v hq, br_c (fun z0 => nm_r (nI_1 q) ?_) (fun z0 => ⟨kd_v hq, kd_v hq, ?_⟩)⟩
  · have e : kd_gX x y t p q a = a := if_pos (et.symm.trans z0)
    rw [e] at h; exact h
  · have e : kd_gX x y t p q a = kd_mn a (kd_D x y p (x q) (y q)) := if_neg (fun r => z0 (et.trans r))
    rw [e] at h
    rw [ex, ey]
    refine kd_xDist hp (br_c (fun z1 => nm_r (nI_1 q) ?_) (fun z1 => br_c (fun z2 => nm_r (nI_1 q) ?_) (fun z2 => nm_r (nI_1 q) ?_)))
    · rw [kd_mn_d z1] at h; exact h
    · rw [kd_mn_a z1 z2] at h; exact h
    · rw [kd_mn_l z2] at h; exact h
theorem kd_xClose {post : Int32 → Prop} (h : post (kd_sc (kd_fX x y t) 200 0 (-4))) : wpX_closest post (nI n, s, x, y, w, t) := by
  unfold wpX_closest
  dsimp only
  refine ⟨200 + 1, kd_lp (fun m i a => wX_closest_5 post (nI n) s x y w t m a i) post (kd_fX x y t) 200 (fun m c hp => br_t kd_le200 hp) ?_ 200 0 (-4) rfl h⟩
  intro m p a hp h
  have et : t (nI p).toNatClampNeg = t p := by rw [kd_c hp]
  refine br_f (kd_lt200 hp) ⟨kd_v hp, br_c (fun z0 => nm_r (nI_1 p) ?_) (fun z0 => nm_r (nI_1 p) (kd_xCloseIn hp ?_))⟩
  · have e : kd_fX x y t p a = a := if_pos (et.symm.trans z0)
    rw [e] at h; exact h
  · have e : kd_fX x y t p a = kd_sc (kd_gX x y t p) (200 - (p + 1)) (p + 1) a := if_neg (fun r => z0 (et.trans r))
    rw [e] at h; exact h
end
section
/-! the reference's loops against the scans -/
variable {n : Nat} {s : Int32} {x y w t : Nat → Int32}
theorem kd_nle {n p : Nat} (hn : n ≤ 200) (hp : p < n) : ¬ nI n ≤ nI p := nI_ge hp (by omega)
theorem kd_yCount {post : Int32 → Prop} {c l : Int32} (hn : n ≤ 200) (h1 : kd_S c ∧ kd_S l → post (kd_sc (kd_fc (kd_L x y t c l)) n 0 0)) (h0 : ¬ (kd_S c ∧ kd_S l) → post (-1)) : wpY_count post (nI n, s, x, y, w, t) c l := by
  unfold wpY_count
  dsimp only
  refine kd_yRect (fun z => ?_) h0
  refine ⟨n + 1, kd_lp (fun m i a => wY_count_23 post c l (nI n) s x y w t m a i) post (kd_fc (kd_L x y t c l)) n (fun m a hp => br_t (Int32.le_refl _) hp) ?_ n 0 0 (Nat.zero_add n) (h1 z)⟩
  intro m p a hp' h
  have hp : p < 200 := by omega
  refine br_f (kd_nle hn hp') (kd_yLies hp (fun z => br_f kd_10 (nm_e (nm_r (nI_1 p) ?_))) (fun z => br_t rfl (nm_r (nI_1 p) ?_)))
  · have e : kd_fc (kd_L x y t c l) p a = a + 1 := if_pos z
    rw [e] at h; exact h
  · have e : kd_fc (kd_L x y t c l) p a = a := if_neg z
    rw [e] at h; exact h
theorem kd_yWeight {post : Int32 → Prop} {c l : Int32} (hn : n ≤ 200) (h1 : kd_S c ∧ kd_S l → post (kd_sc (kd_fw (kd_L x y t c l) w) n 0 0)) (h0 : ¬ (kd_S c ∧ kd_S l) → post (-1)) : wpY_weight post (nI n, s, x, y, w, t) c l := by
  unfold wpY_weight
  dsimp only
  refine kd_yRect (fun z => ?_) h0
  refine ⟨n + 1, kd_lp (fun m i a => wY_weight_23 post c l (nI n) s x y w t m a i) post (kd_fw (kd_L x y t c l) w) n (fun m a hp => br_t (Int32.le_refl _) hp) ?_ n 0 0 (Nat.zero_add n) (h1 z)⟩
  intro m p a hp' h
  have hp : p < 200 := by omega
  have ew : a + w (nI p).toNatClampNeg = a + w p := by rw [kd_c hp]
  refine br_f (kd_nle hn hp') (kd_yLies hp (fun z => br_f kd_10 ⟨kd_v hp, nm_r ew (nm_r (nI_1 p) ?_)⟩) (fun z => br_t rfl (nm_r (nI_1 p) ?_)))
  · have e : kd_fw (kd_L x y t c l) w p a = a + w p := if_pos z
    rw [e] at h; exact h
  · have e : kd_fw (kd_L x y t c l) w p a = a := if_neg z
    rw [e] at h; exact h
theorem kd_hI_v {b : Int32} (h : kd_hI b) (hb : ¬ b < 0) : vp_in b 200 := by
  rcases h with e | ⟨j, hj, e⟩
  · rw [e] at hb
    exact absurd (by decide +kernel) hb
  · rw [e]; exact kd_v hj
theorem kd_yHeavy {post : Int32 → Prop} {c l : Int32} (hn : n ≤ 200) (h1 : kd_S c ∧ kd_S l → post (kd_sc (kd_hY (kd_L x y t c l) w) n 0 (-4))) (h0 : ¬ (kd_S c ∧ kd_S l) → post (-1)) : wpY_heaviest post (nI n, s, x, y, w, t) c l := by
  unfold wpY_heaviest
  dsimp only
  refine kd_yRect (fun z => ?_) h0
  refine ⟨n + 1, kd_lpI (fun m i a => wY_heaviest_24 post c l (nI n) s x y w t m a i) post (kd_hY (kd_L x y t c l) w) (fun _ b => kd_hI b) n (fun m a hp => br_t (Int32.le_refl _) hp) ?_ (fun p a hp hI => kd_hI_s (by omega) hI) n 0 (-4) (Nat.zero_add n) (Or.inl rfl) (h1 z)⟩
  intro m p b hp' hI h
  have hp : p < 200 := by omega
  have ew : w (nI p).toNatClampNeg = w p := by rw [kd_c hp]
  refine br_f (kd_nle hn hp') (kd_yLies hp (fun z => br_f kd_10 (br_c (fun z1 => nm_r (nI_1 p) ?_) (fun z1 => ⟨kd_v hp, kd_hI_v hI z1, br_c (fun z2 => nm_r (nI_1 p) ?_) (fun z2 => nm_r (nI_1 p) ?_)⟩))) (fun z => br_t rfl (nm_r (nI_1 p) ?_)))
  · have e : kd_hY (kd_L x y t c l) w p b = nI p := if_pos ⟨z, Or.inl z1⟩
    rw [e] at h; exact h
  · rw [ew] at z2
    have e : kd_hY (kd_L x y t c l) w p b = b := if_neg (fun q => q.2.elim z1 (fun r => r z2))
    rw [e] at h; exact h
  · rw [ew] at z2
    have e : kd_hY (kd_L x y t c l) w p b = nI p := if_pos ⟨z, Or.inr z2⟩
    rw [e] at h; exact h
  · have e : kd_hY (kd_L x y t c l) w p b = b := if_neg (fun q => z q.1)
    rw [e] at h; exact h
theorem kd_yNext {post : Int32 → Prop} {c l fr : Int32} (hn : n ≤ 200) (h1 : kd_S c ∧ kd_S l → post (kd_fs (kd_N (kd_L x y t c l) fr) n 0)) (h0 : ¬ (kd_S c ∧ kd_S l) → post (-1)) : wpY_next post (nI n, s, x, y, w, t) c l fr := by
  unfold wpY_next
  dsimp only
  refine kd_yRect (fun z => ?_) h0
  refine ⟨n + 1, kd_lf (fun m i => wY_next_21 post c l fr (nI n) s x y w t m i) post (kd_N (kd_L x y t c l) fr) n (fun m hp => br_t (Int32.le_refl _) hp) ?_ n 0 (Nat.zero_add n) (h1 z)⟩
  intro m p hp' ht hf
  have hp : p < 200 := by omega
  rw [kd_N_i] at ht hf
  exact br_f (kd_nle hn hp') (br_c (fun z2 => nm_r (nI_1 p) (hf (fun q => q.1 z2))) (fun z2 => kd_yLies hp (fun z3 => br_f kd_10 (ht ⟨z2, z3⟩)) (fun z3 => br_t rfl (nm_r (nI_1 p) (hf (fun q => z3 q.2))))))
theorem kd_yBefore {post : Int32 → Prop} {a b : Int32} {p : Nat} (hn : n ≤ 200) (hp : p < 200) (h : post (kd_rk x y t a b n p)) : wpY_before post (nI n, s, x, y, w, t) (nI p) a b := by
  unfold wpY_before
  dsimp only
  refine kd_yDist hp ⟨n + 1, kd_lp (fun m i c => wY_before_15 post (nI p) a b (kd_D x y p a b) (nI n) s x y w t m c i) post (kd_fr x y t a b (kd_D x y p a b) p) n (fun m c hp => br_t (Int32.le_refl _) hp) ?_ n 0 0 (Nat.zero_add n) h⟩
  intro m q c hq' h
  have hq : q < 200 := by omega
  have et : t (nI q).toNatClampNeg = t q := by rw [kd_c hq]
  refine br_f (kd_nle hn hq') (kd_yDist hq ⟨kd_v hq, br_c (fun z0 => nm_r (nI_1 q) ?_) (fun z0 => br_c (fun z1 => nm_e (nm_r (nI_1 q) ?_)) (fun z1 => br_c (fun z2 => br_c (fun z3 => nm_r (nI_1 q) ?_) (fun z3 => nm_e (nm_r (nI_1 q) ?_))) (fun z2 => nm_r (nI_1 q) ?_)))⟩)
  · have e : kd_fr x y t a b (kd_D x y p a b) p q c = c := if_neg (fun r => r.1 (et.symm.trans z0))
    rw [e] at h; exact h
  · have e : kd_fr x y t a b (kd_D x y p a b) p q c = c + 1 := if_pos ⟨fun r => z0 (et.trans r), Or.inl z1⟩
    rw [e] at h; exact h
  · have e : kd_fr x y t a b (kd_D x y p a b) p q c = c := if_neg (fun r => r.2.elim z1 (fun k => k.2 z3))
    rw [e] at h; exact h
  · have e : kd_fr x y t a b (kd_D x y p a b) p q c = c + 1 := if_pos ⟨fun r => z0 (et.trans r), Or.inr ⟨z2, z3⟩⟩
    rw [e] at h; exact h
  · have e : kd_fr x y t a b (kd_D x y p a b) p q c = c := if_neg (fun r => r.2.elim z1 (fun k => z2 k.1))
    rw [e] at h; exact h
theorem kd_yNear {post : Int32 → Prop} {a b k : Int32} (hn : n ≤ 200) (h1 : kd_P a b → post (kd_fs (kd_K x y t a b k n) n 0)) (h0 : ¬ kd_P a b → post (-1)) : wpY_near post (nI n, s, x, y, w, t) a b k := by
  unfold wpY_near
  dsimp only
  refine kd_yPlace (fun z => br_f kd_10 ?_) (fun z => br_t rfl (h0 z))
  refine ⟨n + 1, kd_lf (fun m i => wY_near_14 post a b k (nI n) s x y w t m i) post (kd_K x y t a b k n) n (fun m hp => br_t (Int32.le_refl _) hp) ?_ n 0 (Nat.zero_add n) (h1 z)⟩
  intro m p hp' ht hf
  have hp : p < 200 := by omega
  rw [kd_K_i] at ht hf
  have et : t (nI p).toNatClampNeg = t p := by rw [kd_c hp]
  exact br_f (kd_nle hn hp') ⟨kd_v hp, br_c (fun z0 => nm_r (nI_1 p) (hf (fun q => q.1 (et.symm.trans z0)))) (fun z0 => kd_yBefore hn hp (br_c (fun z1 => ht ⟨fun r => z0 (et.trans r), z1⟩) (fun z1 => nm_r (nI_1 p) (hf (fun q => z1 q.2)))))⟩
theorem kd_yNearest {post : Int32 → Prop} {a b : Int32} (hn : n ≤ 200) (h1 : kd_P a b → post (kd_fs (kd_K x y t a b 0 n) n 0)) (h0 : ¬ kd_P a b → post (-1)) : wpY_nearest post (nI n, s, x, y, w, t) a b := by
  unfold wpY_nearest
  dsimp only
  exact kd_yNear hn h1 h0
theorem kd_yWithin {post : Int32 → Prop} {a b d : Int32} (hn : n ≤ 200) (h1 : kd_P a b → post (kd_sc (kd_fd x y t a b d) n 0 0)) (h0 : ¬ kd_P a b → post (-1)) : wpY_within post (nI n, s, x, y, w, t) a b d := by
  unfold wpY_within
  dsimp only
  refine kd_yPlace (fun z => br_f kd_10 ?_) (fun z => br_t rfl (h0 z))
  refine ⟨n + 1, kd_lp (fun m i c => wY_within_17 post a b d (nI n) s x y w t m c i) post (kd_fd x y t a b d) n (fun m c hp => br_t (Int32.le_refl _) hp) ?_ n 0 0 (Nat.zero_add n) (h1 z)⟩
  intro m q c hq' h
  have hq : q < 200 := by omega
  have et : t (nI q).toNatClampNeg = t q := by rw [kd_c hq]
  refine br_f (kd_nle hn hq') ⟨kd_v hq, br_c (fun z0 => nm_r (nI_1 q) ?_) (fun z0 => kd_yDist hq (br_c (fun z1 => nm_r (nI_1 q) ?_) (fun z1 => nm_e (nm_r (nI_1 q) ?_))))⟩
  · have e : kd_fd x y t a b d q c = c := if_neg (fun r => r.1 (et.symm.trans z0))
    rw [e] at h; exact h
  · have e : kd_fd x y t a b d q c = c := if_neg (fun r => r.2 z1)
    rw [e] at h; exact h
  · have e : kd_fd x y t a b d q c = c + 1 := if_pos ⟨fun r => z0 (et.trans r), z1⟩
    rw [e] at h; exact h
theorem kd_y45 {post J : Int32 → Prop} {p q : Nat} {z : Int32} (hp : p < 200) (hq : q < 200)
    (ht : (¬ t q = 0 ∧ ¬ z = 0 ∧ ¬ x q < x p ∧ ¬ y q < y p) → post 1) (hf : ¬ (¬ t q = 0 ∧ ¬ z = 0 ∧ ¬ x q < x p ∧ ¬ y q < y p) → J (nI (q + 1))) : wY_isBeaten_45 post J (nI p) (nI q) z (nI n) s x y w t := by
  unfold wY_isBeaten_45
  rw [kd_c hq, kd_c hp]
  refine ⟨kd_v hq, br_c (fun z0 => nm_r (nI_1 q) (hf (fun r => r.1 z0))) (fun z0 => br_c (fun z1 => nm_r (nI_1 q) (hf (fun r => r.2.1 z1))) (fun z1 => ⟨kd_v hq, kd_v hp, ?_⟩))⟩
  exact br_c (fun z2 => nm_r (nI_1 q) (hf (fun r => r.2.2.1 z2))) (fun z2 => ⟨kd_v hq, kd_v hp, br_c (fun z3 => nm_r (nI_1 q) (hf (fun r => r.2.2.2 z3))) (fun z3 => ht ⟨z0, z1, z2, z3⟩)⟩)
theorem kd_lt_ne {a b : Int32} (h : a < b) : ¬ b = a := by
  intro e
  rw [e] at h
  exact Int32.lt_irrefl h
theorem kd_yBeaten {post : Int32 → Prop} {p : Nat} (hn : n ≤ 200) (hp : p < 200) (h1 : kd_an (kd_B x y t p) n 0 = true → post 1) (h0 : ¬ kd_an (kd_B x y t p) n 0 = true → post 0) : wpY_isBeaten post (nI n, s, x, y, w, t) (nI p) := by
  unfold wpY_isBeaten
  dsimp only
  refine ⟨n + 1, kd_la (fun m i => wY_isBeaten_2 post (nI p) (nI n) s x y w t m i) post (kd_B x y t p) n (fun m hp => br_t (Int32.le_refl _) hp) ?_ n 0 (Nat.zero_add n) h1 h0⟩
  intro m q hq' ht hf
  have hq : q < 200 := by omega
  rw [kd_B_i] at ht hf
  have ex : x (nI q).toNatClampNeg = x q := by rw [kd_c hq]
  have ey : y (nI q).toNatClampNeg = y q := by rw [kd_c hq]
  have ex' : x (nI p).toNatClampNeg = x p := by rw [kd_c hp]
  have ey' : y (nI p).toNatClampNeg = y p := by rw [kd_c hp]
  have h40 : ¬ (x q = x p ∧ y q = y p) → wY_isBeaten_40 post (wY_isBeaten_2 post (nI p) (nI n) s x y w t m) (nI p) (nI q) (nI n) s x y w t := by
    intro c
    unfold wY_isBeaten_40
    refine kd_y45 hp hq (fun r => ht ⟨r.1, r.2.2.1, r.2.2.2, ?_⟩) (fun r => hf (fun k => r ⟨k.1, kd_10, k.2.1, k.2.2.1⟩))
    by_cases cx : x p < x q
    · exact Or.inl cx
    · refine Or.inr (fun cy => c ⟨?_, ?_⟩)
      · exact Int32.le_antisymm (Int32.not_lt.mp cx) (Int32.not_lt.mp r.2.2.1)
      · exact Int32.le_antisymm cy (Int32.not_lt.mp r.2.2.2)
  refine br_f (kd_nle hn hq') ⟨kd_v hq, kd_v hp, br_c (fun z1 => ⟨kd_v hq, kd_v hp, br_c (fun z2 => ?_) (fun z2 => h40 (fun r => z2 ?_))⟩) (fun z1 => h40 (fun r => z1 ?_))⟩
  · rw [ex, ex'] at z1
    rw [ey, ey'] at z2
    refine kd_y45 hp hq (fun r => absurd rfl r.2.1) (fun _ => hf (fun k => ?_))
    rcases k.2.2.2 with k | k
    · exact kd_lt_ne k z1
    · rw [z2] at k; exact k (Int32.le_refl _)
  · rw [ey, ey']; exact r.2
  · rw [ex, ex']; exact r.1
theorem kd_yFront {post : Int32 → Prop} (hn : n ≤ 200) (h : post (kd_sc (kd_ff x y t n) n 0 0)) : wpY_front post (nI n, s, x, y, w, t) := by
  unfold wpY_front
  dsimp only
  refine ⟨n + 1, kd_lp (fun m i c => wY_front_4 post (nI n) s x y w t m c i) post (kd_ff x y t n) n (fun m c hp => br_t (Int32.le_refl _) hp) ?_ n 0 0 (Nat.zero_add n) h⟩
  intro m q c hq' h
  have hq : q < 200 := by omega
  have et : t (nI q).toNatClampNeg = t q := by rw [kd_c hq]
  refine br_f (kd_nle hn hq') ⟨kd_v hq, br_c (fun z0 => nm_r (nI_1 q) ?_) (fun z0 => kd_yBeaten hn hq (fun z1 => br_f kd_10 (nm_r (nI_1 q) ?_)) (fun z1 => br_t rfl (nm_e (nm_r (nI_1 q) ?_))))⟩
  · have e : kd_ff x y t n q c = c := if_neg (fun r => r.1 (et.symm.trans z0))
    rw [e] at h; exact h
  · have e : kd_ff x y t n q c = c := if_neg (fun r => r.2 z1)
    rw [e] at h; exact h
  · have e : kd_ff x y t n q c = c + 1 := if_pos ⟨fun r => z0 (et.trans r), z1⟩
    rw [e] at h; exact h
def kd_gY (x y t : Nat → Int32) (p q : Nat) (a : Int32) : Int32 := if t p = 0 ∨ t q = 0 then a else kd_mn a (kd_D x y p (x q) (y q))
def kd_J (a : Int32) : Prop := a = -4 ∨ 0 ≤ a
theorem kd_J_lt {a : Int32} (h : kd_J a) (z : a < 0) : a = -4 := h.elim id (fun r => absurd z (Int32.not_lt.mpr r))
theorem kd_J_ge {a : Int32} (z : ¬ a < 0) : ¬ a = -4 := by
  intro e
  rw [e] at z
  exact absurd (by decide +kernel) z
theorem kd_J_gY (hx : kd_R 64 x) (hy : kd_R 64 y) (p q : Nat) (a : Int32) (h : kd_J a) : kd_J (kd_gY x y t p q a) := by
  unfold kd_gY
  by_cases c : t p = 0 ∨ t q = 0
  · rw [if_pos c]; exact h
  · rw [if_neg c]
    unfold kd_mn
    by_cases d : a = -4 ∨ kd_D x y p (x q) (y q) < a
    · rw [if_pos d]; exact Or.inr (kd_D_pos hx hy p q)
    · rw [if_neg d]; exact h
theorem kd_yCloseIn {post : Int32 → Prop} {J : Int32 → Int32 → Prop} {p : Nat} (hx : kd_R 64 x) (hy : kd_R 64 y) (hp : p < 200) {a : Int32} (hJ : kd_J a) (h : J (kd_sc (kd_gY x y t p) p 0 a) (nI (p + 1))) : ∃ m, wY_closest_15 post J (nI p) (nI n) s x y w t m a 0 := by
  refine ⟨p + 1, kd_lpI (fun m i a => wY_closest_15 post J (nI p) (nI n) s x y w t m a i) (fun a => J a (nI (p + 1))) (kd_gY x y t p) (fun _ a => kd_J a) p (fun m a hJ => br_t (Int32.le_refl _) (nm_r (nI_1 p) hJ)) ?_ (fun q a _ hJ => kd_J_gY hx hy p q a hJ) p 0 a (Nat.zero_add p) hJ h⟩
  intro m q a hq' hJ h
  have hq : q < 200 := by omega
  have et : t (nI q).toNatClampNeg = t q := by rw [kd_c hq]
  have et' : t (nI p).toNatClampNeg = t p := by rw [kd_c hp]
  have ex : x (nI q).toNatClampNeg = x q := by rw [kd_c hq]
  have ey : y (nI q).toNatClampNeg = y q := by rw [kd_c hq]
  refine br_f (nI_ge hq' (by omega)) ⟨kd_v hq, kd_v hq, ?_⟩
  rw [ex, ey]
  refine kd_yDist hp ⟨kd_v hp, br_c (fun z0 => nm_r (nI_1 q) ?_) (fun z0 => ⟨kd_v hq, br_c (fun z1 => nm_r (nI_1 q) ?_) (fun z1 => ?_)⟩)⟩
  · have e : kd_gY x y t p q a = a := if_pos (Or.inl (et'.symm.trans z0))
    rw [e] at h; exact h
  · have e : kd_gY x y t p q a = a := if_pos (Or.inr (et.symm.trans z1))
    rw [e] at h; exact h
  · have e : kd_gY x y t p q a = kd_mn a (kd_D x y p (x q) (y q)) := if_neg (fun r => r.elim (fun k => z0 (et'.trans k)) (fun k => z1 (et.trans k)))
    rw [e] at h
    refine br_c (fun z2 => nm_r (nI_1 q) ?_) (fun z2 => br_c (fun z3 => nm_r (nI_1 q) ?_) (fun z3 => nm_r (nI_1 q) ?_))
    · rw [kd_mn_d (kd_J_lt hJ z2)] at h; exact h
    · rw [kd_mn_a (kd_J_ge z2) z3] at h; exact h
    · rw [kd_mn_l z3] at h; exact h
theorem kd_yClose {post : Int32 → Prop} (hx : kd_R 64 x) (hy : kd_R 64 y) (hn : n ≤ 200) (h : post (kd_sc (kd_fY x y t) n 0 (-4))) : wpY_closest post (nI n, s, x, y, w, t) := by
  unfold wpY_closest
  dsimp only
  refine ⟨n + 1, kd_lpI (fun m i a => wY_closest_5 post (nI n) s x y w t m a i) post (kd_fY x y t) (fun _ a => kd_J a) n (fun m c hp => br_t (Int32.le_refl _) hp) ?_ (fun p a _ hJ => kd_sc_inv (fun q a hJ => kd_J_gY hx hy p q a hJ) p 0 a hJ) n 0 (-4) (Nat.zero_add n) (Or.inl rfl) h⟩
  intro m p a hp' hJ h
  have hp : p < 200 := by omega
  exact br_f (kd_nle hn hp') (kd_yCloseIn hx hy hp hJ h)
end
section
/-! what is owed -/
theorem kd_Lz {x y t : Nat → Int32} {c l : Int32} {j : Nat} (h : t j = 0) : ¬ kd_L x y t c l j = true := fun q => (kd_L_i.mp q).1 h
theorem kd_nb0 : vp_nar .boolean 0 = 0 := by rfl
/-- both sides keep the same state -/
def i_Rel (k : Nat) (u : SX) (v : SY) : Prop :=
  ∃ (n : Nat) (s : Int32) (x y w t : Nat → Int32), u = (nI n, s, x, y, w, t) ∧ v = (nI n, s, x, y, w, t) ∧ kd_I k n s x y w t
theorem i_up {k : Nat} {u : SX} {v : SY} (h : i_Rel k u v) : i_Rel (k + 4) u v := by
  obtain ⟨n, s, x, y, w, t, eu, ev, hI⟩ := h
  exact ⟨n, s, x, y, w, t, eu, ev, kd_I_up hI⟩
theorem i_vc0 : wpX_init (fun u => wpY_init (fun v => i_Rel 0 u v)) := by
  have r : ∀ B : Nat, 0 < B → kd_R B (fun _ => 0) := fun B hB j => ⟨0, hB, nI_0.symm⟩
  refine ⟨0, 0, (fun _ => 0), (fun _ => 0), (fun _ => 0), (fun _ => 0), by rw [nI_0], by rw [nI_0], by omega, ?_, ?_, r 64 (by omega), r 64 (by omega), r 100 (by omega), fun _ _ => rfl⟩
  · decide +kernel
  · decide +kernel
theorem kd_xAdd {n : Nat} {s : Int32} {x y w t : Nat → Int32} {post : Int32 → SX → Prop} {a b c : Int32} (hn : n ≤ 200)
    (hA : ¬ (kd_P a b ∧ ¬ c < 0 ∧ c ≤ 99) → post (-1) (nI n, s, x, y, w, t))
    (hB : (kd_P a b ∧ ¬ c < 0 ∧ c ≤ 99) → (40 ≤ s ∨ ¬ n < 200) → post (-2) (nI n, s, x, y, w, t))
    (hC : (kd_P a b ∧ ¬ c < 0 ∧ c ≤ 99) → ¬ 40 ≤ s → n < 200 → post (nI n) (nI (n + 1), s + 1, upd x n a, upd y n b, upd w n c, upd t n (vp_nar .boolean 1))) : wpX_add post (nI n, s, x, y, w, t) a b c := by
  unfold wpX_add
  dsimp only
  refine kd_xPlace (fun z1 => br_f kd_10 (br_c (fun z2 => hA (fun q => q.2.1 z2)) (fun z2 => br_c (fun z3 => br_c (fun z4 => hB ⟨z1, z2, z3⟩ (Or.inl z4)) (fun z4 => br_c (fun z5 => ?_) (fun z5 => hB ⟨z1, z2, z3⟩ (Or.inr (fun q => z5 ((kd_nlt hn).mpr q)))))) (fun z3 => hA (fun q => z3 q.2.2))))) (fun z1 => br_t rfl (hA (fun q => z1 q.1)))
  have h5 : n < 200 := (kd_nlt hn).mp z5
  rw [kd_c h5]
  exact ⟨kd_v h5, nm_e ⟨kd_v h5, nm_e ⟨kd_v h5, nm_e ⟨kd_v h5, nm_e (nm_r (nI_1 n) (nm_e (hC ⟨z1, z2, z3⟩ z4 h5)))⟩⟩⟩⟩
theorem kd_yAdd {n : Nat} {s : Int32} {x y w t : Nat → Int32} {post : Int32 → SY → Prop} {a b c : Int32} (hn : n ≤ 200) (hs : s.toInt ≤ 40)
    (hA : ¬ (kd_P a b ∧ ¬ c < 0 ∧ c ≤ 99) → post (-1) (nI n, s, x, y, w, t))
    (hB : (kd_P a b ∧ ¬ c < 0 ∧ c ≤ 99) → (40 ≤ s ∨ ¬ n < 200) → post (-2) (nI n, s, x, y, w, t))
    (hC : (kd_P a b ∧ ¬ c < 0 ∧ c ≤ 99) → ¬ 40 ≤ s → n < 200 → post (nI n) (nI (n + 1), s + 1, upd x n a, upd y n b, upd w n c, upd t n (vp_nar .boolean 1))) : wpY_add post (nI n, s, x, y, w, t) a b c := by
  unfold wpY_add
  dsimp only
  refine kd_yPlace (fun z1 => br_f kd_10 (br_c (fun z2 => hA (fun q => q.2.1 z2)) (fun z2 => br_c (fun z3 => br_c (fun z4 => hB ⟨z1, z2, z3⟩ (Or.inl ((kd_s40 hs).mpr z4))) (fun z4 => br_c (fun z5 => hB ⟨z1, z2, z3⟩ (Or.inr ?_)) (fun z5 => ?_))) (fun z3 => hA (fun q => z3 q.2.2))))) (fun z1 => br_t rfl (hA (fun q => z1 q.1)))
  · have e := (kd_neq hn).mp z5
    omega
  · have h5 : n < 200 := by
      have e : ¬ n = 200 := fun q => z5 ((kd_neq hn).mpr q)
      omega
    rw [kd_c h5]
    refine ⟨kd_v h5, nm_e ⟨kd_v h5, nm_e ⟨kd_v h5, nm_e ⟨kd_v h5, nm_e (nm_r (nI_1 n) (nm_e ?_))⟩⟩⟩⟩
    rw [nI_pred n]
    exact hC ⟨z1, z2, z3⟩ (fun q => z4 ((kd_s40 hs).mp q)) h5
theorem kd_c100 {c : Int32} (h0 : ¬ c < 0) (h1 : c ≤ 99) : ∃ i, i < 100 ∧ c = nI i := by
  obtain ⟨j, hj, e⟩ := nI_of2 (M := 99) (n := 99) (by decide +kernel) h0 h1
  exact ⟨j, by omega, e⟩
theorem kd_c64 {c : Int32} (h0 : ¬ c < 0) (h1 : ¬ 64 ≤ c) : ∃ i, i < 64 ∧ c = nI i := kd_in (by decide +kernel) h0 h1
theorem i_vc_add {k : Nat} {u : SX} {v : SY} (I : i_Rel k u v) (hk : k + 4 ≤ 2048) (v1 : Int32) (v2 : Int32) (v3 : Int32) : wpX_add (fun r u' => wpY_add (fun r' v' => r' = r ∧ i_Rel (k + 4) u' v') v v1 v2 v3) u v1 v2 v3 := by
  obtain ⟨n, s, x, y, w, t, rfl, rfl, hI⟩ := I
  have R : i_Rel (k + 4) (nI n, s, x, y, w, t) (nI n, s, x, y, w, t) := ⟨n, s, x, y, w, t, rfl, rfl, kd_I_up hI⟩
  refine kd_xAdd hI.1 (fun z => kd_yAdd hI.1 hI.2.2.1 (fun _ => ⟨rfl, R⟩) (fun q => absurd q z) (fun q => absurd q z)) (fun z z' => kd_yAdd hI.1 hI.2.2.1 (fun q => absurd z q) (fun _ _ => ⟨rfl, R⟩) (fun _ q1 q2 => absurd z' (fun r => r.elim q1 (fun r => r q2)))) (fun z z1 z2 => kd_yAdd hI.1 hI.2.2.1 (fun q => absurd z q) (fun _ r => absurd r (fun r => r.elim z1 (fun r => r z2))) (fun _ _ _ => ⟨rfl, ?_⟩))
  exact ⟨n + 1, s + 1, _, _, _, _, rfl, rfl, kd_I_add hI hk z2 z1 _ (kd_c64 z.1.1 z.1.2.1) (kd_c64 z.1.2.2.1 z.1.2.2.2) (kd_c100 z.2.1 z.2.2)⟩
theorem i_vc_remove {k : Nat} {u : SX} {v : SY} (I : i_Rel k u v) (hk : k + 4 ≤ 2048) (v1 : Int32) : wpX_remove (fun r u' => wpY_remove (fun r' v' => r' = r ∧ i_Rel (k + 4) u' v') v v1) u v1 := by
  obtain ⟨n, s, x, y, w, t, rfl, rfl, hI⟩ := I
  unfold wpX_remove wpY_remove
  dsimp only
  rcases kd_T v1 hI.2.2.2.2.2.2 with ⟨j, hj, e, z⟩ | z
  · subst e
    have hn := hI.1
    have h5 : j < 200 := by omega
    refine kd_xThere1 h5 z (br_f kd_10 ⟨kd_v h5, nm_e (nm_e ⟨kd_v h5, ?_⟩)⟩)
    refine kd_yPoint1 hn hj z (br_f kd_10 ⟨kd_v h5, nm_e (nm_e ⟨kd_v h5, rfl, ?_⟩)⟩)
    rw [kd_c h5, kd_nb0]
    exact ⟨n, s - 1, x, y, w, _, rfl, rfl, kd_I_rem hI hk j⟩
  · exact kd_xThere0 z (br_t rfl (kd_yPoint0 hI.1 z (br_t rfl ⟨rfl, n, s, x, y, w, t, rfl, rfl, kd_I_up hI⟩)))
theorem i_vc_move {k : Nat} {u : SX} {v : SY} (I : i_Rel k u v) (hk : k + 4 ≤ 2048) (v1 : Int32) (v2 : Int32) (v3 : Int32) : wpX_move (fun r u' => wpY_move (fun r' v' => r' = r ∧ i_Rel (k + 4) u' v') v v1 v2 v3) u v1 v2 v3 := by
  obtain ⟨n, s, x, y, w, t, rfl, rfl, hI⟩ := I
  have R : i_Rel (k + 4) (nI n, s, x, y, w, t) (nI n, s, x, y, w, t) := ⟨n, s, x, y, w, t, rfl, rfl, kd_I_up hI⟩
  unfold wpX_move wpY_move
  dsimp only
  rcases kd_T v1 hI.2.2.2.2.2.2 with ⟨j, hj, e, z⟩ | z
  · subst e
    have hn := hI.1
    have h5 : j < 200 := by omega
    refine kd_xThere1 h5 z (br_f kd_10 ?_)
    refine kd_xPlace (fun q => br_f kd_10 ⟨kd_v h5, kd_v h5, kd_v h5, nm_e ⟨kd_v h5, nm_e ?_⟩⟩) (fun q => br_t rfl ?_)
    · refine kd_yPoint1 hn hj z (br_f kd_10 (kd_yPlace (fun _ => br_f kd_10 ⟨kd_v h5, kd_v h5, nm_e ⟨kd_v h5, nm_e ⟨kd_v h5, nm_e ⟨rfl, ?_⟩⟩⟩⟩) (fun r => absurd q r)))
      exact ⟨n, s, _, _, w, t, rfl, rfl, kd_I_mov hI (kd_c64 q.1 q.2.1) (kd_c64 q.2.2.1 q.2.2.2) _⟩
    · exact kd_yPoint1 hn hj z (br_f kd_10 (kd_yPlace (fun r => absurd r q) (fun _ => br_t rfl ⟨rfl, R⟩)))
  · exact kd_xThere0 z (br_t rfl (kd_yPoint0 hI.1 z (br_t rfl ⟨rfl, R⟩)))
theorem i_vc_size {k : Nat} {u : SX} {v : SY} (I : i_Rel k u v) (hk : k + 4 ≤ 2048) : wpX_size (fun r => wpY_size (fun r' => r' = r ∧ i_Rel (k + 4) u v) v) u := by
  obtain ⟨n, s, x, y, w, t, rfl, rfl, hI⟩ := I
  exact ⟨rfl, n, s, x, y, w, t, rfl, rfl, kd_I_up hI⟩
theorem i_vc_where {k : Nat} {u : SX} {v : SY} (I : i_Rel k u v) (hk : k + 4 ≤ 2048) (v1 : Int32) : wpX_where (fun r => wpY_where (fun r' => r' = r ∧ i_Rel (k + 4) u v) v v1) u v1 := by
  obtain ⟨n, s, x, y, w, t, rfl, rfl, hI⟩ := I
  have R : i_Rel (k + 4) (nI n, s, x, y, w, t) (nI n, s, x, y, w, t) := ⟨n, s, x, y, w, t, rfl, rfl, kd_I_up hI⟩
  unfold wpX_where wpY_where
  dsimp only
  rcases kd_T v1 hI.2.2.2.2.2.2 with ⟨j, hj, e, z⟩ | z
  · subst e
    have hn := hI.1
    have h5 : j < 200 := by omega
    exact kd_xThere1 h5 z (br_f kd_10 ⟨kd_v h5, kd_v h5, kd_yPoint1 hn hj z (br_f kd_10 ⟨kd_v h5, kd_v h5, rfl, R⟩)⟩)
  · exact kd_xThere0 z (br_t rfl (kd_yPoint0 hI.1 z (br_t rfl ⟨rfl, R⟩)))
theorem i_vc_count {k : Nat} {u : SX} {v : SY} (I : i_Rel k u v) (hk : k + 4 ≤ 2048) (v1 : Int32) (v2 : Int32) : wpX_count (fun r => wpY_count (fun r' => r' = r ∧ i_Rel (k + 4) u v) v v1 v2) u v1 v2 := by
  obtain ⟨n, s, x, y, w, t, rfl, rfl, hI⟩ := I
  have R : i_Rel (k + 4) (nI n, s, x, y, w, t) (nI n, s, x, y, w, t) := ⟨n, s, x, y, w, t, rfl, rfl, kd_I_up hI⟩
  refine kd_xCount (fun z => kd_yCount hI.1 (fun _ => ⟨?_, R⟩) (fun q => absurd z q)) (fun z => kd_yCount hI.1 (fun q => absurd q z) (fun _ => ⟨rfl, R⟩))
  exact (kd_sc_200 hI.1 0 (fun q hq b => if_neg (kd_Lz (hI.2.2.2.2.2.2 q hq)))).symm
theorem i_vc_weight {k : Nat} {u : SX} {v : SY} (I : i_Rel k u v) (hk : k + 4 ≤ 2048) (v1 : Int32) (v2 : Int32) : wpX_weight (fun r => wpY_weight (fun r' => r' = r ∧ i_Rel (k + 4) u v) v v1 v2) u v1 v2 := by
  obtain ⟨n, s, x, y, w, t, rfl, rfl, hI⟩ := I
  have R : i_Rel (k + 4) (nI n, s, x, y, w, t) (nI n, s, x, y, w, t) := ⟨n, s, x, y, w, t, rfl, rfl, kd_I_up hI⟩
  refine kd_xWeight (fun z => kd_yWeight hI.1 (fun _ => ⟨?_, R⟩) (fun q => absurd z q)) (fun z => kd_yWeight hI.1 (fun q => absurd q z) (fun _ => ⟨rfl, R⟩))
  exact (kd_sc_200 hI.1 0 (fun q hq b => if_neg (kd_Lz (hI.2.2.2.2.2.2 q hq)))).symm
theorem i_vc_heaviest {k : Nat} {u : SX} {v : SY} (I : i_Rel k u v) (hk : k + 4 ≤ 2048) (v1 : Int32) (v2 : Int32) : wpX_heaviest (fun r => wpY_heaviest (fun r' => r' = r ∧ i_Rel (k + 4) u v) v v1 v2) u v1 v2 := by
  obtain ⟨n, s, x, y, w, t, rfl, rfl, hI⟩ := I
  have R : i_Rel (k + 4) (nI n, s, x, y, w, t) (nI n, s, x, y, w, t) := ⟨n, s, x, y, w, t, rfl, rfl, kd_I_up hI⟩
  refine kd_xHeavy (fun z => kd_yHeavy hI.1 (fun _ => ⟨?_, R⟩) (fun q => absurd z q)) (fun z => kd_yHeavy hI.1 (fun q => absurd q z) (fun _ => ⟨rfl, R⟩))
  have e : kd_sc (kd_hX (kd_L x y t v1 v2) w) 200 0 (-4, -1) = kd_sc (kd_hX (kd_L x y t v1 v2) w) n 0 (-4, -1) :=
    kd_sc_200 hI.1 (-4, -1) (fun q hq b => if_neg (fun r => kd_Lz (hI.2.2.2.2.2.2 q hq) r.1))
  rw [e]
  have hn := hI.1
  exact (kd_hE (kd_I_w hI) n 0 (-4, -1) (-4) (by omega) ⟨rfl, Or.inl ⟨rfl, rfl⟩⟩).symm
theorem i_vc_next {k : Nat} {u : SX} {v : SY} (I : i_Rel k u v) (hk : k + 4 ≤ 2048) (v1 : Int32) (v2 : Int32) (v3 : Int32) : wpX_next (fun r => wpY_next (fun r' => r' = r ∧ i_Rel (k + 4) u v) v v1 v2 v3) u v1 v2 v3 := by
  obtain ⟨n, s, x, y, w, t, rfl, rfl, hI⟩ := I
  have R : i_Rel (k + 4) (nI n, s, x, y, w, t) (nI n, s, x, y, w, t) := ⟨n, s, x, y, w, t, rfl, rfl, kd_I_up hI⟩
  refine kd_xNext (fun z => kd_yNext hI.1 (fun _ => ⟨?_, R⟩) (fun q => absurd z q)) (fun z => kd_yNext hI.1 (fun q => absurd q z) (fun _ => ⟨rfl, R⟩))
  exact (kd_fs_200 hI.1 (fun q hq r => kd_Lz (hI.2.2.2.2.2.2 q hq) (kd_N_i.mp r).2)).symm
theorem kd_fsK {n : Nat} {x y t : Nat → Int32} (hn : n ≤ 200) (ht : ∀ j, n ≤ j → t j = 0) (a b k : Int32) : kd_fs (kd_K x y t a b k n) n 0 = kd_fs (kd_K x y t a b k 200) 200 0 := by
  have e : kd_K x y t a b k 200 = kd_K x y t a b k n := by
    funext p
    unfold kd_K kd_rk
    have e : kd_sc (kd_fr x y t a b (kd_D x y p a b) p) 200 0 0 = kd_sc (kd_fr x y t a b (kd_D x y p a b) p) n 0 0 :=
      kd_sc_200 hn 0 (fun q hq c => if_neg (fun r => r.1 (ht q hq)))
    rw [e]
  rw [e]
  exact (kd_fs_200 hn (fun q hq r => (kd_K_i.mp r).1 (ht q hq))).symm
theorem i_vc_nearest {k : Nat} {u : SX} {v : SY} (I : i_Rel k u v) (hk : k + 4 ≤ 2048) (v1 : Int32) (v2 : Int32) : wpX_nearest (fun r => wpY_nearest (fun r' => r' = r ∧ i_Rel (k + 4) u v) v v1 v2) u v1 v2 := by
  obtain ⟨n, s, x, y, w, t, rfl, rfl, hI⟩ := I
  have R : i_Rel (k + 4) (nI n, s, x, y, w, t) (nI n, s, x, y, w, t) := ⟨n, s, x, y, w, t, rfl, rfl, kd_I_up hI⟩
  exact kd_xNearest (fun z => kd_yNearest hI.1 (fun _ => ⟨kd_fsK hI.1 hI.2.2.2.2.2.2 v1 v2 0, R⟩) (fun q => absurd z q)) (fun z => kd_yNearest hI.1 (fun q => absurd q z) (fun _ => ⟨rfl, R⟩))
theorem i_vc_near {k : Nat} {u : SX} {v : SY} (I : i_Rel k u v) (hk : k + 4 ≤ 2048) (v1 : Int32) (v2 : Int32) (v3 : Int32) : wpX_near (fun r => wpY_near (fun r' => r' = r ∧ i_Rel (k + 4) u v) v v1 v2 v3) u v1 v2 v3 := by
  obtain ⟨n, s, x, y, w, t, rfl, rfl, hI⟩ := I
  have R : i_Rel (k + 4) (nI n, s, x, y, w, t) (nI n, s, x, y, w, t) := ⟨n, s, x, y, w, t, rfl, rfl, kd_I_up hI⟩
  exact kd_xNear (fun z => kd_yNear hI.1 (fun _ => ⟨kd_fsK hI.1 hI.2.2.2.2.2.2 v1 v2 v3, R⟩) (fun q => absurd z q)) (fun z => kd_yNear hI.1 (fun q => absurd q z) (fun _ => ⟨rfl, R⟩))
theorem i_vc_within {k : Nat} {u : SX} {v : SY} (I : i_Rel k u v) (hk : k + 4 ≤ 2048) (v1 : Int32) (v2 : Int32) (v3 : Int32) : wpX_within (fun r => wpY_within (fun r' => r' = r ∧ i_Rel (k + 4) u v) v v1 v2 v3) u v1 v2 v3 := by
  obtain ⟨n, s, x, y, w, t, rfl, rfl, hI⟩ := I
  have R : i_Rel (k + 4) (nI n, s, x, y, w, t) (nI n, s, x, y, w, t) := ⟨n, s, x, y, w, t, rfl, rfl, kd_I_up hI⟩
  refine kd_xWithin (fun z => kd_yWithin hI.1 (fun _ => ⟨?_, R⟩) (fun q => absurd z q)) (fun z => kd_yWithin hI.1 (fun q => absurd q z) (fun _ => ⟨rfl, R⟩))
  exact (kd_sc_200 hI.1 0 (fun q hq b => if_neg (fun r => r.1 (hI.2.2.2.2.2.2 q hq)))).symm
theorem i_vc_front {k : Nat} {u : SX} {v : SY} (I : i_Rel k u v) (hk : k + 4 ≤ 2048) : wpX_front (fun r => wpY_front (fun r' => r' = r ∧ i_Rel (k + 4) u v) v) u := by
  obtain ⟨n, s, x, y, w, t, rfl, rfl, hI⟩ := I
  have R : i_Rel (k + 4) (nI n, s, x, y, w, t) (nI n, s, x, y, w, t) := ⟨n, s, x, y, w, t, rfl, rfl, kd_I_up hI⟩
  refine kd_xFront (kd_yFront hI.1 ⟨?_, R⟩)
  have e : kd_ff x y t 200 = kd_ff x y t n := by
    funext p c
    unfold kd_ff
    rw [kd_an_200 hI.1 (fun q hq r => (kd_B_i.mp r).1 (hI.2.2.2.2.2.2 q hq))]
  rw [e]
  exact (kd_sc_200 hI.1 0 (fun q hq b => if_neg (fun r => r.1 (hI.2.2.2.2.2.2 q hq)))).symm
theorem i_vc_closest {k : Nat} {u : SX} {v : SY} (I : i_Rel k u v) (hk : k + 4 ≤ 2048) : wpX_closest (fun r => wpY_closest (fun r' => r' = r ∧ i_Rel (k + 4) u v) v) u := by
  obtain ⟨n, s, x, y, w, t, rfl, rfl, hI⟩ := I
  have R : i_Rel (k + 4) (nI n, s, x, y, w, t) (nI n, s, x, y, w, t) := ⟨n, s, x, y, w, t, rfl, rfl, kd_I_up hI⟩
  exact kd_xClose (kd_yClose hI.2.2.2.1 hI.2.2.2.2.1 hI.1 ⟨(kd_close hI.2.2.2.1 hI.2.2.2.2.1 hI.1 hI.2.2.2.2.2.2).symm, R⟩)
theorem i_vc_merge {k : Nat} {u : SX} {v : SY} (I : i_Rel k u v) (hk : k + 4 ≤ 2048) : wpX_merge (fun u' => wpY_merge (fun v' => i_Rel (k + 4) u' v') v) u := by
  obtain ⟨n, s, x, y, w, t, rfl, rfl, hI⟩ := I
  exact ⟨n, s, x, y, w, t, rfl, rfl, kd_I_up hI⟩
end
