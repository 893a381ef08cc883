/-! Pure part: scans, first finds, any, and the least distance. -/
def kd_sc {α : Type} (f : Nat → α → α) : Nat → Nat → α → α
  | 0, _, a => a
  | d + 1, p, a => kd_sc f d (p + 1) (f p a)
theorem kd_sc_id {α : Type} {f : Nat → α → α} : ∀ (d p : Nat) (a : α), (∀ q, p ≤ q → ∀ b, f q b = b) → kd_sc f d p a = a := by
  intro d
  induction d with
  | zero => intro p a _; rfl
  | succ d ih =>
    intro p a h
    show kd_sc f d (p + 1) (f p a) = a
    rw [h p (Nat.le_refl p) a]
    exact ih (p + 1) a (fun q hq b => h q (by omega) b)
theorem kd_sc_cut {α : Type} {f : Nat → α → α} : ∀ (d e p : Nat) (a : α), (∀ q, p + d ≤ q → ∀ b, f q b = b) → kd_sc f (d + e) p a = kd_sc f d p a := by
  intro d
  induction d with
  | zero =>
    intro e p a h
    rw [Nat.zero_add]
    exact kd_sc_id e p a (fun q hq b => h q (by omega) b)
  | succ d ih =>
    intro e p a h
    rw [Nat.add_right_comm d 1 e]
    show kd_sc f (d + e) (p + 1) (f p a) = kd_sc f d (p + 1) (f p a)
    exact ih e (p + 1) _ (fun q hq b => h q (by omega) b)
theorem kd_sc_200 {α : Type} {f : Nat → α → α} {n : Nat} (hn : n ≤ 200) (a : α) (h : ∀ q, n ≤ q → ∀ b, f q b = b) : kd_sc f 200 0 a = kd_sc f n 0 a := by
  have he : 200 = n + (200 - n) := by omega
  rw [he]
  exact kd_sc_cut n (200 - n) 0 a (fun q hq b => h q (by omega) b)
def kd_fs (P : Nat → Bool) : Nat → Nat → Int32
  | 0, _ => -4
  | d + 1, p => if P p = true then nI p else kd_fs P d (p + 1)
theorem kd_fs_id {P : Nat → Bool} : ∀ (d p : Nat), (∀ q, p ≤ q → ¬ P q = true) → kd_fs P d p = -4 := by
  intro d
  induction d with
  | zero => intro p _; rfl
  | succ d ih =>
    intro p h
    show (if P p = true then nI p else kd_fs P d (p + 1)) = -4
    rw [if_neg (h p (Nat.le_refl p))]
    exact ih (p + 1) (fun q hq => h q (by omega))
theorem kd_fs_cut {P : Nat → Bool} : ∀ (d e p : Nat), (∀ q, p + d ≤ q → ¬ P q = true) → kd_fs P (d + e) p = kd_fs P d p := by
  intro d
  induction d with
  | zero =>
    intro e p h
    rw [Nat.zero_add]
    exact kd_fs_id e p (fun q hq => h q (by omega))
  | succ d ih =>
    intro e p h
    rw [Nat.add_right_comm d 1 e]
    show (if P p = true then nI p else kd_fs P (d + e) (p + 1)) = (if P p = true then nI p else kd_fs P d (p + 1))
    rw [ih e (p + 1) (fun q hq => h q (by omega))]
theorem kd_fs_200 {P : Nat → Bool} {n : Nat} (hn : n ≤ 200) (h : ∀ q, n ≤ q → ¬ P q = true) : kd_fs P 200 0 = kd_fs P n 0 := by
  have he : 200 = n + (200 - n) := by omega
  rw [he]
  exact kd_fs_cut n (200 - n) 0 (fun q hq => h q (by omega))
def kd_an (P : Nat → Bool) : Nat → Nat → Bool
  | 0, _ => false
  | d + 1, p => if P p = true then true else kd_an P d (p + 1)
theorem kd_an_id {P : Nat → Bool} : ∀ (d p : Nat), (∀ q, p ≤ q → ¬ P q = true) → kd_an P d p = false := by
  intro d
  induction d with
  | zero => intro p _; rfl
  | succ d ih =>
    intro p h
    show (if P p = true then true else kd_an P d (p + 1)) = false
    rw [if_neg (h p (Nat.le_refl p))]
    exact ih (p + 1) (fun q hq => h q (by omega))
theorem kd_an_cut {P : Nat → Bool} : ∀ (d e p : Nat), (∀ q, p + d ≤ q → ¬ P q = true) → kd_an P (d + e) p = kd_an P d p := by
  intro d
  induction d with
  | zero =>
    intro e p h
    rw [Nat.zero_add]
    exact kd_an_id e p (fun q hq => h q (by omega))
  | succ d ih =>
    intro e p h
    rw [Nat.add_right_comm d 1 e]
    show (if P p = true then true else kd_an P (d + e) (p + 1)) = (if P p = true then true else kd_an P d (p + 1))
    rw [ih e (p + 1) (fun q hq => h q (by omega))]
theorem kd_an_200 {P : Nat → Bool} {n : Nat} (hn : n ≤ 200) (h : ∀ q, n ≤ q → ¬ P q = true) : kd_an P 200 0 = kd_an P n 0 := by
  have he : 200 = n + (200 - n) := by omega
  rw [he]
  exact kd_an_cut n (200 - n) 0 (fun q hq => h q (by omega))
/-! loops against scans -/
theorem kd_lpI {α : Type} (W : Nat → Int32 → α → Prop) (post : α → Prop) (f : Nat → α → α) (I : Nat → α → Prop) (N : Nat)
    (hx : ∀ n a, post a → W (n + 1) (nI N) a)
    (hs : ∀ n p a, p < N → I p a → W n (nI (p + 1)) (f p a) → W (n + 1) (nI p) a)
    (hI : ∀ p a, p < N → I p a → I (p + 1) (f p a)) :
    ∀ d p a, p + d = N → I p a → post (kd_sc f d p a) → W (d + 1) (nI p) a := by
  intro d
  induction d with
  | zero =>
    intro p a hp _ h
    have e : p = N := by omega
    rw [e]
    exact hx 0 a h
  | succ d ih =>
    intro p a hp hi h
    exact hs (d + 1) p a (by omega) hi (ih (p + 1) (f p a) (by omega) (hI p a (by omega) hi) h)
theorem kd_lp {α : Type} (W : Nat → Int32 → α → Prop) (post : α → Prop) (f : Nat → α → α) (N : Nat)
    (hx : ∀ n a, post a → W (n + 1) (nI N) a)
    (hs : ∀ n p a, p < N → W n (nI (p + 1)) (f p a) → W (n + 1) (nI p) a)
    (d p : Nat) (a : α) (hp : p + d = N) (h : post (kd_sc f d p a)) : W (d + 1) (nI p) a :=
  kd_lpI W post f (fun _ _ => True) N hx (fun n p a hp _ h => hs n p a hp h) (fun _ _ _ _ => trivial) d p a hp trivial h
theorem kd_sc_inv {α : Type} {f : Nat → α → α} {I : α → Prop} (hf : ∀ p a, I a → I (f p a)) : ∀ (d p : Nat) (a : α), I a → I (kd_sc f d p a) := by
  intro d
  induction d with
  | zero => intro p a h; exact h
  | succ d ih => intro p a h; exact ih (p + 1) (f p a) (hf p a h)
theorem kd_lf (W : Nat → Int32 → Prop) (post : Int32 → Prop) (P : Nat → Bool) (N : Nat)
    (hx : ∀ n, post (-4) → W (n + 1) (nI N))
    (hs : ∀ n p, p < N → (P p = true → post (nI p)) → (¬ P p = true → W n (nI (p + 1))) → W (n + 1) (nI p)) :
    ∀ d p, p + d = N → post (kd_fs P d p) → W (d + 1) (nI p) := by
  intro d
  induction d with
  | zero =>
    intro p hp h
    have e : p = N := by omega
    rw [e]
    exact hx 0 h
  | succ d ih =>
    intro p hp h
    have h' : post (if P p = true then nI p else kd_fs P d (p + 1)) := h
    by_cases z : P p = true
    · rw [if_pos z] at h'
      exact hs (d + 1) p (by omega) (fun _ => h') (fun q => absurd z q)
    · rw [if_neg z] at h'
      exact hs (d + 1) p (by omega) (fun q => absurd q z) (fun _ => ih (p + 1) (by omega) h')
theorem kd_la (W : Nat → Int32 → Prop) (post : Int32 → Prop) (P : Nat → Bool) (N : Nat)
    (hx : ∀ n, post 0 → W (n + 1) (nI N))
    (hs : ∀ n p, p < N → (P p = true → post 1) → (¬ P p = true → W n (nI (p + 1))) → W (n + 1) (nI p)) :
    ∀ d p, p + d = N → (kd_an P d p = true → post 1) → (¬ kd_an P d p = true → post 0) → W (d + 1) (nI p) := by
  intro d
  induction d with
  | zero =>
    intro p hp _ h
    have e : p = N := by omega
    rw [e]
    exact hx 0 (h (fun q => Bool.noConfusion q))
  | succ d ih =>
    intro p hp h1 h0
    by_cases z : P p = true
    · have e : kd_an P (d + 1) p = true := if_pos z
      exact hs (d + 1) p (by omega) (fun _ => h1 e) (fun q => absurd z q)
    · have e : kd_an P (d + 1) p = kd_an P d (p + 1) := if_neg z
      rw [e] at h1 h0
      exact hs (d + 1) p (by omega) (fun q => absurd q z) (fun _ => ih (p + 1) (by omega) h1 h0)
