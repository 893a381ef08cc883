/-! the class's loops against the scans -/
variable {n : Nat} {s : Int32} {x y w t : Nat → Int32}
def kd_fc (L : Nat → Bool) (j : Nat) (a : Int32) : Int32 := if L j = true then a + 1 else a
def kd_fw (L : Nat → Bool) (w : Nat → Int32) (j : Nat) (a : Int32) : Int32 := if L j = true then a + w j else a
def kd_N (L : Nat → Bool) (fr : Int32) (j : Nat) : Bool := decide (¬ nI j < fr) && L j
theorem kd_N_i {L : Nat → Bool} {fr : Int32} {j : Nat} : kd_N L fr j = true ↔ (¬ nI j < fr ∧ L j = true) := by
  unfold kd_N
  rw [Bool.and_eq_true, decide_eq_true_iff]
def kd_fd (x y t : Nat → Int32) (a b d : Int32) (q : Nat) (c : Int32) : Int32 := if ¬ t q = 0 ∧ ¬ d < kd_D x y q a b then c + 1 else c
def kd_fr (x y t : Nat → Int32) (a b own : Int32) (p q : Nat) (c : Int32) : Int32 :=
  if ¬ t q = 0 ∧ (kd_D x y q a b < own ∨ (kd_D x y q a b = own ∧ ¬ nI p ≤ nI q)) then c + 1 else c
def kd_rk (x y t : Nat → Int32) (a b : Int32) (N p : Nat) : Int32 := kd_sc (kd_fr x y t a b (kd_D x y p a b) p) N 0 0
def kd_K (x y t : Nat → Int32) (a b k : Int32) (N p : Nat) : Bool := decide (¬ t p = 0 ∧ kd_rk x y t a b N p = k)
theorem kd_K_i {a b k : Int32} {N p : Nat} : kd_K x y t a b k N p = true ↔ (¬ t p = 0 ∧ kd_rk x y t a b N p = k) := by
  unfold kd_K
  exact decide_eq_true_iff
def kd_B (x y t : Nat → Int32) (p q : Nat) : Bool := decide (¬ t q = 0 ∧ ¬ x q < x p ∧ ¬ y q < y p ∧ (x p < x q ∨ ¬ y q ≤ y p))
theorem kd_B_i {p q : Nat} : kd_B x y t p q = true ↔ (¬ t q = 0 ∧ ¬ x q < x p ∧ ¬ y q < y p ∧ (x p < x q ∨ ¬ y q ≤ y p)) := by
  unfold kd_B
  exact decide_eq_true_iff
def kd_ff (x y t : Nat → Int32) (N p : Nat) (c : Int32) : Int32 := if ¬ t p = 0 ∧ ¬ kd_an (kd_B x y t p) N 0 = true then c + 1 else c
theorem kd_xCount {post : Int32 → Prop} {c l : Int32} (h1 : kd_S c ∧ kd_S l → post (kd_sc (kd_fc (kd_L x y t c l)) 200 0 0)) (h0 : ¬ (kd_S c ∧ kd_S l) → post (-1)) : wpX_count post (nI n, s, x, y, w, t) c l := by
  unfold wpX_count
  dsimp only
  refine kd_xRect (fun z => br_f kd_10 ?_) (fun z => br_t rfl (h0 z))
  refine ⟨200 + 1, kd_lp (fun m i a => wX_count_15 post c l (nI n) s x y w t m a i) post (kd_fc (kd_L x y t c l)) 200 (fun m a hp => br_t kd_le200 hp) ?_ 200 0 0 rfl (h1 z)⟩
  intro m p a hp h
  refine br_f (kd_lt200 hp) (kd_xLies hp (fun z => br_f kd_10 (nm_e (nm_r (nI_1 p) ?_))) (fun z => br_t rfl (nm_r (nI_1 p) ?_)))
  · have e : kd_fc (kd_L x y t c l) p a = a + 1 := if_pos z
    rw [e] at h; exact h
  · have e : kd_fc (kd_L x y t c l) p a = a := if_neg z
    rw [e] at h; exact h
theorem kd_xWeight {post : Int32 → Prop} {c l : Int32} (h1 : kd_S c ∧ kd_S l → post (kd_sc (kd_fw (kd_L x y t c l) w) 200 0 0)) (h0 : ¬ (kd_S c ∧ kd_S l) → post (-1)) : wpX_weight post (nI n, s, x, y, w, t) c l := by
  unfold wpX_weight
  dsimp only
  refine kd_xRect (fun z => br_f kd_10 ?_) (fun z => br_t rfl (h0 z))
  refine ⟨200 + 1, kd_lp (fun m i a => wX_weight_15 post c l (nI n) s x y w t m a i) post (kd_fw (kd_L x y t c l) w) 200 (fun m a hp => br_t kd_le200 hp) ?_ 200 0 0 rfl (h1 z)⟩
  intro m p a hp h
  have ew : a + w (nI p).toNatClampNeg = a + w p := by rw [kd_c hp]
  refine br_f (kd_lt200 hp) (kd_xLies hp (fun z => br_f kd_10 ⟨kd_v hp, nm_r ew (nm_r (nI_1 p) ?_)⟩) (fun z => br_t rfl (nm_r (nI_1 p) ?_)))
  · have e : kd_fw (kd_L x y t c l) w p a = a + w p := if_pos z
    rw [e] at h; exact h
  · have e : kd_fw (kd_L x y t c l) w p a = a := if_neg z
    rw [e] at h; exact h
theorem kd_xHeavy {post : Int32 → Prop} {c l : Int32} (h1 : kd_S c ∧ kd_S l → post (kd_sc (kd_hX (kd_L x y t c l) w) 200 0 (-4, -1)).1) (h0 : ¬ (kd_S c ∧ kd_S l) → post (-1)) : wpX_heaviest post (nI n, s, x, y, w, t) c l := by
  unfold wpX_heaviest
  dsimp only
  refine kd_xRect (fun z => br_f kd_10 ?_) (fun z => br_t rfl (h0 z))
  refine ⟨200 + 1, kd_lp (fun m i (a : Int32 × Int32) => wX_heaviest_19 post c l (nI n) s x y w t m a.1 a.2 i) (fun a => post a.1) (kd_hX (kd_L x y t c l) w) 200 (fun m a hp => br_t kd_le200 hp) ?_ 200 0 (-4, -1) rfl (h1 z)⟩
  intro m p a hp h
  have ew : w (nI p).toNatClampNeg = w p := by rw [kd_c hp]
  refine br_f (kd_lt200 hp) (kd_xLies hp (fun z => br_f kd_10 ⟨kd_v hp, br_c (fun z2 => nm_r (nI_1 p) ?_) (fun z2 => ⟨kd_v hp, nm_r ew (nm_r (nI_1 p) ?_)⟩)⟩) (fun z => br_t rfl (nm_r (nI_1 p) ?_)))
  · rw [ew] at z2
    have e : kd_hX (kd_L x y t c l) w p a = a := if_neg (fun q => q.2 z2)
    rw [e] at h; exact h
  · rw [ew] at z2
    have e : kd_hX (kd_L x y t c l) w p a = (nI p, w p) := if_pos ⟨z, z2⟩
    rw [e] at h; exact h
  · have e : kd_hX (kd_L x y t c l) w p a = a := if_neg (fun q => z q.1)
    rw [e] at h; exact h
theorem kd_xNext {post : Int32 → Prop} {c l fr : Int32} (h1 : kd_S c ∧ kd_S l → post (kd_fs (kd_N (kd_L x y t c l) fr) 200 0)) (h0 : ¬ (kd_S c ∧ kd_S l) → post (-1)) : wpX_next post (nI n, s, x, y, w, t) c l fr := by
  unfold wpX_next
  dsimp only
  refine kd_xRect (fun z => br_f kd_10 ?_) (fun z => br_t rfl (h0 z))
  refine ⟨200 + 1, kd_lf (fun m i => wX_next_13 post c l fr (nI n) s x y w t m i) post (kd_N (kd_L x y t c l) fr) 200 (fun m hp => br_t kd_le200 hp) ?_ 200 0 rfl (h1 z)⟩
  intro m p hp ht hf
  rw [kd_N_i] at ht hf
  exact br_f (kd_lt200 hp) (br_c (fun z2 => nm_r (nI_1 p) (hf (fun q => q.1 z2))) (fun z2 => kd_xLies hp (fun z3 => br_f kd_10 (ht ⟨z2, z3⟩)) (fun z3 => br_t rfl (nm_r (nI_1 p) (hf (fun q => z3 q.2))))))
theorem kd_xRank {post : Int32 → Prop} {a b : Int32} {p : Nat} (hp : p < 200) (h : post (kd_rk x y t a b 200 p)) : wpX_rank post (nI n, s, x, y, w, t) (nI p) a b := by
  unfold wpX_rank
  dsimp only
  refine kd_xDist hp ⟨200 + 1, kd_lp (fun m i c => wX_rank_15 post (nI p) a b (kd_D x y p a b) (nI n) s x y w t m c i) post (kd_fr x y t a b (kd_D x y p a b) p) 200 (fun m c hp => br_t kd_le200 hp) ?_ 200 0 0 rfl h⟩
  intro m q c hq h
  have et : t (nI q).toNatClampNeg = t q := by rw [kd_c hq]
  refine br_f (kd_lt200 hq) ⟨kd_v hq, br_c (fun z0 => nm_r (nI_1 q) ?_) (fun z0 => kd_xDist hq (br_c (fun z1 => nm_e (nm_r (nI_1 q) ?_)) (fun z1 => br_c (fun z2 => br_c (fun z3 => nm_r (nI_1 q) ?_) (fun z3 => nm_e (nm_r (nI_1 q) ?_))) (fun z2 => nm_r (nI_1 q) ?_))))⟩
  · have e : kd_fr x y t a b (kd_D x y p a b) p q c = c := if_neg (fun r => r.1 (et.symm.trans z0))
    rw [e] at h; exact h
  · have e : kd_fr x y t a b (kd_D x y p a b) p q c = c + 1 := if_pos ⟨fun r => z0 (et.trans r), Or.inl z1⟩
    rw [e] at h; exact h
  · have e : kd_fr x y t a b (kd_D x y p a b) p q c = c := if_neg (fun r => r.2.elim z1 (fun k => k.2 z3))
    rw [e] at h; exact h
  · have e : kd_fr x y t a b (kd_D x y p a b) p q c = c + 1 := if_pos ⟨fun r => z0 (et.trans r), Or.inr ⟨z2, z3⟩⟩
    rw [e] at h; exact h
  · have e : kd_fr x y t a b (kd_D x y p a b) p q c = c := if_neg (fun r => r.2.elim z1 (fun k => z2 k.1))
    rw [e] at h; exact h
theorem kd_xPoint {post : Int32 → Prop} {a b k : Int32} (h : post (kd_fs (kd_K x y t a b k 200) 200 0)) : wpX_pointOfRank post (nI n, s, x, y, w, t) a b k := by
  unfold wpX_pointOfRank
  dsimp only
  refine ⟨200 + 1, kd_lf (fun m i => wX_pointOfRank_3 post a b k (nI n) s x y w t m i) post (kd_K x y t a b k 200) 200 (fun m hp => br_t kd_le200 hp) ?_ 200 0 rfl h⟩
  intro m p hp ht hf
  rw [kd_K_i] at ht hf
  have et : t (nI p).toNatClampNeg = t p := by rw [kd_c hp]
  exact br_f (kd_lt200 hp) ⟨kd_v hp, br_c (fun z0 => nm_r (nI_1 p) (hf (fun q => q.1 (et.symm.trans z0)))) (fun z0 => kd_xRank hp (br_c (fun z1 => ht ⟨fun r => z0 (et.trans r), z1⟩) (fun z1 => nm_r (nI_1 p) (hf (fun q => z1 q.2)))))⟩
theorem kd_xNear {post : Int32 → Prop} {a b k : Int32} (h1 : kd_P a b → post (kd_fs (kd_K x y t a b k 200) 200 0)) (h0 : ¬ kd_P a b → post (-1)) : wpX_near post (nI n, s, x, y, w, t) a b k := by
  unfold wpX_near
  dsimp only
  exact kd_xPlace (fun z => br_f kd_10 (kd_xPoint (h1 z))) (fun z => br_t rfl (h0 z))
theorem kd_xNearest {post : Int32 → Prop} {a b : Int32} (h1 : kd_P a b → post (kd_fs (kd_K x y t a b 0 200) 200 0)) (h0 : ¬ kd_P a b → post (-1)) : wpX_nearest post (nI n, s, x, y, w, t) a b := by
  unfold wpX_nearest
  dsimp only
  exact kd_xPlace (fun z => br_f kd_10 (kd_xPoint (h1 z))) (fun z => br_t rfl (h0 z))
theorem kd_xWithin {post : Int32 → Prop} {a b d : Int32} (h1 : kd_P a b → post (kd_sc (kd_fd x y t a b d) 200 0 0)) (h0 : ¬ kd_P a b → post (-1)) : wpX_within post (nI n, s, x, y, w, t) a b d := by
  unfold wpX_within
  dsimp only
  refine kd_xPlace (fun z => br_f kd_10 ?_) (fun z => br_t rfl (h0 z))
  refine ⟨200 + 1, kd_lp (fun m i c => wX_within_16 post a b d (nI n) s x y w t m c i) post (kd_fd x y t a b d) 200 (fun m c hp => br_t kd_le200 hp) ?_ 200 0 0 rfl (h1 z)⟩
  intro m q c hq h
  have et : t (nI q).toNatClampNeg = t q := by rw [kd_c hq]
  refine br_f (kd_lt200 hq) ⟨kd_v hq, br_c (fun z0 => nm_r (nI_1 q) ?_) (fun z0 => kd_xDist hq (br_c (fun z1 => nm_r (nI_1 q) ?_) (fun z1 => nm_e (nm_r (nI_1 q) ?_))))⟩
  · have e : kd_fd x y t a b d q c = c := if_neg (fun r => r.1 (et.symm.trans z0))
    rw [e] at h; exact h
  · have e : kd_fd x y t a b d q c = c := if_neg (fun r => r.2 z1)
    rw [e] at h; exact h
  · have e : kd_fd x y t a b d q c = c + 1 := if_pos ⟨fun r => z0 (et.trans r), z1⟩
    rw [e] at h; exact h
theorem kd_xBeaten {post : Int32 → Prop} {p : Nat} (hp : p < 200) (h1 : kd_an (kd_B x y t p) 200 0 = true → post 1) (h0 : ¬ kd_an (kd_B x y t p) 200 0 = true → post 0) : wpX_isBeaten post (nI n, s, x, y, w, t) (nI p) := by
  unfold wpX_isBeaten
  dsimp only
  refine ⟨200 + 1, kd_la (fun m i => wX_isBeaten_2 post (nI p) (nI n) s x y w t m i) post (kd_B x y t p) 200 (fun m hp => br_t kd_le200 hp) ?_ 200 0 rfl h1 h0⟩
  intro m q hq ht hf
  rw [kd_B_i] at ht hf
  have et : t (nI q).toNatClampNeg = t q := by rw [kd_c hq]
  have eq : (nI q).toNatClampNeg = q := kd_c hq
  have ep : (nI p).toNatClampNeg = p := kd_c hp
  refine br_f (kd_lt200 hq) ⟨kd_v hq, br_c (fun z0 => nm_r (nI_1 q) (hf (fun r => r.1 (et.symm.trans z0)))) (fun z0 => ?_)⟩
  rw [eq] at z0
  rw [eq, ep]
  refine ⟨kd_v hq, kd_v hp, br_c (fun z1 => nm_r (nI_1 q) (hf (fun r => r.2.1 z1))) (fun z1 => ⟨kd_v hq, kd_v hp, br_c (fun z2 => nm_r (nI_1 q) (hf (fun r => r.2.2.1 z2))) (fun z2 => ⟨kd_v hq, kd_v hp, ?_⟩)⟩)⟩
  exact br_c (fun z3 => ht ⟨z0, z1, z2, Or.inl z3⟩) (fun z3 => ⟨kd_v hq, kd_v hp, br_c (fun z4 => nm_r (nI_1 q) (hf (fun r => r.2.2.2.elim z3 (fun k => k z4)))) (fun z4 => ht ⟨z0, z1, z2, Or.inr z4⟩)⟩)
theorem kd_xFront {post : Int32 → Prop} (h : post (kd_sc (kd_ff x y t 200) 200 0 0)) : wpX_front post (nI n, s, x, y, w, t) := by
  unfold wpX_front
  dsimp only
  refine ⟨200 + 1, kd_lp (fun m i c => wX_front_4 post (nI n) s x y w t m c i) post (kd_ff x y t 200) 200 (fun m c hp => br_t kd_le200 hp) ?_ 200 0 0 rfl h⟩
  intro m q c hq h
  have et : t (nI q).toNatClampNeg = t q := by rw [kd_c hq]
  refine br_f (kd_lt200 hq) ⟨kd_v hq, br_c (fun z0 => nm_r (nI_1 q) ?_) (fun z0 => kd_xBeaten hq (fun z1 => br_f kd_10 (nm_r (nI_1 q) ?_)) (fun z1 => br_t rfl (nm_e (nm_r (nI_1 q) ?_))))⟩
  · have e : kd_ff x y t 200 q c = c := if_neg (fun r => r.1 (et.symm.trans z0))
    rw [e] at h; exact h
  · have e : kd_ff x y t 200 q c = c := if_neg (fun r => r.2 z1)
    rw [e] at h; exact h
  · have e : kd_ff x y t 200 q c = c + 1 := if_pos ⟨fun r => z0 (et.trans r), z1⟩
    rw [e] at h; exact h
def kd_gX (x y t : Nat → Int32) (p q : Nat) (a : Int32) : Int32 := if t q = 0 then a else kd_mn a (kd_D x y p (x q) (y q))
theorem kd_mn_d {a d : Int32} (h : a = -4) : kd_mn a d = d := if_pos (Or.inl h)
theorem kd_mn_a {a d : Int32} (h : ¬ a = -4) (h' : a ≤ d) : kd_mn a d = a := if_neg (fun r => r.elim h (fun k => Int32.not_lt.mpr h' k))
theorem kd_mn_l {a d : Int32} (h' : ¬ a ≤ d) : kd_mn a d = d := if_pos (Or.inr (Int32.not_le.mp h'))
theorem kd_xCloseIn {post : Int32 → Prop} {J : Int32 → Int32 → Prop} {p : Nat} (hp : p < 200) {a : Int32} (h : J (kd_sc (kd_gX x y t p) (200 - (p + 1)) (p + 1) a) (nI (p + 1))) : ∃ m, wX_closest_25 post J (nI p) (nI n) s x y w t m a (nI (p + 1)) := by
  refine ⟨200 - (p + 1) + 1, kd_lp (fun m i a => wX_closest_25 post J (nI p) (nI n) s x y w t m a i) (fun a => J a (nI (p + 1))) (kd_gX x y t p) 200 (fun m a hJ => br_t kd_le200 (nm_r (nI_1 p) hJ)) ?_ (200 - (p + 1)) (p + 1) a (by omega) h⟩
  intro m q a hq h
  have et : t (nI q).toNatClampNeg = t q := by rw [kd_c hq]
  have ex : x (nI q).toNatClampNeg = x q := by rw [kd_c hq]
  have ey : y (nI q).toNatClampNeg = y q := by rw [kd_c hq]
  refine br_f (kd_lt200 hq) ⟨kd_v hq, br_c (fun z0 => nm_r (nI_1 q) ?_) (fun z0 => ⟨kd_v hq, kd_v hq, ?_⟩)⟩
  · have e : kd_gX x y t p q a = a := if_pos (et.symm.trans z0)
    rw [e] at h; exact h
  · have e : kd_gX x y t p q a = kd_mn a (kd_D x y p (x q) (y q)) := if_neg (fun r => z0 (et.trans r))
    rw [e] at h
    rw [ex, ey]
    refine kd_xDist hp (br_c (fun z1 => nm_r (nI_1 q) ?_) (fun z1 => br_c (fun z2 => nm_r (nI_1 q) ?_) (fun z2 => nm_r (nI_1 q) ?_)))
    · rw [kd_mn_d z1] at h; exact h
    · rw [kd_mn_a z1 z2] at h; exact h
    · rw [kd_mn_l z2] at h; exact h
theorem kd_xClose {post : Int32 → Prop} (h : post (kd_sc (kd_fX x y t) 200 0 (-4))) : wpX_closest post (nI n, s, x, y, w, t) := by
  unfold wpX_closest
  dsimp only
  refine ⟨200 + 1, kd_lp (fun m i a => wX_closest_5 post (nI n) s x y w t m a i) post (kd_fX x y t) 200 (fun m c hp => br_t kd_le200 hp) ?_ 200 0 (-4) rfl h⟩
  intro m p a hp h
  have et : t (nI p).toNatClampNeg = t p := by rw [kd_c hp]
  refine br_f (kd_lt200 hp) ⟨kd_v hp, br_c (fun z0 => nm_r (nI_1 p) ?_) (fun z0 => nm_r (nI_1 p) (kd_xCloseIn hp ?_))⟩
  · have e : kd_fX x y t p a = a := if_pos (et.symm.trans z0)
    rw [e] at h; exact h
  · have e : kd_fX x y t p a = kd_sc (kd_gX x y t p) (200 - (p + 1)) (p + 1) a := if_neg (fun r => z0 (et.trans r))
    rw [e] at h; exact h
