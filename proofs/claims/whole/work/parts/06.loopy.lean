/-! the reference's loops against the scans -/
variable {n : Nat} {s : Int32} {x y w t : Nat → Int32}
theorem kd_nle {n p : Nat} (hn : n ≤ 200) (hp : p < n) : ¬ nI n ≤ nI p := nI_ge hp (by omega)
theorem kd_yCount {post : Int32 → Prop} {c l : Int32} (hn : n ≤ 200) (h1 : kd_S c ∧ kd_S l → post (kd_sc (kd_fc (kd_L x y t c l)) n 0 0)) (h0 : ¬ (kd_S c ∧ kd_S l) → post (-1)) : wpY_count post (nI n, s, x, y, w, t) c l := by
  unfold wpY_count
  dsimp only
  refine kd_yRect (fun z => ?_) h0
  refine ⟨n + 1, kd_lp (fun m i a => wY_count_23 post c l (nI n) s x y w t m a i) post (kd_fc (kd_L x y t c l)) n (fun m a hp => br_t (Int32.le_refl _) hp) ?_ n 0 0 (Nat.zero_add n) (h1 z)⟩
  intro m p a hp' h
  have hp : p < 200 := by omega
  refine br_f (kd_nle hn hp') (kd_yLies hp (fun z => br_f kd_10 (nm_e (nm_r (nI_1 p) ?_))) (fun z => br_t rfl (nm_r (nI_1 p) ?_)))
  · have e : kd_fc (kd_L x y t c l) p a = a + 1 := if_pos z
    rw [e] at h; exact h
  · have e : kd_fc (kd_L x y t c l) p a = a := if_neg z
    rw [e] at h; exact h
theorem kd_yWeight {post : Int32 → Prop} {c l : Int32} (hn : n ≤ 200) (h1 : kd_S c ∧ kd_S l → post (kd_sc (kd_fw (kd_L x y t c l) w) n 0 0)) (h0 : ¬ (kd_S c ∧ kd_S l) → post (-1)) : wpY_weight post (nI n, s, x, y, w, t) c l := by
  unfold wpY_weight
  dsimp only
  refine kd_yRect (fun z => ?_) h0
  refine ⟨n + 1, kd_lp (fun m i a => wY_weight_23 post c l (nI n) s x y w t m a i) post (kd_fw (kd_L x y t c l) w) n (fun m a hp => br_t (Int32.le_refl _) hp) ?_ n 0 0 (Nat.zero_add n) (h1 z)⟩
  intro m p a hp' h
  have hp : p < 200 := by omega
  have ew : a + w (nI p).toNatClampNeg = a + w p := by rw [kd_c hp]
  refine br_f (kd_nle hn hp') (kd_yLies hp (fun z => br_f kd_10 ⟨kd_v hp, nm_r ew (nm_r (nI_1 p) ?_)⟩) (fun z => br_t rfl (nm_r (nI_1 p) ?_)))
  · have e : kd_fw (kd_L x y t c l) w p a = a + w p := if_pos z
    rw [e] at h; exact h
  · have e : kd_fw (kd_L x y t c l) w p a = a := if_neg z
    rw [e] at h; exact h
theorem kd_hI_v {b : Int32} (h : kd_hI b) (hb : ¬ b < 0) : vp_in b 200 := by
  rcases h with e | ⟨j, hj, e⟩
  · rw [e] at hb
    exact absurd (by decide +kernel) hb
  · rw [e]; exact kd_v hj
theorem kd_yHeavy {post : Int32 → Prop} {c l : Int32} (hn : n ≤ 200) (h1 : kd_S c ∧ kd_S l → post (kd_sc (kd_hY (kd_L x y t c l) w) n 0 (-4))) (h0 : ¬ (kd_S c ∧ kd_S l) → post (-1)) : wpY_heaviest post (nI n, s, x, y, w, t) c l := by
  unfold wpY_heaviest
  dsimp only
  refine kd_yRect (fun z => ?_) h0
  refine ⟨n + 1, kd_lpI (fun m i a => wY_heaviest_24 post c l (nI n) s x y w t m a i) post (kd_hY (kd_L x y t c l) w) (fun _ b => kd_hI b) n (fun m a hp => br_t (Int32.le_refl _) hp) ?_ (fun p a hp hI => kd_hI_s (by omega) hI) n 0 (-4) (Nat.zero_add n) (Or.inl rfl) (h1 z)⟩
  intro m p b hp' hI h
  have hp : p < 200 := by omega
  have ew : w (nI p).toNatClampNeg = w p := by rw [kd_c hp]
  refine br_f (kd_nle hn hp') (kd_yLies hp (fun z => br_f kd_10 (br_c (fun z1 => nm_r (nI_1 p) ?_) (fun z1 => ⟨kd_v hp, kd_hI_v hI z1, br_c (fun z2 => nm_r (nI_1 p) ?_) (fun z2 => nm_r (nI_1 p) ?_)⟩))) (fun z => br_t rfl (nm_r (nI_1 p) ?_)))
  · have e : kd_hY (kd_L x y t c l) w p b = nI p := if_pos ⟨z, Or.inl z1⟩
    rw [e] at h; exact h
  · rw [ew] at z2
    have e : kd_hY (kd_L x y t c l) w p b = b := if_neg (fun q => q.2.elim z1 (fun r => r z2))
    rw [e] at h; exact h
  · rw [ew] at z2
    have e : kd_hY (kd_L x y t c l) w p b = nI p := if_pos ⟨z, Or.inr z2⟩
    rw [e] at h; exact h
  · have e : kd_hY (kd_L x y t c l) w p b = b := if_neg (fun q => z q.1)
    rw [e] at h; exact h
theorem kd_yNext {post : Int32 → Prop} {c l fr : Int32} (hn : n ≤ 200) (h1 : kd_S c ∧ kd_S l → post (kd_fs (kd_N (kd_L x y t c l) fr) n 0)) (h0 : ¬ (kd_S c ∧ kd_S l) → post (-1)) : wpY_next post (nI n, s, x, y, w, t) c l fr := by
  unfold wpY_next
  dsimp only
  refine kd_yRect (fun z => ?_) h0
  refine ⟨n + 1, kd_lf (fun m i => wY_next_21 post c l fr (nI n) s x y w t m i) post (kd_N (kd_L x y t c l) fr) n (fun m hp => br_t (Int32.le_refl _) hp) ?_ n 0 (Nat.zero_add n) (h1 z)⟩
  intro m p hp' ht hf
  have hp : p < 200 := by omega
  rw [kd_N_i] at ht hf
  exact br_f (kd_nle hn hp') (br_c (fun z2 => nm_r (nI_1 p) (hf (fun q => q.1 z2))) (fun z2 => kd_yLies hp (fun z3 => br_f kd_10 (ht ⟨z2, z3⟩)) (fun z3 => br_t rfl (nm_r (nI_1 p) (hf (fun q => z3 q.2))))))
theorem kd_yBefore {post : Int32 → Prop} {a b : Int32} {p : Nat} (hn : n ≤ 200) (hp : p < 200) (h : post (kd_rk x y t a b n p)) : wpY_before post (nI n, s, x, y, w, t) (nI p) a b := by
  unfold wpY_before
  dsimp only
  refine kd_yDist hp ⟨n + 1, kd_lp (fun m i c => wY_before_15 post (nI p) a b (kd_D x y p a b) (nI n) s x y w t m c i) post (kd_fr x y t a b (kd_D x y p a b) p) n (fun m c hp => br_t (Int32.le_refl _) hp) ?_ n 0 0 (Nat.zero_add n) h⟩
  intro m q c hq' h
  have hq : q < 200 := by omega
  have et : t (nI q).toNatClampNeg = t q := by rw [kd_c hq]
  refine br_f (kd_nle hn hq') (kd_yDist hq ⟨kd_v hq, br_c (fun z0 => nm_r (nI_1 q) ?_) (fun z0 => br_c (fun z1 => nm_e (nm_r (nI_1 q) ?_)) (fun z1 => br_c (fun z2 => br_c (fun z3 => nm_r (nI_1 q) ?_) (fun z3 => nm_e (nm_r (nI_1 q) ?_))) (fun z2 => nm_r (nI_1 q) ?_)))⟩)
  · have e : kd_fr x y t a b (kd_D x y p a b) p q c = c := if_neg (fun r => r.1 (et.symm.trans z0))
    rw [e] at h; exact h
  · have e : kd_fr x y t a b (kd_D x y p a b) p q c = c + 1 := if_pos ⟨fun r => z0 (et.trans r), Or.inl z1⟩
    rw [e] at h; exact h
  · have e : kd_fr x y t a b (kd_D x y p a b) p q c = c := if_neg (fun r => r.2.elim z1 (fun k => k.2 z3))
    rw [e] at h; exact h
  · have e : kd_fr x y t a b (kd_D x y p a b) p q c = c + 1 := if_pos ⟨fun r => z0 (et.trans r), Or.inr ⟨z2, z3⟩⟩
    rw [e] at h; exact h
  · have e : kd_fr x y t a b (kd_D x y p a b) p q c = c := if_neg (fun r => r.2.elim z1 (fun k => z2 k.1))
    rw [e] at h; exact h
theorem kd_yNear {post : Int32 → Prop} {a b k : Int32} (hn : n ≤ 200) (h1 : kd_P a b → post (kd_fs (kd_K x y t a b k n) n 0)) (h0 : ¬ kd_P a b → post (-1)) : wpY_near post (nI n, s, x, y, w, t) a b k := by
  unfold wpY_near
  dsimp only
  refine kd_yPlace (fun z => br_f kd_10 ?_) (fun z => br_t rfl (h0 z))
  refine ⟨n + 1, kd_lf (fun m i => wY_near_14 post a b k (nI n) s x y w t m i) post (kd_K x y t a b k n) n (fun m hp => br_t (Int32.le_refl _) hp) ?_ n 0 (Nat.zero_add n) (h1 z)⟩
  intro m p hp' ht hf
  have hp : p < 200 := by omega
  rw [kd_K_i] at ht hf
  have et : t (nI p).toNatClampNeg = t p := by rw [kd_c hp]
  exact br_f (kd_nle hn hp') ⟨kd_v hp, br_c (fun z0 => nm_r (nI_1 p) (hf (fun q => q.1 (et.symm.trans z0)))) (fun z0 => kd_yBefore hn hp (br_c (fun z1 => ht ⟨fun r => z0 (et.trans r), z1⟩) (fun z1 => nm_r (nI_1 p) (hf (fun q => z1 q.2)))))⟩
theorem kd_yNearest {post : Int32 → Prop} {a b : Int32} (hn : n ≤ 200) (h1 : kd_P a b → post (kd_fs (kd_K x y t a b 0 n) n 0)) (h0 : ¬ kd_P a b → post (-1)) : wpY_nearest post (nI n, s, x, y, w, t) a b := by
  unfold wpY_nearest
  dsimp only
  exact kd_yNear hn h1 h0
theorem kd_yWithin {post : Int32 → Prop} {a b d : Int32} (hn : n ≤ 200) (h1 : kd_P a b → post (kd_sc (kd_fd x y t a b d) n 0 0)) (h0 : ¬ kd_P a b → post (-1)) : wpY_within post (nI n, s, x, y, w, t) a b d := by
  unfold wpY_within
  dsimp only
  refine kd_yPlace (fun z => br_f kd_10 ?_) (fun z => br_t rfl (h0 z))
  refine ⟨n + 1, kd_lp (fun m i c => wY_within_17 post a b d (nI n) s x y w t m c i) post (kd_fd x y t a b d) n (fun m c hp => br_t (Int32.le_refl _) hp) ?_ n 0 0 (Nat.zero_add n) (h1 z)⟩
  intro m q c hq' h
  have hq : q < 200 := by omega
  have et : t (nI q).toNatClampNeg = t q := by rw [kd_c hq]
  refine br_f (kd_nle hn hq') ⟨kd_v hq, br_c (fun z0 => nm_r (nI_1 q) ?_) (fun z0 => kd_yDist hq (br_c (fun z1 => nm_r (nI_1 q) ?_) (fun z1 => nm_e (nm_r (nI_1 q) ?_))))⟩
  · have e : kd_fd x y t a b d q c = c := if_neg (fun r => r.1 (et.symm.trans z0))
    rw [e] at h; exact h
  · have e : kd_fd x y t a b d q c = c := if_neg (fun r => r.2 z1)
    rw [e] at h; exact h
  · have e : kd_fd x y t a b d q c = c + 1 := if_pos ⟨fun r => z0 (et.trans r), z1⟩
    rw [e] at h; exact h
theorem kd_y45 {post J : Int32 → Prop} {p q : Nat} {z : Int32} (hp : p < 200) (hq : q < 200)
    (ht : (¬ t q = 0 ∧ ¬ z = 0 ∧ ¬ x q < x p ∧ ¬ y q < y p) → post 1) (hf : ¬ (¬ t q = 0 ∧ ¬ z = 0 ∧ ¬ x q < x p ∧ ¬ y q < y p) → J (nI (q + 1))) : wY_isBeaten_45 post J (nI p) (nI q) z (nI n) s x y w t := by
  unfold wY_isBeaten_45
  rw [kd_c hq, kd_c hp]
  refine ⟨kd_v hq, br_c (fun z0 => nm_r (nI_1 q) (hf (fun r => r.1 z0))) (fun z0 => br_c (fun z1 => nm_r (nI_1 q) (hf (fun r => r.2.1 z1))) (fun z1 => ⟨kd_v hq, kd_v hp, ?_⟩))⟩
  exact br_c (fun z2 => nm_r (nI_1 q) (hf (fun r => r.2.2.1 z2))) (fun z2 => ⟨kd_v hq, kd_v hp, br_c (fun z3 => nm_r (nI_1 q) (hf (fun r => r.2.2.2 z3))) (fun z3 => ht ⟨z0, z1, z2, z3⟩)⟩)
theorem kd_lt_ne {a b : Int32} (h : a < b) : ¬ b = a := by
  intro e
  rw [e] at h
  exact Int32.lt_irrefl h
theorem kd_yBeaten {post : Int32 → Prop} {p : Nat} (hn : n ≤ 200) (hp : p < 200) (h1 : kd_an (kd_B x y t p) n 0 = true → post 1) (h0 : ¬ kd_an (kd_B x y t p) n 0 = true → post 0) : wpY_isBeaten post (nI n, s, x, y, w, t) (nI p) := by
  unfold wpY_isBeaten
  dsimp only
  refine ⟨n + 1, kd_la (fun m i => wY_isBeaten_2 post (nI p) (nI n) s x y w t m i) post (kd_B x y t p) n (fun m hp => br_t (Int32.le_refl _) hp) ?_ n 0 (Nat.zero_add n) h1 h0⟩
  intro m q hq' ht hf
  have hq : q < 200 := by omega
  rw [kd_B_i] at ht hf
  have ex : x (nI q).toNatClampNeg = x q := by rw [kd_c hq]
  have ey : y (nI q).toNatClampNeg = y q := by rw [kd_c hq]
  have ex' : x (nI p).toNatClampNeg = x p := by rw [kd_c hp]
  have ey' : y (nI p).toNatClampNeg = y p := by rw [kd_c hp]
  have h40 : ¬ (x q = x p ∧ y q = y p) → wY_isBeaten_40 post (wY_isBeaten_2 post (nI p) (nI n) s x y w t m) (nI p) (nI q) (nI n) s x y w t := by
    intro c
    unfold wY_isBeaten_40
    refine kd_y45 hp hq (fun r => ht ⟨r.1, r.2.2.1, r.2.2.2, ?_⟩) (fun r => hf (fun k => r ⟨k.1, kd_10, k.2.1, k.2.2.1⟩))
    by_cases cx : x p < x q
    · exact Or.inl cx
    · refine Or.inr (fun cy => c ⟨?_, ?_⟩)
      · exact Int32.le_antisymm (Int32.not_lt.mp cx) (Int32.not_lt.mp r.2.2.1)
      · exact Int32.le_antisymm cy (Int32.not_lt.mp r.2.2.2)
  refine br_f (kd_nle hn hq') ⟨kd_v hq, kd_v hp, br_c (fun z1 => ⟨kd_v hq, kd_v hp, br_c (fun z2 => ?_) (fun z2 => h40 (fun r => z2 ?_))⟩) (fun z1 => h40 (fun r => z1 ?_))⟩
  · rw [ex, ex'] at z1
    rw [ey, ey'] at z2
    refine kd_y45 hp hq (fun r => absurd rfl r.2.1) (fun _ => hf (fun k => ?_))
    rcases k.2.2.2 with k | k
    · exact kd_lt_ne k z1
    · rw [z2] at k; exact k (Int32.le_refl _)
  · rw [ey, ey']; exact r.2
  · rw [ex, ex']; exact r.1
theorem kd_yFront {post : Int32 → Prop} (hn : n ≤ 200) (h : post (kd_sc (kd_ff x y t n) n 0 0)) : wpY_front post (nI n, s, x, y, w, t) := by
  unfold wpY_front
  dsimp only
  refine ⟨n + 1, kd_lp (fun m i c => wY_front_4 post (nI n) s x y w t m c i) post (kd_ff x y t n) n (fun m c hp => br_t (Int32.le_refl _) hp) ?_ n 0 0 (Nat.zero_add n) h⟩
  intro m q c hq' h
  have hq : q < 200 := by omega
  have et : t (nI q).toNatClampNeg = t q := by rw [kd_c hq]
  refine br_f (kd_nle hn hq') ⟨kd_v hq, br_c (fun z0 => nm_r (nI_1 q) ?_) (fun z0 => kd_yBeaten hn hq (fun z1 => br_f kd_10 (nm_r (nI_1 q) ?_)) (fun z1 => br_t rfl (nm_e (nm_r (nI_1 q) ?_))))⟩
  · have e : kd_ff x y t n q c = c := if_neg (fun r => r.1 (et.symm.trans z0))
    rw [e] at h; exact h
  · have e : kd_ff x y t n q c = c := if_neg (fun r => r.2 z1)
    rw [e] at h; exact h
  · have e : kd_ff x y t n q c = c + 1 := if_pos ⟨fun r => z0 (et.trans r), z1⟩
    rw [e] at h; exact h
def kd_gY (x y t : Nat → Int32) (p q : Nat) (a : Int32) : Int32 := if t p = 0 ∨ t q = 0 then a else kd_mn a (kd_D x y p (x q) (y q))
def kd_J (a : Int32) : Prop := a = -4 ∨ 0 ≤ a
theorem kd_J_lt {a : Int32} (h : kd_J a) (z : a < 0) : a = -4 := h.elim id (fun r => absurd z (Int32.not_lt.mpr r))
theorem kd_J_ge {a : Int32} (z : ¬ a < 0) : ¬ a = -4 := by
  intro e
  rw [e] at z
  exact absurd (by decide +kernel) z
theorem kd_J_gY (hx : kd_R 64 x) (hy : kd_R 64 y) (p q : Nat) (a : Int32) (h : kd_J a) : kd_J (kd_gY x y t p q a) := by
  unfold kd_gY
  by_cases c : t p = 0 ∨ t q = 0
  · rw [if_pos c]; exact h
  · rw [if_neg c]
    unfold kd_mn
    by_cases d : a = -4 ∨ kd_D x y p (x q) (y q) < a
    · rw [if_pos d]; exact Or.inr (kd_D_pos hx hy p q)
    · rw [if_neg d]; exact h
theorem kd_yCloseIn {post : Int32 → Prop} {J : Int32 → Int32 → Prop} {p : Nat} (hx : kd_R 64 x) (hy : kd_R 64 y) (hp : p < 200) {a : Int32} (hJ : kd_J a) (h : J (kd_sc (kd_gY x y t p) p 0 a) (nI (p + 1))) : ∃ m, wY_closest_15 post J (nI p) (nI n) s x y w t m a 0 := by
  refine ⟨p + 1, kd_lpI (fun m i a => wY_closest_15 post J (nI p) (nI n) s x y w t m a i) (fun a => J a (nI (p + 1))) (kd_gY x y t p) (fun _ a => kd_J a) p (fun m a hJ => br_t (Int32.le_refl _) (nm_r (nI_1 p) hJ)) ?_ (fun q a _ hJ => kd_J_gY hx hy p q a hJ) p 0 a (Nat.zero_add p) hJ h⟩
  intro m q a hq' hJ h
  have hq : q < 200 := by omega
  have et : t (nI q).toNatClampNeg = t q := by rw [kd_c hq]
  have et' : t (nI p).toNatClampNeg = t p := by rw [kd_c hp]
  have ex : x (nI q).toNatClampNeg = x q := by rw [kd_c hq]
  have ey : y (nI q).toNatClampNeg = y q := by rw [kd_c hq]
  refine br_f (nI_ge hq' (by omega)) ⟨kd_v hq, kd_v hq, ?_⟩
  rw [ex, ey]
  refine kd_yDist hp ⟨kd_v hp, br_c (fun z0 => nm_r (nI_1 q) ?_) (fun z0 => ⟨kd_v hq, br_c (fun z1 => nm_r (nI_1 q) ?_) (fun z1 => ?_)⟩)⟩
  · have e : kd_gY x y t p q a = a := if_pos (Or.inl (et'.symm.trans z0))
    rw [e] at h; exact h
  · have e : kd_gY x y t p q a = a := if_pos (Or.inr (et.symm.trans z1))
    rw [e] at h; exact h
  · have e : kd_gY x y t p q a = kd_mn a (kd_D x y p (x q) (y q)) := if_neg (fun r => r.elim (fun k => z0 (et'.trans k)) (fun k => z1 (et.trans k)))
    rw [e] at h
    refine br_c (fun z2 => nm_r (nI_1 q) ?_) (fun z2 => br_c (fun z3 => nm_r (nI_1 q) ?_) (fun z3 => nm_r (nI_1 q) ?_))
    · rw [kd_mn_d (kd_J_lt hJ z2)] at h; exact h
    · rw [kd_mn_a (kd_J_ge z2) z3] at h; exact h
    · rw [kd_mn_l z3] at h; exact h
theorem kd_yClose {post : Int32 → Prop} (hx : kd_R 64 x) (hy : kd_R 64 y) (hn : n ≤ 200) (h : post (kd_sc (kd_fY x y t) n 0 (-4))) : wpY_closest post (nI n, s, x, y, w, t) := by
  unfold wpY_closest
  dsimp only
  refine ⟨n + 1, kd_lpI (fun m i a => wY_closest_5 post (nI n) s x y w t m a i) post (kd_fY x y t) (fun _ a => kd_J a) n (fun m c hp => br_t (Int32.le_refl _) hp) ?_ (fun p a _ hJ => kd_sc_inv (fun q a hJ => kd_J_gY hx hy p q a hJ) p 0 a hJ) n 0 (-4) (Nat.zero_add n) (Or.inl rfl) h⟩
  intro m p a hp' hJ h
  have hp : p < 200 := by omega
  exact br_f (kd_nle hn hp') (kd_yCloseIn hx hy hp hJ h)
