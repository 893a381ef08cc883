/-! what is owed -/
theorem kd_Lz {x y t : Nat → Int32} {c l : Int32} {j : Nat} (h : t j = 0) : ¬ kd_L x y t c l j = true := fun q => (kd_L_i.mp q).1 h
theorem kd_nb0 : vp_nar .boolean 0 = 0 := by rfl
/-- both sides keep the same state -/
def i_Rel (k : Nat) (u : SX) (v : SY) : Prop :=
  ∃ (n : Nat) (s : Int32) (x y w t : Nat → Int32), u = (nI n, s, x, y, w, t) ∧ v = (nI n, s, x, y, w, t) ∧ kd_I k n s x y w t
theorem i_up {k : Nat} {u : SX} {v : SY} (h : i_Rel k u v) : i_Rel (k + 4) u v := by
  obtain ⟨n, s, x, y, w, t, eu, ev, hI⟩ := h
  exact ⟨n, s, x, y, w, t, eu, ev, kd_I_up hI⟩
theorem i_vc0 : wpX_init (fun u => wpY_init (fun v => i_Rel 0 u v)) := by
  have r : ∀ B : Nat, 0 < B → kd_R B (fun _ => 0) := fun B hB j => ⟨0, hB, nI_0.symm⟩
  refine ⟨0, 0, (fun _ => 0), (fun _ => 0), (fun _ => 0), (fun _ => 0), by rw [nI_0], by rw [nI_0], by omega, ?_, ?_, r 64 (by omega), r 64 (by omega), r 100 (by omega), fun _ _ => rfl⟩
  · decide +kernel
  · decide +kernel
theorem kd_xAdd {n : Nat} {s : Int32} {x y w t : Nat → Int32} {post : Int32 → SX → Prop} {a b c : Int32} (hn : n ≤ 200)
    (hA : ¬ (kd_P a b ∧ ¬ c < 0 ∧ c ≤ 99) → post (-1) (nI n, s, x, y, w, t))
    (hB : (kd_P a b ∧ ¬ c < 0 ∧ c ≤ 99) → (40 ≤ s ∨ ¬ n < 200) → post (-2) (nI n, s, x, y, w, t))
    (hC : (kd_P a b ∧ ¬ c < 0 ∧ c ≤ 99) → ¬ 40 ≤ s → n < 200 → post (nI n) (nI (n + 1), s + 1, upd x n a, upd y n b, upd w n c, upd t n (vp_nar .boolean 1))) : wpX_add post (nI n, s, x, y, w, t) a b c := by
  unfold wpX_add
  dsimp only
  refine kd_xPlace (fun z1 => br_f kd_10 (br_c (fun z2 => hA (fun q => q.2.1 z2)) (fun z2 => br_c (fun z3 => br_c (fun z4 => hB ⟨z1, z2, z3⟩ (Or.inl z4)) (fun z4 => br_c (fun z5 => ?_) (fun z5 => hB ⟨z1, z2, z3⟩ (Or.inr (fun q => z5 ((kd_nlt hn).mpr q)))))) (fun z3 => hA (fun q => z3 q.2.2))))) (fun z1 => br_t rfl (hA (fun q => z1 q.1)))
  have h5 : n < 200 := (kd_nlt hn).mp z5
  rw [kd_c h5]
  exact ⟨kd_v h5, nm_e ⟨kd_v h5, nm_e ⟨kd_v h5, nm_e ⟨kd_v h5, nm_e (nm_r (nI_1 n) (nm_e (hC ⟨z1, z2, z3⟩ z4 h5)))⟩⟩⟩⟩
theorem kd_yAdd {n : Nat} {s : Int32} {x y w t : Nat → Int32} {post : Int32 → SY → Prop} {a b c : Int32} (hn : n ≤ 200) (hs : s.toInt ≤ 40)
    (hA : ¬ (kd_P a b ∧ ¬ c < 0 ∧ c ≤ 99) → post (-1) (nI n, s, x, y, w, t))
    (hB : (kd_P a b ∧ ¬ c < 0 ∧ c ≤ 99) → (40 ≤ s ∨ ¬ n < 200) → post (-2) (nI n, s, x, y, w, t))
    (hC : (kd_P a b ∧ ¬ c < 0 ∧ c ≤ 99) → ¬ 40 ≤ s → n < 200 → post (nI n) (nI (n + 1), s + 1, upd x n a, upd y n b, upd w n c, upd t n (vp_nar .boolean 1))) : wpY_add post (nI n, s, x, y, w, t) a b c := by
  unfold wpY_add
  dsimp only
  refine kd_yPlace (fun z1 => br_f kd_10 (br_c (fun z2 => hA (fun q => q.2.1 z2)) (fun z2 => br_c (fun z3 => br_c (fun z4 => hB ⟨z1, z2, z3⟩ (Or.inl ((kd_s40 hs).mpr z4))) (fun z4 => br_c (fun z5 => hB ⟨z1, z2, z3⟩ (Or.inr ?_)) (fun z5 => ?_))) (fun z3 => hA (fun q => z3 q.2.2))))) (fun z1 => br_t rfl (hA (fun q => z1 q.1)))
  · have e := (kd_neq hn).mp z5
    omega
  · have h5 : n < 200 := by
      have e : ¬ n = 200 := fun q => z5 ((kd_neq hn).mpr q)
      omega
    rw [kd_c h5]
    refine ⟨kd_v h5, nm_e ⟨kd_v h5, nm_e ⟨kd_v h5, nm_e ⟨kd_v h5, nm_e (nm_r (nI_1 n) (nm_e ?_))⟩⟩⟩⟩
    rw [nI_pred n]
    exact hC ⟨z1, z2, z3⟩ (fun q => z4 ((kd_s40 hs).mp q)) h5
theorem kd_c100 {c : Int32} (h0 : ¬ c < 0) (h1 : c ≤ 99) : ∃ i, i < 100 ∧ c = nI i := by
  obtain ⟨j, hj, e⟩ := nI_of2 (M := 99) (n := 99) (by decide +kernel) h0 h1
  exact ⟨j, by omega, e⟩
theorem kd_c64 {c : Int32} (h0 : ¬ c < 0) (h1 : ¬ 64 ≤ c) : ∃ i, i < 64 ∧ c = nI i := kd_in (by decide +kernel) h0 h1
theorem i_vc_add {k : Nat} {u : SX} {v : SY} (I : i_Rel k u v) (hk : k + 4 ≤ 2048) (v1 : Int32) (v2 : Int32) (v3 : Int32) : wpX_add (fun r u' => wpY_add (fun r' v' => r' = r ∧ i_Rel (k + 4) u' v') v v1 v2 v3) u v1 v2 v3 := by
  obtain ⟨n, s, x, y, w, t, rfl, rfl, hI⟩ := I
  have R : i_Rel (k + 4) (nI n, s, x, y, w, t) (nI n, s, x, y, w, t) := ⟨n, s, x, y, w, t, rfl, rfl, kd_I_up hI⟩
  refine kd_xAdd hI.1 (fun z => kd_yAdd hI.1 hI.2.2.1 (fun _ => ⟨rfl, R⟩) (fun q => absurd q z) (fun q => absurd q z)) (fun z z' => kd_yAdd hI.1 hI.2.2.1 (fun q => absurd z q) (fun _ _ => ⟨rfl, R⟩) (fun _ q1 q2 => absurd z' (fun r => r.elim q1 (fun r => r q2)))) (fun z z1 z2 => kd_yAdd hI.1 hI.2.2.1 (fun q => absurd z q) (fun _ r => absurd r (fun r => r.elim z1 (fun r => r z2))) (fun _ _ _ => ⟨rfl, ?_⟩))
  exact ⟨n + 1, s + 1, _, _, _, _, rfl, rfl, kd_I_add hI hk z2 z1 _ (kd_c64 z.1.1 z.1.2.1) (kd_c64 z.1.2.2.1 z.1.2.2.2) (kd_c100 z.2.1 z.2.2)⟩
theorem i_vc_remove {k : Nat} {u : SX} {v : SY} (I : i_Rel k u v) (hk : k + 4 ≤ 2048) (v1 : Int32) : wpX_remove (fun r u' => wpY_remove (fun r' v' => r' = r ∧ i_Rel (k + 4) u' v') v v1) u v1 := by
  obtain ⟨n, s, x, y, w, t, rfl, rfl, hI⟩ := I
  unfold wpX_remove wpY_remove
  dsimp only
  rcases kd_T v1 hI.2.2.2.2.2.2 with ⟨j, hj, e, z⟩ | z
  · subst e
    have hn := hI.1
    have h5 : j < 200 := by omega
    refine kd_xThere1 h5 z (br_f kd_10 ⟨kd_v h5, nm_e (nm_e ⟨kd_v h5, ?_⟩)⟩)
    refine kd_yPoint1 hn hj z (br_f kd_10 ⟨kd_v h5, nm_e (nm_e ⟨kd_v h5, rfl, ?_⟩)⟩)
    rw [kd_c h5, kd_nb0]
    exact ⟨n, s - 1, x, y, w, _, rfl, rfl, kd_I_rem hI hk j⟩
  · exact kd_xThere0 z (br_t rfl (kd_yPoint0 hI.1 z (br_t rfl ⟨rfl, n, s, x, y, w, t, rfl, rfl, kd_I_up hI⟩)))
theorem i_vc_move {k : Nat} {u : SX} {v : SY} (I : i_Rel k u v) (hk : k + 4 ≤ 2048) (v1 : Int32) (v2 : Int32) (v3 : Int32) : wpX_move (fun r u' => wpY_move (fun r' v' => r' = r ∧ i_Rel (k + 4) u' v') v v1 v2 v3) u v1 v2 v3 := by
  obtain ⟨n, s, x, y, w, t, rfl, rfl, hI⟩ := I
  have R : i_Rel (k + 4) (nI n, s, x, y, w, t) (nI n, s, x, y, w, t) := ⟨n, s, x, y, w, t, rfl, rfl, kd_I_up hI⟩
  unfold wpX_move wpY_move
  dsimp only
  rcases kd_T v1 hI.2.2.2.2.2.2 with ⟨j, hj, e, z⟩ | z
  · subst e
    have hn := hI.1
    have h5 : j < 200 := by omega
    refine kd_xThere1 h5 z (br_f kd_10 ?_)
    refine kd_xPlace (fun q => br_f kd_10 ⟨kd_v h5, kd_v h5, kd_v h5, nm_e ⟨kd_v h5, nm_e ?_⟩⟩) (fun q => br_t rfl ?_)
    · refine kd_yPoint1 hn hj z (br_f kd_10 (kd_yPlace (fun _ => br_f kd_10 ⟨kd_v h5, kd_v h5, nm_e ⟨kd_v h5, nm_e ⟨kd_v h5, nm_e ⟨rfl, ?_⟩⟩⟩⟩) (fun r => absurd q r)))
      exact ⟨n, s, _, _, w, t, rfl, rfl, kd_I_mov hI (kd_c64 q.1 q.2.1) (kd_c64 q.2.2.1 q.2.2.2) _⟩
    · exact kd_yPoint1 hn hj z (br_f kd_10 (kd_yPlace (fun r => absurd r q) (fun _ => br_t rfl ⟨rfl, R⟩)))
  · exact kd_xThere0 z (br_t rfl (kd_yPoint0 hI.1 z (br_t rfl ⟨rfl, R⟩)))
theorem i_vc_size {k : Nat} {u : SX} {v : SY} (I : i_Rel k u v) (hk : k + 4 ≤ 2048) : wpX_size (fun r => wpY_size (fun r' => r' = r ∧ i_Rel (k + 4) u v) v) u := by
  obtain ⟨n, s, x, y, w, t, rfl, rfl, hI⟩ := I
  exact ⟨rfl, n, s, x, y, w, t, rfl, rfl, kd_I_up hI⟩
theorem i_vc_where {k : Nat} {u : SX} {v : SY} (I : i_Rel k u v) (hk : k + 4 ≤ 2048) (v1 : Int32) : wpX_where (fun r => wpY_where (fun r' => r' = r ∧ i_Rel (k + 4) u v) v v1) u v1 := by
  obtain ⟨n, s, x, y, w, t, rfl, rfl, hI⟩ := I
  have R : i_Rel (k + 4) (nI n, s, x, y, w, t) (nI n, s, x, y, w, t) := ⟨n, s, x, y, w, t, rfl, rfl, kd_I_up hI⟩
  unfold wpX_where wpY_where
  dsimp only
  rcases kd_T v1 hI.2.2.2.2.2.2 with ⟨j, hj, e, z⟩ | z
  · subst e
    have hn := hI.1
    have h5 : j < 200 := by omega
    exact kd_xThere1 h5 z (br_f kd_10 ⟨kd_v h5, kd_v h5, kd_yPoint1 hn hj z (br_f kd_10 ⟨kd_v h5, kd_v h5, rfl, R⟩)⟩)
  · exact kd_xThere0 z (br_t rfl (kd_yPoint0 hI.1 z (br_t rfl ⟨rfl, R⟩)))
theorem i_vc_count {k : Nat} {u : SX} {v : SY} (I : i_Rel k u v) (hk : k + 4 ≤ 2048) (v1 : Int32) (v2 : Int32) : wpX_count (fun r => wpY_count (fun r' => r' = r ∧ i_Rel (k + 4) u v) v v1 v2) u v1 v2 := by
  obtain ⟨n, s, x, y, w, t, rfl, rfl, hI⟩ := I
  have R : i_Rel (k + 4) (nI n, s, x, y, w, t) (nI n, s, x, y, w, t) := ⟨n, s, x, y, w, t, rfl, rfl, kd_I_up hI⟩
  refine kd_xCount (fun z => kd_yCount hI.1 (fun _ => ⟨?_, R⟩) (fun q => absurd z q)) (fun z => kd_yCount hI.1 (fun q => absurd q z) (fun _ => ⟨rfl, R⟩))
  exact (kd_sc_200 hI.1 0 (fun q hq b => if_neg (kd_Lz (hI.2.2.2.2.2.2 q hq)))).symm
theorem i_vc_weight {k : Nat} {u : SX} {v : SY} (I : i_Rel k u v) (hk : k + 4 ≤ 2048) (v1 : Int32) (v2 : Int32) : wpX_weight (fun r => wpY_weight (fun r' => r' = r ∧ i_Rel (k + 4) u v) v v1 v2) u v1 v2 := by
  obtain ⟨n, s, x, y, w, t, rfl, rfl, hI⟩ := I
  have R : i_Rel (k + 4) (nI n, s, x, y, w, t) (nI n, s, x, y, w, t) := ⟨n, s, x, y, w, t, rfl, rfl, kd_I_up hI⟩
  refine kd_xWeight (fun z => kd_yWeight hI.1 (fun _ => ⟨?_, R⟩) (fun q => absurd z q)) (fun z => kd_yWeight hI.1 (fun q => absurd q z) (fun _ => ⟨rfl, R⟩))
  exact (kd_sc_200 hI.1 0 (fun q hq b => if_neg (kd_Lz (hI.2.2.2.2.2.2 q hq)))).symm
theorem i_vc_heaviest {k : Nat} {u : SX} {v : SY} (I : i_Rel k u v) (hk : k + 4 ≤ 2048) (v1 : Int32) (v2 : Int32) : wpX_heaviest (fun r => wpY_heaviest (fun r' => r' = r ∧ i_Rel (k + 4) u v) v v1 v2) u v1 v2 := by
  obtain ⟨n, s, x, y, w, t, rfl, rfl, hI⟩ := I
  have R : i_Rel (k + 4) (nI n, s, x, y, w, t) (nI n, s, x, y, w, t) := ⟨n, s, x, y, w, t, rfl, rfl, kd_I_up hI⟩
  refine kd_xHeavy (fun z => kd_yHeavy hI.1 (fun _ => ⟨?_, R⟩) (fun q => absurd z q)) (fun z => kd_yHeavy hI.1 (fun q => absurd q z) (fun _ => ⟨rfl, R⟩))
  have e : kd_sc (kd_hX (kd_L x y t v1 v2) w) 200 0 (-4, -1) = kd_sc (kd_hX (kd_L x y t v1 v2) w) n 0 (-4, -1) :=
    kd_sc_200 hI.1 (-4, -1) (fun q hq b => if_neg (fun r => kd_Lz (hI.2.2.2.2.2.2 q hq) r.1))
  rw [e]
  have hn := hI.1
  exact (kd_hE (kd_I_w hI) n 0 (-4, -1) (-4) (by omega) ⟨rfl, Or.inl ⟨rfl, rfl⟩⟩).symm
theorem i_vc_next {k : Nat} {u : SX} {v : SY} (I : i_Rel k u v) (hk : k + 4 ≤ 2048) (v1 : Int32) (v2 : Int32) (v3 : Int32) : wpX_next (fun r => wpY_next (fun r' => r' = r ∧ i_Rel (k + 4) u v) v v1 v2 v3) u v1 v2 v3 := by
  obtain ⟨n, s, x, y, w, t, rfl, rfl, hI⟩ := I
  have R : i_Rel (k + 4) (nI n, s, x, y, w, t) (nI n, s, x, y, w, t) := ⟨n, s, x, y, w, t, rfl, rfl, kd_I_up hI⟩
  refine kd_xNext (fun z => kd_yNext hI.1 (fun _ => ⟨?_, R⟩) (fun q => absurd z q)) (fun z => kd_yNext hI.1 (fun q => absurd q z) (fun _ => ⟨rfl, R⟩))
  exact (kd_fs_200 hI.1 (fun q hq r => kd_Lz (hI.2.2.2.2.2.2 q hq) (kd_N_i.mp r).2)).symm
theorem kd_fsK {n : Nat} {x y t : Nat → Int32} (hn : n ≤ 200) (ht : ∀ j, n ≤ j → t j = 0) (a b k : Int32) : kd_fs (kd_K x y t a b k n) n 0 = kd_fs (kd_K x y t a b k 200) 200 0 := by
  have e : kd_K x y t a b k 200 = kd_K x y t a b k n := by
    funext p
    unfold kd_K kd_rk
    have e : kd_sc (kd_fr x y t a b (kd_D x y p a b) p) 200 0 0 = kd_sc (kd_fr x y t a b (kd_D x y p a b) p) n 0 0 :=
      kd_sc_200 hn 0 (fun q hq c => if_neg (fun r => r.1 (ht q hq)))
    rw [e]
  rw [e]
  exact (kd_fs_200 hn (fun q hq r => (kd_K_i.mp r).1 (ht q hq))).symm
theorem i_vc_nearest {k : Nat} {u : SX} {v : SY} (I : i_Rel k u v) (hk : k + 4 ≤ 2048) (v1 : Int32) (v2 : Int32) : wpX_nearest (fun r => wpY_nearest (fun r' => r' = r ∧ i_Rel (k + 4) u v) v v1 v2) u v1 v2 := by
  obtain ⟨n, s, x, y, w, t, rfl, rfl, hI⟩ := I
  have R : i_Rel (k + 4) (nI n, s, x, y, w, t) (nI n, s, x, y, w, t) := ⟨n, s, x, y, w, t, rfl, rfl, kd_I_up hI⟩
  exact kd_xNearest (fun z => kd_yNearest hI.1 (fun _ => ⟨kd_fsK hI.1 hI.2.2.2.2.2.2 v1 v2 0, R⟩) (fun q => absurd z q)) (fun z => kd_yNearest hI.1 (fun q => absurd q z) (fun _ => ⟨rfl, R⟩))
theorem i_vc_near {k : Nat} {u : SX} {v : SY} (I : i_Rel k u v) (hk : k + 4 ≤ 2048) (v1 : Int32) (v2 : Int32) (v3 : Int32) : wpX_near (fun r => wpY_near (fun r' => r' = r ∧ i_Rel (k + 4) u v) v v1 v2 v3) u v1 v2 v3 := by
  obtain ⟨n, s, x, y, w, t, rfl, rfl, hI⟩ := I
  have R : i_Rel (k + 4) (nI n, s, x, y, w, t) (nI n, s, x, y, w, t) := ⟨n, s, x, y, w, t, rfl, rfl, kd_I_up hI⟩
  exact kd_xNear (fun z => kd_yNear hI.1 (fun _ => ⟨kd_fsK hI.1 hI.2.2.2.2.2.2 v1 v2 v3, R⟩) (fun q => absurd z q)) (fun z => kd_yNear hI.1 (fun q => absurd q z) (fun _ => ⟨rfl, R⟩))
theorem i_vc_within {k : Nat} {u : SX} {v : SY} (I : i_Rel k u v) (hk : k + 4 ≤ 2048) (v1 : Int32) (v2 : Int32) (v3 : Int32) : wpX_within (fun r => wpY_within (fun r' => r' = r ∧ i_Rel (k + 4) u v) v v1 v2 v3) u v1 v2 v3 := by
  obtain ⟨n, s, x, y, w, t, rfl, rfl, hI⟩ := I
  have R : i_Rel (k + 4) (nI n, s, x, y, w, t) (nI n, s, x, y, w, t) := ⟨n, s, x, y, w, t, rfl, rfl, kd_I_up hI⟩
  refine kd_xWithin (fun z => kd_yWithin hI.1 (fun _ => ⟨?_, R⟩) (fun q => absurd z q)) (fun z => kd_yWithin hI.1 (fun q => absurd q z) (fun _ => ⟨rfl, R⟩))
  exact (kd_sc_200 hI.1 0 (fun q hq b => if_neg (fun r => r.1 (hI.2.2.2.2.2.2 q hq)))).symm
theorem i_vc_front {k : Nat} {u : SX} {v : SY} (I : i_Rel k u v) (hk : k + 4 ≤ 2048) : wpX_front (fun r => wpY_front (fun r' => r' = r ∧ i_Rel (k + 4) u v) v) u := by
  obtain ⟨n, s, x, y, w, t, rfl, rfl, hI⟩ := I
  have R : i_Rel (k + 4) (nI n, s, x, y, w, t) (nI n, s, x, y, w, t) := ⟨n, s, x, y, w, t, rfl, rfl, kd_I_up hI⟩
  refine kd_xFront (kd_yFront hI.1 ⟨?_, R⟩)
  have e : kd_ff x y t 200 = kd_ff x y t n := by
    funext p c
    unfold kd_ff
    rw [kd_an_200 hI.1 (fun q hq r => (kd_B_i.mp r).1 (hI.2.2.2.2.2.2 q hq))]
  rw [e]
  exact (kd_sc_200 hI.1 0 (fun q hq b => if_neg (fun r => r.1 (hI.2.2.2.2.2.2 q hq)))).symm
theorem i_vc_closest {k : Nat} {u : SX} {v : SY} (I : i_Rel k u v) (hk : k + 4 ≤ 2048) : wpX_closest (fun r => wpY_closest (fun r' => r' = r ∧ i_Rel (k + 4) u v) v) u := by
  obtain ⟨n, s, x, y, w, t, rfl, rfl, hI⟩ := I
  have R : i_Rel (k + 4) (nI n, s, x, y, w, t) (nI n, s, x, y, w, t) := ⟨n, s, x, y, w, t, rfl, rfl, kd_I_up hI⟩
  exact kd_xClose (kd_yClose hI.2.2.2.1 hI.2.2.2.2.1 hI.1 ⟨(kd_close hI.2.2.2.1 hI.2.2.2.2.1 hI.1 hI.2.2.2.2.2.2).symm, R⟩)
theorem i_vc_merge {k : Nat} {u : SX} {v : SY} (I : i_Rel k u v) (hk : k + 4 ≤ 2048) : wpX_merge (fun u' => wpY_merge (fun v' => i_Rel (k + 4) u' v') v) u := by
  obtain ⟨n, s, x, y, w, t, rfl, rfl, hI⟩ := I
  exact ⟨n, s, x, y, w, t, rfl, rfl, kd_I_up hI⟩
