/-! the class's calls: edge, face, corner, net -/
theorem nI_min {a b : Nat} (ha : a < 200) (hb : b < 200) : (if nI b < nI a then nI b else nI a) = nI (min a b) := by
  by_cases q : b < a
  · rw [if_pos (nI_lt q (by omega))]; congr 1; omega
  · rw [if_neg (nI_nlt (by omega) (by omega))]; congr 1; omega
theorem nI_max {a b : Nat} (ha : a < 200) (hb : b < 200) : (if nI a < nI b then nI b else nI a) = nI (max a b) := by
  by_cases q : a < b
  · rw [if_pos (nI_lt q (by omega))]; congr 1; omega
  · rw [if_neg (nI_nlt (by omega) (by omega))]; congr 1; omega
section COPS2
variable {σ : Sg} {M : Mem}
theorem h_Net_addEdge (hW : WF σ) (h : RC σ M) {a b : Nat} (hab : a < b) (hb : b < nP σ) (he : nE σ < 12) {post : Int32 → Mem → Prop} (K : ∀ M', RC (uEdge σ a b) M' → Ag C56 C56 M M' → post (nI (nE σ)) M') : q_Net_addEdge (nI a) (nI b) M post := by
  have hP := hW.1
  have hL : ∀ q, q < 6 → vL σ q ≤ q ∧ (nP σ ≤ q → vL σ q = q) := fun q hq => by
    rw [hW.2.2.2.2.2.1 q hq]
    exact ⟨prt_le _ _ _ _, fun hp => prt_ge (P := nP σ) (fun k hk => by have := hW.2.1 k hk; omega) q hp⟩
  have la := hL a (by omega)
  have lb := hL b (by omega)
  obtain ⟨⟨a1, a2, a3⟩, h2, h3, h4, -⟩ := id h
  have ea := (h4 a (by omega)).1
  have eb := (h4 b (by omega)).1
  unfold q_Net_addEdge
  rw [a2, clm (by omega)]
  refine ⟨vp_in_nI he (by decide), fun M1 e1 => ?_⟩
  have r1 : M1.1 1 1 = nI (nE σ) := by rw [e1]; simp [wI_1, a2]
  rw [r1, clm (by omega)]
  refine ⟨vp_in_nI he (by decide), fun M2 e2 => ?_⟩
  have r2 : ∀ q, M2.1 7 q = M.1 7 q := fun q => by rw [e2, e1]; simp [wI_1]
  rw [clm (show a < 200 by omega), clm (show b < 200 by omega), r2, r2, ea, eb, nI_min (by omega) (by omega), nI_max (by omega) (by omega)]
  refine ⟨vp_in_nI (by omega) (by decide), vp_in_nI (by omega) (by decide), fun v3 e3 => ⟨vp_in_nI (by omega) (by decide), vp_in_nI (by omega) (by decide), fun v4 e4 => ?_⟩⟩
  subst e3 e4
  have g2 : Ag (fun k => k = 1 ∨ k = 2 ∨ k = 3 ∨ k = 7) (fun _ => False) M M2 := by
    rw [e2, e1]; exact (agI (by omega)).trans (agI (by omega))
  have p2 : M2.1 1 = M.1 1 := by funext q; rw [e2, e1]; simp [wI_1]
  have b2 : ∀ k, M2.1 2 k = if k = nE σ then nI a else M.1 2 k := fun k => by rw [e2, e1]; simp [wI_1]
  have b3 : ∀ k, M2.1 3 k = if k = nE σ then nI b else M.1 3 k := fun k => by rw [e2, e1]; simp [wI_1]
  clear e1 e2 r1
  refine pk_loop (fun m i (M' : Mem) => q_Net_addEdge_L56 _ post m (nI (min (vL σ a) (vL σ b))) (nI (max (vL σ a) (vL σ b))) (nI i) M') (fun i M' => Ag (fun k => k = 7) (fun _ => False) M2 M' ∧ ∀ q, q < 6 → M'.1 7 q = if q < i then nI (jn (vL σ) a b q) else nI (vL σ q)) (nP σ) 0 M2 (Nat.zero_le _) ⟨Ag.rf, fun q hq => by rw [r2, if_neg (by omega)]; exact (h4 q hq).1⟩ ?_ ?_
  · rintro m M' ⟨g, h7⟩
    have q1 : M'.1 1 = M.1 1 := (g.1 1 (by omega)).trans p2
    unfold q_Net_addEdge_L56
    rw [q1, a1]
    refine ⟨fun _ => ?_, fun c => absurd (nI_le (Nat.le_refl _) (by omega)) c⟩
    intro M8 e8
    rw [a2, nI_1] at e8
    rw [a2]
    have g8 : Ag (fun k => k = 1 ∨ k = 2 ∨ k = 3 ∨ k = 7) (fun _ => False) M M8 := by
      rw [e8]; exact (g2.trans (g.mono (fun k hk => by omega) (fun k hk => hk.elim))).trans (agI (by omega))
    refine K M8 (RC_edge hW h (g8.mono (fun k hk => by omega) (fun k hk => hk.elim)) ?_ (fun k hk => ?_) ?_ (fun q hq => ?_)) ?_
    · rw [e8]; simp [wI_1, q1]
    · rw [e8]; simp [wI_1, g.1 2 (by omega), g.1 3 (by omega), b2, b3, show k ≠ nE σ by omega]
    · rw [e8]; simp [wI_1, g.1 2 (by omega), g.1 3 (by omega), b2, b3]
    · have : M8.1 7 q = M'.1 7 q := by rw [e8]; simp [wI_1]
      rw [this, h7 q hq]
      split
      · rfl
      · have l1 := (hL q hq).2 (by omega)
        congr 1
        unfold jn
        rw [if_neg (by omega)]
    · exact g8.mono (fun k hk => by unfold C56; omega) (fun k hk => hk.elim)
  · rintro m i M' hi ⟨g, h7⟩ ih
    have q1 : M'.1 1 = M.1 1 := (g.1 1 (by omega)).trans p2
    have li := hL i (by omega)
    have ei : M'.1 7 i = nI (vL σ i) := by rw [h7 i (by omega), if_neg (by omega)]
    unfold q_Net_addEdge_L56
    rw [q1, a1, clm (by omega), ei, nI_1, nI_eq (by omega) (by omega)]
    refine ⟨fun c => absurd c (nI_ge hi (by omega)), fun _ => ⟨vp_in_nI (by omega) (by decide), fun c => ?_, fun c => ⟨vp_in_nI (by omega) (by decide), fun M5 e5 => ?_⟩⟩⟩
    · refine ih M' ⟨g, fun q hq => ?_⟩
      rw [h7 q hq]
      by_cases z : q = i
      · subst z
        rw [if_neg (by omega), if_pos (by omega)]
        congr 1; unfold jn; rw [if_neg c]
      · by_cases z2 : q < i
        · rw [if_pos z2, if_pos (by omega)]
        · rw [if_neg z2, if_neg (by omega)]
    · subst e5
      refine ih _ ⟨g.trans (agI rfl), fun q hq => ?_⟩
      rw [wI_1, if_pos rfl]
      by_cases z : q = i
      · subst z
        rw [if_pos rfl, if_pos (by omega)]
        congr 1; unfold jn; rw [if_pos c]
      · rw [if_neg z, h7 q hq]
        by_cases z2 : q < i
        · rw [if_pos z2, if_pos (by omega)]
        · rw [if_neg z2, if_neg (by omega)]
theorem h_Nf_edge (hW : WF σ) (h : RC σ M) {a b : Int32} {post : Int32 → Mem → Prop} (K : ∀ M', RC (op_edge σ a b).2 M' → Ag C56 C56 M M' → post (op_edge σ a b).1 M') : q_Nf_edge a b M post := by
  have hP := hW.1
  unfold q_Nf_edge
  refine h_Net_has hW h (d := 0) (by decide) (fun c1 => ⟨fun c => absurd c (by decide), fun _ => h_Net_has hW h (d := 0) (by decide) (fun c2 => ⟨fun c => absurd c (by decide), fun _ => ⟨fun c3 => ?_, fun c3 => ?_⟩⟩) (fun c2 => ⟨fun _ => ?_, fun c => absurd rfl c⟩)⟩) (fun c1 => ⟨fun _ => ?_, fun c => absurd rfl c⟩)
  · have c1 : vp_in a (nP σ) := c1
    have c2 : vp_in b (nP σ) := c2
    obtain ⟨i, hi, rfl⟩ := vp_in_of c1 (by omega)
    obtain ⟨j, hj, rfl⟩ := vp_in_of c2 (by omega)
    have hij := (nI_ltI (by omega) (by omega)).mp c3
    refine h_Net_edgeBetween hW h (by omega) (by omega) (fun k hk e1 e2 => ⟨fun c => absurd c ?_, fun _ => ?_⟩) (fun hn => ⟨fun _ => ⟨fun c4 => ?_, fun c4 => ?_⟩, fun c => absurd rfl c⟩)
    · intro q
      have := congrArg Int32.toInt q
      rw [nI_toInt (by omega)] at this
      have e : (-1 : Int32).toInt = -1 := rfl
      omega
    · have e : op_edge σ (nI i) (nI j) = (-3, σ) := by
        unfold op_edge; rw [cif_pos ⟨c1, c2, c3⟩, tnI (by omega), tnI (by omega), cif_pos ⟨k, hk, e1, e2⟩]
      rw [e] at K; exact K M h Ag.rf
    · have he : nE σ < 12 := by
        rw [h.1.2.1] at c4
        exact (nI_ltI (by omega) (by decide)).mp (show nI (nE σ) < nI 12 from c4)
      have e : op_edge σ (nI i) (nI j) = (nI (nE σ), uEdge σ i j) := by
        unfold op_edge; rw [cif_pos ⟨c1, c2, c3⟩, tnI (by omega), tnI (by omega), cif_neg (fun ⟨k, hk, q⟩ => hn k hk q), cif_pos he]
      rw [e] at K
      exact h_Net_addEdge hW h hij hj he K
    · have he : ¬ nE σ < 12 := fun q => c4 (by rw [h.1.2.1]; exact nI_lt q (by decide))
      have e : op_edge σ (nI i) (nI j) = (-4, σ) := by
        unfold op_edge; rw [cif_pos ⟨c1, c2, c3⟩, tnI (by omega), tnI (by omega), cif_neg (fun ⟨k, hk, q⟩ => hn k hk q), cif_neg he]
      rw [e] at K; exact K M h Ag.rf
  · have e : op_edge σ a b = (-2, σ) := cif_neg (fun q => c3 q.2.2) _ _
    rw [e] at K; exact K M h Ag.rf
  · have e : op_edge σ a b = (-2, σ) := cif_neg (fun q => c2 q.2.1) _ _
    rw [e] at K; exact K M h Ag.rf
  · have e : op_edge σ a b = (-2, σ) := cif_neg (fun q => c1 q.1) _ _
    rw [e] at K; exact K M h Ag.rf
theorem h_Net_addPlate (hW : WF σ) (h : RC σ M) {x y z : Nat} (hF : nF σ < 10) {post : Int32 → Mem → Prop} (K : ∀ M', RC (uPlate σ x y z) M' → Ag C56 C56 M M' → post (nI (nF σ)) M') : q_Net_addPlate (nI x) (nI y) (nI z) M post := by
  obtain ⟨⟨a1, a2, a3⟩, -⟩ := id h
  unfold q_Net_addPlate
  rw [a3, clm (by omega)]
  refine ⟨vp_in_nI hF (by decide), fun M1 e1 => ?_⟩
  have r1 : M1.1 1 2 = nI (nF σ) := by rw [e1]; simp [wI_1, a3]
  rw [r1, clm (by omega)]
  refine ⟨vp_in_nI hF (by decide), fun M2 e2 => ?_⟩
  have r2 : M2.1 1 2 = nI (nF σ) := by rw [e2]; simp [wI_1, r1]
  rw [r2, clm (by omega)]
  refine ⟨vp_in_nI hF (by decide), fun M3 e3 => ?_⟩
  have r3 : M3.1 1 2 = nI (nF σ) := by rw [e3]; simp [wI_1, r2]
  rw [r3]
  intro M4 e4
  rw [nI_1] at e4
  have g : Ag (fun k => k = 1 ∨ k = 4 ∨ k = 5 ∨ k = 6) (fun _ => False) M M4 := by
    rw [e4, e3, e2, e1]; exact (((agI (by omega)).trans (agI (by omega))).trans (agI (by omega))).trans (agI (by omega))
  refine K M4 (RC_plate h (g.mono (fun k hk => by omega) (fun k hk => hk.elim)) ?_ (fun k hk => ?_) ?_) (g.mono (fun k hk => by unfold C56; omega) (fun k hk => hk.elim))
  · rw [e4, e3, e2, e1]; simp [wI_1]
  · rw [e4, e3, e2, e1]; simp [wI_1, show k ≠ nF σ by omega]
  · rw [e4, e3, e2, e1]; simp [wI_1]
end COPS2
