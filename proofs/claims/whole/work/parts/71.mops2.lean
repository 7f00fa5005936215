/-! the reference's calls: net, edge, face, corner, parts, count, raise, wave -/
section MOPS2
variable {σ : Sg} {M : Mem}
theorem h_Mo_net (hW : WF σ) (h : RM σ M) {n : Int32} {post : Int32 → Mem → Prop} (K : ∀ M', RM (op_net σ n).2 M' → Ag D56 D56 M M' → post (op_net σ n).1 M') : q_Mo_net n M post := by
  unfold q_Mo_net
  refine h_in 1 6 rfl rfl (fun c1 c2 => ⟨fun _ => ?_, fun c => absurd c (by decide)⟩) (fun c => ⟨fun c => absurd rfl c, fun _ => ?_⟩)
  · rw [toI64] at c1 c2
    have o1 : ¬ n < 1 := by rw [Int32.lt_iff_toInt_lt]; show ¬ n.toInt < 1; omega
    have o2 : n ≤ 6 := by rw [Int32.le_iff_toInt_le]; exact c2
    have e : op_net σ n = (1, uNet σ (tn n)) := cif_pos ⟨o1, o2⟩ _ _
    rw [e] at K
    have hn : n = nI (tn n) := by
      obtain ⟨j, hj, rfl⟩ := nI_of (x := n) (fun q => by
        rw [Int32.lt_iff_toInt_lt] at q
        have : (0 : Int32).toInt = 0 := rfl
        omega)
      rw [show tn (nI j) = j from nI_clamp hj]
    intro M3 e3 M4 e4 M5 e5 M6 e6
    have g6 : Ag (fun k => k = 56) (fun _ => False) M M6 := by
      rw [e6, e5, e4, e3]; exact (((agI (S := fun k => k = 56) rfl).trans (agI rfl)).trans (agI rfl)).trans (agI rfl)
    have r6 : M6.1 56 0 = n ∧ M6.1 56 1 = 0 ∧ M6.1 56 2 = 0 ∧ M6.1 56 14 = 0 := by rw [e6, e5, e4, e3]; simp [wI_1]
    clear e3 e4 e5 e6
    refine pk_loop (fun m i (M' : Mem) => q_Mo_net_L37 _ post m (nI i) M') (fun i M' => Ag (fun k => k = 62 ∨ k = 63) (fun _ => False) M6 M' ∧ (∀ f, f < i → M'.1 62 f = 0) ∧ ∀ q, q < 12 * i → M'.1 63 q = 0) 12 0 M6 (Nat.zero_le _) ⟨Ag.rf, fun q hq => by omega, fun q hq => by omega⟩ ?_ ?_
    · rintro m M7 ⟨g7, h62, h63⟩
      unfold q_Mo_net_L37
      refine ⟨fun _ => ?_, fun c => absurd (show (12 : Int32) ≤ nI 12 by decide) c⟩
      refine pk_loop (fun m i (M' : Mem) => q_Mo_net_L57 _ post m (nI i) M') (fun i M' => Ag (fun _ => False) (fun k => k = 67) M7 M' ∧ ∀ q, q < i → M'.2 67 q = 0) 12 0 M7 (Nat.zero_le _) ⟨Ag.rf, fun q hq => by omega⟩ ?_ ?_
      · rintro m M8 ⟨g8, h67⟩
        unfold q_Mo_net_L57
        refine ⟨fun _ => ?_, fun c => absurd (show (12 : Int32) ≤ nI 12 by decide) c⟩
        refine pk_loop (fun m i (M' : Mem) => q_Mo_net_L78 _ post m (nI i) M') (fun i M' => Ag (fun k => k = 64) (fun k => k = 66) M8 M' ∧ ∀ q, q < i → M'.1 64 q = 0 ∧ M'.2 66 q = 0) 6 0 M8 (Nat.zero_le _) ⟨Ag.rf, fun q hq => by omega⟩ ?_ ?_
        · rintro m M9 ⟨g9, h64⟩
          unfold q_Mo_net_L78
          refine ⟨fun _ => ?_, fun c => absurd (show (6 : Int32) ≤ nI 6 by decide) c⟩
          have q56 : M9.1 56 = M6.1 56 := by rw [g9.1 56 (by omega), g8.1 56 (fun q => q), g7.1 56 (by omega)]
          refine K M9 (RM_net h ?_ (fun q hq => ?_) (fun f hf => ?_) (fun k hk => ?_) (fun k hk => ?_) ?_) ?_
          · rw [q56, r6.1, r6.2.1, r6.2.2.1, ← hn]; exact ⟨rfl, rfl, rfl⟩
          · rw [g9.1 65 (by omega), g8.1 65 (fun q => q), g7.1 65 (by omega), g6.1 65 (by omega)]
            exact ⟨(h64 q hq).1, rfl, (h64 q hq).2⟩
          · rw [g9.1 62 (by omega), g8.1 62 (fun q => q)]; exact h62 f hf
          · rw [g9.1 63 (by omega), g8.1 63 (fun q => q)]; exact h63 k (by omega)
          · rw [g9.2 67 (by omega)]; exact h67 k hk
          · rw [q56]; exact r6.2.2.2
          · exact (((g6.mono (fun k hk => by unfold D56; omega) (fun k hk => hk.elim)).trans (g7.mono (fun k hk => by unfold D56; omega) (fun k hk => hk.elim))).trans (g8.mono (fun k hk => hk.elim) (fun k hk => by unfold D56; omega))).trans (g9.mono (fun k hk => by unfold D56; omega) (fun k hk => by unfold D56; omega))
        · rintro m i M9 hi ⟨g9, h64⟩ ih
          unfold q_Mo_net_L78
          rw [clm (by omega), nI_1]
          refine ⟨fun c => absurd (show nI 6 ≤ nI i from c) (nI_ge hi (by decide)), fun _ => ⟨vp_in_nI hi (by decide), fun M13 e13 => ⟨vp_in_nI hi (by decide), fun M14 e14 => ?_⟩⟩⟩
          subst e13 e14
          refine ih _ ⟨(g9.trans (agI rfl)).trans (agJ rfl), fun q hq => ?_⟩
          have x1 : (wJ (wI M9 64 i 0) 66 i 0).1 64 q = if q = i then 0 else M9.1 64 q := by show (wI M9 64 i 0).1 64 q = _; rw [wI_1, if_pos rfl]
          have x2 : (wJ (wI M9 64 i 0) 66 i 0).2 66 q = if q = i then 0 else M9.2 66 q := by rw [wJ_2, if_pos rfl]; rfl
          rw [x1, x2]
          by_cases z : q = i
          · rw [if_pos z, if_pos z]; exact ⟨rfl, rfl⟩
          · rw [if_neg z, if_neg z]; exact h64 q (by omega)
      · rintro m i M8 hi ⟨g8, h67⟩ ih
        unfold q_Mo_net_L57
        rw [clm (by omega), nI_1]
        refine ⟨fun c => absurd (show nI 12 ≤ nI i from c) (nI_ge hi (by decide)), fun _ => ⟨vp_in_nI hi (by decide), fun M10 e10 => ?_⟩⟩
        subst e10
        refine ih _ ⟨g8.trans (agJ rfl), fun q hq => ?_⟩
        rw [wJ_2, if_pos rfl]
        split
        · rfl
        · exact h67 q (by omega)
    · rintro m i M7 hi ⟨g7, h62, h63⟩ ih
      unfold q_Mo_net_L37
      rw [nI_1]
      refine ⟨fun c => absurd (show nI 12 ≤ nI i from c) (nI_ge hi (by decide)), fun _ => h_clears hi (fun M8 g8 a62 a63 => ?_)⟩
      refine ih M8 ⟨g7.trans g8, fun f hf => ?_, fun q hq => ?_⟩
      · rw [a62]
        split
        · rfl
        · exact h62 f (by omega)
      · rw [a63]
        split
        · rfl
        · exact h63 q (by omega)
  · have e : op_net σ n = (-2, σ) := cif_neg (fun q => c (by
      rw [toI64]
      have q1 := q.1
      have q2 := q.2
      rw [Int32.lt_iff_toInt_lt] at q1
      rw [Int32.le_iff_toInt_le] at q2
      have x1 : (1 : Int32).toInt = 1 := rfl
      have x2 : (6 : Int32).toInt = 6 := rfl
      omega)) _ _
    rw [e] at K; exact K M h Ag.rf
theorem h_Mo_edge (hW : WF σ) (h : RM σ M) {a b : Int32} {post : Int32 → Mem → Prop} (K : ∀ M', RM (op_edge σ a b).2 M' → Ag D56 D56 M M' → post (op_edge σ a b).1 M') : q_Mo_edge a b M post := by
  have hP := hW.1
  unfold q_Mo_edge
  have bad : ¬ (vp_in a (nP σ) ∧ vp_in b (nP σ) ∧ a < b) → post (-2) M := fun q => by
    have e : op_edge σ a b = (-2, σ) := cif_neg q _ _
    rw [e] at K; exact K M h Ag.rf
  refine h_isPoint hW h (fun c1 => ⟨fun c => absurd c (by decide), fun _ => ?_⟩) (fun c => ⟨fun _ => bad (fun q => c q.1), fun c => absurd rfl c⟩)
  refine h_isPoint hW h (fun c2 => ⟨fun c => absurd c (by decide), fun _ => ⟨fun c3 => ?_, fun c3 => bad (fun q => c3 q.2.2)⟩⟩) (fun c => ⟨fun _ => bad (fun q => c q.2.1), fun c => absurd rfl c⟩)
  obtain ⟨i, hi, rfl⟩ := vp_in_of c1 (by omega)
  obtain ⟨j, hj, rfl⟩ := vp_in_of c2 (by omega)
  have a2 := h.1.2.1
  refine h_edgeOf hW h rfl rfl rfl (by omega) (by omega) (fun k ek hk k1 k2 => ⟨fun c => absurd c (m1_ne (by omega)), fun _ => ?_⟩) (fun en => ⟨fun _ => ?_, fun c => absurd rfl c⟩)
  · have e : op_edge σ (nI i) (nI j) = (-3, σ) := by
      unfold op_edge; rw [cif_pos ⟨c1, c2, c3⟩, tnI (by omega), tnI (by omega), cif_pos ⟨k, hk, k1, k2⟩]
    rw [e] at K; exact K M h Ag.rf
  · have hn : ¬ ∃ k, k < nE σ ∧ vB σ k = i ∧ vE σ k = j := fun ⟨k, hk, k1, k2⟩ => by
      rw [fE_some (fun a b ha hb => hW.2.2.1 a b ha hb) hk k1 k2] at en
      cases en
    rw [a2]
    refine ⟨fun c4 => ?_, fun c4 => ?_⟩
    · have he : nE σ < 12 := by
        rcases Nat.lt_or_ge (nE σ) 12 with q | q
        · exact q
        · exact absurd (show nI (nE σ) = nI 12 by congr 1; omega) c4
      have e : op_edge σ (nI i) (nI j) = (nI (nE σ), uEdge σ i j) := by
        unfold op_edge; rw [cif_pos ⟨c1, c2, c3⟩, tnI (by omega), tnI (by omega), cif_neg hn, cif_pos he]
      rw [e] at K
      rw [clm (by omega)]
      refine ⟨vp_in_nI he (by decide), fun M7 e7 => ?_⟩
      have r7 : M7.1 56 1 = nI (nE σ) := by rw [e7]; simp [wI_1, a2]
      rw [r7, clm (by omega)]
      refine ⟨vp_in_nI he (by decide), fun M8 e8 => ?_⟩
      have r8 : M8.1 56 1 = nI (nE σ) := by rw [e8]; simp [wI_1, r7]
      rw [r8]
      intro M9 e9
      have r9 : M9.1 56 1 = nI (nE σ + 1) := by rw [e9, wI_1, if_pos rfl, if_pos rfl, nI_1]
      rw [r9, nI_pred]
      have g : Ag (fun k => k = 56 ∨ k = 57 ∨ k = 58) (fun _ => False) M M9 := by
        rw [e9, e8, e7]; exact ((agI (by omega)).trans (agI (by omega))).trans (agI (by omega))
      refine K M9 (RM_edge hW h (g.mono (fun k hk => by omega) (fun k hk => hk.elim)) ?_ (fun k hk => ?_) ?_) (g.mono (fun k hk => by unfold D56; omega) (fun k hk => hk.elim))
      · refine ⟨?_, r9, ?_, ?_⟩ <;> (rw [e9, e8, e7]; simp [wI_1])
      · rw [e9, e8, e7]; simp [wI_1, show k ≠ nE σ by omega]
      · rw [e9, e8, e7]; simp [wI_1]
    · have he : ¬ nE σ < 12 := fun q => by
        have := (nI_eq (by omega) (by decide)).mp (show nI (nE σ) = nI 12 from c4)
        omega
      have e : op_edge σ (nI i) (nI j) = (-4, σ) := by
        unfold op_edge; rw [cif_pos ⟨c1, c2, c3⟩, tnI (by omega), tnI (by omega), cif_neg hn, cif_neg he]
      rw [e] at K; exact K M h Ag.rf
/-- partOf holds L, the rest is as in M0 -/
def RP (σ : Sg) (M0 M : Mem) (L : Nat → Nat) : Prop := Ag (fun k => k = 72) (fun _ => False) M0 M ∧ ∀ q, q < nP σ → M.1 72 q = nI (L q)
theorem h_joins (hW : WF σ) {M0 : Mem} (h : RM σ M0) {L : Nat → Nat} (hL : ∀ q, q < 6 → L q < 100) (r : RP σ M0 M L) {a b : Nat} (ha : a < nP σ) (hb : b < nP σ) {post : Mem → Prop} (K : ∀ M', RP σ M0 M' (jn L a b) → post M') : q_Mo_joins (nI a) (nI b) M post := by
  have hP := hW.1
  have ra := r.2 a ha
  have rb := r.2 b hb
  have la := hL a (by omega)
  have lb := hL b (by omega)
  have lp : ∀ x y : Nat, x = max (L a) (L b) → y = min (L a) (L b) → ∃ n, q_Mo_joins_L51 (fun M5 => post M5) post n (nI x) (nI y) (0 : Int32) M := by
    intro x y hx hy
    refine pk_loop (fun m i (M' : Mem) => q_Mo_joins_L51 _ post m (nI x) (nI y) (nI i) M') (fun i M' => Ag (fun k => k = 72) (fun _ => False) M M' ∧ ∀ q, q < nP σ → M'.1 72 q = if q < i then nI (jn L a b q) else nI (L q)) (nP σ) 0 M (Nat.zero_le _) ⟨Ag.rf, fun q hq => by rw [if_neg (by omega)]; exact r.2 q hq⟩ ?_ ?_
    · rintro m M' ⟨g, h7⟩
      have q1 : M'.1 56 0 = nI (nP σ) := by rw [g.1 56 (by omega), r.1.1 56 (by omega)]; exact h.1.1
      unfold q_Mo_joins_L51
      rw [q1]
      exact ⟨fun _ => K M' ⟨r.1.trans g, fun q hq => by rw [h7 q hq, if_pos hq]⟩, fun c => absurd (nI_le (Nat.le_refl _) (by omega)) c⟩
    · rintro m i M' hi ⟨g, h7⟩ ih
      have q1 : M'.1 56 0 = nI (nP σ) := by rw [g.1 56 (by omega), r.1.1 56 (by omega)]; exact h.1.1
      have ei : M'.1 72 i = nI (L i) := by rw [h7 i hi, if_neg (by omega)]
      have li := hL i (by omega)
      have upd1 : ∀ v : Nat, v = jn L a b i → ∀ q, q < nP σ → (wI M' 72 i (nI v)).1 72 q = if q < i + 1 then nI (jn L a b q) else nI (L q) := by
        intro v hv q hq
        rw [wI_1, if_pos rfl]
        by_cases z : q = i
        · subst z; rw [if_pos rfl, if_pos (by omega), hv]
        · rw [if_neg z, h7 q hq]
          by_cases z2 : q < i
          · rw [if_pos z2, if_pos (by omega)]
          · rw [if_neg z2, if_neg (by omega)]
      unfold q_Mo_joins_L51
      rw [q1, clm (by omega), ei, nI_1, nI_eq (by omega) (by omega)]
      refine ⟨fun c => absurd c (nI_ge hi (by omega)), fun _ => ⟨vp_in_nI (by omega) (by decide), fun c => ⟨vp_in_nI (by omega) (by decide), vp_in_nI (by omega) (by decide), fun M2 e2 => ?_⟩, fun c => ⟨vp_in_nI (by omega) (by decide), fun M3 e3 => ?_⟩⟩⟩
      · subst e2
        exact ih _ ⟨g.trans (agI rfl), upd1 _ (by unfold jn; rw [if_neg (by omega)])⟩
      · subst e3
        exact ih _ ⟨g.trans (agI rfl), upd1 _ (by unfold jn; rw [if_pos (by omega)]; exact hy)⟩
  unfold q_Mo_joins
  rw [clm (by omega), clm (by omega), ra, rb]
  refine ⟨vp_in_nI (by omega) (by decide), vp_in_nI (by omega) (by decide), fun c => ⟨vp_in_nI (by omega) (by decide), vp_in_nI (by omega) (by decide), vp_in_nI (by omega) (by decide), fun v e => ?_⟩, fun c => ⟨vp_in_nI (by omega) (by decide), vp_in_nI (by omega) (by decide), vp_in_nI (by omega) (by decide), fun v e => ?_⟩⟩
  · have hc := (nI_leI (by omega) (by omega)).mp c
    have : v = nI (L a) := by rw [e]; grind
    rw [this]
    exact lp _ _ (by omega) (by omega)
  · have hc : ¬ L a ≤ L b := fun q => c (nI_le q (by omega))
    have : v = nI (L b) := by rw [e]; grind
    rw [this]
    exact lp _ _ (by omega) (by omega)
theorem h_parts (hW : WF σ) {M0 : Mem} (h : RM σ M0) (g0 : Ag (fun k => k = 72) (fun _ => False) M0 M) {post : Int32 → Mem → Prop} (K : ∀ M', RP σ M0 M' (vL σ) → post (nI (own (vL σ) (nP σ))) M') : q_Mo_parts M post := by
  have hP := hW.1
  have wl := hW.2.2.2.2.2.1
  have h56 : ∀ {M'}, Ag (fun k => k = 72) (fun _ => False) M0 M' → M'.1 56 0 = nI (nP σ) ∧ M'.1 56 1 = nI (nE σ) := fun g => by rw [g.1 56 (by omega)]; exact ⟨h.1.1, h.1.2.1⟩
  unfold q_Mo_parts
  refine pk_loop (fun m i (M' : Mem) => q_Mo_parts_L2 _ post m (nI i) M') (fun i M' => Ag (fun k => k = 72) (fun _ => False) M0 M' ∧ ∀ q, q < i → M'.1 72 q = nI q) (nP σ) 0 M (Nat.zero_le _) ⟨g0, fun q hq => by omega⟩ ?_ ?_
  · rintro m M1 ⟨g1, h1⟩
    unfold q_Mo_parts_L2
    rw [(h56 g1).1]
    refine ⟨fun _ => ?_, fun c => absurd (nI_le (Nat.le_refl _) (by omega)) c⟩
    refine pk_loop (fun m i (M' : Mem) => q_Mo_parts_L25 _ post m (nI i) M') (fun i M' => RP σ M0 M' (prt (vB σ) (vE σ) i)) (nE σ) 0 M1 (Nat.zero_le _) ⟨g1, h1⟩ ?_ ?_
    · rintro m M2 ⟨g2, h2⟩
      unfold q_Mo_parts_L25
      rw [(h56 g2).2]
      refine ⟨fun _ => ?_, fun c => absurd (nI_le (Nat.le_refl _) (by omega)) c⟩
      have h3 : ∀ q, q < nP σ → M2.1 72 q = nI (vL σ q) := fun q hq => by rw [h2 q hq, wl q (by omega)]
      refine pk_loop (fun m i (s : Int32 × Mem) => q_Mo_parts_L59 _ post m s.1 (nI i) s.2) (fun i s => s.2 = M2 ∧ s.1 = nI (own (vL σ) i)) (nP σ) 0 (0, M2) (Nat.zero_le _) ⟨rfl, rfl⟩ ?_ ?_
      · rintro m ⟨c, M'⟩ ⟨e1, e2⟩
        dsimp only at e1 e2
        subst e1 e2
        unfold q_Mo_parts_L59
        rw [(h56 g2).1]
        exact ⟨fun _ => K _ ⟨g2, h3⟩, fun c => absurd (nI_le (Nat.le_refl _) (by omega)) c⟩
      · rintro m i ⟨c, M'⟩ hi ⟨e1, e2⟩ ih
        dsimp only at e1 e2
        subst e1 e2
        have hl := wl i (by omega)
        have hl2 := prt_le (vB σ) (vE σ) (nE σ) i
        unfold q_Mo_parts_L59
        dsimp only
        rw [(h56 g2).1, clm (by omega), nI_1, h3 i hi, show (1 : Int32) = nI 1 from rfl, nI_add, show nI (own (vL σ) i) + (0 : Int32) = nI (own (vL σ) i) by simp]
        refine ⟨fun c => absurd c (nI_ge hi (by omega)), fun _ => ⟨vp_in_nI (by omega) (by decide), fun c => ?_, fun c => ?_⟩⟩
        · refine ih (nI (own (vL σ) i), M') ⟨rfl, ?_⟩
          have : ¬ vL σ i = i := fun q => c (by rw [q])
          simp [own, this]
        · refine ih (nI (own (vL σ) i + 1), M') ⟨rfl, ?_⟩
          have : vL σ i = i := (nI_eq (by omega) (by omega)).mp c
          simp [own, this]
    · rintro m i M2 hi r2 ih
      have hb := h.2.1 i hi
      have we := hW.2.1 i hi
      unfold q_Mo_parts_L25
      rw [(h56 r2.1).2, clm (by omega), nI_1, r2.1.1 57 (by omega), r2.1.1 58 (by omega), hb.1, hb.2]
      refine ⟨fun c => absurd c (nI_ge hi (by omega)), fun _ => ⟨vp_in_nI (by omega) (by decide), vp_in_nI (by omega) (by decide), h_joins hW h (fun q hq => by have := prt_le (vB σ) (vE σ) i q; omega) r2 (by omega) (by omega) (fun M4 r4 => ih M4 r4)⟩⟩
  · rintro m i M1 hi ⟨g1, h1⟩ ih
    unfold q_Mo_parts_L2
    rw [(h56 g1).1, clm (by omega), nI_1]
    refine ⟨fun c => absurd c (nI_ge hi (by omega)), fun _ => ⟨vp_in_nI (by omega) (by decide), fun M2 e2 => ?_⟩⟩
    subst e2
    refine ih _ ⟨g1.trans (agI rfl), fun q hq => ?_⟩
    rw [wI_1, if_pos rfl]
    split
    · rename_i z; rw [z]
    · exact h1 q (by omega)
theorem h_Mo_count (hW : WF σ) (h : RM σ M) {w : Int32} {post : Int32 → Mem → Prop} (K : ∀ M', RM (op_count σ w).2 M' → Ag D56 D56 M M' → post (op_count σ w).1 M') : q_Mo_count w M post := by
  have hP := hW.1
  have good : ∀ j, j < 5 → w = nI j → op_count σ w = (nI (if j = 3 then cnt (wT σ) (nP σ) else if j = 4 then own (vL σ) (nP σ) else sz σ j), σ) := fun j hj e => by
    subst e; unfold op_count; rw [cif_pos (vp_in_nI hj (by decide)), tnI (by omega)]
  unfold q_Mo_count
  refine ⟨fun c => ?_, fun c => ?_, fun c => ?_, fun c => ?_, fun c => ?_, fun c => ?_⟩
  · rw [good 0 (by decide) c] at K; rw [h.1.1]; exact K M h Ag.rf
  · rw [good 1 (by decide) c] at K; rw [h.1.2.1]; exact K M h Ag.rf
  · rw [good 2 (by decide) c] at K; rw [h.1.2.2]; exact K M h Ag.rf
  · rw [good 3 (by decide) c] at K
    refine pk_loop (fun m i (s : Int32 × Mem) => q_Mo_count_L53 _ post m s.1 (nI i) s.2) (fun i s => s.2 = M ∧ s.1 = nI (cnt (wT σ) i)) (nP σ) 0 (0, M) (Nat.zero_le _) ⟨rfl, rfl⟩ ?_ ?_
    · rintro m ⟨c, M'⟩ ⟨e1, e2⟩
      dsimp only at e1 e2
      subst e1 e2
      unfold q_Mo_count_L53
      rw [h.1.1]
      exact ⟨fun _ => K _ h Ag.rf, fun c => absurd (nI_le (Nat.le_refl _) (by omega)) c⟩
    · rintro m i ⟨c, M'⟩ hi ⟨e1, e2⟩ ih
      dsimp only at e1 e2
      subst e1 e2
      have hT := (hW.2.2.2.2.2.2.2.1 i (by omega)).1
      unfold q_Mo_count_L53
      dsimp only
      rw [h.1.1, clm (by omega), nI_1, (h.2.2.2.1 i (by omega)).1, show (1 : Int32) = nI 1 from rfl, nI_add, show nI (cnt (wT σ) i) + (0 : Int32) = nI (cnt (wT σ) i) by simp]
      refine ⟨fun c => absurd c (nI_ge hi (by omega)), fun _ => ⟨vp_in_nI (by omega) (by decide), fun c => ?_, fun c => ?_⟩⟩
      · refine ih (nI (cnt (wT σ) i), M') ⟨rfl, ?_⟩
        have : wT σ i = 0 := (nI_eq (by omega) (by decide)).mp (show nI (wT σ i) = nI 0 from c)
        simp [cnt, this]
      · refine ih (nI (cnt (wT σ) i + 1), M') ⟨rfl, ?_⟩
        have : ¬ wT σ i = 0 := fun q => c (by rw [q]; rfl)
        simp [cnt, this]
  · rw [good 4 (by decide) c] at K
    exact h_parts hW h Ag.rf (fun M' r => K M' (h.ag (r.1.mono (fun k hk => by unfold Sm; omega) (fun k hk => hk.elim))) (r.1.mono (fun k hk => by unfold D56; omega) (fun k hk => hk.elim)))
  · have e : op_count σ w = (-2, σ) := cif_neg (fun q => by
      have := vin_i.mp q
      omega) _ _
    rw [e] at K; exact K M h Ag.rf
end MOPS2
