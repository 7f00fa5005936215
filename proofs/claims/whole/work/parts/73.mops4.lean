/-! the reference's calls: corner, face -/
section MOPS4
variable {σ : Sg} {M : Mem}
theorem h_Mo_corner (hW : WF σ) (h : RM σ M) {d k i : Int32} {post : Int32 → Mem → Prop} (K : ∀ M', RM (op_corner σ d k i).2 M' → Ag D56 D56 M M' → post (op_corner σ d k i).1 M') : q_Mo_corner d k i M post := by
  have hP := hW.1
  have K := fun q => K M q Ag.rf
  have bad : (¬ ((d = 1 ∧ vp_in k (nE σ)) ∨ (d = 2 ∧ vp_in k (nF σ)))) → post (-2) M := fun q => by
    have e : op_corner σ d k i = (-2, σ) := cif_neg q _ _
    rw [e] at K; exact K h
  unfold q_Mo_corner
  refine ⟨fun c1 => ⟨fun c2 => bad (fun q => by rcases q with q | q; exact c1 q.1; exact c2 q.1), fun c2 => ?_⟩, fun c1 => ?_⟩
  · subst c2
    rw [h.1.2.2]
    refine h_in32 (nF σ) (by rw [toI64]; exact nI_m1 (by omega)) (fun c => ⟨fun c => absurd c (by decide), fun _ => ?_⟩) (fun c => ⟨fun _ => bad (fun q => by rcases q with q | q; exact absurd q.1 (by decide); exact c q.2), fun c => absurd rfl c⟩)
    obtain ⟨j, hj, rfl⟩ := vp_in_of c (by omega)
    have hc := h.2.2.1 j hj
    have e0 : op_corner σ 2 (nI j) i = cif (vp_in i 3) (nI (cor σ 2 j (tn i)), σ) (-1, σ) := by
      unfold op_corner; rw [cif_pos (Or.inr ⟨rfl, c⟩), tnI (by omega)]; rfl
    rw [clm (by omega), hc.1, hc.2.1, hc.2.2]
    have good : ∀ ii, ii < 3 → i = nI ii → post (nI (cor σ 2 j ii)) M := fun ii hi e => by
      subst e
      rw [e0, cif_pos (vp_in_nI hi (by decide)), tnI (by omega)] at K; exact K h
    refine ⟨fun d0 => ⟨fun d1 => ⟨fun d2 => ?_, fun d2 => ⟨vp_in_nI (by omega) (by decide), good 2 (by decide) d2⟩⟩, fun d1 => ⟨vp_in_nI (by omega) (by decide), good 1 (by decide) d1⟩⟩, fun d0 => ⟨vp_in_nI (by omega) (by decide), good 0 (by decide) d0⟩⟩
    rw [e0, cif_neg (fun q => by
      obtain ⟨ii, hi, rfl⟩ := vp_in_of q (by decide)
      match ii, hi with
      | 0, _ => exact d0 rfl
      | 1, _ => exact d1 rfl
      | 2, _ => exact d2 rfl)] at K
    exact K h
  · subst c1
    rw [h.1.2.1]
    refine h_in32 (nE σ) (by rw [toI64]; exact nI_m1 (by omega)) (fun c => ⟨fun c => absurd c (by decide), fun _ => ?_⟩) (fun c => ⟨fun _ => ⟨fun _ => bad (fun q => by rcases q with q | q; exact c q.2; exact absurd q.1 (by decide)), fun c => absurd c (by decide)⟩, fun c => absurd rfl c⟩)
    obtain ⟨j, hj, rfl⟩ := vp_in_of c (by omega)
    have hc := h.2.1 j hj
    have e0 : op_corner σ 1 (nI j) i = cif (vp_in i 2) (nI (cor σ 1 j (tn i)), σ) (-1, σ) := by
      unfold op_corner; rw [cif_pos (Or.inl ⟨rfl, c⟩), tnI (by omega)]; rfl
    rw [clm (by omega), hc.1, hc.2]
    have good : ∀ ii, ii < 2 → i = nI ii → post (nI (cor σ 1 j ii)) M := fun ii hi e => by
      subst e
      rw [e0, cif_pos (vp_in_nI hi (by decide)), tnI (by omega)] at K; exact K h
    refine ⟨fun d0 => ⟨fun d1 => ?_, fun d1 => ⟨vp_in_nI (by omega) (by decide), good 1 (by decide) d1⟩⟩, fun d0 => ⟨vp_in_nI (by omega) (by decide), good 0 (by decide) d0⟩⟩
    rw [e0, cif_neg (fun q => by
      obtain ⟨ii, hi, rfl⟩ := vp_in_of q (by decide)
      match ii, hi with
      | 0, _ => exact d0 rfl
      | 1, _ => exact d1 rfl)] at K
    exact K h
/-- the plate a, b, c stands at k -/
def isP (σ : Sg) (a b c k : Nat) : Prop := vB σ (pF1 σ k) = a ∧ vE σ (pF1 σ k) = b ∧ vE σ (pS1 σ k) = c
theorem h_faceL (hW : WF σ) (h : RM σ M) {a b c : Nat} (ha : a < 6) (hb : b < 6) (hc : c < 6) {kx : Int32 → Int32 → Int32 → Int32 → Mem → Prop} {post : Int32 → Mem → Prop} (z : Nat) (hz : z ≤ 1) {x : Int32} (hx : x = nI z) (h1 : (z = 1 ∨ ∃ k, k < nF σ ∧ isP σ a b c k) → kx (nI a) (nI b) (nI c) 1 M) (h0 : z = 0 → (∀ k, k < nF σ → ¬ isP σ a b c k) → kx (nI a) (nI b) (nI c) 0 M) : ∃ n, q_Mo_face_L69 kx post n (nI a) (nI b) (nI c) x (0 : Int32) M := by
  have hP := hW.1
  have we := hW.2.1
  have wf := hW.2.2.2.1
  subst hx
  refine pk_loop (fun m i (s : Nat × Mem) => q_Mo_face_L69 kx post m (nI a) (nI b) (nI c) (nI s.1) (nI i) s.2) (fun i s => s.2 = M ∧ s.1 ≤ 1 ∧ (s.1 = 1 → z = 1 ∨ ∃ k, k < nF σ ∧ isP σ a b c k) ∧ (s.1 = 0 → z = 0 ∧ ∀ k, k < i → ¬ isP σ a b c k)) (nF σ) 0 (z, M) (Nat.zero_le _) ⟨rfl, hz, fun q => Or.inl q, fun q => ⟨q, fun k hk => by omega⟩⟩ ?_ ?_
  · rintro m ⟨y, M'⟩ ⟨e1, e2, e3, e4⟩
    dsimp only at e1 e2 e3 e4
    subst e1
    unfold q_Mo_face_L69
    dsimp only
    rw [h.1.2.2]
    refine ⟨fun _ => ?_, fun c => absurd (nI_le (Nat.le_refl _) (by omega)) c⟩
    match y, e2 with
    | 0, _ => exact h0 (e4 rfl).1 (e4 rfl).2
    | 1, _ => exact h1 (e3 rfl)
  · rintro m i ⟨y, M'⟩ hi ⟨e1, e2, e3, e4⟩ ih
    dsimp only at e1 e2 e3 e4
    subst e1
    have hc' := h.2.2.1 i hi
    have w := wf i hi
    have w1 := we _ w.1
    have w2 := we _ w.2.1
    unfold q_Mo_face_L69
    dsimp only
    rw [h.1.2.2, clm (by omega), nI_1, hc'.1, hc'.2.1, hc'.2.2, nI_eq (by omega) (by omega), nI_eq (by omega) (by omega), nI_eq (by omega) (by omega)]
    have no : y = 0 → ¬ isP σ a b c i → q_Mo_face_L69 kx post m (nI a) (nI b) (nI c) (0 : Int32) (nI (i + 1)) M' := fun hy q => ih (0, M') ⟨rfl, Nat.zero_le _, fun q => absurd (show (0 : Nat) = 1 from q) (by decide), fun _ => ⟨(e4 hy).1, fun k hk => by
      rcases Nat.lt_or_ge k i with z | z
      · exact (e4 hy).2 k z
      · have : k = i := by omega
        subst this; exact q⟩⟩
    refine ⟨fun c => absurd c (nI_ge hi (by omega)), fun _ => ⟨fun c0 => ?_, fun c0 => ?_⟩⟩
    · have hy : y = 1 := by
        rcases (show y = 0 ∨ y = 1 by omega) with q | q
        · exact absurd (by rw [q]; rfl) c0
        · exact q
      exact ih (1, M') ⟨rfl, Nat.le_refl _, fun _ => e3 hy, fun q => absurd (show (1 : Nat) = 0 from q) (by decide)⟩
    · have hy : y = 0 := (nI_eq (by omega) (by decide)).mp (show nI y = nI 0 from c0)
      refine ⟨vp_in_nI (by omega) (by decide), fun d1 => no hy (fun q => d1 q.1), fun d1 => ⟨vp_in_nI (by omega) (by decide), fun d2 => no hy (fun q => d2 q.2.1), fun d2 => ⟨vp_in_nI (by omega) (by decide), fun d3 => no hy (fun q => d3 q.2.2), fun d3 => ?_⟩⟩⟩
      exact ih (1, M') ⟨rfl, Nat.le_refl _, fun _ => Or.inr ⟨i, hi, d1, d2, d3⟩, fun q => absurd (show (1 : Nat) = 0 from q) (by decide)⟩
theorem h_Mo_face (hW : WF σ) (h : RM σ M) {a b c : Int32} {post : Int32 → Mem → Prop} (K : ∀ M', RM (op_face σ a b c).2 M' → Ag D56 D56 M M' → post (op_face σ a b c).1 M') : q_Mo_face a b c M post := by
  have hP := hW.1
  have wu := hW.2.2.1
  unfold q_Mo_face
  have bad : ¬ (vp_in a (nP σ) ∧ vp_in b (nP σ) ∧ vp_in c (nP σ) ∧ a < b ∧ b < c) → post (-2) M := fun q => by
    have e : op_face σ a b c = (-2, σ) := cif_neg q _ _
    rw [e] at K; exact K M h Ag.rf
  refine h_isPoint hW h (fun c1 => ⟨fun c => absurd c (by decide), fun _ => ?_⟩) (fun c => ⟨fun _ => bad (fun q => c q.1), fun c => absurd rfl c⟩)
  refine h_isPoint hW h (fun c3 => ⟨fun c => absurd c (by decide), fun _ => ⟨fun c4 => bad (fun q => ?_), fun c4 => ⟨fun c5 => ?_, fun c5 => bad (fun q => c5 q.2.2.2.2)⟩⟩⟩) (fun c => ⟨fun _ => bad (fun q => c q.2.2.1), fun c => absurd rfl c⟩)
  · have h1 := q.2.2.2.1
    rw [Int32.lt_iff_toInt_lt] at h1; rw [Int32.le_iff_toInt_le] at c4; omega
  obtain ⟨i, hi, rfl⟩ := vp_in_of c1 (by omega)
  obtain ⟨l, hl, rfl⟩ := vp_in_of c3 (by omega)
  have hab : nI i < b := by rw [Int32.le_iff_toInt_le] at c4; rw [Int32.lt_iff_toInt_lt]; omega
  have c2 : vp_in b (nP σ) := by
    rw [Int32.lt_iff_toInt_lt] at hab c5
    rw [nI_toInt (by omega)] at hab c5
    exact vin_i.mpr ⟨by omega, by omega⟩
  obtain ⟨j, hj, rfl⟩ := vp_in_of c2 (by omega)
  have a3 := h.1.2.2
  have e0 : op_face σ (nI i) (nI j) (nI l) = (match fE (vB σ) (vE σ) i j (nE σ), fE (vB σ) (vE σ) j l (nE σ), fE (vB σ) (vE σ) i l (nE σ) with
      | some x, some y, some z => cif (∃ k, k < nF σ ∧ pF1 σ k = x ∧ pS1 σ k = y) (-3, σ) (cif (nF σ < 10) (nI (nF σ), uPlate σ x y z) (-4, σ))
      | _, _, _ => (-3, σ)) := by
    unfold op_face; rw [cif_pos ⟨c1, c2, c3, hab, c5⟩, tnI (by omega), tnI (by omega), tnI (by omega)]
    rfl
  refine h_edgeOf hW h rfl rfl rfl (by omega) (by omega) (fun x ex hx x1 x2 => ⟨fun c => absurd c (m1_ne (by omega)), fun _ => ?_⟩) (fun ex => ⟨fun _ => ?_, fun c => absurd rfl c⟩)
  · refine h_edgeOf hW h rfl rfl rfl (by omega) (by omega) (fun y ey hy y1 y2 => ⟨fun c => absurd c (m1_ne (by omega)), fun _ => ?_⟩) (fun ey => ⟨fun _ => ?_, fun c => absurd rfl c⟩)
    · refine h_edgeOf hW h rfl rfl rfl (by omega) (by omega) (fun z ez hz z1 z2 => ⟨fun _ => ?_, fun c => absurd c (m1_ne (by omega))⟩) (fun ez => ⟨fun c => absurd rfl c, fun _ => ?_⟩)
      · rw [ex, ey, ez] at e0
        refine h_faceL hW h (by omega) (by omega) (by omega) 0 (by decide) rfl (fun q => ⟨fun c => absurd c (by decide), fun _ => ?_⟩) (fun _ hn => ⟨fun _ => ?_, fun c => absurd rfl c⟩)
        · rcases q with q | ⟨k, hk, k1, k2, k3⟩
          · omega
          · have w := hW.2.2.2.1 k hk
            have p1 : pF1 σ k = x := wu _ _ w.1 hx (by omega) (by omega)
            have p2 : pS1 σ k = y := wu _ _ w.2.1 hy (by omega) (by omega)
            have e : op_face σ (nI i) (nI j) (nI l) = (-3, σ) := e0.trans (cif_pos ⟨k, hk, p1, p2⟩ _ _)
            rw [e] at K; exact K M h Ag.rf
        · have hn2 : ¬ ∃ k, k < nF σ ∧ pF1 σ k = x ∧ pS1 σ k = y := fun ⟨k, hk, p1, p2⟩ => hn k hk ⟨by rw [p1]; exact x1, by rw [p1]; exact x2, by rw [p2]; exact y2⟩
          rw [a3]
          refine ⟨fun c6 => ?_, fun c6 => ?_⟩
          · have he : nF σ < 10 := by
              rcases Nat.lt_or_ge (nF σ) 10 with q | q
              · exact q
              · exact absurd (show nI (nF σ) = nI 10 by congr 1; omega) c6
            have e : op_face σ (nI i) (nI j) (nI l) = (nI (nF σ), uPlate σ x y z) := e0.trans ((cif_neg hn2 _ _).trans (cif_pos he _ _))
            rw [e] at K
            rw [clm (by omega)]
            refine ⟨vp_in_nI he (by decide), fun M1 e1 => ?_⟩
            have r1 : M1.1 56 2 = nI (nF σ) := by rw [e1]; simp [wI_1, a3]
            rw [r1, clm (by omega)]
            refine ⟨vp_in_nI he (by decide), fun M2 e2 => ?_⟩
            have r2 : M2.1 56 2 = nI (nF σ) := by rw [e2]; simp [wI_1, r1]
            rw [r2, clm (by omega)]
            refine ⟨vp_in_nI he (by decide), fun M3 e3 => ?_⟩
            have r3 : M3.1 56 2 = nI (nF σ) := by rw [e3]; simp [wI_1, r2]
            rw [r3]
            intro M4 e4
            have r4 : M4.1 56 2 = nI (nF σ + 1) := by rw [e4, wI_1, if_pos rfl, if_pos rfl, nI_1]
            rw [r4, nI_pred]
            have g : Ag (fun k => k = 56 ∨ k = 59 ∨ k = 60 ∨ k = 61) (fun _ => False) M M4 := by
              rw [e4, e3, e2, e1]; exact (((agI (by omega)).trans (agI (by omega))).trans (agI (by omega))).trans (agI (by omega))
            refine K M4 (RM_plate h (g.mono (fun k hk => by omega) (fun k hk => hk.elim)) ?_ (fun k hk => ?_) ?_) (g.mono (fun k hk => by unfold D56; omega) (fun k hk => hk.elim))
            · refine ⟨?_, ?_, r4, ?_⟩ <;> (rw [e4, e3, e2, e1]; simp [wI_1])
            · rw [e4, e3, e2, e1]; simp [wI_1, show k ≠ nF σ by omega]
            · rw [e4, e3, e2, e1, x1, x2, y2]; simp [wI_1]
          · have he : ¬ nF σ < 10 := fun q => by
              have := (nI_eq (by omega) (by decide)).mp (show nI (nF σ) = nI 10 from c6)
              omega
            have e : op_face σ (nI i) (nI j) (nI l) = (-4, σ) := e0.trans ((cif_neg hn2 _ _).trans (cif_neg he _ _))
            rw [e] at K; exact K M h Ag.rf
      · rw [ex, ey, ez] at e0
        rw [e0] at K
        exact h_faceL hW h (by omega) (by omega) (by omega) 1 (by decide) rfl (fun q => ⟨fun c => absurd c (by decide), fun _ => K M h Ag.rf⟩) (fun q => absurd q (by decide))
    · have e : op_face σ (nI i) (nI j) (nI l) = (-3, σ) := by rw [e0, ex, ey]
      rw [e] at K
      exact h_faceL hW h (by omega) (by omega) (by omega) 1 (by decide) rfl (fun q => ⟨fun c => absurd c (by decide), fun _ => K M h Ag.rf⟩) (fun q => absurd q (by decide))
  · have e : op_face σ (nI i) (nI j) (nI l) = (-3, σ) := by rw [e0, ex]
    rw [e] at K
    exact h_faceL hW h (by omega) (by omega) (by omega) 1 (by decide) rfl (fun q => ⟨fun c => absurd c (by decide), fun _ => K M h Ag.rf⟩) (fun q => absurd q (by decide))
end MOPS4
