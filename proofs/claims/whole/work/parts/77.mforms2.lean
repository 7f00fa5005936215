/-! the reference's forms: rim, cup, mix, about -/
def rmN (σ : Sg) (f d n s : Nat) : Int64 := smJ (fun k => (iI (sgn σ d k s)).toInt64 * (fN σ f k).toInt64) n
section MFORMS2
variable {σ : Sg} {M0 M : Mem}
theorem h_makeRim1 (hW : WF σ) (h : RM σ M0) (r : RDm M0 M) (z0 : ∀ k, k < 12 → M.2 68 k = 0) {f : Nat} (hf : f < 12) (hd : fD σ f = 1) {kx : Int32 → Mem → Prop} {post : Mem → Prop} (K : ∀ M', RDm M0 M' → (∀ k, k < 12 → M'.2 68 k = rmN σ f 1 (nE σ) k) → kx (nI f) M') : ∃ n, q_Mo_makeRim_L23 kx post n (nI f) 0 M := by
  have hP := hW.1
  refine pk_loop (fun m i (M' : Mem) => q_Mo_makeRim_L23 kx post m (nI f) (nI i) M') (fun i M' => RDm M0 M' ∧ ∀ k, k < 12 → M'.2 68 k = rmN σ f 1 i k) (nE σ) 0 M (Nat.zero_le _) ⟨r, fun k hk => z0 k hk⟩ ?_ ?_
  · rintro m M1 ⟨r1, h1⟩
    unfold q_Mo_makeRim_L23
    rw [(RDm.rm h r1).1.2.1]
    exact ⟨fun _ => K M1 r1 h1, fun c => absurd (nI_le (Nat.le_refl _) (by omega)) c⟩
  · rintro m i M1 hi ⟨r1, h1⟩ ih
    have rc1 := RDm.rm h r1
    have w := hW.2.1 i hi
    have hc := rc1.2.1 i hi
    unfold q_Mo_makeRim_L23
    rw [rc1.1.2.1, clm (by omega), clm (by omega), (rc1.2.2.2.2.1 f hf).1, hd, hc.2, clm (by omega), nI_1]
    refine ⟨fun c => absurd c (nI_ge hi (by omega)), fun _ => ⟨vp_in_nI hf (by decide), fun c => absurd rfl c, fun _ => ⟨vp_in_nI (by omega) (by decide), vp_in_nI (by omega) (by decide), h_Mo_at rc1 rfl hf (by omega) ⟨vp_in_nI (by omega) (by decide), fun M7 e7 => ?_⟩⟩⟩⟩
    have r7 : RDm M0 M7 := by rw [e7]; exact r1.trans (agJ rfl)
    have rc7 := RDm.rm h r7
    have v7 : ∀ k, M7.2 68 k = if k = vE σ i then M1.2 68 (vE σ i) + (fN σ f i).toInt64 else M1.2 68 k := fun k => by rw [e7, wJ_2, if_pos rfl]
    rw [(rc7.2.1 i hi).1, clm (by omega)]
    refine ⟨vp_in_nI (by omega) (by decide), vp_in_nI (by omega) (by decide), h_Mo_at rc7 rfl hf (by omega) ⟨vp_in_nI (by omega) (by decide), fun M10 e10 => ?_⟩⟩
    refine ih M10 ⟨by rw [e10]; exact r7.trans (agJ rfl), fun k hk => ?_⟩
    have hm : rmN σ f 1 (i + 1) k = rmN σ f 1 i k + (iI (sgn σ 1 i k)).toInt64 * (fN σ f i).toInt64 := rfl
    rw [hm, sgn1_mul hW hi, e10, wJ_2, if_pos rfl, v7, v7, if_neg (show ¬ vB σ i = vE σ i by omega), ← h1 k hk]
    by_cases a : k = vB σ i
    · subst a; rw [if_pos rfl, if_neg (show ¬ vB σ i = vE σ i by omega), if_pos rfl]; grind
    · by_cases b : k = vE σ i
      · subst b; rw [if_neg a, if_pos rfl, if_pos rfl, if_neg a]; grind
      · rw [if_neg a, if_neg b, if_neg b, if_neg a]; grind
theorem h_makeRim2 (hW : WF σ) (h : RM σ M0) (r : RDm M0 M) (z0 : ∀ k, k < 12 → M.2 68 k = 0) {f : Nat} (hf : f < 12) (hd : fD σ f = 2) {kx post : Mem → Prop} (K : ∀ M', RDm M0 M' → (∀ k, k < 12 → M'.2 68 k = rmN σ f 2 (nF σ) k) → kx M') : ∃ n, q_Mo_makeRim_L89 kx post n (nI f) 0 M := by
  have hP := hW.1
  refine pk_loop (fun m i (M' : Mem) => q_Mo_makeRim_L89 kx post m (nI f) (nI i) M') (fun i M' => RDm M0 M' ∧ ∀ k, k < 12 → M'.2 68 k = rmN σ f 2 i k) (nF σ) 0 M (Nat.zero_le _) ⟨r, fun k hk => z0 k hk⟩ ?_ ?_
  · rintro m M1 ⟨r1, h1⟩
    unfold q_Mo_makeRim_L89
    rw [(RDm.rm h r1).1.2.2]
    exact ⟨fun _ => K M1 r1 h1, fun c => absurd (nI_le (Nat.le_refl _) (by omega)) c⟩
  · rintro m i M1 hi ⟨r1, h1⟩ ih
    have rc1 := RDm.rm h r1
    have w := hW.2.2.2.1 i hi
    have ne := plate_ne hW hi
    have hc := rc1.2.2.1 i hi
    unfold q_Mo_makeRim_L89
    rw [rc1.1.2.2, clm (by omega), clm (by omega), (rc1.2.2.2.2.1 f hf).1, hd, hc.1, hc.2.1, nI_1]
    refine ⟨fun c => absurd c (nI_ge hi (by omega)), fun _ => ⟨vp_in_nI hf (by decide), fun c => absurd rfl c, fun _ => ⟨vp_in_nI (by omega) (by decide), vp_in_nI (by omega) (by decide), h_edgeIs hW rc1 w.1 rfl rfl ⟨vp_in_nI (by omega) (by decide), h_Mo_at rc1 rfl hf (by omega) ⟨vp_in_nI (by omega) (by decide), fun M7 e7 => ?_⟩⟩⟩⟩⟩
    rw [clm (by omega)] at e7
    have r7 : RDm M0 M7 := by rw [e7]; exact r1.trans (agJ rfl)
    have rc7 := RDm.rm h r7
    have v7 : ∀ k, M7.2 68 k = if k = pF1 σ i then M1.2 68 (pF1 σ i) + (fN σ f i).toInt64 else M1.2 68 k := fun k => by rw [e7, wJ_2, if_pos rfl]
    have hc7 := rc7.2.2.1 i hi
    rw [hc7.2.1, hc7.2.2]
    refine ⟨vp_in_nI (by omega) (by decide), vp_in_nI (by omega) (by decide), h_edgeIs hW rc7 w.2.1 w.2.2.2.1 rfl ⟨vp_in_nI (by omega) (by decide), h_Mo_at rc7 rfl hf (by omega) ⟨vp_in_nI (by omega) (by decide), fun M8 e8 => ?_⟩⟩⟩
    rw [clm (by omega)] at e8
    have r8 : RDm M0 M8 := by rw [e8]; exact r7.trans (agJ rfl)
    have rc8 := RDm.rm h r8
    have v8 : ∀ k, M8.2 68 k = if k = pS1 σ i then M7.2 68 (pS1 σ i) + (fN σ f i).toInt64 else M7.2 68 k := fun k => by rw [e8, wJ_2, if_pos rfl]
    have hc8 := rc8.2.2.1 i hi
    rw [hc8.1, hc8.2.2]
    refine ⟨vp_in_nI (by omega) (by decide), vp_in_nI (by omega) (by decide), h_edgeIs hW rc8 w.2.2.1 w.2.2.2.2.1.symm w.2.2.2.2.2.symm ⟨vp_in_nI (by omega) (by decide), h_Mo_at rc8 rfl hf (by omega) ⟨vp_in_nI (by omega) (by decide), fun M10 e10 => ?_⟩⟩⟩
    rw [clm (by omega)] at e10
    refine ih M10 ⟨by rw [e10]; exact r8.trans (agJ rfl), fun k hk => ?_⟩
    have hm : rmN σ f 2 (i + 1) k = rmN σ f 2 i k + (iI (sgn σ 2 i k)).toInt64 * (fN σ f i).toInt64 := rfl
    rw [hm, sgn2_mul hW hi, e10, wJ_2, if_pos rfl, v8, v8, v7, v7, v7, if_neg (show ¬ pA1 σ i = pS1 σ i from ne.2.2), if_neg (show ¬ pA1 σ i = pF1 σ i from ne.2.1), if_neg (show ¬ pS1 σ i = pF1 σ i from fun q => ne.1 q.symm), ← h1 k hk]
    by_cases a : k = pF1 σ i
    · subst a; rw [if_neg (fun q => ne.2.1 q.symm), if_neg ne.1, if_pos rfl, if_pos rfl, if_neg ne.1, if_neg (fun q => ne.2.1 q.symm)]; grind
    · by_cases b : k = pS1 σ i
      · subst b; rw [if_neg (fun q => ne.2.2 q.symm), if_pos rfl, if_neg a, if_pos rfl, if_neg (fun q => ne.2.2 q.symm)]; grind
      · by_cases c : k = pA1 σ i
        · subst c; rw [if_pos rfl, if_neg a, if_neg b, if_pos rfl]; grind
        · rw [if_neg c, if_neg b, if_neg a, if_neg a, if_neg b, if_neg c]; grind
theorem h_Mo_makeRim (hW : WF σ) (h : RM σ M0) (r : RDm M0 M) {f : Nat} (hf : f < 12) (hd : 1 ≤ fD σ f) {post : Mem → Prop} (K : ∀ M', RDm M0 M' → (∀ k, k < sz σ (fD σ f - 1) → M'.2 68 k = rmF σ f k) → post M') : q_Mo_makeRim (nI f) M post := by
  have hz := hW.sz (fD σ f - 1)
  have hd2 := (hW.2.2.2.2.2.2.1 f hf).1
  have hP := hW.1
  unfold q_Mo_makeRim
  refine pk_loop (fun m i (M' : Mem) => q_Mo_makeRim_L2 _ post m (nI f) (nI i) M') (fun i M' => RDm M0 M' ∧ ∀ k, k < i → M'.2 68 k = 0) 12 0 M (Nat.zero_le _) ⟨r, fun k hk => by omega⟩ ?_ ?_
  · rintro m M1 ⟨r1, h1⟩
    have rc1 := RDm.rm h r1
    unfold q_Mo_makeRim_L2
    refine ⟨fun _ => ?_, fun c => absurd (show (12 : Int32) ≤ nI 12 by decide) c⟩
    rcases Nat.lt_or_ge (fD σ f) 2 with z | z
    · have z : fD σ f = 1 := by omega
      refine h_makeRim1 hW h r1 h1 hf z (fun M2 r2 h2 => ⟨1, ?_⟩)
      have rc2 := RDm.rm h r2
      have fin : post M2 := K M2 r2 (fun k hk => by rw [h2 k (by omega)]; unfold rmN rmF; rw [z]; rfl)
      unfold q_Mo_makeRim_L89
      refine ⟨fun _ => fin, fun _ => ⟨vp_in_nI hf (by decide), fun _ => fin, fun c => ?_⟩⟩
      rw [clm (by omega), (rc2.2.2.2.2.1 f hf).1, z] at c
      exact absurd c (by decide)
    · have z : fD σ f = 2 := by omega
      have fin := h_makeRim2 (kx := fun M30 => post M30) (post := post) hW h r1 h1 hf z (fun M2 r2 h2 => K M2 r2 (fun k hk => by rw [h2 k (by omega)]; unfold rmN rmF; rw [z]; rfl))
      refine ⟨1, ?_⟩
      unfold q_Mo_makeRim_L23
      refine ⟨fun _ => fin, fun _ => ⟨vp_in_nI hf (by decide), fun _ => fin, fun c => ?_⟩⟩
      rw [clm (by omega), (rc1.2.2.2.2.1 f hf).1, z] at c
      exact absurd c (by decide)
  · rintro m i M1 hi ⟨r1, h1⟩ ih
    unfold q_Mo_makeRim_L2
    rw [clm (by omega), nI_1]
    refine ⟨fun c => absurd (show nI 12 ≤ nI i from c) (nI_ge hi (by decide)), fun _ => ⟨vp_in_nI hi (by decide), fun M2 e2 => ih M2 ⟨by rw [e2]; exact r1.trans (agJ rfl), fun k hk => ?_⟩⟩⟩
    rw [e2, wJ_2, if_pos rfl]
    by_cases z : k = i
    · rw [if_pos z]
    · rw [if_neg z]; exact h1 k (by omega)
theorem h_Mo_slope (hW : WF σ) (h : RM σ M) {f g : Int32} {post : Int32 → Mem → Prop} (K : ∀ M', RM (op_slope σ f g).2 M' → Ag D56 D56 M M' → post (op_slope σ f g).1 M') : q_Mo_slope f g M post := by
  unfold q_Mo_slope
  have bad : ¬ (vp_in f 12 ∧ vp_in g 12) → post (-2) M := fun q => by
    have e : op_slope σ f g = (-2, σ) := cif_neg q _ _
    rw [e] at K; exact K M h Ag.rf
  refine h_isForm (fun i hi ei => ⟨fun c => absurd c (by decide), fun _ => ?_⟩) (fun c => ⟨fun _ => bad (fun q => c q.1), fun c => absurd rfl c⟩)
  refine h_isForm (fun j hj ej => ⟨fun _ => ?_, fun c => absurd c (by decide)⟩) (fun c => ⟨fun c => absurd rfl c, fun _ => bad (fun q => c q.2)⟩)
  subst ei ej
  have hf := h.2.2.2.2.1 i hi
  have hd := (hW.2.2.2.2.2.2.1 i hi).1
  rw [clm (by omega), hf.1]
  refine ⟨vp_in_nI hi (by decide), fun c => ?_, fun c => ?_⟩
  · have hd2 : ¬ fD σ i = 2 := fun q => c (by rw [q]; rfl)
    have e : op_slope σ (nI i) (nI j) = put σ j (fD σ i + 1) (slp σ i) := by
      unfold op_slope; rw [cif_pos ⟨vp_in_nI hi (by decide), vp_in_nI hj (by decide)⟩, tnI (by omega), tnI (by omega), cif_neg hd2]
    rw [e] at K
    refine h_Mo_makeSlope hW h Ag.rf hi (by omega) (fun M' r' h1 => ⟨vp_in_nI hi (by decide), ?_⟩)
    rw [((RDm.rm h r').2.2.2.2.1 i hi).1, nI_1]
    exact h_becomes hW h r' hj (by omega) h1 K
  · have hd2 : fD σ i = 2 := (nI_eq (by omega) (by decide)).mp (show nI (fD σ i) = nI 2 from c)
    have e : op_slope σ (nI i) (nI j) = (-3, σ) := by
      unfold op_slope; rw [cif_pos ⟨vp_in_nI hi (by decide), vp_in_nI hj (by decide)⟩, tnI (by omega), tnI (by omega), cif_pos hd2]
    rw [e] at K; exact K M h Ag.rf
theorem h_Mo_rim (hW : WF σ) (h : RM σ M) {f g : Int32} {post : Int32 → Mem → Prop} (K : ∀ M', RM (op_rim σ f g).2 M' → Ag D56 D56 M M' → post (op_rim σ f g).1 M') : q_Mo_rim f g M post := by
  unfold q_Mo_rim
  have bad : ¬ (vp_in f 12 ∧ vp_in g 12) → post (-2) M := fun q => by
    have e : op_rim σ f g = (-2, σ) := cif_neg q _ _
    rw [e] at K; exact K M h Ag.rf
  refine h_isForm (fun i hi ei => ⟨fun c => absurd c (by decide), fun _ => ?_⟩) (fun c => ⟨fun _ => bad (fun q => c q.1), fun c => absurd rfl c⟩)
  refine h_isForm (fun j hj ej => ⟨fun _ => ?_, fun c => absurd c (by decide)⟩) (fun c => ⟨fun c => absurd rfl c, fun _ => bad (fun q => c q.2)⟩)
  subst ei ej
  have hf := h.2.2.2.2.1 i hi
  have hd := (hW.2.2.2.2.2.2.1 i hi).1
  rw [clm (by omega), hf.1]
  refine ⟨vp_in_nI hi (by decide), fun c => ?_, fun c => ?_⟩
  · have hd2 : ¬ fD σ i = 0 := fun q => c (by rw [q]; rfl)
    have em : nI (fD σ i) - 1 = nI (fD σ i - 1) := by
      obtain ⟨e, he⟩ : ∃ e, fD σ i = e + 1 := ⟨fD σ i - 1, by omega⟩
      rw [he, nI_pred]; rfl
    have e : op_rim σ (nI i) (nI j) = put σ j (fD σ i - 1) (rmF σ i) := by
      unfold op_rim; rw [cif_pos ⟨vp_in_nI hi (by decide), vp_in_nI hj (by decide)⟩, tnI (by omega), tnI (by omega), cif_neg hd2]
    rw [e] at K
    refine h_Mo_makeRim hW h Ag.rf hi (by omega) (fun M' r' h1 => ⟨vp_in_nI hi (by decide), ?_⟩)
    rw [((RDm.rm h r').2.2.2.2.1 i hi).1, em]
    exact h_becomes hW h r' hj (by omega) h1 K
  · have hd2 : fD σ i = 0 := (nI_eq (by omega) (by decide)).mp (show nI (fD σ i) = nI 0 from c)
    have e : op_rim σ (nI i) (nI j) = (-3, σ) := by
      unfold op_rim; rw [cif_pos ⟨vp_in_nI hi (by decide), vp_in_nI hj (by decide)⟩, tnI (by omega), tnI (by omega), cif_pos hd2]
    rw [e] at K; exact K M h Ag.rf
end MFORMS2
