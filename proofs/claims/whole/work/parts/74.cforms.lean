/-! the class's forms: slope, rim, cup, mix, about -/
/-- a form is made of the numbers mk, if they fit -/
noncomputable def put (σ : Sg) (g d : Nat) (mk : Nat → Int64) : Int32 × Sg := cif (∀ k, k < sz σ d → w64 (mk k) 1000000) (nI d, uForm σ g d (fun k => if k < sz σ d then (mk k).toInt32 else 0)) (-5, σ)
def slp (σ : Sg) (f k : Nat) : Int64 := smJ (fun s => (iI (sgn σ (fD σ f + 1) k s)).toInt64 * (fN σ f s).toInt64) (sz σ (fD σ f))
def rmF (σ : Sg) (f s : Nat) : Int64 := smJ (fun k => (iI (sgn σ (fD σ f) k s)).toInt64 * (fN σ f k).toInt64) (sz σ (fD σ f))
noncomputable def op_slope (σ : Sg) (f g : Int32) : Int32 × Sg := cif (vp_in f 12 ∧ vp_in g 12) (cif (fD σ (tn f) = 2) (-3, σ) (put σ (tn g) (fD σ (tn f) + 1) (slp σ (tn f)))) (-2, σ)
noncomputable def op_rim (σ : Sg) (f g : Int32) : Int32 × Sg := cif (vp_in f 12 ∧ vp_in g 12) (cif (fD σ (tn f) = 0) (-3, σ) (put σ (tn g) (fD σ (tn f) - 1) (rmF σ (tn f)))) (-2, σ)
/-- memory as M0, but for what is made -/
def RD (M0 M : Mem) : Prop := Ag (fun _ => False) (fun k => k = 31) M0 M
theorem smJ_congr {f g : Nat → Int64} : ∀ {n : Nat}, (∀ k, k < n → f k = g k) → smJ f n = smJ g n := by
  intro n
  induction n with
  | zero => intro _; rfl
  | succ n ih => intro h; simp only [smJ]; rw [ih (fun k hk => h k (by omega)), h n (by omega)]
section CFORMS
variable {σ : Sg} {M0 M : Mem}
theorem RD.rc (h : RC σ M0) (r : RD M0 M) : RC σ M := h.ag (r.mono (fun k hk => hk.elim) (fun k hk => by unfold Sc; omega))
theorem toI32 {x : Int64} (h : w64 x 1000000) : x.toInt32.toInt = x.toInt := by
  rw [Int64.toInt_toInt32]
  exact Int.bmod_eq_of_le_mul_two (by have := h.1; have e : ((2 ^ 32 : Nat) : Int) = 4294967296 := by decide
                                      omega) (by have := h.2; have e : ((2 ^ 32 : Nat) : Int) = 4294967296 := by decide
                                                 omega)
theorem h_giveMade (hW : WF σ) (h : RC σ M0) (r : RD M0 M) {g d : Nat} (hg : g < 12) (hd : d ≤ 2) {mk : Nat → Int64} (hm : ∀ k, k < sz σ d → M.2 31 k = mk k) {post : Int32 → Mem → Prop} (K : ∀ M', RC (put σ g d mk).2 M' → Ag C56 C56 M0 M' → post (put σ g d mk).1 M') : q_Nf_giveMade g (nI d) M post := by
  have hz := hW.sz d
  have h' := RD.rc h r
  unfold q_Nf_giveMade
  refine h_Net_size h' hd ?_
  refine pk_loop (fun m i (M' : Mem) => q_Nf_giveMade_L12 g _ _ post m (nI d) (nI (sz σ d)) (nI i) M') (fun i M' => M' = M ∧ ∀ k, k < i → w64 (mk k) 1000000) (sz σ d) 0 M (Nat.zero_le _) ⟨rfl, fun k hk => by omega⟩ ?_ ?_
  · rintro m M1 ⟨rfl, hw⟩
    have e : put σ g d mk = (nI d, uForm σ g d (fun k => if k < sz σ d then (mk k).toInt32 else 0)) := cif_pos hw _ _
    rw [e] at K
    unfold q_Nf_giveMade_L12
    refine ⟨fun _ => h_Frm_begin (fun M2 g2 b1 b2 => ?_), fun c => absurd (nI_le (Nat.le_refl _) (by omega)) c⟩
    refine pk_loop (fun m i (M' : Mem) => q_Nf_giveMade_L50 g _ post m (nI d) (nI (sz σ d)) (nI i) M') (fun i M' => Ag (fun k => k = 33 + 2 * g) (fun _ => False) M2 M' ∧ ∀ k, k < 12 → M'.1 (33 + 2 * g) k = if k < i then (mk k).toInt32 else 0) (sz σ d) 0 M2 (Nat.zero_le _) ⟨Ag.rf, fun k hk => by rw [if_neg (by omega)]; exact b2 k hk⟩ ?_ ?_
    · rintro m M3 ⟨g3, h3⟩
      unfold q_Nf_giveMade_L50
      refine ⟨fun _ => ?_, fun c => absurd (nI_le (Nat.le_refl _) (by omega)) c⟩
      have g4 : Ag (fun k => k = 32 + 2 * g ∨ k = 33 + 2 * g) (fun k => k = 31) M0 M3 := (r.mono (fun k hk => hk.elim) (fun k hk => hk)).trans ((g2.mono (fun k hk => hk) (fun k hk => hk.elim)).trans (g3.mono (fun k hk => Or.inr hk) (fun k hk => hk.elim)))
      refine K M3 (RC_form h hg (g4.mono (fun k hk => by omega) (fun k hk => by unfold Sc; omega)) ?_ h3) (g4.mono (fun k hk => by unfold C56; omega) (fun k hk => by unfold C56; omega))
      rw [g3.1 (32 + 2 * g) (by omega)]; exact b1
    · rintro m i M3 hi ⟨g3, h3⟩ ih
      have e31 : M3.2 31 i = mk i := by rw [g3.2 31 (fun q => q), g2.2 31 (fun q => q)]; exact hm i hi
      unfold q_Nf_giveMade_L50
      rw [clm (by omega), nI_1, e31]
      refine ⟨fun c => absurd c (nI_ge hi (by omega)), fun _ => ⟨vp_in_nI (by omega) (by decide), vp_in_nI (by omega) (by decide), fun M4 e4 => ?_⟩⟩
      subst e4
      refine ih _ ⟨g3.trans (agI rfl), fun k hk => ?_⟩
      rw [wI_1, if_pos rfl]
      by_cases z : k = i
      · rw [if_pos z, if_pos (by omega), z]
      · rw [if_neg z, h3 k hk]
        by_cases z2 : k < i
        · rw [if_pos z2, if_pos (by omega)]
        · rw [if_neg z2, if_neg (by omega)]
  · rintro m i M1 hi ⟨rfl, hw⟩ ih
    unfold q_Nf_giveMade_L12
    rw [clm (by omega), nI_1, hm i hi]
    refine ⟨fun c => absurd c (nI_ge hi (by omega)), fun _ => ⟨vp_in_nI (by omega) (by decide), h_isWithin 1000000 (by decide) rfl (fun c => ⟨fun _ => ih _ ⟨rfl, fun k hk => ?_⟩, fun c => absurd c (by decide)⟩) (fun c => ⟨fun c => absurd rfl c, fun _ => ?_⟩)⟩⟩
    · rcases Nat.lt_or_ge k i with z | z
      · exact hw k z
      · have : k = i := by omega
        subst this; exact c
    · have e : put σ g d mk = (-5, σ) := cif_neg (fun q => c (q i hi)) _ _
      rw [e] at K
      exact K _ h' (r.mono (fun k hk => hk.elim) (fun k hk => by unfold C56; omega))
theorem h_makeSlope (hW : WF σ) (h : RC σ M0) (r : RD M0 M) {f : Nat} (hf : f < 12) (hd : fD σ f ≤ 1) {post : Mem → Prop} (K : ∀ M', RD M0 M' → (∀ k, k < sz σ (fD σ f + 1) → M'.2 31 k = slp σ f k) → post M') : q_Nf_makeSlope f M post := by
  have hz := hW.sz (fD σ f)
  have hz2 := hW.sz (fD σ f + 1)
  have hff := (RD.rc h r).2.2.2.2.1 f hf
  unfold q_Nf_makeSlope
  rw [hff.1]
  refine pk_loop (fun m i (M' : Mem) => q_Nf_makeSlope_L7 f _ post m (nI (fD σ f)) (nI i) M') (fun i M' => RD M0 M' ∧ ∀ k, k < i → M'.2 31 k = slp σ f k) (sz σ (fD σ f + 1)) 0 M (Nat.zero_le _) ⟨r, fun k hk => by omega⟩ ?_ ?_
  · rintro m M1 ⟨r1, h1⟩
    unfold q_Nf_makeSlope_L7
    rw [nI_1]
    exact h_Net_size (RD.rc h r1) (by omega) ⟨fun _ => K M1 r1 h1, fun c => absurd (nI_le (Nat.le_refl _) (by omega)) c⟩
  · rintro m i M1 hi ⟨r1, h1⟩ ih
    have rc1 := RD.rc h r1
    unfold q_Nf_makeSlope_L7
    rw [nI_1]
    refine h_Net_size rc1 (by omega) ⟨fun c => absurd c (nI_ge hi (by omega)), fun _ => ?_⟩
    refine pk_loop (fun m j (s : Int64 × Mem) => q_Nf_makeSlope_L27 f _ post m (nI (fD σ f)) (nI i) s.1 (nI j) s.2) (fun j s => s.2 = M1 ∧ s.1 = smJ (fun s => (iI (sgn σ (fD σ f + 1) i s)).toInt64 * (fN σ f s).toInt64) j) (sz σ (fD σ f)) 0 (0, M1) (Nat.zero_le _) ⟨rfl, rfl⟩ ?_ ?_
    · rintro m2 ⟨c, M2⟩ ⟨e1, e2⟩
      dsimp only at e1 e2
      subst e1 e2
      unfold q_Nf_makeSlope_L27
      refine h_Net_size rc1 (by omega) ⟨fun _ => ?_, fun c => absurd (nI_le (Nat.le_refl _) (by omega)) c⟩
      dsimp only
      rw [clm (by omega), nI_1]
      refine ⟨vp_in_nI (by omega) (by decide), fun M3 e3 => ?_⟩
      subst e3
      refine ih _ ⟨r1.trans (agJ rfl), fun k hk => ?_⟩
      rw [wJ_2, if_pos rfl]
      by_cases z : k = i
      · rw [if_pos z, z]; rfl
      · rw [if_neg z]; exact h1 k (by omega)
    · rintro m2 j ⟨c, M2⟩ hj ⟨e1, e2⟩ ih2
      dsimp only at e1 e2
      subst e1 e2
      unfold q_Nf_makeSlope_L27
      refine h_Net_size rc1 (by omega) ⟨fun c => absurd c (nI_ge hj (by omega)), fun _ => ?_⟩
      dsimp only
      rw [nI_1, nI_1]
      refine h_Net_signOf hW rc1 (by omega) hi (by omega) ?_
      rw [clm (by omega), (rc1.2.2.2.2.1 f hf).2 j (by omega)]
      exact ⟨vp_in_nI (by omega) (by decide), ih2 (_, _) ⟨rfl, rfl⟩⟩
theorem h_makeRim (hW : WF σ) (h : RC σ M0) (r : RD M0 M) {f : Nat} (hf : f < 12) (hd : 1 ≤ fD σ f) {post : Mem → Prop} (K : ∀ M', RD M0 M' → (∀ k, k < sz σ (fD σ f - 1) → M'.2 31 k = rmF σ f k) → post M') : q_Nf_makeRim f M post := by
  have hz := hW.sz (fD σ f)
  have hz2 := hW.sz (fD σ f - 1)
  have hd2 := (hW.2.2.2.2.2.2.1 f hf).1
  have hff := (RD.rc h r).2.2.2.2.1 f hf
  have em : nI (fD σ f) - 1 = nI (fD σ f - 1) := by
    obtain ⟨e, he⟩ : ∃ e, fD σ f = e + 1 := ⟨fD σ f - 1, by omega⟩
    rw [he, nI_pred]; rfl
  unfold q_Nf_makeRim
  rw [hff.1]
  refine pk_loop (fun m i (M' : Mem) => q_Nf_makeRim_L7 f _ post m (nI (fD σ f)) (nI i) M') (fun i M' => RD M0 M' ∧ ∀ k, k < i → M'.2 31 k = rmF σ f k) (sz σ (fD σ f - 1)) 0 M (Nat.zero_le _) ⟨r, fun k hk => by omega⟩ ?_ ?_
  · rintro m M1 ⟨r1, h1⟩
    unfold q_Nf_makeRim_L7
    rw [em]
    exact h_Net_size (RD.rc h r1) (by omega) ⟨fun _ => K M1 r1 h1, fun c => absurd (nI_le (Nat.le_refl _) (by omega)) c⟩
  · rintro m i M1 hi ⟨r1, h1⟩ ih
    have rc1 := RD.rc h r1
    unfold q_Nf_makeRim_L7
    rw [em]
    refine h_Net_size rc1 (by omega) ⟨fun c => absurd c (nI_ge hi (by omega)), fun _ => ?_⟩
    refine pk_loop (fun m j (s : Int64 × Mem) => q_Nf_makeRim_L27 f _ post m (nI (fD σ f)) (nI i) s.1 (nI j) s.2) (fun j s => s.2 = M1 ∧ s.1 = smJ (fun k => (iI (sgn σ (fD σ f) k i)).toInt64 * (fN σ f k).toInt64) j) (sz σ (fD σ f)) 0 (0, M1) (Nat.zero_le _) ⟨rfl, rfl⟩ ?_ ?_
    · rintro m2 ⟨c, M2⟩ ⟨e1, e2⟩
      dsimp only at e1 e2
      subst e1 e2
      unfold q_Nf_makeRim_L27
      refine h_Net_size rc1 (by omega) ⟨fun _ => ?_, fun c => absurd (nI_le (Nat.le_refl _) (by omega)) c⟩
      dsimp only
      rw [clm (by omega), nI_1]
      refine ⟨vp_in_nI (by omega) (by decide), fun M3 e3 => ?_⟩
      subst e3
      refine ih _ ⟨r1.trans (agJ rfl), fun k hk => ?_⟩
      rw [wJ_2, if_pos rfl]
      by_cases z : k = i
      · rw [if_pos z, z]; rfl
      · rw [if_neg z]; exact h1 k (by omega)
    · rintro m2 j ⟨c, M2⟩ hj ⟨e1, e2⟩ ih2
      dsimp only at e1 e2
      subst e1 e2
      unfold q_Nf_makeRim_L27
      refine h_Net_size rc1 (by omega) ⟨fun c => absurd c (nI_ge hj (by omega)), fun _ => ?_⟩
      dsimp only
      rw [nI_1]
      refine h_Net_signOf hW rc1 (by omega) hj (by omega) ?_
      rw [clm (by omega), (rc1.2.2.2.2.1 f hf).2 j (by omega)]
      exact ⟨vp_in_nI (by omega) (by decide), ih2 (_, _) ⟨rfl, rfl⟩⟩
theorem h_Nf_slope (hW : WF σ) (h : RC σ M) {f g : Int32} {post : Int32 → Mem → Prop} (K : ∀ M', RC (op_slope σ f g).2 M' → Ag C56 C56 M M' → post (op_slope σ f g).1 M') : q_Nf_slope f g M post := by
  unfold q_Nf_slope
  have bad : ¬ (vp_in f 12 ∧ vp_in g 12) → post (-2) M := fun q => by
    have e : op_slope σ f g = (-2, σ) := cif_neg q _ _
    rw [e] at K; exact K M h Ag.rf
  refine h_formAt (fun i hi ei => h_formAt (fun j hj ej => ⟨(fun c => nomatch c), fun i5 c => ?_⟩) (fun cg => ⟨(fun c => nomatch c), fun i5 c => ?_⟩)) (fun cf => h_formAt (fun j hj ej => ⟨fun _ => bad (fun q => cf q.1), fun i5 c => nomatch c⟩) (fun cg => ⟨fun _ => bad (fun q => cf q.1), fun i5 c => nomatch c⟩))
  · cases c
    refine ⟨hi, (fun c => nomatch c), fun i6 c => ?_⟩
    cases c
    subst ei ej
    have hf := h.2.2.2.2.1 i hi
    have hd := (hW.2.2.2.2.2.2.1 i hi).1
    refine ⟨hj, ?_⟩
    rw [hf.1]
    refine ⟨fun c => ?_, fun c => ?_⟩
    · have hd2 : ¬ fD σ i = 2 := fun q => c (by rw [q]; rfl)
      have e : op_slope σ (nI i) (nI j) = put σ j (fD σ i + 1) (slp σ i) := by
        unfold op_slope; rw [cif_pos ⟨vp_in_nI hi (by decide), vp_in_nI hj (by decide)⟩, tnI (by omega), tnI (by omega), cif_neg hd2]
      rw [e] at K
      refine h_makeSlope hW h Ag.rf hi (by omega) (fun M' r' h1 => ?_)
      rw [((RD.rc h r').2.2.2.2.1 i hi).1, nI_1]
      exact h_giveMade hW h r' hj (by omega) h1 K
    · have hd2 : fD σ i = 2 := (nI_eq (by omega) (by decide)).mp (show nI (fD σ i) = nI 2 from c)
      have e : op_slope σ (nI i) (nI j) = (-3, σ) := by
        unfold op_slope; rw [cif_pos ⟨vp_in_nI hi (by decide), vp_in_nI hj (by decide)⟩, tnI (by omega), tnI (by omega), cif_pos hd2]
      rw [e] at K; exact K M h Ag.rf
  · cases c
    exact ⟨hi, fun _ => bad (fun q => cg q.2), fun i6 c => nomatch c⟩
theorem h_Nf_rim (hW : WF σ) (h : RC σ M) {f g : Int32} {post : Int32 → Mem → Prop} (K : ∀ M', RC (op_rim σ f g).2 M' → Ag C56 C56 M M' → post (op_rim σ f g).1 M') : q_Nf_rim f g M post := by
  unfold q_Nf_rim
  have bad : ¬ (vp_in f 12 ∧ vp_in g 12) → post (-2) M := fun q => by
    have e : op_rim σ f g = (-2, σ) := cif_neg q _ _
    rw [e] at K; exact K M h Ag.rf
  refine h_formAt (fun i hi ei => h_formAt (fun j hj ej => ⟨(fun c => nomatch c), fun i5 c => ?_⟩) (fun cg => ⟨(fun c => nomatch c), fun i5 c => ?_⟩)) (fun cf => h_formAt (fun j hj ej => ⟨fun _ => bad (fun q => cf q.1), fun i5 c => nomatch c⟩) (fun cg => ⟨fun _ => bad (fun q => cf q.1), fun i5 c => nomatch c⟩))
  · cases c
    refine ⟨hi, (fun c => nomatch c), fun i6 c => ?_⟩
    cases c
    subst ei ej
    have hf := h.2.2.2.2.1 i hi
    have hd := (hW.2.2.2.2.2.2.1 i hi).1
    refine ⟨hj, ?_⟩
    rw [hf.1]
    refine ⟨fun c => ?_, fun c => ?_⟩
    · have hd2 : ¬ fD σ i = 0 := fun q => c (by rw [q]; rfl)
      have e : op_rim σ (nI i) (nI j) = put σ j (fD σ i - 1) (rmF σ i) := by
        unfold op_rim; rw [cif_pos ⟨vp_in_nI hi (by decide), vp_in_nI hj (by decide)⟩, tnI (by omega), tnI (by omega), cif_neg hd2]
      rw [e] at K
      refine h_makeRim hW h Ag.rf hi (by omega) (fun M' r' h1 => ?_)
      have em : nI (fD σ i) - 1 = nI (fD σ i - 1) := by
        obtain ⟨e, he⟩ : ∃ e, fD σ i = e + 1 := ⟨fD σ i - 1, by omega⟩
        rw [he, nI_pred]; rfl
      rw [((RD.rc h r').2.2.2.2.1 i hi).1, em]
      exact h_giveMade hW h r' hj (by omega) h1 K
    · have hd2 : fD σ i = 0 := (nI_eq (by omega) (by decide)).mp (show nI (fD σ i) = nI 0 from c)
      have e : op_rim σ (nI i) (nI j) = (-3, σ) := by
        unfold op_rim; rw [cif_pos ⟨vp_in_nI hi (by decide), vp_in_nI hj (by decide)⟩, tnI (by omega), tnI (by omega), cif_pos hd2]
      rw [e] at K; exact K M h Ag.rf
  · cases c
    exact ⟨hi, fun _ => bad (fun q => cg q.2), fun i6 c => nomatch c⟩
end CFORMS
