/-! the reference's calls: raise, wave, corner, face -/
section MOPS3
variable {σ : Sg} {M : Mem}
theorem h_Mo_raise (hW : WF σ) (h : RM σ M) {f : Int32} {post : Int32 → Mem → Prop} (K : ∀ M', RM (op_raise σ f).2 M' → Ag D56 D56 M M' → post (op_raise σ f).1 M') : q_Mo_raise f M post := by
  have hP := hW.1
  unfold q_Mo_raise
  refine h_isForm (fun i hi e => ⟨fun _ => ?_, fun c => absurd c (by decide)⟩) (fun c => ⟨fun c => absurd rfl c, fun _ => ?_⟩)
  · subst e
    have hf := h.2.2.2.2.1 i hi
    have wf := hW.2.2.2.2.2.2.1 i hi
    have hd := wf.1
    rw [clm (by omega), hf.1]
    refine ⟨vp_in_nI hi (by decide), fun c => ?_, fun c => ?_⟩
    · have hd2 : ¬ fD σ i = 2 := fun q => c (by rw [q]; rfl)
      have e : op_raise σ (nI i) = (1, uWave σ 0 (fun q => if fD σ i = 0 ∧ q < nP σ then (fN σ i q).toInt64 else 0) (fun k => if fD σ i = 1 ∧ k < nE σ then (fN σ i k).toInt64 else 0)) := by
        unfold op_raise; rw [cif_pos (vp_in_nI hi (by decide)), tnI (by omega), cif_neg hd2]
      rw [e] at K
      refine pk_loop (fun m j (M' : Mem) => q_Mo_raise_L25 _ post m (nI i) (nI j) M') (fun j M' => Ag (fun _ => False) (fun k => k = 66) M M' ∧ (∀ q, q < j → M'.2 66 q = if fD σ i = 0 then (fN σ i q).toInt64 else 0) ∧ ∀ q, j ≤ q → M'.2 66 q = M.2 66 q) (nP σ) 0 M (Nat.zero_le _) ⟨Ag.rf, fun q hq => by omega, fun q hq => rfl⟩ ?_ ?_
      · rintro m M1 ⟨g1, b1, b2⟩
        unfold q_Mo_raise_L25
        rw [g1.1 56 (fun q => q), h.1.1]
        refine ⟨fun _ => ?_, fun c => absurd (nI_le (Nat.le_refl _) (by omega)) c⟩
        refine pk_loop (fun m j (M' : Mem) => q_Mo_raise_L66 _ post m (nI i) (nI j) M') (fun j M' => Ag (fun _ => False) (fun k => k = 67) M1 M' ∧ ∀ q, q < j → M'.2 67 q = if fD σ i = 1 then (fN σ i q).toInt64 else 0) 12 0 M1 (Nat.zero_le _) ⟨Ag.rf, fun q hq => by omega⟩ ?_ ?_
        · rintro m M2 ⟨g2, c1⟩
          unfold q_Mo_raise_L66
          refine ⟨fun _ => ?_, fun c => absurd (show (12 : Int32) ≤ nI 12 by decide) c⟩
          intro M3 e3
          have g3 : Ag (fun k => k = 56) (fun k => k = 66 ∨ k = 67) M M3 := by
            rw [e3]
            exact ((g1.mono (fun k hk => hk.elim) (fun k hk => Or.inl hk)).trans (g2.mono (fun k hk => hk.elim) (fun k hk => Or.inr hk))).trans (agI rfl)
          refine K M3 (RM_wave h (g3.mono (fun k hk => Or.inl hk) (fun k hk => by omega)) (fun j hj => ?_) ?_ (fun q hq => ?_) (fun k hk => ?_)) (g3.mono (fun k hk => by unfold D56; omega) (fun k hk => by unfold D56; omega))
          · rw [e3, wI_1, if_pos rfl, if_neg (by omega), g2.1 56 (fun q => q), g1.1 56 (fun q => q)]
          · rw [e3, wI_1, if_pos rfl, if_pos rfl]
          · rw [e3]
            show M2.2 66 q = _
            rw [g2.2 66 (by omega)]
            rcases Nat.lt_or_ge q (nP σ) with z | z
            · rw [b1 q z]
              by_cases y : fD σ i = 0
              · rw [if_pos y, if_pos ⟨y, z⟩]
              · rw [if_neg y, if_neg (fun w => y w.1)]
            · rw [b2 q z, if_neg (fun w => by have := w.2; omega), (h.2.2.2.1 q hq).2.2]
              exact (hW.2.2.2.2.2.2.2.2.1 q hq z).1
          · rw [e3]
            show M2.2 67 k = _
            rw [c1 k hk]
            by_cases y : fD σ i = 1
            · rw [if_pos y]
              rcases Nat.lt_or_ge k (nE σ) with z | z
              · rw [if_pos ⟨y, z⟩]
              · rw [if_neg (fun w => by have := w.2; omega), (wf.2 k hk).2 (by rw [y]; exact z)]; rfl
            · rw [if_neg y, if_neg (fun w => y w.1)]
        · rintro m j M2 hj ⟨g2, c1⟩ ih
          have e62 : M2.1 62 i = nI (fD σ i) := by rw [g2.1 62 (fun q => q), g1.1 62 (fun q => q)]; exact hf.1
          have e63 : M2.1 63 = M.1 63 := by rw [g2.1 63 (fun q => q), g1.1 63 (fun q => q)]
          unfold q_Mo_raise_L66
          rw [clm (by omega), clm (by omega), e62, nI_1]
          refine ⟨fun c => absurd (show nI 12 ≤ nI j from c) (nI_ge hj (by decide)), fun _ => ⟨vp_in_nI hi (by decide), fun c3 => ⟨vp_in_nI hj (by decide), fun M3 e3 => ?_⟩, fun c3 => h_Mo_at h e63 hi (by omega) ⟨vp_in_nI hj (by decide), fun M3 e3 => ?_⟩⟩⟩
          · subst e3
            have y : ¬ fD σ i = 1 := fun q => c3 (by rw [q]; rfl)
            refine ih _ ⟨g2.trans (agJ rfl), fun q hq => ?_⟩
            rw [wJ_2, if_pos rfl]
            by_cases z : q = j
            · rw [if_pos z, if_neg y]
            · rw [if_neg z]; exact c1 q (by omega)
          · subst e3
            have y : fD σ i = 1 := (nI_eq (by omega) (by decide)).mp (show nI (fD σ i) = nI 1 from c3)
            refine ih _ ⟨g2.trans (agJ rfl), fun q hq => ?_⟩
            rw [wJ_2, if_pos rfl]
            by_cases z : q = j
            · rw [if_pos z, if_pos y, z]
            · rw [if_neg z]; exact c1 q (by omega)
      · rintro m j M1 hj ⟨g1, b1, b2⟩ ih
        have e62 : M1.1 62 i = nI (fD σ i) := by rw [g1.1 62 (fun q => q)]; exact hf.1
        have e63 : M1.1 63 = M.1 63 := g1.1 63 (fun q => q)
        unfold q_Mo_raise_L25
        rw [g1.1 56 (fun q => q), h.1.1, clm (by omega), clm (by omega), e62, nI_1]
        refine ⟨fun c => absurd c (nI_ge hj (by omega)), fun _ => ⟨vp_in_nI hi (by decide), fun c3 => ⟨vp_in_nI (by omega) (by decide), fun M3 e3 => ?_⟩, fun c3 => h_Mo_at h e63 hi (by omega) ⟨vp_in_nI (by omega) (by decide), fun M3 e3 => ?_⟩⟩⟩
        · subst e3
          have y : ¬ fD σ i = 0 := fun q => c3 (by rw [q]; rfl)
          refine ih _ ⟨g1.trans (agJ rfl), fun q hq => ?_, fun q hq => ?_⟩
          · rw [wJ_2, if_pos rfl]
            by_cases z : q = j
            · rw [if_pos z, if_neg y]
            · rw [if_neg z]; exact b1 q (by omega)
          · rw [wJ_2, if_pos rfl, if_neg (by omega)]; exact b2 q (by omega)
        · subst e3
          have y : fD σ i = 0 := (nI_eq (by omega) (by decide)).mp (show nI (fD σ i) = nI 0 from c3)
          refine ih _ ⟨g1.trans (agJ rfl), fun q hq => ?_, fun q hq => ?_⟩
          · rw [wJ_2, if_pos rfl]
            by_cases z : q = j
            · rw [if_pos z, if_pos y, z]
            · rw [if_neg z]; exact b1 q (by omega)
          · rw [wJ_2, if_pos rfl, if_neg (by omega)]; exact b2 q (by omega)
    · have hd2 : fD σ i = 2 := (nI_eq (by omega) (by decide)).mp (show nI (fD σ i) = nI 2 from c)
      have e : op_raise σ (nI i) = (-3, σ) := by
        unfold op_raise; rw [cif_pos (vp_in_nI hi (by decide)), tnI (by omega), cif_pos hd2]
      rw [e] at K; exact K M h Ag.rf
  · have e : op_raise σ f = (-2, σ) := cif_neg c _ _
    rw [e] at K; exact K M h Ag.rf
/-- heights and flows of the reference -/
def RV (M0 M : Mem) (L F : Nat → Int64) : Prop := Ag (fun _ => False) (fun k => k = 66 ∨ k = 67) M0 M ∧ (∀ q, q < 6 → M.2 66 q = L q) ∧ ∀ k, k < 12 → M.2 67 k = F k
theorem h_flows (hW : WF σ) {M0 : Mem} (h : RM σ M0) {L F : Nat → Int64} {w : Int64} (r : RV M0 M L F) {post : Mem → Prop} (K : ∀ M', RV M0 M' L (flF σ w L F (nE σ)) → post M') : q_Mo_flows w M post := by
  have hP := hW.1
  have e1 := h.1.2.1
  unfold q_Mo_flows
  refine pk_loop (fun m i (M' : Mem) => q_Mo_flows_L2 _ post m w (nI i) M') (fun i M' => RV M0 M' L (flF σ w L F i)) (nE σ) 0 M (Nat.zero_le _) ⟨r.1, r.2.1, fun k hk => by rw [r.2.2 k hk]; simp [flF]⟩ ?_ ?_
  · rintro m M1 r1
    unfold q_Mo_flows_L2
    rw [r1.1.1 56 (fun q => q), e1]
    exact ⟨fun _ => K M1 r1, fun c => absurd (nI_le (Nat.le_refl _) (by omega)) c⟩
  · rintro m i M1 hi r1 ih
    have hb := h.2.1 i hi
    have we := hW.2.1 i hi
    unfold q_Mo_flows_L2
    rw [r1.1.1 56 (fun q => q), e1, clm (by omega), r1.1.1 57 (fun q => q), r1.1.1 58 (fun q => q), hb.1, hb.2, clm (by omega), clm (by omega), nI_1, r1.2.1 (vB σ i) (by omega), r1.2.1 (vE σ i) (by omega), r1.2.2 i (by omega)]
    refine ⟨fun c => absurd c (nI_ge hi (by omega)), fun _ => ⟨vp_in_nI (by omega) (by decide), vp_in_nI (by omega) (by decide), vp_in_nI (by omega) (by decide), vp_in_nI (by omega) (by decide), vp_in_nI (by omega) (by decide), vp_in_nI (by omega) (by decide), fun M2 e2 => ?_⟩⟩
    subst e2
    refine ih _ ⟨r1.1.trans (agJ (Or.inr rfl)), fun q hq => ?_, fun k hk => ?_⟩
    · rw [wJ_2, if_neg (by omega)]; exact r1.2.1 q hq
    · rw [wJ_2, if_pos rfl]
      by_cases z : k = i
      · subst z; rw [if_pos rfl]; simp [flF]
      · rw [if_neg z, r1.2.2 k hk]
        simp only [flF]
        by_cases z2 : k < i
        · rw [if_pos z2, if_pos (by omega)]
        · rw [if_neg z2, if_neg (by omega)]
theorem h_rises (hW : WF σ) {M0 : Mem} (h : RM σ M0) {L F : Nat → Int64} {w : Int64} (r : RV M0 M L F) {post : Mem → Prop} (K : ∀ M', RV M0 M' (rsF σ w F (nE σ) L) F → post M') : q_Mo_rises w M post := by
  have hP := hW.1
  have e1 := h.1.2.1
  unfold q_Mo_rises
  refine pk_loop (fun m i (M' : Mem) => q_Mo_rises_L2 _ post m w (nI i) M') (fun i M' => RV M0 M' (rsF σ w F i L) F) (nE σ) 0 M (Nat.zero_le _) r ?_ ?_
  · rintro m M1 r1
    unfold q_Mo_rises_L2
    rw [r1.1.1 56 (fun q => q), e1]
    exact ⟨fun _ => K M1 r1, fun c => absurd (nI_le (Nat.le_refl _) (by omega)) c⟩
  · rintro m i M2 hi r2 ih
    have hb := h.2.1 i hi
    have we := hW.2.1 i hi
    have b2 := r2.1.1 57 (fun q => q)
    have b3 := r2.1.1 58 (fun q => q)
    unfold q_Mo_rises_L2
    rw [r2.1.1 56 (fun q => q), e1, clm (by omega), b3, hb.2, clm (by omega), nI_1, r2.2.1 (vE σ i) (by omega), r2.2.2 i (by omega)]
    refine ⟨fun c => absurd c (nI_ge hi (by omega)), fun _ => ⟨vp_in_nI (by omega) (by decide), vp_in_nI (by omega) (by decide), vp_in_nI (by omega) (by decide), vp_in_nI (by omega) (by decide), fun M4 e4 => ?_⟩⟩
    have c2 : M4.1 57 i = nI (vB σ i) := by rw [e4]; show M2.1 57 i = _; rw [b2]; exact hb.1
    have c14 : M4.2 67 i = F i := by rw [e4, wJ_2, if_neg (by omega)]; exact r2.2.2 i (by omega)
    have c13 : M4.2 66 (vB σ i) = rsF σ w F i L (vB σ i) := by rw [e4, wJ_2, if_pos rfl, if_neg (by omega)]; exact r2.2.1 _ (by omega)
    rw [c2, clm (by omega), c14, c13]
    refine ⟨vp_in_nI (by omega) (by decide), vp_in_nI (by omega) (by decide), vp_in_nI (by omega) (by decide), vp_in_nI (by omega) (by decide), fun M5 e5 => ?_⟩
    refine ih M5 ⟨?_, fun q hq => ?_, fun k hk => ?_⟩
    · rw [e5, e4]; exact (r2.1.trans (agJ (Or.inl rfl))).trans (agJ (Or.inl rfl))
    · rw [e5, wJ_2, if_pos rfl, e4, wJ_2, if_pos rfl, r2.2.1 q hq]
      simp only [rsF]
      by_cases z : q = vB σ i
      · subst z; simp
      · by_cases z2 : q = vE σ i
        · subst z2; simp [z]
        · simp [z, z2]
    · rw [e5, wJ_2, if_neg (by omega), e4, wJ_2, if_neg (by omega)]; exact r2.2.2 k hk
theorem h_Mo_wave (hW : WF σ) (h : RM σ M) {n : Int32} {post : Int32 → Mem → Prop} (K : ∀ M', RM (op_wave σ n).2 M' → Ag D56 D56 M M' → post (op_wave σ n).1 M') : q_Mo_wave n M post := by
  unfold q_Mo_wave
  refine ⟨fun c => ?_, fun c => h_in (-100) 100 rfl rfl (fun c1 c2 => ⟨fun _ => ?_, fun c => absurd c (by decide)⟩) (fun c2 => ⟨fun c => absurd rfl c, fun _ => ?_⟩)⟩
  · have e : op_wave σ n = (-2, σ) := cif_neg (fun q => q.1 c) _ _
    rw [e] at K; exact K M h Ag.rf
  · rw [toI64] at c1 c2
    have e := cif_pos (α := Int32 × Sg) (P := ¬ n = 0 ∧ i32le n 100) ⟨c, c1, c2⟩ (wS σ + n, uWave σ (wS σ + n) (itF σ (decide (n < 0)) n.toInt.natAbs (wL σ, wF σ)).1 (itF σ (decide (n < 0)) n.toInt.natAbs (wL σ, wF σ)).2) (-2, σ)
    have e : op_wave σ n = _ := e
    rw [e] at K
    have r0 : RV M M (wL σ) (wF σ) := ⟨Ag.rf, fun q hq => (h.2.2.2.1 q hq).2.2, h.2.2.2.2.2.1⟩
    have fin : ∀ M', RV M M' (itF σ (decide (n < 0)) n.toInt.natAbs (wL σ, wF σ)).1 (itF σ (decide (n < 0)) n.toInt.natAbs (wL σ, wF σ)).2 → ∀ M13, M13 = wI M' 56 14 (M'.1 56 14 + n) → post (M13.1 56 14) M13 := fun M' r M13 e13 => by
      have s1 : M13.1 56 14 = wS σ + n := by rw [e13, wI_1, if_pos rfl, if_pos rfl, r.1.1 56 (fun q => q), h.2.2.2.2.2.2]
      rw [s1]
      have g : Ag (fun k => k = 56) (fun k => k = 66 ∨ k = 67) M M13 := by
        rw [e13]; exact (r.1.mono (fun k hk => hk.elim) (fun k hk => hk)).trans (agI rfl)
      refine K M13 (RM_wave h (g.mono (fun k hk => Or.inl hk) (fun k hk => by omega)) (fun j hj => ?_) s1 (fun q hq => ?_) (fun k hk => ?_)) (g.mono (fun k hk => by unfold D56; omega) (fun k hk => by unfold D56; omega))
      · rw [e13, wI_1, if_pos rfl, if_neg (by omega), r.1.1 56 (fun q => q)]
      · rw [e13]; exact r.2.1 q hq
      · rw [e13]; exact r.2.2 k hk
    by_cases hn : n < 0
    · rw [decide_eq_true hn] at fin
      have hn' : n.toInt < 0 := by rw [Int32.lt_iff_toInt_lt] at hn; exact hn
      obtain ⟨k, hk⟩ : ∃ k : Nat, n.toInt = -(k : Int) := ⟨n.toInt.natAbs, by omega⟩
      have hk2 : n.toInt.natAbs = k := by omega
      have en : n = -nI k := Int32.toInt_inj.mp (by rw [negI (by omega), hk])
      rw [hk2] at fin
      refine ⟨1, ?_⟩
      unfold q_Mo_wave_L23
      refine ⟨fun _ => ?_, fun c3 => absurd (by rw [Int32.le_iff_toInt_le]; show n.toInt ≤ 0; omega) c3⟩
      have e0 : n = n + nI 0 := by show n = n + 0; simp
      have lp : ∃ m, (fun m i (M' : Mem) => q_Mo_wave_L46 (fun x11 M12 => ∀ M13, M13 = wI M12 56 14 ((M12.1 56 14) + x11) → post (M13.1 56 14) M13) post m n (n + nI i) M') m 0 M := by
        refine pk_loop (fun m i (M' : Mem) => q_Mo_wave_L46 (fun x11 M12 => ∀ M13, M13 = wI M12 56 14 ((M12.1 56 14) + x11) → post (M13.1 56 14) M13) post m n (n + nI i) M') (fun i M' => RV M M' (itF σ true i (wL σ, wF σ)).1 (itF σ true i (wL σ, wF σ)).2) k 0 M (Nat.zero_le _) r0 ?_ ?_
        · rintro m M2 r2
          have z : n + nI k = 0 := by rw [en]; grind
          unfold q_Mo_wave_L46
          rw [z]
          exact ⟨fun _ => fin M2 r2, fun c3 => absurd (Int32.le_refl _) c3⟩
        · rintro m i M2 hi r2 ih
          have z : (n + nI i).toInt = (i : Int) - k := by
            have : n + nI i = nI i - nI k := by rw [en]; grind
            rw [this, pk_sub_toInt (by omega) (by omega)]
          unfold q_Mo_wave_L46
          refine ⟨fun c3 => absurd c3 ?_, fun _ => h_rises hW h r2 (fun M3 r3 => h_flows hW h r3 (fun M4 r4 => ?_))⟩
          · rw [Int32.le_iff_toInt_le, z]; show ¬ (0 : Int) ≤ _; omega
          · have e4 : n + nI i + 1 = n + nI (i + 1) := by rw [← nI_1]; grind
            rw [e4]
            exact ih M4 (by simpa [itF, stF] using r4)
      obtain ⟨m, hm⟩ := lp
      exact ⟨m, by rw [← e0] at hm; exact hm⟩
    · rw [decide_eq_false hn] at fin
      have hn' : 0 ≤ n.toInt := by rw [Int32.lt_iff_toInt_lt] at hn; have : (0 : Int32).toInt = 0 := rfl; omega
      obtain ⟨k, hk⟩ : ∃ k : Nat, n.toInt = (k : Int) := ⟨n.toInt.natAbs, by omega⟩
      have hk2 : n.toInt.natAbs = k := by omega
      have en : n = nI k := Int32.toInt_inj.mp (by rw [nI_toInt (by omega), hk])
      rw [hk2] at fin
      refine pk_loop (fun m i (M' : Mem) => q_Mo_wave_L23 _ post m n (nI i) M') (fun i M' => RV M M' (itF σ false i (wL σ, wF σ)).1 (itF σ false i (wL σ, wF σ)).2) k 0 M (Nat.zero_le _) r0 ?_ ?_
      · rintro m M2 r2
        unfold q_Mo_wave_L23
        rw [← en]
        refine ⟨fun _ => ⟨1, ?_⟩, fun c3 => absurd (Int32.le_refl _) c3⟩
        unfold q_Mo_wave_L46
        exact ⟨fun _ => fin M2 r2, fun c3 => absurd (by rw [Int32.le_iff_toInt_le]; show (0 : Int) ≤ n.toInt; omega) c3⟩
      · rintro m i M2 hi r2 ih
        unfold q_Mo_wave_L23
        refine ⟨fun c3 => absurd c3 ?_, fun _ => h_flows hW h r2 (fun M3 r3 => h_rises hW h r3 (fun M4 r4 => ?_))⟩
        · rw [en]; exact nI_ge hi (by omega)
        · rw [nI_1]
          exact ih M4 (by simpa [itF, stF] using r4)
  · have e : op_wave σ n = (-2, σ) := cif_neg (fun q => c2 (by rw [toI64]; exact q.2)) _ _
    rw [e] at K; exact K M h Ag.rf
end MOPS3
