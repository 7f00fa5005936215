/-! the class's wave -/
def RW (M0 M : Mem) (L F : Nat → Int64) (st : Int32) : Prop := Ag (fun k => k = 12) (fun k => k = 13 ∨ k = 14) M0 M ∧ M.1 12 0 = st ∧ (∀ q, q < 6 → M.2 13 q = L q) ∧ ∀ k, k < 12 → M.2 14 k = F k
theorem j_1 (x : Int64) : 1 * x = x := by grind
theorem j_m (x y : Int64) : x - y = x + (-1) * y := by grind
theorem j_p (x y : Int64) : x + y = x - (-1) * y := by grind
section CWAVE
variable {σ : Sg} {M0 M : Mem}
theorem h_stepOn (hW : WF σ) (h : RC σ M0) {L F : Nat → Int64} {st : Int32} (r : RW M0 M L F st) {post : Mem → Prop} (K : ∀ M', RW M0 M' (stF σ false (L, F)).1 (stF σ false (L, F)).2 (st + 1) → post M') : q_Wav_stepOn M post := by
  have hP := hW.1
  have e1 := h.1.2.1
  unfold q_Wav_stepOn
  refine pk_loop (fun m i (M' : Mem) => q_Wav_stepOn_L2 _ post m (nI i) M') (fun i M' => RW M0 M' L (flF σ 1 L F i) st) (nE σ) 0 M (Nat.zero_le _) ⟨r.1, r.2.1, r.2.2.1, fun k hk => by rw [r.2.2.2 k hk]; simp [flF]⟩ ?_ ?_
  · rintro m M1 r1
    unfold q_Wav_stepOn_L2
    rw [r1.1.1 1 (by omega), e1]
    refine ⟨fun _ => ?_, fun c => absurd (nI_le (Nat.le_refl _) (by omega)) c⟩
    generalize hF : flF σ 1 L F (nE σ) = F1 at r1
    refine pk_loop (fun m i (M' : Mem) => q_Wav_stepOn_L50 _ post m (nI i) M') (fun i M' => RW M0 M' (rsF σ 1 F1 i L) F1 st) (nE σ) 0 M1 (Nat.zero_le _) r1 ?_ ?_
    · rintro m M2 r2
      unfold q_Wav_stepOn_L50
      rw [r2.1.1 1 (by omega), e1]
      refine ⟨fun _ => ?_, fun c => absurd (nI_le (Nat.le_refl _) (by omega)) c⟩
      intro M8 e8
      subst e8
      refine K _ ⟨r2.1.trans (agI rfl), ?_, ?_, ?_⟩
      · rw [wI_1, if_pos rfl, if_pos rfl, r2.2.1]
      · intro q hq
        show M2.2 13 q = _
        rw [r2.2.2.1 q hq]
        simp [stF, hF]
      · intro k hk
        show M2.2 14 k = _
        rw [r2.2.2.2 k hk]
        simp [stF, hF]
    · rintro m i M2 hi r2 ih
      have hb := h.2.1 i hi
      have we := hW.2.1 i hi
      have b2 := r2.1.1 2 (by omega)
      have b3 := r2.1.1 3 (by omega)
      unfold q_Wav_stepOn_L50
      rw [r2.1.1 1 (by omega), e1, clm (by omega), b3, hb.2, clm (by omega), nI_1, r2.2.2.1 (vE σ i) (by omega), r2.2.2.2 i (by omega)]
      refine ⟨fun c => absurd c (nI_ge hi (by omega)), fun _ => ⟨vp_in_nI (by omega) (by decide), vp_in_nI (by omega) (by decide), vp_in_nI (by omega) (by decide), vp_in_nI (by omega) (by decide), fun M4 e4 => ?_⟩⟩
      have c2 : M4.1 2 i = nI (vB σ i) := by rw [e4]; show M2.1 2 i = _; rw [b2]; exact hb.1
      have c14 : M4.2 14 i = F1 i := by rw [e4, wJ_2, if_neg (by omega)]; exact r2.2.2.2 i (by omega)
      have c13 : M4.2 13 (vB σ i) = rsF σ 1 F1 i L (vB σ i) := by rw [e4, wJ_2, if_pos rfl, if_neg (by omega)]; exact r2.2.2.1 _ (by omega)
      rw [c2, clm (by omega), c14, c13]
      refine ⟨vp_in_nI (by omega) (by decide), vp_in_nI (by omega) (by decide), vp_in_nI (by omega) (by decide), vp_in_nI (by omega) (by decide), fun M5 e5 => ?_⟩
      refine ih M5 ⟨?_, ?_, fun q hq => ?_, fun k hk => ?_⟩
      · rw [e5, e4]; exact (r2.1.trans (agJ (Or.inl rfl))).trans (agJ (Or.inl rfl))
      · rw [e5, e4]; exact r2.2.1
      · rw [e5, wJ_2, if_pos rfl, e4, wJ_2, if_pos rfl, r2.2.2.1 q hq]
        simp only [rsF, j_1]
        by_cases z : q = vB σ i
        · subst z; rw [if_pos rfl, if_pos rfl]
        · rw [if_neg z, if_neg z]
          by_cases z2 : q = vE σ i
          · subst z2; rw [if_pos rfl]
          · rw [if_neg z2, if_neg z2]
      · rw [e5, wJ_2, if_neg (by omega), e4, wJ_2, if_neg (by omega)]; exact r2.2.2.2 k hk
  · rintro m i M1 hi r1 ih
    have hb := h.2.1 i hi
    have we := hW.2.1 i hi
    unfold q_Wav_stepOn_L2
    rw [r1.1.1 1 (by omega), e1, clm (by omega), r1.1.1 2 (by omega), r1.1.1 3 (by omega), hb.1, hb.2, clm (by omega), clm (by omega), nI_1, r1.2.2.1 (vB σ i) (by omega), r1.2.2.1 (vE σ i) (by omega), r1.2.2.2 i (by omega)]
    refine ⟨fun c => absurd c (nI_ge hi (by omega)), fun _ => ⟨vp_in_nI (by omega) (by decide), vp_in_nI (by omega) (by decide), vp_in_nI (by omega) (by decide), vp_in_nI (by omega) (by decide), vp_in_nI (by omega) (by decide), vp_in_nI (by omega) (by decide), fun M2 e2 => ?_⟩⟩
    subst e2
    refine ih _ ⟨r1.1.trans (agJ (Or.inr rfl)), r1.2.1, fun q hq => ?_, fun k hk => ?_⟩
    · rw [wJ_2, if_neg (by omega)]; exact r1.2.2.1 q hq
    · rw [wJ_2, if_pos rfl]
      by_cases z : k = i
      · subst z; rw [if_pos rfl]; simp [flF, j_1]
      · rw [if_neg z, r1.2.2.2 k hk]
        simp only [flF]
        by_cases z2 : k < i
        · rw [if_pos z2, if_pos (by omega)]
        · rw [if_neg z2, if_neg (by omega)]
theorem h_stepBack (hW : WF σ) (h : RC σ M0) {L F : Nat → Int64} {st : Int32} (r : RW M0 M L F st) {post : Mem → Prop} (K : ∀ M', RW M0 M' (stF σ true (L, F)).1 (stF σ true (L, F)).2 (st - 1) → post M') : q_Wav_stepBack M post := by
  have hP := hW.1
  have e1 := h.1.2.1
  unfold q_Wav_stepBack
  refine pk_loop (fun m i (M' : Mem) => q_Wav_stepBack_L2 _ post m (nI i) M') (fun i M' => RW M0 M' (rsF σ (-1) F i L) F st) (nE σ) 0 M (Nat.zero_le _) r ?_ ?_
  · rintro m M1 r1
    unfold q_Wav_stepBack_L2
    rw [r1.1.1 1 (by omega), e1]
    refine ⟨fun _ => ?_, fun c => absurd (nI_le (Nat.le_refl _) (by omega)) c⟩
    generalize hL : rsF σ (-1) F (nE σ) L = L1 at r1
    refine pk_loop (fun m i (M' : Mem) => q_Wav_stepBack_L58 _ post m (nI i) M') (fun i M' => RW M0 M' L1 (flF σ (-1) L1 F i) st) (nE σ) 0 M1 (Nat.zero_le _) ⟨r1.1, r1.2.1, r1.2.2.1, fun k hk => by rw [r1.2.2.2 k hk]; simp [flF]⟩ ?_ ?_
    · rintro m M2 r2
      unfold q_Wav_stepBack_L58
      rw [r2.1.1 1 (by omega), e1]
      refine ⟨fun _ => ?_, fun c => absurd (nI_le (Nat.le_refl _) (by omega)) c⟩
      intro M8 e8
      subst e8
      refine K _ ⟨r2.1.trans (agI rfl), ?_, ?_, ?_⟩
      · rw [wI_1, if_pos rfl, if_pos rfl, r2.2.1]
      · intro q hq
        show M2.2 13 q = _
        rw [r2.2.2.1 q hq]
        simp [stF, hL]
      · intro k hk
        show M2.2 14 k = _
        rw [r2.2.2.2 k hk]
        simp [stF, hL]
    · rintro m i M2 hi r2 ih
      have hb := h.2.1 i hi
      have we := hW.2.1 i hi
      unfold q_Wav_stepBack_L58
      rw [r2.1.1 1 (by omega), e1, clm (by omega), r2.1.1 2 (by omega), r2.1.1 3 (by omega), hb.1, hb.2, clm (by omega), clm (by omega), nI_1, r2.2.2.1 (vB σ i) (by omega), r2.2.2.1 (vE σ i) (by omega), r2.2.2.2 i (by omega)]
      refine ⟨fun c => absurd c (nI_ge hi (by omega)), fun _ => ⟨vp_in_nI (by omega) (by decide), vp_in_nI (by omega) (by decide), vp_in_nI (by omega) (by decide), vp_in_nI (by omega) (by decide), vp_in_nI (by omega) (by decide), vp_in_nI (by omega) (by decide), fun M3 e3 => ?_⟩⟩
      subst e3
      refine ih _ ⟨r2.1.trans (agJ (Or.inr rfl)), r2.2.1, fun q hq => ?_, fun k hk => ?_⟩
      · rw [wJ_2, if_neg (by omega)]; exact r2.2.2.1 q hq
      · rw [wJ_2, if_pos rfl]
        by_cases z : k = i
        · subst z; rw [if_pos rfl]; simp only [flF, Nat.lt_irrefl, if_false, Nat.lt_succ_self, if_true]; exact j_m _ _
        · rw [if_neg z, r2.2.2.2 k hk]
          simp only [flF]
          by_cases z2 : k < i
          · rw [if_pos z2, if_pos (by omega)]
          · rw [if_neg z2, if_neg (by omega)]
  · rintro m i M2 hi r2 ih
    have hb := h.2.1 i hi
    have we := hW.2.1 i hi
    have b2 := r2.1.1 2 (by omega)
    have b3 := r2.1.1 3 (by omega)
    unfold q_Wav_stepBack_L2
    rw [r2.1.1 1 (by omega), e1, clm (by omega), b3, hb.2, clm (by omega), nI_1, r2.2.2.1 (vE σ i) (by omega), r2.2.2.2 i (by omega)]
    refine ⟨fun c => absurd c (nI_ge hi (by omega)), fun _ => ⟨vp_in_nI (by omega) (by decide), vp_in_nI (by omega) (by decide), vp_in_nI (by omega) (by decide), vp_in_nI (by omega) (by decide), fun M4 e4 => ?_⟩⟩
    have c2 : M4.1 2 i = nI (vB σ i) := by rw [e4]; show M2.1 2 i = _; rw [b2]; exact hb.1
    have c14 : M4.2 14 i = F i := by rw [e4, wJ_2, if_neg (by omega)]; exact r2.2.2.2 i (by omega)
    have c13 : M4.2 13 (vB σ i) = rsF σ (-1) F i L (vB σ i) := by rw [e4, wJ_2, if_pos rfl, if_neg (by omega)]; exact r2.2.2.1 _ (by omega)
    rw [c2, clm (by omega), c14, c13]
    refine ⟨vp_in_nI (by omega) (by decide), vp_in_nI (by omega) (by decide), vp_in_nI (by omega) (by decide), vp_in_nI (by omega) (by decide), fun M5 e5 => ?_⟩
    refine ih M5 ⟨?_, ?_, fun q hq => ?_, fun k hk => ?_⟩
    · rw [e5, e4]; exact (r2.1.trans (agJ (Or.inl rfl))).trans (agJ (Or.inl rfl))
    · rw [e5, e4]; exact r2.2.1
    · rw [e5, wJ_2, if_pos rfl, e4, wJ_2, if_pos rfl, r2.2.2.1 q hq]
      simp only [rsF]
      by_cases z : q = vB σ i
      · subst z; rw [if_pos rfl, if_pos rfl]; exact j_p _ _
      · rw [if_neg z, if_neg z]
        by_cases z2 : q = vE σ i
        · subst z2; rw [if_pos rfl, if_pos rfl]; exact j_m _ _
        · rw [if_neg z2, if_neg z2]
    · rw [e5, wJ_2, if_neg (by omega), e4, wJ_2, if_neg (by omega)]; exact r2.2.2.2 k hk
theorem itF_succ (σ : Sg) (b : Bool) (n : Nat) (s : (Nat → Int64) × (Nat → Int64)) : itF σ b (n + 1) s = stF σ b (itF σ b n s) := rfl
theorem h_Nf_wave (hW : WF σ) (h : RC σ M) {n : Int32} {post : Int32 → Mem → Prop} (K : ∀ M', RC (op_wave σ n).2 M' → Ag C56 C56 M M' → post (op_wave σ n).1 M') : q_Nf_wave n M post := by
  unfold q_Nf_wave
  refine ⟨fun c => ?_, fun c => h_isWithin 100 (by decide) rfl (fun c2 => ⟨fun _ => ?_, fun c => absurd c (by decide)⟩) (fun c2 => ⟨fun c => absurd rfl c, fun _ => ?_⟩)⟩
  · have e : op_wave σ n = (-2, σ) := cif_neg (fun q => q.1 c) _ _
    rw [e] at K; exact K M h Ag.rf
  · have c2 : i32le n 100 := w64_i.mp c2
    have e := cif_pos (α := Int32 × Sg) (P := ¬ n = 0 ∧ i32le n 100) ⟨c, c2⟩ (wS σ + n, uWave σ (wS σ + n) (itF σ (decide (n < 0)) n.toInt.natAbs (wL σ, wF σ)).1 (itF σ (decide (n < 0)) n.toInt.natAbs (wL σ, wF σ)).2) (-2, σ)
    have e : op_wave σ n = _ := e
    rw [e] at K
    have r0 : RW M M (wL σ) (wF σ) (wS σ) := ⟨Ag.rf, h.2.2.2.2.2.2, fun q hq => (h.2.2.2.1 q hq).2.2.2, h.2.2.2.2.2.1⟩
    have fin : ∀ M', RW M M' (itF σ (decide (n < 0)) n.toInt.natAbs (wL σ, wF σ)).1 (itF σ (decide (n < 0)) n.toInt.natAbs (wL σ, wF σ)).2 (wS σ + n) → post (wS σ + n) M' := fun M' r => K M' (RC_wave h (r.1.mono (fun k hk => by omega) (fun k hk => by omega)) r.2.1 r.2.2.1 r.2.2.2) (r.1.mono (fun k hk => by unfold C56; omega) (fun k hk => by unfold C56; omega))
    have hb : -100 ≤ n.toInt ∧ n.toInt ≤ 100 := c2
    by_cases hn : n < 0
    · rw [decide_eq_true hn] at fin
      have hn' : n.toInt < 0 := by rw [Int32.lt_iff_toInt_lt] at hn; exact hn
      obtain ⟨k, hk⟩ : ∃ k : Nat, n.toInt = -(k : Int) := ⟨n.toInt.natAbs, by omega⟩
      have hk2 : n.toInt.natAbs = k := by omega
      have en : n = -nI k := Int32.toInt_inj.mp (by rw [negI (by omega), hk])
      rw [hk2] at fin
      refine ⟨1, ?_⟩
      unfold q_Nf_wave_L19
      refine ⟨fun _ => ?_, fun c3 => absurd (by rw [Int32.le_iff_toInt_le]; show n.toInt ≤ 0; omega) c3⟩
      refine pk_loop (fun m i (M' : Mem) => q_Nf_wave_L43 _ post m n (-nI i) M') (fun i M' => RW M M' (itF σ true i (wL σ, wF σ)).1 (itF σ true i (wL σ, wF σ)).2 (wS σ - nI i)) k 0 M (Nat.zero_le _) ?_ ?_ ?_
      · have : wS σ - nI 0 = wS σ := by show wS σ - 0 = _; simp
        rw [this]; exact r0
      · rintro m M2 r2
        unfold q_Nf_wave_L43
        rw [← en]
        refine ⟨fun _ => ?_, fun c3 => absurd (Int32.le_refl _) c3⟩
        have e3 : wS σ - nI k = wS σ + n := by rw [en]; grind
        rw [e3] at r2
        rw [r2.2.1]
        exact fin M2 r2
      · rintro m i M2 hi r2 ih
        unfold q_Nf_wave_L43
        refine ⟨fun c3 => absurd c3 ?_, fun _ => h_stepBack hW h r2 (fun M3 r3 => ?_)⟩
        · rw [en, Int32.le_iff_toInt_le, negI (by omega), negI (by omega)]; omega
        · have e4 : -nI i + (-1) = -nI (i + 1) := by rw [← nI_1]; grind
          have e5 : wS σ - nI i - 1 = wS σ - nI (i + 1) := by rw [← nI_1]; grind
          rw [e4]
          rw [e5] at r3
          exact ih M3 r3
    · rw [decide_eq_false hn] at fin
      have hn' : 0 ≤ n.toInt := by rw [Int32.lt_iff_toInt_lt] at hn; have : (0 : Int32).toInt = 0 := rfl; omega
      obtain ⟨k, hk⟩ : ∃ k : Nat, n.toInt = (k : Int) := ⟨n.toInt.natAbs, by omega⟩
      have hk2 : n.toInt.natAbs = k := by omega
      have en : n = nI k := Int32.toInt_inj.mp (by rw [nI_toInt (by omega), hk])
      rw [hk2] at fin
      refine pk_loop (fun m i (M' : Mem) => q_Nf_wave_L19 _ post m n (nI i) M') (fun i M' => RW M M' (itF σ false i (wL σ, wF σ)).1 (itF σ false i (wL σ, wF σ)).2 (wS σ + nI i)) k 0 M (Nat.zero_le _) ?_ ?_ ?_
      · have : wS σ + nI 0 = wS σ := by show wS σ + 0 = _; simp
        rw [this]; exact r0
      · rintro m M2 r2
        unfold q_Nf_wave_L19
        rw [← en]
        refine ⟨fun _ => ⟨1, ?_⟩, fun c3 => absurd (Int32.le_refl _) c3⟩
        unfold q_Nf_wave_L43
        refine ⟨fun _ => ?_, fun c3 => absurd (by rw [Int32.le_iff_toInt_le]; show (0 : Int) ≤ n.toInt; omega) c3⟩
        rw [← en] at r2
        rw [r2.2.1]
        exact fin M2 r2
      · rintro m i M2 hi r2 ih
        unfold q_Nf_wave_L19
        refine ⟨fun c3 => absurd c3 ?_, fun _ => h_stepOn hW h r2 (fun M3 r3 => ?_)⟩
        · rw [en]; exact nI_ge hi (by omega)
        · have e5 : wS σ + nI i + 1 = wS σ + nI (i + 1) := by rw [← nI_1]; grind
          rw [nI_1]
          rw [e5] at r3
          exact ih M3 r3
  · have e : op_wave σ n = (-2, σ) := cif_neg (fun q => c2 (w64_i.mpr q.2)) _ _
    rw [e] at K; exact K M h Ag.rf
end CWAVE
