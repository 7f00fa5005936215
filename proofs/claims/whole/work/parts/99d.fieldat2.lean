/-! fieldAt on both sides -/
noncomputable def op_fieldAt (σ : Sg) (p w : Int32) : Int64 × Sg := (cif (vp_in p (nP σ) ∧ vp_in w 2 ∧ fld σ = -1) (low ((csq (nP σ) (fT σ, 1) (nP σ)).1 (tn p) (nP σ)) (csq (nP σ) (fT σ, 1) (nP σ)).2 w) 0, σ)
section FAT2
variable {σ : Sg} {M M0 : Mem}
theorem fld_m1 (hW : WF σ) (h : fld σ = -1) : ∀ p, p < nP σ → ¬ noW σ p := by
  have hP := hW.1
  unfold fld at h
  cases e : fsN (noW σ) (nP σ) with
  | none => exact fsN_none' e
  | some k =>
    rw [e] at h
    have h1 := fsN_lt e
    have h2 : nI k = -1 := h
    have h3 : (nI k).toInt = -1 := by rw [h2]; rfl
    rw [nI_toInt (by omega)] at h3
    omega
theorem h_Nf_fieldAt (hW : WF σ) (h : RC σ M) {p w : Int32} {post : Int64 → Mem → Prop} (K : ∀ M', RC (op_fieldAt σ p w).2 M' → Ag C56 C56 M M' → post (op_fieldAt σ p w).1 M') : q_Nf_fieldAt p w M post := by
  have K' : ∀ M', RC σ M' → Ag C56 C56 M M' → post (cif (vp_in p (nP σ) ∧ vp_in w 2 ∧ fld σ = -1) (low ((csq (nP σ) (fT σ, 1) (nP σ)).1 (tn p) (nP σ)) (csq (nP σ) (fT σ, 1) (nP σ)).2 w) 0) M' := K
  have hP := hW.1
  have no : ¬ (vp_in p (nP σ) ∧ vp_in w 2 ∧ fld σ = -1) → post 0 M := fun c => by
    rw [cif_neg c] at K'; exact K' M h Ag.rf
  unfold q_Nf_fieldAt
  refine h_Net_has hW h (d := 0) (by decide) (fun c => ⟨fun q => absurd q (by decide), fun _ => ?_⟩) (fun c => ⟨fun _ => no (fun q => c q.1), fun q => absurd rfl q⟩)
  have c' : vp_in p (nP σ) := c
  obtain ⟨j, hj, rfl⟩ := vp_in_of c' (by omega)
  refine ⟨fun c => no (fun q => nvin_neg c q.2.1), fun c3 => ⟨fun c4 => ?_, fun c4 => no (fun q => c4 ?_)⟩⟩
  · have vw : vp_in w 2 := nle_vin (by decide) c3 (fun q => by
      have h1 := Int32.le_iff_toInt_le.mp q
      have h2 := Int32.le_iff_toInt_le.mp c4
      have e2 : (1 : Int32).toInt = 1 := rfl
      have e3 : (nI 2).toInt = 2 := rfl
      omega)
    refine h_leastWithout hW h ⟨fun c5 => ?_, fun c5 => no (fun q => c5 q.2.2)⟩
    rw [cif_pos ⟨c', vw, c5⟩, tnI (by omega)] at K'
    refine h_balanceField hW h (fun M1 r1 d1 => h_Bal_above (by omega) r1 hj ?_)
    rw [d1]
    exact h_lowestTerms (csq_d (cS_f hW)).1 (K' M1 (r1.rc h) r1.c56)
  · have h2 := (vin_i.mp q.2.1).2
    refine Int32.le_iff_toInt_le.mpr ?_
    have e2 : (1 : Int32).toInt = 1 := rfl
    omega
theorem FRI_step (hW : WF σ) {e : Nat} (he : e < nE σ) {i j : Nat} (hi : i < nP σ) (hj : j ≤ nP σ) {T T1 T2 : Nat → Nat → Int64} (hT : ∀ i j, i < nP σ → j ≤ nP σ → T i j = lI (FRI σ e i j)) (h1 : T1 = if wT σ (vB σ e) = 0 then upT (upT T (vB σ e) (vB σ e) 1) (vB σ e) (vE σ e) (-1) else T) (h2 : T2 = if wT σ (vE σ e) = 0 then upT (upT T1 (vE σ e) (vE σ e) 1) (vE σ e) (vB σ e) (-1) else T1) : T2 i j = lI (FRI σ (e + 1) i j) := by
  have hb := hW.2.1 e he
  have hT := hT i j hi hj
  unfold FRI at hT ⊢
  subst h1; subst h2
  by_cases i1 : i = vB σ e
  · by_cases z1 : wT σ (vB σ e) = 0
    · rw [i1, if_pos z1] at hT ⊢
      rw [if_pos z1]
      have e0 : (if wT σ (vE σ e) = 0 then upT (upT (upT (upT T (vB σ e) (vB σ e) 1) (vB σ e) (vE σ e) (-1)) (vE σ e) (vE σ e) 1) (vE σ e) (vB σ e) (-1) else upT (upT T (vB σ e) (vB σ e) 1) (vB σ e) (vE σ e) (-1)) (vB σ e) j = upT (upT T (vB σ e) (vB σ e) 1) (vB σ e) (vE σ e) (-1) (vB σ e) j := by
        split
        · show (if vB σ e = vE σ e ∧ _ then _ else (if vB σ e = vE σ e ∧ _ then _ else _)) = _
          rw [if_neg (by omega), if_neg (by omega)]
        · rfl
      rw [e0]
      unfold upT
      by_cases y0 : j < nP σ
      · rw [if_pos y0] at hT ⊢
        show _ = lI (sm e _ + sgn σ 1 e (vB σ e) * sgn σ 1 e j)
        rw [lI_add, ← hT]
        unfold sgn
        rw [if_pos rfl, if_pos rfl, if_neg (show ¬ vE σ e = vB σ e by omega), if_pos rfl]
        by_cases y1 : j = vB σ e
        · rw [if_neg (by omega), if_pos ⟨rfl, y1⟩, if_neg (by omega), if_pos y1.symm]; rfl
        · by_cases y2 : j = vE σ e
          · rw [if_pos ⟨rfl, y2⟩, if_neg (by omega), if_pos y2.symm]; rfl
          · rw [if_neg (fun q => y2 q.2), if_neg (fun q => y1 q.2), if_neg (fun q => y2 q.symm), if_neg (fun q => y1 q.symm), show lI (-1 * 0) = 0 from rfl]; grind
      · rw [if_neg y0] at hT ⊢
        rw [if_neg (by omega), if_neg (by omega)]; exact hT
    · rw [i1, if_neg z1] at hT ⊢
      rw [if_neg z1]
      have e0 : (if wT σ (vE σ e) = 0 then upT (upT T (vE σ e) (vE σ e) 1) (vE σ e) (vB σ e) (-1) else T) (vB σ e) j = T (vB σ e) j := by
        split
        · show (if vB σ e = vE σ e ∧ _ then _ else (if vB σ e = vE σ e ∧ _ then _ else _)) = _
          rw [if_neg (by omega), if_neg (by omega)]
        · rfl
      rw [e0]; exact hT
  · have e1 : (if wT σ (vB σ e) = 0 then upT (upT T (vB σ e) (vB σ e) 1) (vB σ e) (vE σ e) (-1) else T) i j = T i j := by
      split
      · show (if i = vB σ e ∧ _ then _ else (if i = vB σ e ∧ _ then _ else _)) = _
        rw [if_neg (fun q => i1 q.1), if_neg (fun q => i1 q.1)]
      · rfl
    generalize (if wT σ (vB σ e) = 0 then upT (upT T (vB σ e) (vB σ e) 1) (vB σ e) (vE σ e) (-1) else T) = T1 at e1 ⊢
    rw [← e1] at hT
    by_cases i2 : i = vE σ e
    · by_cases z1 : wT σ (vE σ e) = 0
      · rw [i2, if_pos z1] at hT ⊢
        rw [if_pos z1]
        unfold upT
        by_cases y0 : j < nP σ
        · rw [if_pos y0] at hT ⊢
          show _ = lI (sm e _ + sgn σ 1 e (vE σ e) * sgn σ 1 e j)
          rw [lI_add, ← hT]
          unfold sgn
          rw [if_pos rfl, if_pos rfl, if_pos rfl]
          by_cases y1 : j = vB σ e
          · rw [if_pos ⟨rfl, y1⟩, if_neg (by omega), if_neg (by omega), if_pos y1.symm]; rfl
          · by_cases y2 : j = vE σ e
            · rw [if_neg (fun q => y1 q.2), if_pos ⟨rfl, y2⟩, if_pos y2.symm]; rfl
            · rw [if_neg (fun q => y1 q.2), if_neg (fun q => y2 q.2), if_neg (fun q => y2 q.symm), if_neg (fun q => y1 q.symm), show lI (1 * 0) = 0 from rfl]; grind
        · rw [if_neg y0] at hT ⊢
          rw [if_neg (by omega), if_neg (by omega)]; exact hT
      · rw [i2, if_neg z1] at hT ⊢
        rw [if_neg z1]; exact hT
    · have e2 : (if wT σ (vE σ e) = 0 then upT (upT T1 (vE σ e) (vE σ e) 1) (vE σ e) (vB σ e) (-1) else T1) i j = T1 i j := by
        split
        · show (if i = vE σ e ∧ _ then _ else (if i = vE σ e ∧ _ then _ else _)) = _
          rw [if_neg (fun q => i2 q.1), if_neg (fun q => i2 q.1)]
        · rfl
      rw [e2, hT]
      congr 1
      by_cases z1 : wT σ i = 0
      · rw [if_pos z1, if_pos z1]
        by_cases y0 : j < nP σ
        · rw [if_pos y0, if_pos y0]
          show _ = sm e _ + sgn σ 1 e i * sgn σ 1 e j
          have : sgn σ 1 e i = 0 := by
            unfold sgn
            rw [if_pos rfl, if_neg (fun q => i2 q.symm), if_neg (fun q => i1 q.symm)]
          rw [this]; simp
        · rw [if_neg y0, if_neg y0]
      · rw [if_neg z1, if_neg z1]
theorem h_Mo_fieldAt (hW : WF σ) (h : RM σ M) {p w : Int32} {post : Int64 → Mem → Prop} (K : ∀ M', RM (op_fieldAt σ p w).2 M' → Ag D56 D56 M M' → post (op_fieldAt σ p w).1 M') : q_Mo_fieldAt p w M post := by
  have K' : ∀ M', RM σ M' → Ag D56 D56 M M' → post (cif (vp_in p (nP σ) ∧ vp_in w 2 ∧ fld σ = -1) (low ((csq (nP σ) (fT σ, 1) (nP σ)).1 (tn p) (nP σ)) (csq (nP σ) (fT σ, 1) (nP σ)).2 w) 0) M' := K
  obtain ⟨⟨w1, w2, w3, w4⟩, we, -, -, -, -, -, wt, -⟩ := id hW
  unfold q_Mo_fieldAt
  refine h_isPoint hW h (fun vp => ⟨fun q => absurd q (by decide), fun _ => ?_⟩) (fun c => ⟨fun _ => ?_, fun q => absurd rfl q⟩)
  · refine h_in32 2 rfl (fun vw => ⟨fun q => absurd q (by decide), fun _ => ?_⟩) (fun c => ⟨fun _ => ?_, fun q => absurd rfl q⟩)
    · refine h_forbids hW h (fun M1 h1 g1 => ⟨fun c5 => ?_, fun c5 => ?_⟩)
      · rw [cif_pos ⟨vp, vw, c5⟩] at K'
        obtain ⟨i, hi, rfl⟩ := vp_in_of vp (by omega)
        rw [tnI (by omega)] at K'
        obtain ⟨ok, ed, ei⟩ := fld_eq hW (fld_m1 hW c5)
        have hvi : ∀ a b, a < nP σ → b < nP σ + 1 → vp_in (nI (13 * a + b)) 156 := fun a b ha hb => vp_in_nI (by omega) (by decide)
        have hW13 : nP σ + 1 ≤ 13 := by omega
        have nI0 : ∀ q, q < nP σ → (nI (wT σ q) = 0) = (wT σ q = 0) := fun q hq => propext (nI_eq (a := wT σ q) (b := 0) (by have := (wt q (by omega)).1; omega) (by omega))
        refine h_empties (fun M2 x2 t2 => ?_)
        refine pk_loop (fun m q (M' : Mem) => q_Mo_fieldAt_L34 _ post m (nI i) w (nI q) M') (fun q M' => RX M1 M' ∧ RT (nP σ) (nP σ + 1) (fun a b => if a < q then lI (FRI σ 0 a b) else 0) M') (nP σ) 0 M2 (Nat.zero_le _) ⟨x2, t2 _ _ _ (by omega) (by omega) (fun a b => by rw [if_neg (by omega)])⟩ ?_ ?_
        · rintro m M3 ⟨x3, r3⟩
          unfold q_Mo_fieldAt_L34
          rw [(x3.rm h1).1.1]
          refine ⟨fun _ => ?_, fun z => absurd (nI_le (Nat.le_refl _) (by omega)) z⟩
          have r3' : RT (nP σ) (nP σ + 1) (fun a b => lI (FRI σ 0 a b)) M3 := r3.congr (fun a b ha _ => by rw [if_pos ha])
          refine pk_loop (fun m e (M' : Mem) => q_Mo_fieldAt_L92 _ post m (nI i) w (nI e) M') (fun e M' => RX M1 M' ∧ RT (nP σ) (nP σ + 1) (fun a b => lI (FRI σ e a b)) M') (nE σ) 0 M3 (Nat.zero_le _) ⟨x3, r3'⟩ ?_ ?_
          · rintro m2 M4 ⟨x4, r4⟩
            have h4 := x4.rm h1
            unfold q_Mo_fieldAt_L92
            rw [h4.1.2.1, h4.1.1]
            refine ⟨fun _ => h_solves (by omega) ok r4 x4 (fun M5 x5 s5 d5 => ⟨vp_in_nI (by omega) (by decide), ?_⟩), fun z => absurd (nI_le (Nat.le_refl _) (by omega)) z⟩
            rw [clm (by omega), s5 i hi, d5, ed, ei i hi]
            have dd := csq_d (cS_f hW)
            exact h_lowest dd.1 (Int.lt_of_le_of_lt dd.2 (by decide)) (K' M5 (x5.rm h1) ((g1.mono (fun k hk => by unfold D56; omega) (fun k hk => hk.elim)).trans x5.d))
          · rintro m2 e M4 he ⟨x4, r4⟩ ih
            have h4 := x4.rm h1
            have hb := we e he
            unfold q_Mo_fieldAt_L92
            rw [h4.1.2.1]
            refine ⟨fun z => absurd z (nI_ge he (by omega)), fun _ => ⟨3, ?_⟩⟩
            have hc := h4.2.1 e he
            have hwb := (h4.2.2.2.1 (vB σ e) (by omega)).1
            have e1 : ∀ a b : Nat, nI a + nI b - nI a = nI b := fun a b => by rw [Int32.add_comm, Int32.add_sub_cancel]
            have e2 : ∀ a b : Nat, nI a + nI b - nI b = nI a := fun a b => Int32.add_sub_cancel _ _
            have third : ∀ M6, RX M1 M6 → RT (nP σ) (nP σ + 1) (fun a b => lI (FRI σ (e + 1) a b)) M6 → q_Mo_fieldAt_L103 (fun x21 x22 x23 M24 => q_Mo_fieldAt_L92 (fun x26 x27 M28 => q_Mo_solves (M28.1 56 0) M28 (fun M29 => vp_in x26 12 ∧ (q_Mo_lowest (M29.2 71 x26.toNatClampNeg) (M29.2 56 18) x27 M29 (fun r31 M30 => post r31 M30)))) post m2 x21 x22 (x23 + 1) M24) post 1 (nI i) w (nI e) (nI 2) M6 := by
              intro M6 x6 r6
              unfold q_Mo_fieldAt_L103
              rw [nI_1]
              exact ⟨fun _ => ih M6 ⟨x6, r6⟩, fun z => absurd (by decide) z⟩
            have second : ∀ (T1 : Nat → Nat → Int64) M5, RX M1 M5 → RT (nP σ) (nP σ + 1) T1 M5 → T1 = (if wT σ (vB σ e) = 0 then upT (upT (fun a b => lI (FRI σ e a b)) (vB σ e) (vB σ e) 1) (vB σ e) (vE σ e) (-1) else (fun a b => lI (FRI σ e a b))) → q_Mo_fieldAt_L103 (fun x21 x22 x23 M24 => q_Mo_fieldAt_L92 (fun x26 x27 M28 => q_Mo_solves (M28.1 56 0) M28 (fun M29 => vp_in x26 12 ∧ (q_Mo_lowest (M29.2 71 x26.toNatClampNeg) (M29.2 56 18) x27 M29 (fun r31 M30 => post r31 M30)))) post m2 x21 x22 (x23 + 1) M24) post 2 (nI i) w (nI e) (nI 1) M5 := by
              intro T1 M5 x5 r5 eT
              have h5 := x5.rm h1
              have hc5 := h5.2.1 e he
              have hw5 := (h5.2.2.2.1 (vE σ e) (by omega)).1
              have v6 : vp_in (nI (vE σ e)) 6 := vp_in_nI (by omega) (by decide)
              have v12 : vp_in (nI e) 12 := vp_in_nI (by omega) (by decide)
              unfold q_Mo_fieldAt_L103
              rw [clm (show e < 200 by omega), hc5.1, hc5.2, clm (show vE σ e < 200 by omega), hw5, nI0 _ (by omega), nI_1 1]
              refine ⟨fun z => absurd z (by decide), fun _ => ⟨fun _ => ⟨v12, v12, v12, fun v14 e14 => ⟨v6, fun z => ?_, fun z => ?_⟩⟩, fun z => absurd z (by decide)⟩⟩
              · exact third M5 x5 (r5.congr (fun a b ha hb2 => FRI_step hW he ha (by omega) (T := fun a b => lI (FRI σ e a b)) (fun _ _ _ _ => rfl) eT (by rw [if_neg z])))
              · rw [e14, e2, ix13, ix13, clm (show 13 * vE σ e + vE σ e < 200 by omega), clm (show 13 * vE σ e + vB σ e < 200 by omega)]
                refine ⟨hvi _ _ (by omega) (by omega), hvi _ _ (by omega) (by omega), fun M6 e6 => ⟨hvi _ _ (by omega) (by omega), hvi _ _ (by omega) (by omega), fun M7 e7 => ?_⟩⟩
                have r6 := e6 ▸ r5.add hW13 (a := vE σ e) (b := vE σ e) (by omega) (by omega) (x := 1) (by rw [r5 _ (by omega) _ (by omega)])
                have r7 := e7 ▸ r6.add hW13 (a := vE σ e) (b := vB σ e) (by omega) (by omega) (x := -1) (by rw [r6 _ (by omega) _ (by omega)]; grind)
                exact third M7 (by rw [e7, e6]; exact (x5.trans RX.j69).trans RX.j69) (r7.congr (fun a b ha hb2 => FRI_step hW he ha (by omega) (T := fun a b => lI (FRI σ e a b)) (fun _ _ _ _ => rfl) eT (by rw [if_pos z])))
            have v6 : vp_in (nI (vB σ e)) 6 := vp_in_nI (by omega) (by decide)
            have v12 : vp_in (nI e) 12 := vp_in_nI (by omega) (by decide)
            unfold q_Mo_fieldAt_L103
            rw [clm (show e < 200 by omega), hc.1, hc.2, clm (show vB σ e < 200 by omega), hwb, nI0 _ (by omega)]
            refine ⟨fun z => absurd z (by decide), fun _ => ⟨fun z => absurd rfl z, fun _ => ⟨v12, v12, v12, fun v17 e17 => ⟨v6, fun z => ?_, fun z => ?_⟩⟩⟩⟩
            · exact second _ M4 x4 r4 (by rw [if_neg z])
            · rw [e17, e1, ix13, ix13, clm (show 13 * vB σ e + vB σ e < 200 by omega), clm (show 13 * vB σ e + vE σ e < 200 by omega)]
              refine ⟨hvi _ _ (by omega) (by omega), hvi _ _ (by omega) (by omega), fun M5 e5 => ⟨hvi _ _ (by omega) (by omega), hvi _ _ (by omega) (by omega), fun M6 e6 => ?_⟩⟩
              have r5 := e5 ▸ r4.add hW13 (a := vB σ e) (b := vB σ e) (by omega) (by omega) (x := 1) (by rw [r4 _ (by omega) _ (by omega)])
              have r6 := e6 ▸ r5.add hW13 (a := vB σ e) (b := vE σ e) (by omega) (by omega) (x := -1) (by rw [r5 _ (by omega) _ (by omega)]; grind)
              exact second _ M6 (by rw [e6, e5]; exact (x4.trans RX.j69).trans RX.j69) r6 (by rw [if_pos z])
        · rintro m q M3 hq ⟨x3, r3⟩ ih
          have h3 := x3.rm h1
          have hc := h3.2.2.2.1 q (by omega)
          unfold q_Mo_fieldAt_L34
          rw [h3.1.1, clm (show q < 200 by omega), hc.1, nI0 q hq, nI_1 (a := q), ix13, clm (show 13 * q + q < 200 by omega)]
          refine ⟨fun z => absurd z (nI_ge hq (by omega)), fun _ => ⟨vp_in_nI (by omega) (by decide), fun z => ih M3 ⟨x3, r3.congr (fun a b ha hb => ?_)⟩, fun z => ⟨hvi _ _ hq (by omega), fun M4 e4 => ⟨vp_in_nI (by omega) (by decide), ?_⟩⟩⟩⟩
          · by_cases y : a < q
            · rw [if_pos y, if_pos (by omega)]
            · rw [if_neg y]
              by_cases y2 : a = q
              · rw [if_pos (by omega), y2]
                unfold FRI
                rw [if_pos z]
                split <;> rfl
              · rw [if_neg (by omega)]
          · have x4 : RX M1 M4 := by rw [e4]; exact x3.trans RX.j69
            have r4 := e4 ▸ r3.put hW13 hq (show q < nP σ + 1 by omega) (x := 1)
            have h4 := x4.rm h1
            rw [h4.1.1, ix13, clm (show 13 * q + nP σ < 200 by omega), (h4.2.2.2.1 q (by omega)).2.1]
            refine ⟨hvi _ _ hq (by omega), fun M5 e5 => ih M5 ⟨by rw [e5]; exact x4.trans RX.j69, ?_⟩⟩
            have r5 := e5 ▸ r4.put hW13 hq (show nP σ < nP σ + 1 by omega) (x := (wN σ q).toInt64)
            refine r5.congr (fun a b ha hb => ?_)
            by_cases y : a = q
            · rw [if_pos (show a < q + 1 by omega), y]
              unfold FRI
              rw [if_neg z]
              by_cases y2 : b = nP σ
              · rw [if_pos ⟨rfl, y2⟩, if_pos y2, lI_32]
              · rw [if_neg (fun t => y2 t.2), if_neg y2]
                by_cases y3 : b = q
                · rw [if_pos ⟨rfl, y3⟩, if_pos y3]; rfl
                · rw [if_neg (fun t => y3 t.2), if_neg y3, if_neg (by omega)]; rfl
            · rw [if_neg (fun t => y t.1), if_neg (fun t => y t.1)]
              by_cases y2 : a < q
              · rw [if_pos y2, if_pos (by omega)]
              · rw [if_neg y2, if_neg (by omega)]
      · rw [cif_neg (fun q => c5 q.2.2)] at K'
        exact K' M1 h1 (g1.mono (fun k hk => by unfold D56; omega) (fun k hk => hk.elim))
    · rw [cif_neg (fun q => c q.2.1)] at K'; exact K' M h Ag.rf
  · rw [cif_neg (fun q => c q.1)] at K'; exact K' M h Ag.rf
end FAT2
