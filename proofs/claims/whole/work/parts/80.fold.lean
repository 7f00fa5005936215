/-! digest -/
def fo (g : Nat → Int64 → Int64) : Nat → Int64 → Int64
  | 0, h => h
  | n + 1, h => g n (fo g n h)
theorem fo_loop (P : Nat → Nat → Int64 → Mem → Prop) (g : Nat → Int64 → Int64) (I : Mem → Prop) (n : Nat) (h : Int64) (M : Mem) (i0 : I M) (fin : ∀ m M', I M' → P (m + 1) n (fo g n h) M') (stp : ∀ m i x M', i < n → I M' → (∀ M'', I M'' → P m (i + 1) (g i x) M'') → P (m + 1) i x M') : ∃ m, P m 0 h M := by
  refine pk_loop (fun m i (s : Int64 × Mem) => P m i s.1 s.2) (fun i s => s.1 = fo g i h ∧ I s.2) n 0 (h, M) (Nat.zero_le _) ⟨rfl, i0⟩ ?_ ?_
  · rintro m ⟨x, M'⟩ ⟨e1, e2⟩
    dsimp only at e1 e2
    subst e1
    exact fin m M' e2
  · rintro m i ⟨x, M'⟩ hi ⟨e1, e2⟩ ih
    dsimp only at e1 e2
    subst e1
    exact stp m i _ M' hi e2 (fun M'' h2 => ih (_, M'') ⟨rfl, h2⟩)
noncomputable def dg0 (σ : Sg) : Int64 := fo (fun k h => 31 * h + (op_count σ (nI k)).1.toInt64) 5 109
noncomputable def dg1 (σ : Sg) : Int64 := fo (fun k h => 31 * (31 * h + (nI (vB σ k)).toInt64) + (nI (vE σ k)).toInt64) (nE σ) (dg0 σ)
noncomputable def dg2 (σ : Sg) : Int64 := fo (fun k h => 31 * (31 * (31 * h + (nI (vB σ (pF1 σ k))).toInt64) + (nI (vE σ (pF1 σ k))).toInt64) + (nI (vE σ (pS1 σ k))).toInt64) (nF σ) (dg1 σ)
noncomputable def dg3 (σ : Sg) : Int64 := fo (fun f h => fo (fun k h => 31 * h + (fN σ f k).toInt64) (sz σ (fD σ f)) (31 * h + (nI (fD σ f)).toInt64)) 12 (dg2 σ)
noncomputable def dg4 (σ : Sg) : Int64 := fo (fun p h => if wT σ p = 0 then h else 31 * (31 * h + (nI p).toInt64) + (wN σ p).toInt64) (nP σ) (dg3 σ)
noncomputable def dg5 (σ : Sg) : Int64 := fo (fun p h => 31 * h + wL σ p) (nP σ) (dg4 σ)
noncomputable def dg6 (σ : Sg) : Int64 := fo (fun e h => 31 * h + wF σ e) (nE σ) (dg5 σ)
noncomputable def op_digest (σ : Sg) : Int64 × Sg := (dg6 σ, σ)
theorem op_count_2 (σ : Sg) (w : Int32) : (op_count σ w).2 = σ := by
  by_cases z : vp_in w 5
  · unfold op_count; rw [cif_pos z]
  · unfold op_count; rw [cif_neg z]
section FOLD
variable {σ : Sg} {M : Mem}
theorem h_foldCorners1 (hW : WF σ) (h : RC σ M) {x : Int64} {post : Int64 → Mem → Prop} (hp : post (fo (fun k h => 31 * (31 * h + (nI (vB σ k)).toInt64) + (nI (vE σ k)).toInt64) (nE σ) x) M) : q_Nf_foldCorners x 1 M post := by
  have hP := hW.1
  have hz := hW.sz 1
  unfold q_Nf_foldCorners
  refine fo_loop (fun m i x M' => q_Nf_foldCorners_L6 (fun x11 M12 => post x11 M12) post m 1 x (nI i) M') (fun k h => 31 * (31 * h + (nI (vB σ k)).toInt64) + (nI (vE σ k)).toInt64) (fun M' => M' = M) (nE σ) x M rfl ?_ ?_
  · rintro m _ rfl
    unfold q_Nf_foldCorners_L6
    exact h_Net_size h (d := 1) (by decide) ⟨fun _ => hp, fun c => absurd (nI_le (Nat.le_refl _) (by omega)) c⟩
  · rintro m i y _ hi rfl ih
    have hi2 : i < sz σ 1 := hi
    unfold q_Nf_foldCorners_L6
    refine h_Net_size h (d := 1) (by decide) ⟨fun c => absurd c (nI_ge hi (by omega)), fun _ => ⟨3, ?_⟩⟩
    unfold q_Nf_foldCorners_L22
    refine ⟨fun c => absurd c (by decide), fun _ => h_Net_pointOf hW h (d := 1) (i := 0) (Or.inl rfl) hi2 (by decide) ?_⟩
    unfold q_Nf_foldCorners_L22
    refine ⟨fun c => absurd c (by decide), fun _ => h_Net_pointOf hW h (d := 1) (i := 1) (Or.inl rfl) hi2 (by decide) ?_⟩
    unfold q_Nf_foldCorners_L22
    refine ⟨fun _ => ?_, fun c => absurd (show (1 : Int32) < 0 + 1 + 1 by decide) c⟩
    rw [nI_1]
    exact ih _ rfl
theorem h_foldCorners2 (hW : WF σ) (h : RC σ M) {x : Int64} {post : Int64 → Mem → Prop} (hp : post (fo (fun k h => 31 * (31 * (31 * h + (nI (vB σ (pF1 σ k))).toInt64) + (nI (vE σ (pF1 σ k))).toInt64) + (nI (vE σ (pS1 σ k))).toInt64) (nF σ) x) M) : q_Nf_foldCorners x 2 M post := by
  have hP := hW.1
  have hz := hW.sz 2
  unfold q_Nf_foldCorners
  refine fo_loop (fun m i x M' => q_Nf_foldCorners_L6 (fun x11 M12 => post x11 M12) post m 2 x (nI i) M') (fun k h => 31 * (31 * (31 * h + (nI (vB σ (pF1 σ k))).toInt64) + (nI (vE σ (pF1 σ k))).toInt64) + (nI (vE σ (pS1 σ k))).toInt64) (fun M' => M' = M) (nF σ) x M rfl ?_ ?_
  · rintro m _ rfl
    unfold q_Nf_foldCorners_L6
    exact h_Net_size h (d := 2) (by decide) ⟨fun _ => hp, fun c => absurd (nI_le (Nat.le_refl _) (by omega)) c⟩
  · rintro m i y _ hi rfl ih
    have hi2 : i < sz σ 2 := hi
    unfold q_Nf_foldCorners_L6
    refine h_Net_size h (d := 2) (by decide) ⟨fun c => absurd c (nI_ge hi (by omega)), fun _ => ⟨4, ?_⟩⟩
    unfold q_Nf_foldCorners_L22
    refine ⟨fun c => absurd c (by decide), fun _ => h_Net_pointOf hW h (d := 2) (i := 0) (Or.inr rfl) hi2 (by decide) ?_⟩
    unfold q_Nf_foldCorners_L22
    refine ⟨fun c => absurd c (by decide), fun _ => h_Net_pointOf hW h (d := 2) (i := 1) (Or.inr rfl) hi2 (by decide) ?_⟩
    unfold q_Nf_foldCorners_L22
    refine ⟨fun c => absurd c (by decide), fun _ => h_Net_pointOf hW h (d := 2) (i := 2) (Or.inr rfl) hi2 (by decide) ?_⟩
    unfold q_Nf_foldCorners_L22
    refine ⟨fun _ => ?_, fun c => absurd (show (2 : Int32) < 0 + 1 + 1 + 1 by decide) c⟩
    rw [nI_1]
    exact ih _ rfl
theorem h_foldForms (hW : WF σ) (h : RC σ M) {x : Int64} {post : Int64 → Mem → Prop} (hp : post (fo (fun f h => fo (fun k h => 31 * h + (fN σ f k).toInt64) (sz σ (fD σ f)) (31 * h + (nI (fD σ f)).toInt64)) 12 x) M) : q_Nf_foldForms x M post := by
  unfold q_Nf_foldForms
  refine fo_loop (fun m i x M' => q_Nf_foldForms_L5 (fun x11 M12 => post x11 M12) post m x (nI i) M') (fun f h => fo (fun k h => 31 * h + (fN σ f k).toInt64) (sz σ (fD σ f)) (31 * h + (nI (fD σ f)).toInt64)) (fun M' => M' = M) 12 x M rfl ?_ ?_
  · rintro m _ rfl
    unfold q_Nf_foldForms_L5
    exact ⟨fun _ => hp, fun c => absurd (show (12 : Int32) ≤ nI 12 by decide) c⟩
  · rintro m i y M1 hi e1 ih
    subst e1
    have hf := h.2.2.2.2.1 i hi
    have hd := (hW.2.2.2.2.2.2.1 i hi).1
    have hz := hW.sz (fD σ i)
    unfold q_Nf_foldForms_L5
    rw [clm (by omega), hf.1]
    refine ⟨fun c => absurd (show nI 12 ≤ nI i from c) (nI_ge hi (by decide)), fun _ => ⟨vp_in_nI hi (by decide), ?_⟩⟩
    refine fo_loop (fun m2 j x M' => q_Nf_foldForms_L37 i _ post m2 x (nI i) (nI j) M') (fun k h => 31 * h + (fN σ i k).toInt64) (fun M' => M' = M1) (sz σ (fD σ i)) _ M1 rfl ?_ ?_
    · rintro m2 M2 e2
      subst e2
      unfold q_Nf_foldForms_L37
      rw [hf.1]
      refine h_Net_size h hd ⟨fun _ => ?_, fun c => absurd (nI_le (Nat.le_refl _) (by omega)) c⟩
      rw [nI_1]
      exact ih _ rfl
    · rintro m2 j z M2 hj e2 ih2
      subst e2
      unfold q_Nf_foldForms_L37
      rw [hf.1]
      refine h_Net_size h hd ⟨fun c => absurd c (nI_ge hj (by omega)), fun _ => ⟨vp_in_nI (by omega) (by decide), fun v hv => ?_⟩⟩
      rw [clm (by omega), hf.2 j (by omega)] at hv
      rw [nI_1, hv]
      exact ih2 _ rfl
theorem h_foldWalls (hW : WF σ) (h : RC σ M) {x : Int64} {post : Int64 → Mem → Prop} (hp : post (fo (fun p h => if wT σ p = 0 then h else 31 * (31 * h + (nI p).toInt64) + (wN σ p).toInt64) (nP σ) x) M) : q_Nf_foldWalls x M post := by
  have hP := hW.1
  unfold q_Nf_foldWalls
  refine fo_loop (fun m i x M' => q_Nf_foldWalls_L5 (fun x11 M12 => post x11 M12) post m x (nI i) M') (fun p h => if wT σ p = 0 then h else 31 * (31 * h + (nI p).toInt64) + (wN σ p).toInt64) (fun M' => M' = M) (nP σ) x M rfl ?_ ?_
  · rintro m _ rfl
    unfold q_Nf_foldWalls_L5
    rw [h.1.1]
    exact ⟨fun _ => hp, fun c => absurd (nI_le (Nat.le_refl _) (by omega)) c⟩
  · rintro m i y M1 hi e1 ih
    subst e1
    have hq := h.2.2.2.1 i (by omega)
    have wt := (hW.2.2.2.2.2.2.2.1 i (by omega)).1
    unfold q_Nf_foldWalls_L5
    rw [h.1.1, clm (by omega), hq.2.1, hq.2.2.1, nI_1]
    refine ⟨fun c => absurd c (nI_ge hi (by omega)), fun _ => ⟨vp_in_nI (by omega) (by decide), fun c => ?_, fun c => ⟨vp_in_nI (by omega) (by decide), fun v hv => ?_⟩⟩⟩
    · have z : wT σ i = 0 := (nI_eq (by omega) (by decide)).mp (show nI (wT σ i) = nI 0 from c)
      have := ih _ rfl
      rw [if_pos z] at this
      exact this
    · have z : ¬ wT σ i = 0 := fun q => c (by rw [q]; rfl)
      have := ih _ rfl
      rw [if_neg z] at this
      rw [hv]
      exact this
theorem h_Nf_digest (hW : WF σ) (h : RC σ M) {post : Int64 → Mem → Prop} (K : ∀ M', RC (op_digest σ).2 M' → Ag C56 C56 M M' → post (op_digest σ).1 M') : q_Nf_digest M post := by
  have hP := hW.1
  unfold q_Nf_digest
  refine fo_loop (fun m i x M' => q_Nf_digest_L6 _ post m x (nI i) M') (fun k h => 31 * h + (op_count σ (nI k)).1.toInt64) (fun M' => RC σ M' ∧ Ag C56 C56 M M') 5 109 M ⟨h, Ag.rf⟩ ?_ ?_
  · rintro m M1 ⟨h1, g1⟩
    unfold q_Nf_digest_L6
    refine ⟨fun _ => h_foldCorners1 hW h1 (h_foldCorners2 hW h1 (h_foldForms hW h1 (h_foldWalls hW h1 ?_))), fun c => absurd (show (4 : Int32) < nI 5 by decide) c⟩
    refine fo_loop (fun m i x M' => q_Nf_digest_L58 _ post m x (nI i) M') (fun p h => 31 * h + wL σ p) (fun M' => M' = M1) (nP σ) (dg4 σ) M1 rfl ?_ ?_
    · rintro m2 M2 e2
      subst e2
      unfold q_Nf_digest_L58
      rw [h1.1.1]
      refine ⟨fun _ => ?_, fun c => absurd (nI_le (Nat.le_refl _) (by omega)) c⟩
      refine fo_loop (fun m i x M' => q_Nf_digest_L93 _ post m x (nI i) M') (fun p h => 31 * h + wF σ p) (fun M' => M' = M2) (nE σ) (dg5 σ) M2 rfl ?_ ?_
      · rintro m3 M3 e3
        subst e3
        unfold q_Nf_digest_L93
        rw [h1.1.2.1]
        exact ⟨fun _ => K M3 h1 g1, fun c => absurd (nI_le (Nat.le_refl _) (by omega)) c⟩
      · rintro m3 i y M3 hi e3 ih
        subst e3
        unfold q_Nf_digest_L93
        rw [h1.1.2.1, clm (by omega), h1.2.2.2.2.2.1 i (by omega), nI_1]
        exact ⟨fun c => absurd c (nI_ge hi (by omega)), fun _ => ⟨vp_in_nI (by omega) (by decide), ih _ rfl⟩⟩
    · rintro m2 i y M2 hi e2 ih
      subst e2
      unfold q_Nf_digest_L58
      rw [h1.1.1, clm (by omega), (h1.2.2.2.1 i (by omega)).2.2.2, nI_1]
      exact ⟨fun c => absurd c (nI_ge hi (by omega)), fun _ => ⟨vp_in_nI (by omega) (by decide), ih _ rfl⟩⟩
  · rintro m i y M1 hi ⟨h1, g1⟩ ih
    unfold q_Nf_digest_L6
    rw [nI_1]
    refine ⟨fun c => ?_, fun _ => h_Nf_count hW h1 (fun M2 h2 g2 => ?_)⟩
    · rw [Int32.lt_iff_toInt_lt, nI_toInt (by omega)] at c
      have : (4 : Int32).toInt = 4 := rfl
      omega
    · rw [op_count_2] at h2
      exact ih M2 ⟨h2, g1.trans g2⟩
theorem h_Mo_digest (hW : WF σ) (h : RM σ M) {post : Int64 → Mem → Prop} (K : ∀ M', RM (op_digest σ).2 M' → Ag D56 D56 M M' → post (op_digest σ).1 M') : q_Mo_digest M post := by
  have hP := hW.1
  unfold q_Mo_digest
  refine fo_loop (fun m i x M' => q_Mo_digest_L6 _ post m x (nI i) M') (fun k h => 31 * h + (op_count σ (nI k)).1.toInt64) (fun M' => RM σ M' ∧ Ag D56 D56 M M') 5 109 M ⟨h, Ag.rf⟩ ?_ ?_
  · rintro m M1 ⟨h1, g1⟩
    unfold q_Mo_digest_L6
    refine ⟨fun _ => ?_, fun c => absurd (show (5 : Int32) ≤ nI 5 by decide) c⟩
    refine fo_loop (fun m i x M' => q_Mo_digest_L32 _ post m x (nI i) M') (fun k h => 31 * (31 * h + (nI (vB σ k)).toInt64) + (nI (vE σ k)).toInt64) (fun M' => M' = M1) (nE σ) (dg0 σ) M1 rfl ?_ ?_
    · rintro m2 M2 e2
      subst e2
      unfold q_Mo_digest_L32
      rw [h1.1.2.1]
      refine ⟨fun _ => ?_, fun c => absurd (nI_le (Nat.le_refl _) (by omega)) c⟩
      refine fo_loop (fun m i x M' => q_Mo_digest_L74 _ post m x (nI i) M') (fun k h => 31 * (31 * (31 * h + (nI (vB σ (pF1 σ k))).toInt64) + (nI (vE σ (pF1 σ k))).toInt64) + (nI (vE σ (pS1 σ k))).toInt64) (fun M' => M' = M2) (nF σ) (dg1 σ) M2 rfl ?_ ?_
      · rintro m3 M3 e3
        subst e3
        unfold q_Mo_digest_L74
        rw [h1.1.2.2]
        refine ⟨fun _ => ?_, fun c => absurd (nI_le (Nat.le_refl _) (by omega)) c⟩
        refine fo_loop (fun m i x M' => q_Mo_digest_L128 _ post m x (nI i) M') (fun f h => fo (fun k h => 31 * h + (fN σ f k).toInt64) (sz σ (fD σ f)) (31 * h + (nI (fD σ f)).toInt64)) (fun M' => M' = M3) 12 (dg2 σ) M3 rfl ?_ ?_
        · rintro m4 M4 e4
          subst e4
          unfold q_Mo_digest_L128
          refine ⟨fun _ => ?_, fun c => absurd (show (12 : Int32) ≤ nI 12 by decide) c⟩
          refine fo_loop (fun m i x M' => q_Mo_digest_L194 _ post m x (nI i) M') (fun p h => if wT σ p = 0 then h else 31 * (31 * h + (nI p).toInt64) + (wN σ p).toInt64) (fun M' => M' = M4) (nP σ) (dg3 σ) M4 rfl ?_ ?_
          · rintro m5 M5 e5
            subst e5
            unfold q_Mo_digest_L194
            rw [h1.1.1]
            refine ⟨fun _ => ?_, fun c => absurd (nI_le (Nat.le_refl _) (by omega)) c⟩
            refine fo_loop (fun m i x M' => q_Mo_digest_L244 _ post m x (nI i) M') (fun p h => 31 * h + wL σ p) (fun M' => M' = M5) (nP σ) (dg4 σ) M5 rfl ?_ ?_
            · rintro m6 M6 e6
              subst e6
              unfold q_Mo_digest_L244
              rw [h1.1.1]
              refine ⟨fun _ => ?_, fun c => absurd (nI_le (Nat.le_refl _) (by omega)) c⟩
              refine fo_loop (fun m i x M' => q_Mo_digest_L273 _ post m x (nI i) M') (fun p h => 31 * h + wF σ p) (fun M' => M' = M6) (nE σ) (dg5 σ) M6 rfl ?_ ?_
              · rintro m7 M7 e7
                subst e7
                unfold q_Mo_digest_L273
                rw [h1.1.2.1]
                exact ⟨fun _ => K M7 h1 g1, fun c => absurd (nI_le (Nat.le_refl _) (by omega)) c⟩
              · rintro m7 i y M7 hi e7 ih
                subst e7
                unfold q_Mo_digest_L273
                rw [h1.1.2.1, clm (by omega), h1.2.2.2.2.2.1 i (by omega), nI_1]
                exact ⟨fun c => absurd c (nI_ge hi (by omega)), fun _ => ⟨vp_in_nI (by omega) (by decide), ih _ rfl⟩⟩
            · rintro m6 i y M6 hi e6 ih
              subst e6
              unfold q_Mo_digest_L244
              rw [h1.1.1, clm (by omega), (h1.2.2.2.1 i (by omega)).2.2, nI_1]
              exact ⟨fun c => absurd c (nI_ge hi (by omega)), fun _ => ⟨vp_in_nI (by omega) (by decide), ih _ rfl⟩⟩
          · rintro m5 i y M5 hi e5 ih
            subst e5
            have hq := h1.2.2.2.1 i (by omega)
            have wt := (hW.2.2.2.2.2.2.2.1 i (by omega)).1
            unfold q_Mo_digest_L194
            rw [h1.1.1, clm (by omega), hq.1, hq.2.1, nI_1]
            refine ⟨fun c => absurd c (nI_ge hi (by omega)), fun _ => ⟨vp_in_nI (by omega) (by decide), fun c => ?_, fun c => ⟨vp_in_nI (by omega) (by decide), fun v hv => ?_⟩⟩⟩
            · have z : wT σ i = 0 := (nI_eq (by omega) (by decide)).mp (show nI (wT σ i) = nI 0 from c)
              have := ih _ rfl
              rw [if_pos z] at this
              exact this
            · have z : ¬ wT σ i = 0 := fun q => c (by rw [q]; rfl)
              have := ih _ rfl
              rw [if_neg z] at this
              rw [hv]
              exact this
        · rintro m4 i y M4 hi e4 ih
          subst e4
          have hf := h1.2.2.2.2.1 i hi
          have hd := (hW.2.2.2.2.2.2.1 i hi).1
          have hz := hW.sz (fD σ i)
          unfold q_Mo_digest_L128
          rw [clm (by omega), hf.1]
          refine ⟨fun c => absurd (show nI 12 ≤ nI i from c) (nI_ge hi (by decide)), fun _ => ⟨vp_in_nI hi (by decide), ?_⟩⟩
          refine fo_loop (fun m2 j x M' => q_Mo_digest_L151 _ post m2 x (nI i) (nI j) M') (fun k h => 31 * h + (fN σ i k).toInt64) (fun M' => M' = M4) (sz σ (fD σ i)) _ M4 rfl ?_ ?_
          · rintro m5 M5 e5
            subst e5
            unfold q_Mo_digest_L151
            rw [clm (by omega), hf.1]
            refine ⟨vp_in_nI hi (by decide), h_Mo_size h1 rfl hd ⟨fun _ => ?_, fun c => absurd (nI_le (Nat.le_refl _) (by omega)) c⟩⟩
            rw [nI_1]
            exact ih _ rfl
          · rintro m5 j z M5 hj e5 ih2
            subst e5
            unfold q_Mo_digest_L151
            rw [clm (by omega), hf.1]
            refine ⟨vp_in_nI hi (by decide), h_Mo_size h1 rfl hd ⟨fun c => absurd c (nI_ge hj (by omega)), fun _ => h_Mo_at h1 rfl hi (by omega) ?_⟩⟩
            rw [nI_1]
            exact ih2 _ rfl
      · rintro m3 i y M3 hi e3 ih
        subst e3
        have hq := h1.2.2.1 i hi
        unfold q_Mo_digest_L74
        rw [h1.1.2.2, clm (by omega), hq.1, hq.2.1, hq.2.2, nI_1]
        exact ⟨fun c => absurd c (nI_ge hi (by omega)), fun _ => ⟨vp_in_nI (by omega) (by decide), vp_in_nI (by omega) (by decide), vp_in_nI (by omega) (by decide), fun v hv => by rw [hv]; exact ih _ rfl⟩⟩
    · rintro m2 i y M2 hi e2 ih
      subst e2
      have hq := h1.2.1 i hi
      unfold q_Mo_digest_L32
      rw [h1.1.2.1, clm (by omega), hq.1, hq.2, nI_1]
      exact ⟨fun c => absurd c (nI_ge hi (by omega)), fun _ => ⟨vp_in_nI (by omega) (by decide), vp_in_nI (by omega) (by decide), fun v hv => by rw [hv]; exact ih _ rfl⟩⟩
  · rintro m i y M1 hi ⟨h1, g1⟩ ih
    unfold q_Mo_digest_L6
    rw [nI_1]
    refine ⟨fun c => absurd (show nI 5 ≤ nI i from c) (nI_ge hi (by decide)), fun _ => h_Mo_count hW h1 (fun M2 h2 g2 => ?_)⟩
    rw [op_count_2] at h2
    exact ih M2 ⟨h2, g1.trans g2⟩
end FOLD
