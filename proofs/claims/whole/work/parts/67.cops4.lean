/-! the class's calls: net, sum, count, raise, wave -/
def smJ (f : Nat → Int64) : Nat → Int64
  | 0 => 0
  | n + 1 => smJ f n + f n
def cnt (T : Nat → Nat) : Nat → Nat
  | 0 => 0
  | n + 1 => cnt T n + (if T n = 0 then 0 else 1)
theorem cnt_le (T : Nat → Nat) : ∀ n, cnt T n ≤ n
  | 0 => Nat.le_refl _
  | n + 1 => by have := cnt_le T n; unfold cnt; split <;> omega
def op_sum (σ : Sg) : Int64 × Sg := (smJ (wL σ) (nP σ), σ)
noncomputable def op_count (σ : Sg) (w : Int32) : Int32 × Sg := cif (vp_in w 5) (nI (if tn w = 3 then cnt (wT σ) (nP σ) else if tn w = 4 then own (vL σ) (nP σ) else sz σ (tn w)), σ) (-2, σ)
noncomputable def op_raise (σ : Sg) (f : Int32) : Int32 × Sg := cif (vp_in f 12) (cif (fD σ (tn f) = 2) (-3, σ) (1, uWave σ 0 (fun q => if fD σ (tn f) = 0 ∧ q < nP σ then (fN σ (tn f) q).toInt64 else 0) (fun k => if fD σ (tn f) = 1 ∧ k < nE σ then (fN σ (tn f) k).toInt64 else 0))) (-2, σ)
/-- flows by a step (w = 1) or back (w = -1), for the first n edges; and heights -/
def flF (σ : Sg) (w : Int64) (L F : Nat → Int64) (n : Nat) : Nat → Int64 := fun k => if k < n then F k + w * (L (vB σ k) - L (vE σ k)) else F k
def rsF (σ : Sg) (w : Int64) (F : Nat → Int64) : Nat → (Nat → Int64) → Nat → Int64
  | 0, L => L
  | n + 1, L => fun q => if q = vB σ n then rsF σ w F n L q - w * F n else if q = vE σ n then rsF σ w F n L q + w * F n else rsF σ w F n L q
def stF (σ : Sg) (back : Bool) (s : (Nat → Int64) × (Nat → Int64)) : (Nat → Int64) × (Nat → Int64) :=
  if back then (rsF σ (-1) s.2 (nE σ) s.1, flF σ (-1) (rsF σ (-1) s.2 (nE σ) s.1) s.2 (nE σ)) else (rsF σ 1 (flF σ 1 s.1 s.2 (nE σ)) (nE σ) s.1, flF σ 1 s.1 s.2 (nE σ))
def itF (σ : Sg) (back : Bool) : Nat → (Nat → Int64) × (Nat → Int64) → (Nat → Int64) × (Nat → Int64)
  | 0, s => s
  | n + 1, s => stF σ back (itF σ back n s)
noncomputable def op_wave (σ : Sg) (n : Int32) : Int32 × Sg := cif (¬ n = 0 ∧ i32le n 100) (wS σ + n, uWave σ (wS σ + n) (itF σ (decide (n < 0)) n.toInt.natAbs (wL σ, wF σ)).1 (itF σ (decide (n < 0)) n.toInt.natAbs (wL σ, wF σ)).2) (-2, σ)
section COPS4
variable {σ : Sg} {M : Mem}
theorem h_Net_begin {n : Int32} {post : Mem → Prop} (K : ∀ M', Ag (fun k => k = 1 ∨ k = 7) (fun _ => False) M M' → M'.1 1 0 = n → M'.1 1 1 = 0 → M'.1 1 2 = 0 → (∀ q, q < 6 → M'.1 7 q = nI q) → post M') : q_Net_begin n M post := by
  unfold q_Net_begin
  intro M1 e1 M2 e2 M3 e3
  have g : Ag (fun k => k = 1 ∨ k = 7) (fun _ => False) M M3 := by rw [e3, e2, e1]; exact ((agI (by omega)).trans (agI (by omega))).trans (agI (by omega))
  have r : M3.1 1 0 = n ∧ M3.1 1 1 = 0 ∧ M3.1 1 2 = 0 := by rw [e3, e2, e1]; simp [wI_1]
  refine pk_loop (fun m i (M' : Mem) => q_Net_begin_L17 _ post m (nI i) M') (fun i M' => Ag (fun k => k = 7) (fun _ => False) M3 M' ∧ ∀ q, q < i → M'.1 7 q = nI q) 6 0 M3 (Nat.zero_le _) ⟨Ag.rf, fun q hq => by omega⟩ ?_ ?_
  · rintro m M' ⟨g2, h7⟩
    unfold q_Net_begin_L17
    refine ⟨fun _ => K M' (g.trans (g2.mono (fun k hk => by omega) (fun k hk => hk))) ?_ ?_ ?_ h7, fun c => absurd (show (6 : Int32) ≤ nI 6 by decide) c⟩
    · rw [g2.1 1 (by omega)]; exact r.1
    · rw [g2.1 1 (by omega)]; exact r.2.1
    · rw [g2.1 1 (by omega)]; exact r.2.2
  · rintro m i M' hi ⟨g2, h7⟩ ih
    unfold q_Net_begin_L17
    rw [clm (by omega), nI_1]
    refine ⟨fun c => absurd (show nI 6 ≤ nI i from c) (nI_ge hi (by decide)), fun _ => ⟨vp_in_nI hi (by decide), fun M4 e4 => ?_⟩⟩
    subst e4
    refine ih _ ⟨g2.trans (agI rfl), fun q hq => ?_⟩
    rw [wI_1, if_pos rfl]
    split
    · rename_i z; rw [z]
    · exact h7 q (by omega)
theorem h_Wal_begin {post : Mem → Prop} (K : ∀ M', Ag (fun k => k = 10) (fun _ => False) M M' → (∀ q, q < 6 → M'.1 10 q = 0) → post M') : q_Wal_begin M post := by
  unfold q_Wal_begin
  refine pk_loop (fun m i (M' : Mem) => q_Wal_begin_L2 _ post m (nI i) M') (fun i M' => Ag (fun k => k = 10) (fun _ => False) M M' ∧ ∀ q, q < i → M'.1 10 q = 0) 6 0 M (Nat.zero_le _) ⟨Ag.rf, fun q hq => by omega⟩ ?_ ?_
  · rintro m M' ⟨g2, h7⟩
    unfold q_Wal_begin_L2
    exact ⟨fun _ => K M' g2 h7, fun c => absurd (show (6 : Int32) ≤ nI 6 by decide) c⟩
  · rintro m i M' hi ⟨g2, h7⟩ ih
    unfold q_Wal_begin_L2
    rw [clm (by omega), nI_1]
    refine ⟨fun c => absurd (show nI 6 ≤ nI i from c) (nI_ge hi (by decide)), fun _ => ⟨vp_in_nI hi (by decide), fun M4 e4 => ?_⟩⟩
    subst e4
    refine ih _ ⟨g2.trans (agI rfl), fun q hq => ?_⟩
    rw [wI_1, if_pos rfl]
    split
    · rfl
    · exact h7 q (by omega)
theorem h_Wav_begin {post : Mem → Prop} (K : ∀ M', Ag (fun k => k = 12) (fun k => k = 13 ∨ k = 14) M M' → M'.1 12 0 = 0 → (∀ q, q < 6 → M'.2 13 q = 0) → (∀ k, k < 12 → M'.2 14 k = 0) → post M') : q_Wav_begin M post := by
  unfold q_Wav_begin
  intro M1 e1
  subst e1
  refine h_fillJ (by decide) (fun M2 a2 h2 _ => h_fillJ (by decide) (fun M3 a3 h3 _ => K M3 ?_ ?_ (fun q hq => ?_) h3))
  · exact ((agI (S := fun k => k = 12) rfl).trans (a2.mono (fun k hk => hk.elim) (fun k hk => Or.inl hk))).trans (a3.mono (fun k hk => hk.elim) (fun k hk => Or.inr hk))
  · rw [a3.1 12 (fun q => q), a2.1 12 (fun q => q), wI_1, if_pos rfl, if_pos rfl]
  · rw [a3.2 13 (by omega)]; exact h2 q hq
theorem h_Nf_net (hW : WF σ) (h : RC σ M) {n : Int32} {post : Int32 → Mem → Prop} (K : ∀ M', RC (op_net σ n).2 M' → Ag C56 C56 M M' → post (op_net σ n).1 M') : q_Nf_net n M post := by
  unfold q_Nf_net
  refine ⟨fun c => ?_, fun c => ⟨fun c2 => ?_, fun c2 => ?_⟩⟩
  · have e : op_net σ n = (-2, σ) := cif_neg (fun q => q.1 c) _ _
    rw [e] at K; exact K M h Ag.rf
  · have e : op_net σ n = (1, uNet σ (tn n)) := cif_pos ⟨c, c2⟩ _ _
    rw [e] at K
    have hn : n = nI (tn n) := by
      rw [Int32.lt_iff_toInt_lt] at c
      have e1 : (1 : Int32).toInt = 1 := rfl
      obtain ⟨j, hj, rfl⟩ := nI_of (x := n) (fun q => by
        rw [Int32.lt_iff_toInt_lt] at q
        have : (0 : Int32).toInt = 0 := rfl
        omega)
      rw [show tn (nI j) = j from nI_clamp hj]
    refine h_Net_begin (fun M1 g1 a1 a2 a3 h7 => ?_)
    refine pk_loop (fun m i (M' : Mem) => q_Nf_net_L24 _ post m (nI i) M') (fun i M' => Ag (fun k => 32 ≤ k ∧ k < 56) (fun _ => False) M1 M' ∧ ∀ f, f < i → M'.1 (32 + 2 * f) 0 = 0 ∧ ∀ k, k < 12 → M'.1 (33 + 2 * f) k = 0) 12 0 M1 (Nat.zero_le _) ⟨Ag.rf, fun q hq => by omega⟩ ?_ ?_
    · rintro m M2 ⟨g2, h2⟩
      unfold q_Nf_net_L24
      refine ⟨fun _ => h_Wal_begin (fun M3 g3 h3 => h_Wav_begin (fun M4 g4 b1 b2 b3 => ?_)), fun c => absurd (show (12 : Int32) ≤ nI 12 by decide) c⟩
      refine K M4 (RC_net h ?_ (fun q hq => ?_) (fun f hf => ?_) b3 b1) ?_
      · rw [g4.1 1 (by omega), g3.1 1 (by omega), g2.1 1 (by omega), a1, a2, a3, ← hn]; exact ⟨rfl, rfl, rfl⟩
      · rw [g4.1 7 (by omega), g3.1 7 (by omega), g2.1 7 (by omega), g4.1 10 (by omega), g4.1 11 (by omega), g3.1 11 (by omega), g2.1 11 (by omega), g1.1 11 (by omega)]
        exact ⟨h7 q hq, h3 q hq, rfl, b2 q hq⟩
      · rw [g4.1 (32 + 2 * f) (by omega), g3.1 (32 + 2 * f) (by omega), g4.1 (33 + 2 * f) (by omega), g3.1 (33 + 2 * f) (by omega)]
        exact h2 f hf
      · exact (((g1.mono (fun k hk => by unfold C56; omega) (fun k hk => hk.elim)).trans (g2.mono (fun k hk => by unfold C56; omega) (fun k hk => hk.elim))).trans (g3.mono (fun k hk => by unfold C56; omega) (fun k hk => hk.elim))).trans (g4.mono (fun k hk => by unfold C56; omega) (fun k hk => by unfold C56; omega))
    · rintro m i M2 hi ⟨g2, h2⟩ ih
      unfold q_Nf_net_L24
      rw [clm (by omega), nI_1]
      refine ⟨fun c => absurd (show nI 12 ≤ nI i from c) (nI_ge hi (by decide)), fun _ => ⟨vp_in_nI hi (by decide), h_Frm_begin (fun M3 g3 b1 b2 => ?_)⟩⟩
      refine ih M3 ⟨g2.trans (g3.mono (fun k hk => by omega) (fun k hk => hk)), fun f hf => ?_⟩
      by_cases z : f = i
      · subst z; exact ⟨b1, b2⟩
      · rw [g3.1 (32 + 2 * f) (by omega), g3.1 (33 + 2 * f) (by omega)]
        exact h2 f (by omega)
  · have e : op_net σ n = (-2, σ) := cif_neg (fun q => c2 q.2) _ _
    rw [e] at K; exact K M h Ag.rf
theorem h_Nf_sum (hW : WF σ) (h : RC σ M) {post : Int64 → Mem → Prop} (K : ∀ M', RC (op_sum σ).2 M' → Ag C56 C56 M M' → post (op_sum σ).1 M') : q_Nf_sum M post := by
  have hP := hW.1
  unfold q_Nf_sum
  refine pk_loop (fun m i (s : Int64 × Mem) => q_Nf_sum_L4 _ post m s.1 (nI i) s.2) (fun i s => s.2 = M ∧ s.1 = smJ (wL σ) i) (nP σ) 0 (0, M) (Nat.zero_le _) ⟨rfl, rfl⟩ ?_ ?_
  · rintro m ⟨c, M'⟩ ⟨h1, h2⟩
    dsimp only at h1 h2
    subst h1 h2
    unfold q_Nf_sum_L4
    rw [h.1.1]
    exact ⟨fun _ => K _ h Ag.rf, fun c => absurd (nI_le (Nat.le_refl _) (by omega)) c⟩
  · rintro m i ⟨c, M'⟩ hi ⟨h1, h2⟩ ih
    dsimp only at h1 h2
    subst h1 h2
    unfold q_Nf_sum_L4
    dsimp only
    rw [h.1.1, clm (by omega), nI_1, (h.2.2.2.1 i (by omega)).2.2.2]
    exact ⟨fun c => absurd c (nI_ge hi (by omega)), fun _ => ⟨vp_in_nI (by omega) (by decide), ih (smJ (wL σ) i + wL σ i, M') ⟨rfl, rfl⟩⟩⟩
theorem h_Wal_countThere (hW : WF σ) (h : RC σ M) {post : Int32 → Mem → Prop} (hp : post (nI (cnt (wT σ) (nP σ))) M) : q_Wal_countThere M post := by
  have hP := hW.1
  unfold q_Wal_countThere
  refine pk_loop (fun m i (s : Int32 × Mem) => q_Wal_countThere_L4 _ post m s.1 (nI i) s.2) (fun i s => s.2 = M ∧ s.1 = nI (cnt (wT σ) i)) (nP σ) 0 (0, M) (Nat.zero_le _) ⟨rfl, rfl⟩ ?_ ?_
  · rintro m ⟨c, M'⟩ ⟨h1, h2⟩
    dsimp only at h1 h2
    subst h1 h2
    unfold q_Wal_countThere_L4
    rw [h.1.1]
    exact ⟨fun _ => hp, fun c => absurd (nI_le (Nat.le_refl _) (by omega)) c⟩
  · rintro m i ⟨c, M'⟩ hi ⟨h1, h2⟩ ih
    dsimp only at h1 h2
    subst h1 h2
    have hT := (hW.2.2.2.2.2.2.2.1 i (by omega)).1
    unfold q_Wal_countThere_L4
    dsimp only
    rw [h.1.1, clm (by omega), nI_1, nI_1, (h.2.2.2.1 i (by omega)).2.1]
    refine ⟨fun c => absurd c (nI_ge hi (by omega)), fun _ => ⟨vp_in_nI (by omega) (by decide), fun c => ?_, fun c => ?_⟩⟩
    · refine ih (nI (cnt (wT σ) i), M') ⟨rfl, ?_⟩
      have : wT σ i = 0 := (nI_eq (by omega) (by decide)).mp (show nI (wT σ i) = nI 0 from c)
      simp [cnt, this]
    · refine ih (nI (cnt (wT σ) i + 1), M') ⟨rfl, ?_⟩
      have : ¬ wT σ i = 0 := fun q => c (by rw [q]; rfl)
      simp [cnt, this]
theorem h_Nf_count (hW : WF σ) (h : RC σ M) {w : Int32} {post : Int32 → Mem → Prop} (K : ∀ M', RC (op_count σ w).2 M' → Ag C56 C56 M M' → post (op_count σ w).1 M') : q_Nf_count w M post := by
  unfold q_Nf_count
  have bad : ¬ vp_in w 5 → post (-2) M := fun q => by
    have e : op_count σ w = (-2, σ) := cif_neg q _ _
    rw [e] at K; exact K M h Ag.rf
  refine ⟨fun c => bad (nvin_neg c), fun c => ⟨fun c2 => ?_, fun c2 => bad (fun q => ?_)⟩⟩
  · have hv : vp_in w 5 := nle_vin (by decide) c (fun q => by
      rw [Int32.le_iff_toInt_le] at c2 q
      have e1 : (nI 5).toInt = 5 := rfl
      have e2 : (4 : Int32).toInt = 4 := rfl
      omega)
    obtain ⟨j, hj, rfl⟩ := vp_in_of hv (by decide)
    have e : op_count σ (nI j) = (nI (if j = 3 then cnt (wT σ) (nP σ) else if j = 4 then own (vL σ) (nP σ) else sz σ j), σ) := by
      unfold op_count; rw [cif_pos hv, tnI (by omega)]
    rw [e] at K
    have K := K M h Ag.rf
    match j, hj with
    | 0, _ => exact ⟨fun c => absurd c (by decide), fun _ => h_Net_size h (by decide) K⟩
    | 1, _ => exact ⟨fun c => absurd c (by decide), fun _ => h_Net_size h (by decide) K⟩
    | 2, _ => exact ⟨fun c => absurd c (by decide), fun _ => h_Net_size h (by decide) K⟩
    | 3, _ => exact ⟨fun _ => ⟨fun c => absurd rfl c, fun _ => h_Wal_countThere hW h K⟩, fun c => absurd (show (2 : Int32) < nI 3 by decide) c⟩
    | 4, _ => exact ⟨fun _ => ⟨fun _ => h_Net_countParts hW h K, fun c => absurd c (by decide)⟩, fun c => absurd (show (2 : Int32) < nI 4 by decide) c⟩
  · obtain ⟨j, hj, rfl⟩ := vp_in_of q (by decide)
    exact c2 (show nI j ≤ nI 4 from nI_le (by omega) (by decide))
theorem h_Net_size2 {M0 : Mem} (h : RC σ M0) (e : M.1 1 = M0.1 1) {d : Nat} (hd : d ≤ 2) {post : Int32 → Mem → Prop} (hp : post (nI (sz σ d)) M) : q_Net_size (nI d) M post := by
  obtain ⟨⟨a1, a2, a3⟩, -⟩ := h
  unfold q_Net_size
  rw [e]
  match d, hd with
  | 0, _ => exact ⟨fun c => absurd rfl c, fun _ => by rw [a1]; exact hp⟩
  | 1, _ => exact ⟨fun _ => ⟨fun c => absurd rfl c, fun _ => by rw [a2]; exact hp⟩, fun c => absurd c (by decide)⟩
  | 2, _ => exact ⟨fun _ => ⟨fun _ => by rw [a3]; exact hp, fun c => absurd c (by decide)⟩, fun c => absurd c (by decide)⟩
theorem h_Nf_raise (hW : WF σ) (h : RC σ M) {f : Int32} {post : Int32 → Mem → Prop} (K : ∀ M', RC (op_raise σ f).2 M' → Ag C56 C56 M M' → post (op_raise σ f).1 M') : q_Nf_raise f M post := by
  have hP := hW.1
  unfold q_Nf_raise
  refine h_formAt (fun i hi e => ⟨(fun c => nomatch c), fun i3 c => ?_⟩) (fun c => ⟨fun _ => ?_, fun i3 c => nomatch c⟩)
  · cases c
    subst e
    have hf := h.2.2.2.2.1 i hi
    have hd := (hW.2.2.2.2.2.2.1 i hi).1
    have hz := hW.sz (fD σ i)
    refine ⟨hi, ?_⟩
    rw [hf.1]
    refine ⟨fun c => ?_, fun c => ?_⟩
    · have hd2 : ¬ fD σ i = 2 := fun q => c (by rw [q]; rfl)
      have e : op_raise σ (nI i) = (1, uWave σ 0 (fun q => if fD σ i = 0 ∧ q < nP σ then (fN σ i q).toInt64 else 0) (fun k => if fD σ i = 1 ∧ k < nE σ then (fN σ i k).toInt64 else 0)) := by
        unfold op_raise; rw [cif_pos (vp_in_nI hi (by decide)), tnI (by omega), cif_neg hd2]
      rw [e] at K
      refine h_Wav_begin (fun M1 g1 b1 b2 b3 => ?_)
      refine pk_loop (fun m j (M' : Mem) => q_Nf_raise_L33 i _ post m (nI j) M') (fun j M' => Ag (fun _ => False) (fun k => k = 13 ∨ k = 14) M1 M' ∧ (∀ q, q < 6 → M'.2 13 q = if fD σ i = 0 ∧ q < j then (fN σ i q).toInt64 else 0) ∧ (∀ q, q < 12 → M'.2 14 q = if fD σ i = 1 ∧ q < j then (fN σ i q).toInt64 else 0)) (sz σ (fD σ i)) 0 M1 (Nat.zero_le _) ⟨Ag.rf, fun q hq => by rw [if_neg (by omega)]; exact b2 q hq, fun q hq => by rw [if_neg (by omega)]; exact b3 q hq⟩ ?_ ?_
      · rintro m M2 ⟨g2, h13, h14⟩
        have g3 : Ag (fun k => k = 12) (fun k => k = 13 ∨ k = 14) M M2 := g1.trans (g2.mono (fun k hk => hk.elim) (fun k hk => hk))
        unfold q_Nf_raise_L33
        rw [g3.1 (32 + 2 * i) (by omega), hf.1]
        refine h_Net_size2 h (g3.1 1 (by omega)) hd ⟨fun _ => ?_, fun c => absurd (nI_le (Nat.le_refl _) (by omega)) c⟩
        refine K M2 (RC_wave h (g3.mono (fun k hk => by omega) (fun k hk => by omega)) ?_ (fun q hq => ?_) (fun q hq => ?_)) (g3.mono (fun k hk => by unfold C56; omega) (fun k hk => by unfold C56; omega))
        · rw [g2.1 12 (fun q => q)]; exact b1
        · rw [h13 q hq]
          by_cases z : fD σ i = 0
          · rw [z]; rfl
          · rw [if_neg (fun q => z q.1), if_neg (fun q => z q.1)]
        · rw [h14 q hq]
          by_cases z : fD σ i = 1
          · rw [z]; rfl
          · rw [if_neg (fun q => z q.1), if_neg (fun q => z q.1)]
      · rintro m j M2 hj ⟨g2, h13, h14⟩ ih
        have g3 : Ag (fun k => k = 12) (fun k => k = 13 ∨ k = 14) M M2 := g1.trans (g2.mono (fun k hk => hk.elim) (fun k hk => hk))
        unfold q_Nf_raise_L33
        rw [g3.1 (32 + 2 * i) (by omega), hf.1]
        refine h_Net_size2 h (g3.1 1 (by omega)) hd ⟨fun c => absurd c (nI_ge hj (by omega)), fun _ => ?_⟩
        rw [g3.1 (32 + 2 * i) (by omega), hf.1, g3.1 (33 + 2 * i) (by omega), clm (by omega), hf.2 j (by omega), nI_1]
        refine ⟨fun c => ⟨vp_in_nI (by omega) (by decide), vp_in_nI (by omega) (by decide), fun M7 e7 => ?_⟩, fun c => ⟨vp_in_nI (by omega) (by decide), ?_⟩⟩
        · subst e7
          have z0 : ¬ fD σ i = 0 := fun q => c (by rw [q]; rfl)
          have z1 : fD σ i = 1 := by omega
          refine ih _ ⟨g2.trans (agJ (Or.inr rfl)), fun q hq => ?_, fun q hq => ?_⟩
          · rw [wJ_2, if_neg (by omega), h13 q hq, if_neg (fun q => z0 q.1), if_neg (fun q => z0 q.1)]
          · rw [wJ_2, if_pos rfl]
            by_cases z : q = j
            · rw [if_pos z, if_pos ⟨z1, by omega⟩, z]
            · rw [if_neg z, h14 q hq]
              by_cases z2 : q < j
              · rw [if_pos ⟨z1, z2⟩, if_pos ⟨z1, by omega⟩]
              · rw [if_neg (fun w => z2 w.2), if_neg (fun w => by have := w.2; omega)]
        · have z0 : fD σ i = 0 := (nI_eq (by omega) (by decide)).mp (show nI (fD σ i) = nI 0 from c)
          have hj6 : j < 6 := by
            have : sz σ (fD σ i) = nP σ := by rw [z0]; rfl
            omega
          refine ⟨vp_in_nI hj6 (by decide), fun M8 e8 => ?_⟩
          subst e8
          have z1 : ¬ fD σ i = 1 := by omega
          refine ih _ ⟨g2.trans (agJ (Or.inl rfl)), fun q hq => ?_, fun q hq => ?_⟩
          · rw [wJ_2, if_pos rfl]
            by_cases z : q = j
            · rw [if_pos z, if_pos ⟨z0, by omega⟩, z]
            · rw [if_neg z, h13 q hq]
              by_cases z2 : q < j
              · rw [if_pos ⟨z0, z2⟩, if_pos ⟨z0, by omega⟩]
              · rw [if_neg (fun w => z2 w.2), if_neg (fun w => by have := w.2; omega)]
          · rw [wJ_2, if_neg (by omega), h14 q hq, if_neg (fun q => z1 q.1), if_neg (fun q => z1 q.1)]
    · have hd2 : fD σ i = 2 := (nI_eq (by omega) (by decide)).mp (show nI (fD σ i) = nI 2 from c)
      have e : op_raise σ (nI i) = (-3, σ) := by
        unfold op_raise; rw [cif_pos (vp_in_nI hi (by decide)), tnI (by omega), cif_pos hd2]
      rw [e] at K; exact K M h Ag.rf
  · have e : op_raise σ f = (-2, σ) := cif_neg c _ _
    rw [e] at K; exact K M h Ag.rf
end COPS4
