/-! the reference's simpler calls over the shared state -/
theorem nI_m1 {n : Nat} (h : n < 200) : (nI n - 1).toInt = (n : Int) - 1 := by
  cases n with
  | zero => rfl
  | succ n => rw [nI_pred, nI_toInt (by omega)]; omega
theorem vin_i {x : Int32} {n : Nat} : vp_in x n ↔ 0 ≤ x.toInt ∧ x.toInt ≤ (n : Int) - 1 := by
  rw [vp_in_iff]; omega
theorem ix12 {f k : Nat} : (12 : Int32) * nI f + nI k = nI (12 * f + k) := by
  rw [show (12 : Int32) = nI 12 from rfl, pk_mul, nI_add]
section MOPS
variable {σ : Sg} {M : Mem}
theorem h_in {x lo hi : Int64} (l u : Int) (el : lo.toInt = l) (eu : hi.toInt = u) {post : Int32 → Mem → Prop} (h1 : l ≤ x.toInt → x.toInt ≤ u → post 1 M) (h0 : ¬ (l ≤ x.toInt ∧ x.toInt ≤ u) → post 0 M) : q_Mo_in x lo hi M post := by
  unfold q_Mo_in
  rw [Int64.lt_iff_toInt_lt, Int64.lt_iff_toInt_lt, el, eu]
  exact ⟨fun c => h0 (by omega), fun c => ⟨fun c2 => h0 (by omega), fun c2 => h1 (by omega) (by omega)⟩⟩
theorem h_in32 {x : Int32} {hi : Int64} (n : Nat) (eu : hi.toInt = (n : Int) - 1) {post : Int32 → Mem → Prop} (h1 : vp_in x n → post 1 M) (h0 : ¬ vp_in x n → post 0 M) : q_Mo_in x.toInt64 0 hi M post :=
  h_in 0 _ rfl eu (fun a b => h1 (vin_i.mpr (by rw [toI64] at a b; exact ⟨a, b⟩))) (fun c => h0 (fun q => c (by rw [toI64]; exact vin_i.mp q)))
theorem h_isPoint (hW : WF σ) (h : RM σ M) {x : Int32} {post : Int32 → Mem → Prop} (h1 : vp_in x (nP σ) → post 1 M) (h0 : ¬ vp_in x (nP σ) → post 0 M) : q_Mo_isPoint x M post := by
  have hP := hW.1
  unfold q_Mo_isPoint
  rw [h.1.1]
  exact h_in32 (nP σ) (by rw [toI64]; exact nI_m1 (by omega)) (fun c => ⟨rfl, h1 c⟩) (fun c => ⟨rfl, h0 c⟩)
theorem h_isForm {x : Int32} {post : Int32 → Mem → Prop} (h1 : ∀ i, i < 12 → x = nI i → post 1 M) (h0 : ¬ vp_in x 12 → post 0 M) : q_Mo_isForm x M post := by
  unfold q_Mo_isForm
  exact h_in32 12 rfl (fun c => by
    obtain ⟨i, hi, rfl⟩ := vp_in_of c (by decide)
    exact ⟨rfl, h1 i hi rfl⟩) (fun c => ⟨rfl, h0 c⟩)
theorem h_Mo_size {M0 : Mem} (h : RM σ M0) (e : M.1 56 = M0.1 56) {d : Nat} (hd : d ≤ 2) {post : Int32 → Mem → Prop} (hp : post (nI (sz σ d)) M) : q_Mo_size (nI d) M post := by
  obtain ⟨⟨a1, a2, a3⟩, -⟩ := h
  unfold q_Mo_size
  rw [e]
  match d, hd with
  | 0, _ => exact ⟨fun c => absurd rfl c, fun _ => by rw [a1]; exact hp⟩
  | 1, _ => exact ⟨fun _ => ⟨fun c => absurd rfl c, fun _ => by rw [a2]; exact hp⟩, fun c => absurd c (by decide)⟩
  | 2, _ => exact ⟨fun _ => ⟨fun _ => by rw [a3]; exact hp, fun c => absurd c (by decide)⟩, fun c => absurd c (by decide)⟩
theorem h_isThere (hW : WF σ) (h : RM σ M) {x k : Int32} {post : Int32 → Mem → Prop} (h1 : ∀ i j, i < 12 → x = nI i → j < sz σ (fD σ i) → k = nI j → post 1 M) (h0 : ¬ (vp_in x 12 ∧ vp_in k (sz σ (fD σ (tn x)))) → post 0 M) : q_Mo_isThere x k M post := by
  unfold q_Mo_isThere
  refine h_isForm (fun i hi e => ⟨fun c => absurd c (by decide), fun _ => ?_⟩) (fun c => ⟨fun _ => h0 (fun q => c q.1), fun c => absurd rfl c⟩)
  subst e
  have hd := (hW.2.2.2.2.2.2.1 i hi).1
  have hz := hW.sz (fD σ i)
  rw [clm (by omega), (h.2.2.2.2.1 i hi).1]
  refine ⟨vp_in_nI hi (by decide), h_Mo_size h rfl hd ?_⟩
  refine h_in32 (sz σ (fD σ i)) (by rw [toI64]; exact nI_m1 (by omega)) (fun c => ⟨fun c => absurd c (by decide), fun _ => ?_⟩) (fun c => ⟨fun _ => h0 (fun q => c (by rw [tnI (by omega)] at q; exact q.2)), fun c => absurd rfl c⟩)
  obtain ⟨j, hj, rfl⟩ := vp_in_of c (by omega)
  exact h1 i j hi rfl hj rfl
theorem h_edgeOf (hW : WF σ) {M0 : Mem} (h : RM σ M0) (g56 : M.1 56 = M0.1 56) (g57 : M.1 57 = M0.1 57) (g58 : M.1 58 = M0.1 58) {i j : Nat} (hi : i < 6) (hj : j < 6) {post : Int32 → Mem → Prop} (h1 : ∀ k, fE (vB σ) (vE σ) i j (nE σ) = some k → k < nE σ → vB σ k = i → vE σ k = j → post (nI k) M) (h0 : fE (vB σ) (vE σ) i j (nE σ) = none → post (-1) M) : q_Mo_edgeOf (nI i) (nI j) M post := by
  obtain ⟨⟨a1, a2, a3⟩, hb, -⟩ := h
  have we := hW.2.1
  have wu := hW.2.2.1
  have hP := hW.1
  unfold q_Mo_edgeOf
  refine pk_loop (fun n k (M' : Mem) => q_Mo_edgeOf_L2 _ _ post n (nI i) (nI j) (nI k) M') (fun k M' => M' = M ∧ ∀ l, l < k → ¬ (vB σ l = i ∧ vE σ l = j)) (nE σ) 0 M (Nat.zero_le _) ⟨rfl, fun l hl => absurd hl (Nat.not_lt_zero _)⟩ ?_ ?_
  · rintro n M' ⟨rfl, hn⟩
    unfold q_Mo_edgeOf_L2
    rw [g56, a2]
    exact ⟨fun _ => h0 (fE_none hn), fun c => absurd (nI_le (Nat.le_refl _) (by omega)) c⟩
  · rintro n k M' hk ⟨rfl, hn⟩ ih
    have hbk := hb k hk
    have hek := we k hk
    have next : ¬ (vB σ k = i ∧ vE σ k = j) → q_Mo_edgeOf_L2 (fun x2 M3 => post x2 M3) (fun M4 => post (-1 : Int32) M4) post n (nI i) (nI j) (nI k + 1) M' := fun q => by
      rw [nI_1]
      exact ih M' ⟨rfl, fun l hl => by
        rcases Nat.lt_or_ge l k with z | z
        · exact hn l z
        · have : l = k := by omega
          subst this; exact q⟩
    unfold q_Mo_edgeOf_L2
    rw [g56, a2, clm (by omega), g57, g58, hbk.1, hbk.2]
    refine ⟨fun c => absurd c (nI_ge hk (by omega)), fun _ => ⟨vp_in_nI (by omega) (by omega), fun c => ?_, fun c => ⟨vp_in_nI (by omega) (by omega), fun c2 => ?_, fun c2 => ?_⟩⟩⟩
    · exact next (fun q => c (by rw [q.1]))
    · exact next (fun q => c2 (by rw [q.2]))
    · have e1 := (nI_eq (by omega) (by omega)).mp c
      have e2 := (nI_eq (by omega) (by omega)).mp c2
      exact h1 k (fE_some (fun a b ha hb => wu a b ha hb) hk e1 e2) hk e1 e2
theorem h_clears {f : Nat} (hf : f < 12) {d : Int32} {post : Mem → Prop} (K : ∀ M', Ag (fun k => k = 62 ∨ k = 63) (fun _ => False) M M' → (∀ i, M'.1 62 i = if i = f then d else M.1 62 i) → (∀ i, M'.1 63 i = if 12 * f ≤ i ∧ i < 12 * f + 12 then 0 else M.1 63 i) → post M') : q_Mo_clears (nI f) d M post := by
  unfold q_Mo_clears
  rw [clm (by omega)]
  refine ⟨vp_in_nI hf (by decide), fun M1 e1 => ?_⟩
  refine pk_loop (fun m i (M' : Mem) => q_Mo_clears_L9 _ post m (nI f) (nI i) M') (fun i M' => Ag (fun k => k = 63) (fun _ => False) M1 M' ∧ ∀ q, M'.1 63 q = if 12 * f ≤ q ∧ q < 12 * f + i then 0 else M1.1 63 q) 12 0 M1 (Nat.zero_le _) ⟨Ag.rf, fun q => by rw [if_neg (by omega)]⟩ ?_ ?_
  · rintro m M' ⟨g2, h7⟩
    unfold q_Mo_clears_L9
    refine ⟨fun _ => K M' ?_ (fun i => ?_) (fun i => ?_), fun c => absurd (show (12 : Int32) ≤ nI 12 by decide) c⟩
    · rw [e1] at g2; exact (agI (Or.inl rfl)).trans (g2.mono (fun k hk => Or.inr hk) (fun k hk => hk))
    · rw [g2.1 62 (by omega), e1, wI_1, if_pos rfl]
    · have e63 : M1.1 63 i = M.1 63 i := by rw [e1]; simp [wI_1]
      rw [h7, e63]
  · rintro m i M' hi ⟨g2, h7⟩ ih
    unfold q_Mo_clears_L9
    rw [ix12, clm (by omega), nI_1]
    refine ⟨fun c => absurd (show nI 12 ≤ nI i from c) (nI_ge hi (by decide)), fun _ => ⟨vp_in_nI (by omega) (by decide), fun M4 e4 => ?_⟩⟩
    subst e4
    refine ih _ ⟨g2.trans (agI rfl), fun q => ?_⟩
    rw [wI_1, if_pos rfl]
    by_cases z : q = 12 * f + i
    · rw [if_pos z, if_pos (by omega)]
    · rw [if_neg z, h7]
      by_cases z2 : 12 * f ≤ q ∧ q < 12 * f + i
      · rw [if_pos z2, if_pos (by omega)]
      · rw [if_neg z2, if_neg (by omega)]
theorem h_Mo_at {M0 : Mem} (h : RM σ M0) (g63 : M.1 63 = M0.1 63) {f k : Nat} (hf : f < 12) (hk : k < 12) {post : Int64 → Mem → Prop} (hp : post (fN σ f k).toInt64 M) : q_Mo_at (nI f) (nI k) M post := by
  unfold q_Mo_at
  rw [ix12, clm (by omega), g63, (h.2.2.2.2.1 f hf).2 k hk]
  exact ⟨vp_in_nI (by omega) (by decide), hp⟩
theorem h_Mo_form (hW : WF σ) (h : RM σ M) {f d : Int32} {post : Int32 → Mem → Prop} (K : ∀ M', RM (op_form σ f d).2 M' → Ag D56 D56 M M' → post (op_form σ f d).1 M') : q_Mo_form f d M post := by
  unfold q_Mo_form
  have bad : ¬ (vp_in f 12 ∧ vp_in d 3) → post (-2) M := fun q => by
    have e : op_form σ f d = (-2, σ) := cif_neg q _ _
    rw [e] at K; exact K M h Ag.rf
  refine h_isForm (fun i hi e => ⟨fun c => absurd c (by decide), fun _ => ?_⟩) (fun c => ⟨fun _ => bad (fun q => c q.1), fun c => absurd rfl c⟩)
  subst e
  refine h_in32 3 rfl (fun c => ⟨fun _ => ?_, fun c => absurd c (by decide)⟩) (fun c => ⟨fun c => absurd rfl c, fun _ => bad (fun q => c q.2)⟩)
  obtain ⟨j, hj, rfl⟩ := vp_in_of c (by decide)
  have e : op_form σ (nI i) (nI j) = (1, uForm σ i j (fun _ => 0)) := by
    unfold op_form; rw [cif_pos ⟨vp_in_nI hi (by decide), c⟩, tnI (by omega), tnI (by omega)]
  rw [e] at K
  refine h_clears hi (fun M' g h1 h2 => K M' (RM_form h hi (g.mono (fun k hk => by omega) (fun k hk => hk.elim)) (fun i _ => h1 i) (fun i _ => h2 i)) (g.mono (fun k hk => by unfold D56; omega) (fun k hk => hk.elim)))
theorem h_Mo_get (hW : WF σ) (h : RM σ M) {f k : Int32} {post : Int32 → Mem → Prop} (K : ∀ M', RM (op_get σ f k).2 M' → Ag D56 D56 M M' → post (op_get σ f k).1 M') : q_Mo_get f k M post := by
  unfold q_Mo_get
  refine h_isThere hW h (fun i j hi ei hj ej => ⟨fun c => absurd c (by decide), fun _ => ?_⟩) (fun c => ⟨fun _ => ?_, fun c => absurd rfl c⟩)
  · subst ei ej
    have hz := hW.sz (fD σ i)
    have e : op_get σ (nI i) (nI j) = (fN σ i j, σ) := by
      unfold op_get; rw [tnI (by omega), tnI (by omega), cif_pos ⟨vp_in_nI hi (by decide), vp_in_nI hj (by omega)⟩]
    rw [e] at K
    rw [ix12, clm (by omega), (h.2.2.2.2.1 i hi).2 j (by omega)]
    exact ⟨vp_in_nI (by omega) (by decide), K M h Ag.rf⟩
  · have e : op_get σ f k = (-2000000, σ) := cif_neg c _ _
    rw [e] at K; exact K M h Ag.rf
theorem h_Mo_set (hW : WF σ) (h : RM σ M) {f k v : Int32} {post : Int32 → Mem → Prop} (K : ∀ M', RM (op_set σ f k v).2 M' → Ag D56 D56 M M' → post (op_set σ f k v).1 M') : q_Mo_set f k v M post := by
  unfold q_Mo_set
  have bad : ¬ (vp_in f 12 ∧ vp_in k (sz σ (fD σ (tn f))) ∧ i32le v 1000000) → post (-2000000) M := fun q => by
    have e : op_set σ f k v = (-2000000, σ) := cif_neg q _ _
    rw [e] at K; exact K M h Ag.rf
  refine h_isThere hW h (fun i j hi ei hj ej => ⟨fun c => absurd c (by decide), fun _ => ?_⟩) (fun c => ⟨fun _ => bad (fun q => c ⟨q.1, q.2.1⟩), fun c => absurd rfl c⟩)
  refine h_in (-1000000) 1000000 rfl rfl (fun c1 c2 => ⟨fun _ => ?_, fun c => absurd c (by decide)⟩) (fun c => ⟨fun c => absurd rfl c, fun _ => bad (fun q => c (by rw [toI64]; exact q.2.2))⟩)
  rw [toI64] at c1 c2
  subst ei ej
  have hz := hW.sz (fD σ i)
  have hf := h.2.2.2.2.1 i hi
  have e : op_set σ (nI i) (nI j) v = (fN σ i j, uForm σ i (fD σ i) (fun q => if q = j then v else fN σ i q)) := by
    unfold op_set; rw [tnI (by omega), tnI (by omega), cif_pos ⟨vp_in_nI hi (by decide), vp_in_nI hj (by omega), c1, c2⟩]
  rw [e] at K
  rw [ix12, clm (by omega)]
  refine ⟨vp_in_nI (by omega) (by decide), vp_in_nI (by omega) (by decide), fun M1 e1 => ?_⟩
  subst e1
  rw [hf.2 j (by omega)]
  refine K _ (RM_form h hi (agI (Or.inr (Or.inl rfl))) (fun q hq => ?_) (fun q hq => ?_)) (agI (by unfold D56; omega))
  · rw [wI_1, if_neg (by omega)]
    split
    · rename_i z; rw [z]; exact hf.1
    · rfl
  · rw [wI_1, if_pos rfl]
    by_cases z : 12 * i ≤ q ∧ q < 12 * i + 12
    · rw [if_pos z]
      by_cases z2 : q = 12 * i + j
      · rw [if_pos z2, if_pos (by omega)]
      · rw [if_neg z2, if_neg (by omega)]
        have := hf.2 (q - 12 * i) (by omega)
        rw [show 12 * i + (q - 12 * i) = q by omega] at this
        exact this
    · rw [if_neg z, if_neg (by omega)]
theorem h_Mo_wall (hW : WF σ) (h : RM σ M) {p v : Int32} {post : Int32 → Mem → Prop} (K : ∀ M', RM (op_wall σ p v).2 M' → Ag D56 D56 M M' → post (op_wall σ p v).1 M') : q_Mo_wall p v M post := by
  have hP := hW.1
  unfold q_Mo_wall
  have bad : ¬ (vp_in p (nP σ) ∧ i32le v 1000) → post (-2) M := fun q => by
    have e : op_wall σ p v = (-2, σ) := cif_neg q _ _
    rw [e] at K; exact K M h Ag.rf
  refine h_isPoint hW h (fun c => ⟨fun c => absurd c (by decide), fun _ => ?_⟩) (fun c => ⟨fun _ => bad (fun q => c q.1), fun c => absurd rfl c⟩)
  refine h_in (-1000) 1000 rfl rfl (fun c1 c2 => ⟨fun _ => ?_, fun c => absurd c (by decide)⟩) (fun c => ⟨fun c => absurd rfl c, fun _ => bad (fun q => c (by rw [toI64]; exact q.2))⟩)
  rw [toI64] at c1 c2
  obtain ⟨j, hj, rfl⟩ := vp_in_of c (by omega)
  have e : op_wall σ (nI j) v = (1, uWall σ (fun q => if q = j then 1 else wT σ q) (fun q => if q = j then v else wN σ q)) := by
    unfold op_wall; rw [tnI (by omega), cif_pos ⟨c, c1, c2⟩]
  rw [e] at K
  rw [clm (by omega)]
  refine ⟨vp_in_nI (by omega) (by decide), fun M1 e1 => ⟨vp_in_nI (by omega) (by decide), fun M2 e2 => ?_⟩⟩
  subst e1 e2
  refine K _ (RM_wall h ((agI (Or.inl rfl)).trans (agI (Or.inr (Or.inl rfl)))) (fun q hq => ?_)) ((agI (by unfold D56; omega)).trans (agI (by unfold D56; omega)))
  have hq4 := h.2.2.2.1 q hq
  have e10 : (wI (wI M 64 j 1) 65 j v).1 64 q = if q = j then 1 else M.1 64 q := by simp [wI_1]
  have e11 : (wI (wI M 64 j 1) 65 j v).1 65 q = if q = j then v else M.1 65 q := by simp [wI_1]
  rw [e10, e11]
  constructor
  · split
    · rfl
    · exact hq4.1
  · split
    · rfl
    · exact hq4.2.1
theorem h_Mo_open (hW : WF σ) (h : RM σ M) {p : Int32} {post : Int32 → Mem → Prop} (K : ∀ M', RM (op_open σ p).2 M' → Ag D56 D56 M M' → post (op_open σ p).1 M') : q_Mo_open p M post := by
  have hP := hW.1
  unfold q_Mo_open
  refine h_isPoint hW h (fun c => ⟨fun _ => ?_, fun c => absurd c (by decide)⟩) (fun c => ⟨fun c => absurd rfl c, fun _ => ?_⟩)
  · obtain ⟨j, hj, rfl⟩ := vp_in_of c (by omega)
    have hq4 := h.2.2.2.1 j (by omega)
    have hT := (hW.2.2.2.2.2.2.2.1 j (by omega)).1
    rw [clm (by omega), hq4.1]
    refine ⟨vp_in_nI (by omega) (by decide), fun c3 => ⟨vp_in_nI (by omega) (by decide), fun M1 e1 => ⟨vp_in_nI (by omega) (by decide), ?_⟩⟩, fun c3 => ?_⟩
    · have hne : ¬ wT σ j = 0 := fun q => c3 (by rw [q]; rfl)
      have e : op_open σ (nI j) = (wN σ j, uWall σ (fun q => if q = j then 0 else wT σ q) (wN σ)) := by
        unfold op_open; rw [tnI (by omega), cif_pos c, cif_neg hne]
      rw [e] at K
      subst e1
      rw [wI_1, if_neg (by omega), hq4.2.1]
      refine K _ (RM_wall h (agI (Or.inl rfl)) (fun q hq => ?_)) (agI (by unfold D56; omega))
      have hq5 := h.2.2.2.1 q hq
      have e10 : (wI M 64 j 0).1 64 q = if q = j then 0 else M.1 64 q := by simp [wI_1]
      have e11 : (wI M 64 j 0).1 65 q = M.1 65 q := by simp [wI_1]
      rw [e10, e11]
      refine ⟨?_, hq5.2.1⟩
      split
      · rfl
      · exact hq5.1
    · have hne : wT σ j = 0 := (nI_eq (by omega) (by decide)).mp (show nI (wT σ j) = nI 0 from c3)
      have e : op_open σ (nI j) = (-1000000, σ) := by
        unfold op_open; rw [tnI (by omega), cif_pos c, cif_pos hne]
      rw [e] at K; exact K M h Ag.rf
  · have e : op_open σ p = (-2000000, σ) := cif_neg c _ _
    rw [e] at K; exact K M h Ag.rf
theorem h_Mo_height (hW : WF σ) (h : RM σ M) {p : Int32} {post : Int64 → Mem → Prop} (K : ∀ M', RM (op_height σ p).2 M' → Ag D56 D56 M M' → post (op_height σ p).1 M') : q_Mo_height p M post := by
  have hP := hW.1
  unfold q_Mo_height
  refine h_isPoint hW h (fun c => ⟨fun c => absurd c (by decide), fun _ => ?_⟩) (fun c => ⟨fun _ => ?_, fun c => absurd rfl c⟩)
  · obtain ⟨j, hj, rfl⟩ := vp_in_of c (by omega)
    have e : op_height σ (nI j) = (wL σ j, σ) := by unfold op_height; rw [tnI (by omega), cif_pos c]
    rw [e] at K
    rw [clm (by omega), (h.2.2.2.1 j (by omega)).2.2]
    exact ⟨vp_in_nI (by omega) (by decide), K M h Ag.rf⟩
  · have e : op_height σ p = (0, σ) := cif_neg c _ _
    rw [e] at K; exact K M h Ag.rf
theorem h_Mo_flow (hW : WF σ) (h : RM σ M) {p : Int32} {post : Int64 → Mem → Prop} (K : ∀ M', RM (op_flow σ p).2 M' → Ag D56 D56 M M' → post (op_flow σ p).1 M') : q_Mo_flow p M post := by
  have hP := hW.1
  unfold q_Mo_flow
  rw [h.1.2.1]
  refine h_in32 (nE σ) (by rw [toI64]; exact nI_m1 (by omega)) (fun c => ⟨fun c => absurd c (by decide), fun _ => ?_⟩) (fun c => ⟨fun _ => ?_, fun c => absurd rfl c⟩)
  · obtain ⟨j, hj, rfl⟩ := vp_in_of c (by omega)
    have e : op_flow σ (nI j) = (wF σ j, σ) := by unfold op_flow; rw [tnI (by omega), cif_pos c]
    rw [e] at K
    rw [clm (by omega), h.2.2.2.2.2.1 j (by omega)]
    exact ⟨vp_in_nI (by omega) (by decide), K M h Ag.rf⟩
  · have e : op_flow σ p = (0, σ) := cif_neg c _ _
    rw [e] at K; exact K M h Ag.rf
theorem h_Mo_sum (hW : WF σ) (h : RM σ M) {post : Int64 → Mem → Prop} (K : ∀ M', RM (op_sum σ).2 M' → Ag D56 D56 M M' → post (op_sum σ).1 M') : q_Mo_sum M post := by
  have hP := hW.1
  unfold q_Mo_sum
  refine pk_loop (fun m i (s : Int64 × Mem) => q_Mo_sum_L4 _ post m s.1 (nI i) s.2) (fun i s => s.2 = M ∧ s.1 = smJ (wL σ) i) (nP σ) 0 (0, M) (Nat.zero_le _) ⟨rfl, rfl⟩ ?_ ?_
  · rintro m ⟨c, M'⟩ ⟨h1, h2⟩
    dsimp only at h1 h2
    subst h1 h2
    unfold q_Mo_sum_L4
    rw [h.1.1]
    exact ⟨fun _ => K _ h Ag.rf, fun c => absurd (nI_le (Nat.le_refl _) (by omega)) c⟩
  · rintro m i ⟨c, M'⟩ hi ⟨h1, h2⟩ ih
    dsimp only at h1 h2
    subst h1 h2
    unfold q_Mo_sum_L4
    dsimp only
    rw [h.1.1, clm (by omega), nI_1, (h.2.2.2.1 i (by omega)).2.2]
    exact ⟨fun c => absurd c (nI_ge hi (by omega)), fun _ => ⟨vp_in_nI (by omega) (by decide), ih (smJ (wL σ) i + wL σ i, M') ⟨rfl, rfl⟩⟩⟩
end MOPS
