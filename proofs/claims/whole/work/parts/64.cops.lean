/-! what the calls answer and do, over the shared state; the class's simpler calls -/
noncomputable def cif {α : Type} (P : Prop) (a b : α) : α := @ite α P (Classical.propDecidable P) a b
theorem cif_pos {α : Type} {P : Prop} (h : P) (a b : α) : cif P a b = a := @if_pos P (Classical.propDecidable P) h α a b
theorem cif_neg {α : Type} {P : Prop} (h : ¬ P) (a b : α) : cif P a b = b := @if_neg P (Classical.propDecidable P) h α a b
def C56 (k : Nat) : Prop := k < 56
def D56 (k : Nat) : Prop := 56 ≤ k
abbrev tn (x : Int32) : Nat := x.toNatClampNeg
theorem tnI {n : Nat} (h : n < 200) : tn (nI n) = n := clm h
noncomputable def op_net (σ : Sg) (a : Int32) : Int32 × Sg := cif (¬ a < 1 ∧ a ≤ 6) (1, uNet σ (tn a)) (-2, σ)
noncomputable def op_edge (σ : Sg) (a b : Int32) : Int32 × Sg := cif (vp_in a (nP σ) ∧ vp_in b (nP σ) ∧ a < b) (cif (∃ k, k < nE σ ∧ vB σ k = tn a ∧ vE σ k = tn b) (-3, σ) (cif (nE σ < 12) (nI (nE σ), uEdge σ (tn a) (tn b)) (-4, σ))) (-2, σ)
noncomputable def op_corner (σ : Sg) (d k i : Int32) : Int32 × Sg := cif ((d = 1 ∧ vp_in k (nE σ)) ∨ (d = 2 ∧ vp_in k (nF σ))) (cif (vp_in i (tn d + 1)) (nI (cor σ (tn d) (tn k) (tn i)), σ) (-1, σ)) (-2, σ)
noncomputable def op_form (σ : Sg) (f d : Int32) : Int32 × Sg := cif (vp_in f 12 ∧ vp_in d 3) (1, uForm σ (tn f) (tn d) (fun _ => 0)) (-2, σ)
noncomputable def op_set (σ : Sg) (f k v : Int32) : Int32 × Sg := cif (vp_in f 12 ∧ vp_in k (sz σ (fD σ (tn f))) ∧ i32le v 1000000) (fN σ (tn f) (tn k), uForm σ (tn f) (fD σ (tn f)) (fun j => if j = tn k then v else fN σ (tn f) j)) (-2000000, σ)
noncomputable def op_get (σ : Sg) (f k : Int32) : Int32 × Sg := cif (vp_in f 12 ∧ vp_in k (sz σ (fD σ (tn f)))) (fN σ (tn f) (tn k), σ) (-2000000, σ)
noncomputable def op_wall (σ : Sg) (p v : Int32) : Int32 × Sg := cif (vp_in p (nP σ) ∧ i32le v 1000) (1, uWall σ (fun q => if q = tn p then 1 else wT σ q) (fun q => if q = tn p then v else wN σ q)) (-2, σ)
noncomputable def op_open (σ : Sg) (p : Int32) : Int32 × Sg := cif (vp_in p (nP σ)) (cif (wT σ (tn p) = 0) (-1000000, σ) (wN σ (tn p), uWall σ (fun q => if q = tn p then 0 else wT σ q) (wN σ))) (-2000000, σ)
noncomputable def op_height (σ : Sg) (p : Int32) : Int64 × Sg := cif (vp_in p (nP σ)) (wL σ (tn p), σ) (0, σ)
noncomputable def op_flow (σ : Sg) (p : Int32) : Int64 × Sg := cif (vp_in p (nE σ)) (wF σ (tn p), σ) (0, σ)
def w64 (x : Int64) (n : Int) : Prop := -n ≤ x.toInt ∧ x.toInt ≤ n
theorem toI64 (x : Int32) : x.toInt64.toInt = x.toInt := Int32.toInt_toInt64 x
theorem negI {k : Nat} (h : k < 2 ^ 31) : (-nI k).toInt = -(k : Int) := sb_negT h
theorem w64_i {x : Int32} {n : Int} : w64 x.toInt64 n ↔ i32le x n := by unfold w64 i32le; rw [toI64]
section COPS
variable {σ : Sg} {M : Mem}
theorem h_isWithin {x : Int64} (k : Nat) {lim : Int32} (hk : k < 2 ^ 31) (hl : lim = nI k) {post : Int32 → Mem → Prop} (h1 : w64 x k → post 1 M) (h0 : ¬ w64 x k → post 0 M) : q_Nf_isWithin x lim M post := by
  subst hl
  unfold q_Nf_isWithin
  rw [Int64.lt_iff_toInt_lt, Int64.lt_iff_toInt_lt, toI64, toI64, negI hk, nI_toInt hk]
  exact ⟨fun c => h0 (fun q => by have := q.1; omega), fun c => ⟨fun c2 => h0 (fun q => by have := q.2; omega), fun c2 => h1 ⟨by omega, by omega⟩⟩⟩
theorem h_formAt {a : Int32} {post : Option Nat → Mem → Prop} (h1 : ∀ i, i < 12 → a = nI i → post (some i) M) (h0 : ¬ vp_in a 12 → post none M) : q_Nf_formAt a M post := by
  unfold q_Nf_formAt
  refine ⟨fun c => h0 (nvin_neg c), fun c => ⟨fun c2 => ?_, fun c2 => h0 (fun q => ?_)⟩⟩
  · have hv : vp_in a 12 := nle_vin (by decide) c (fun q => by
      rw [Int32.lt_iff_toInt_lt] at c2; rw [Int32.le_iff_toInt_le] at q
      have : (nI 12).toInt = (12 : Int32).toInt := rfl
      omega)
    obtain ⟨i, hi, rfl⟩ := vp_in_of hv (by decide)
    rw [clm (by omega)]
    exact ⟨hv, h1 i hi rfl⟩
  · obtain ⟨i, hi, rfl⟩ := vp_in_of q (by decide)
    exact c2 (nI_lt hi (by decide))
theorem h_fillI {k n : Nat} (hn : n < 200) {x : Int32} {post : Mem → Prop} (hp : ∀ M', Ag (fun j => j = k) (fun _ => False) M M' → (∀ j, j < n → M'.1 k j = x) → (∀ j, n ≤ j → M'.1 k j = M.1 k j) → post M') : q_Arr_fill_IIV k n x M post := by
  unfold q_Arr_fill_IIV
  refine pk_loop (fun m j (M' : Mem) => q_Arr_fill_IIV_L5 k n _ post m x (nI j) (nI n) M') (fun j M' => Ag (fun j => j = k) (fun _ => False) M M' ∧ (∀ i, i < j → M'.1 k i = x) ∧ ∀ i, j ≤ i → M'.1 k i = M.1 k i) n 0 M (Nat.zero_le _) ⟨Ag.rf, fun i hi => absurd hi (Nat.not_lt_zero _), fun i _ => rfl⟩ ?_ ?_
  · rintro m M' ⟨h1, h2, h3⟩
    unfold q_Arr_fill_IIV_L5
    exact ⟨fun _ => hp M' h1 h2 h3, fun c => absurd (nI_le (Nat.le_refl _) (by omega)) c⟩
  · rintro m j M' hj ⟨h1, h2, h3⟩ ih
    unfold q_Arr_fill_IIV_L5
    rw [clm (by omega), nI_1]
    refine ⟨fun c => absurd c (nI_ge hj (by omega)), fun _ => ⟨vp_in_nI hj (by omega), fun M1 e => ?_⟩⟩
    subst e
    refine ih _ ⟨h1.trans (agI rfl), fun i hi => ?_, fun i hi => ?_⟩
    · rw [wI_1, if_pos rfl]
      split
      · rfl
      · exact h2 i (by omega)
    · rw [wI_1, if_pos rfl, if_neg (by omega)]
      exact h3 i (by omega)
theorem h_fillJ {k n : Nat} (hn : n < 200) {x : Int64} {post : Mem → Prop} (hp : ∀ M', Ag (fun _ => False) (fun j => j = k) M M' → (∀ j, j < n → M'.2 k j = x) → (∀ j, n ≤ j → M'.2 k j = M.2 k j) → post M') : q_Arr_fill_JJV k n x M post := by
  unfold q_Arr_fill_JJV
  refine pk_loop (fun m j (M' : Mem) => q_Arr_fill_JJV_L6 k n _ post m x (nI j) (nI n) M') (fun j M' => Ag (fun _ => False) (fun j => j = k) M M' ∧ (∀ i, i < j → M'.2 k i = x) ∧ ∀ i, j ≤ i → M'.2 k i = M.2 k i) n 0 M (Nat.zero_le _) ⟨Ag.rf, fun i hi => absurd hi (Nat.not_lt_zero _), fun i _ => rfl⟩ ?_ ?_
  · rintro m M' ⟨h1, h2, h3⟩
    unfold q_Arr_fill_JJV_L6
    exact ⟨fun _ => hp M' h1 h2 h3, fun c => absurd (nI_le (Nat.le_refl _) (by omega)) c⟩
  · rintro m j M' hj ⟨h1, h2, h3⟩ ih
    unfold q_Arr_fill_JJV_L6
    rw [clm (by omega), nI_1]
    refine ⟨fun c => absurd c (nI_ge hj (by omega)), fun _ => ⟨vp_in_nI hj (by omega), fun M1 e => ?_⟩⟩
    subst e
    refine ih _ ⟨h1.trans (agJ rfl), fun i hi => ?_, fun i hi => ?_⟩
    · rw [wJ_2, if_pos rfl]
      split
      · rfl
      · exact h2 i (by omega)
    · rw [wJ_2, if_pos rfl, if_neg (by omega)]
      exact h3 i (by omega)
theorem h_Frm_begin {f : Nat} {d : Int32} {post : Mem → Prop} (hp : ∀ M', Ag (fun k => k = 32 + 2 * f ∨ k = 33 + 2 * f) (fun _ => False) M M' → M'.1 (32 + 2 * f) 0 = d → (∀ k, k < 12 → M'.1 (33 + 2 * f) k = 0) → post M') : q_Frm_begin f d M post := by
  unfold q_Frm_begin
  intro M1 e
  subst e
  refine h_fillI (by decide) (fun M' a h1 _ => hp M' ((agI (Or.inl rfl)).trans (a.mono (fun k hk => Or.inr hk) (fun k hk => hk))) ?_ h1)
  rw [a.1 _ (by omega), wI_1, if_pos rfl, if_pos rfl]
theorem h_Nf_form (hW : WF σ) (h : RC σ M) {f d : Int32} {post : Int32 → Mem → Prop} (K : ∀ M', RC (op_form σ f d).2 M' → Ag C56 C56 M M' → post (op_form σ f d).1 M') : q_Nf_form f d M post := by
  unfold q_Nf_form
  refine h_formAt (fun i hi e => ⟨(fun c => nomatch c), fun i3 c => ?_⟩) (fun c => ⟨fun _ => ?_, fun i3 c => nomatch c⟩)
  · cases c
    subst e
    refine ⟨hi, fun c => ?_, fun c => ⟨fun c2 => ?_, fun c2 => ?_⟩⟩
    · have e : op_form σ (nI i) d = (-2, σ) := cif_neg (fun q => nvin_neg c q.2) _ _
      rw [e] at K; exact K M h Ag.rf
    · have hv : vp_in d 3 := nle_vin (by decide) c (fun q => by
        rw [Int32.le_iff_toInt_le] at c2 q
        have e1 : (nI 3).toInt = 3 := rfl
        have e2 : (2 : Int32).toInt = 2 := rfl
        omega)
      obtain ⟨j, hj, rfl⟩ := vp_in_of hv (by decide)
      have e : op_form σ (nI i) (nI j) = (1, uForm σ i j (fun _ => 0)) := by
        unfold op_form; rw [cif_pos ⟨vp_in_nI hi (by decide), hv⟩, tnI (by omega), tnI (by omega)]
      rw [e] at K
      refine h_Frm_begin (fun M' a h1 h2 => K M' (RC_form h hi (a.mono (fun k hk => by omega) (fun k hk => hk.elim)) h1 h2) (a.mono (fun k hk => by unfold C56; omega) (fun k hk => hk.elim)))
    · have e : op_form σ (nI i) d = (-2, σ) := cif_neg (fun q => by
        obtain ⟨j, hj, rfl⟩ := vp_in_of q.2 (by decide)
        exact c2 (show nI j ≤ nI 2 from nI_le (by omega) (by decide))) _ _
      rw [e] at K; exact K M h Ag.rf
  · have e : op_form σ f d = (-2, σ) := cif_neg (fun q => c q.1) _ _
    rw [e] at K; exact K M h Ag.rf
theorem h_Nf_get (hW : WF σ) (h : RC σ M) {f k : Int32} {post : Int32 → Mem → Prop} (K : ∀ M', RC (op_get σ f k).2 M' → Ag C56 C56 M M' → post (op_get σ f k).1 M') : q_Nf_get f k M post := by
  unfold q_Nf_get
  refine h_formAt (fun i hi e => ⟨(fun c => nomatch c), fun i3 c => ?_⟩) (fun c => ⟨fun _ => ?_, fun i3 c => nomatch c⟩)
  · cases c
    subst e
    have hf := h.2.2.2.2.1 i hi
    have hd := (hW.2.2.2.2.2.2.1 i hi).1
    have hz := hW.sz (fD σ i)
    refine ⟨hi, ?_⟩
    rw [hf.1]
    refine h_Net_has hW h hd (fun c => ?_) (fun c => ?_)
    · obtain ⟨j, hj, rfl⟩ := vp_in_of c (by omega)
      have e : op_get σ (nI i) (nI j) = (fN σ i j, σ) := by
        unfold op_get; rw [tnI (by omega), tnI (by omega), cif_pos ⟨vp_in_nI hi (by decide), c⟩]
      rw [e] at K
      rw [clm (by omega), hf.2 j (by omega)]
      exact ⟨fun _ => ⟨vp_in_nI (by omega) (by decide), K M h Ag.rf⟩, fun c => absurd c (by decide)⟩
    · have e : op_get σ (nI i) k = (-2000000, σ) := by
        unfold op_get; rw [tnI (by omega), cif_neg (fun q => c q.2)]
      rw [e] at K
      exact ⟨fun c => absurd rfl c, fun _ => K M h Ag.rf⟩
  · have e : op_get σ f k = (-2000000, σ) := cif_neg (fun q => c q.1) _ _
    rw [e] at K; exact K M h Ag.rf
theorem h_Nf_set (hW : WF σ) (h : RC σ M) {f k v : Int32} {post : Int32 → Mem → Prop} (K : ∀ M', RC (op_set σ f k v).2 M' → Ag C56 C56 M M' → post (op_set σ f k v).1 M') : q_Nf_set f k v M post := by
  unfold q_Nf_set
  refine h_formAt (fun i hi e => ⟨(fun c => nomatch c), fun i3 c => ?_⟩) (fun c => ⟨fun _ => ?_, fun i3 c => nomatch c⟩)
  · cases c
    subst e
    have hf := h.2.2.2.2.1 i hi
    have hd := (hW.2.2.2.2.2.2.1 i hi).1
    have hz := hW.sz (fD σ i)
    refine ⟨hi, ?_⟩
    rw [hf.1]
    refine h_Net_has hW h hd (fun c => ⟨fun c => absurd c (by decide), fun _ => h_isWithin 1000000 (by decide) rfl (fun c2 => ⟨fun _ => ?_, fun c => absurd c (by decide)⟩) (fun c2 => ⟨fun c => absurd rfl c, fun _ => ?_⟩)⟩) (fun c => ⟨fun _ => ?_, fun c => absurd rfl c⟩)
    · obtain ⟨j, hj, rfl⟩ := vp_in_of c (by omega)
      have e : op_set σ (nI i) (nI j) v = (fN σ i j, uForm σ i (fD σ i) (fun q => if q = j then v else fN σ i q)) := by
        unfold op_set; rw [tnI (by omega), tnI (by omega), cif_pos ⟨vp_in_nI hi (by decide), c, w64_i.mp c2⟩]
      rw [e] at K
      rw [clm (by omega)]
      refine ⟨vp_in_nI (by omega) (by decide), vp_in_nI (by omega) (by decide), fun M1 e1 => ?_⟩
      subst e1
      rw [hf.2 j (by omega)]
      refine K _ (RC_form h hi (agI (Or.inr (Or.inl rfl))) ?_ (fun q hq => ?_)) (agI (by unfold C56; omega))
      · rw [wI_1, if_neg (by omega)]; exact hf.1
      · rw [wI_1, if_pos rfl, hf.2 q hq]
    · have e : op_set σ (nI i) k v = (-2000000, σ) := by
        unfold op_set; rw [tnI (by omega), cif_neg (fun q => c2 (w64_i.mpr q.2.2))]
      rw [e] at K; exact K M h Ag.rf
    · have e : op_set σ (nI i) k v = (-2000000, σ) := by
        unfold op_set; rw [tnI (by omega), cif_neg (fun q => c q.2.1)]
      rw [e] at K; exact K M h Ag.rf
  · have e : op_set σ f k v = (-2000000, σ) := cif_neg (fun q => c q.1) _ _
    rw [e] at K; exact K M h Ag.rf
theorem h_Nf_wall (hW : WF σ) (h : RC σ M) {p v : Int32} {post : Int32 → Mem → Prop} (K : ∀ M', RC (op_wall σ p v).2 M' → Ag C56 C56 M M' → post (op_wall σ p v).1 M') : q_Nf_wall p v M post := by
  have hP := hW.1
  unfold q_Nf_wall
  refine h_Net_has hW h (d := 0) (by decide) (fun c => ⟨fun c => absurd c (by decide), fun _ => h_isWithin 1000 (by decide) rfl (fun c2 => ⟨fun _ => ?_, fun c => absurd c (by decide)⟩) (fun c2 => ⟨fun c => absurd rfl c, fun _ => ?_⟩)⟩) (fun c => ⟨fun _ => ?_, fun c => absurd rfl c⟩)
  · have c : vp_in p (nP σ) := c
    obtain ⟨j, hj, rfl⟩ := vp_in_of c (by omega)
    have e : op_wall σ (nI j) v = (1, uWall σ (fun q => if q = j then 1 else wT σ q) (fun q => if q = j then v else wN σ q)) := by
      unfold op_wall; rw [tnI (by omega), cif_pos ⟨c, w64_i.mp c2⟩]
    rw [e] at K
    rw [clm (by omega)]
    refine ⟨vp_in_nI (by omega) (by decide), fun M1 e1 => ⟨vp_in_nI (by omega) (by decide), fun M2 e2 => ?_⟩⟩
    subst e1 e2
    refine K _ (RC_wall h ((agI (Or.inl rfl)).trans (agI (Or.inr (Or.inl rfl)))) (fun q hq => ?_)) ((agI (by unfold C56; omega)).trans (agI (by unfold C56; omega)))
    have hq4 := h.2.2.2.1 q hq
    have e10 : (wI (wI M 10 j 1) 11 j v).1 10 q = if q = j then 1 else M.1 10 q := by simp [wI_1]
    have e11 : (wI (wI M 10 j 1) 11 j v).1 11 q = if q = j then v else M.1 11 q := by simp [wI_1]
    rw [e10, e11]
    constructor
    · split
      · rfl
      · exact hq4.2.1
    · split
      · rfl
      · exact hq4.2.2.1
  · have e : op_wall σ p v = (-2, σ) := cif_neg (fun q => c2 (w64_i.mpr q.2)) _ _
    rw [e] at K; exact K M h Ag.rf
  · have e : op_wall σ p v = (-2, σ) := cif_neg (fun q => c q.1) _ _
    rw [e] at K; exact K M h Ag.rf
theorem h_Nf_open (hW : WF σ) (h : RC σ M) {p : Int32} {post : Int32 → Mem → Prop} (K : ∀ M', RC (op_open σ p).2 M' → Ag C56 C56 M M' → post (op_open σ p).1 M') : q_Nf_open p M post := by
  have hP := hW.1
  unfold q_Nf_open
  refine h_Net_has hW h (d := 0) (by decide) (fun c => ⟨fun _ => ?_, fun c => absurd c (by decide)⟩) (fun c => ⟨fun c => absurd rfl c, fun _ => ?_⟩)
  · have c : vp_in p (nP σ) := c
    obtain ⟨j, hj, rfl⟩ := vp_in_of c (by omega)
    have hq4 := h.2.2.2.1 j (by omega)
    have hT := (hW.2.2.2.2.2.2.2.1 j (by omega)).1
    rw [clm (by omega), hq4.2.1]
    refine ⟨vp_in_nI (by omega) (by decide), fun c3 => ⟨vp_in_nI (by omega) (by decide), fun M1 e1 => ⟨vp_in_nI (by omega) (by decide), ?_⟩⟩, fun c3 => ?_⟩
    · have hne : ¬ wT σ j = 0 := fun q => c3 (by rw [q]; rfl)
      have e : op_open σ (nI j) = (wN σ j, uWall σ (fun q => if q = j then 0 else wT σ q) (wN σ)) := by
        unfold op_open; rw [tnI (by omega), cif_pos c, cif_neg hne]
      rw [e] at K
      subst e1
      rw [wI_1, if_neg (by omega), hq4.2.2.1]
      refine K _ (RC_wall h (agI (Or.inl rfl)) (fun q hq => ?_)) (agI (by unfold C56; omega))
      have hq5 := h.2.2.2.1 q hq
      have e10 : (wI M 10 j 0).1 10 q = if q = j then 0 else M.1 10 q := by simp [wI_1]
      have e11 : (wI M 10 j 0).1 11 q = M.1 11 q := by simp [wI_1]
      rw [e10, e11]
      refine ⟨?_, hq5.2.2.1⟩
      split
      · rfl
      · exact hq5.2.1
    · have hne : wT σ j = 0 := (nI_eq (by omega) (by decide)).mp (show nI (wT σ j) = nI 0 from c3)
      have e : op_open σ (nI j) = (-1000000, σ) := by
        unfold op_open; rw [tnI (by omega), cif_pos c, cif_pos hne]
      rw [e] at K; exact K M h Ag.rf
  · have e : op_open σ p = (-2000000, σ) := cif_neg c _ _
    rw [e] at K; exact K M h Ag.rf
theorem h_Nf_height (hW : WF σ) (h : RC σ M) {p : Int32} {post : Int64 → Mem → Prop} (K : ∀ M', RC (op_height σ p).2 M' → Ag C56 C56 M M' → post (op_height σ p).1 M') : q_Nf_height p M post := by
  have hP := hW.1
  unfold q_Nf_height
  refine h_Net_has hW h (d := 0) (by decide) (fun c => ⟨fun c => absurd c (by decide), fun _ => ?_⟩) (fun c => ⟨fun _ => ?_, fun c => absurd rfl c⟩)
  · have c : vp_in p (nP σ) := c
    obtain ⟨j, hj, rfl⟩ := vp_in_of c (by omega)
    have e : op_height σ (nI j) = (wL σ j, σ) := by unfold op_height; rw [tnI (by omega), cif_pos c]
    rw [e] at K
    rw [clm (by omega), (h.2.2.2.1 j (by omega)).2.2.2]
    exact ⟨vp_in_nI (by omega) (by decide), K M h Ag.rf⟩
  · have e : op_height σ p = (0, σ) := cif_neg c _ _
    rw [e] at K; exact K M h Ag.rf
theorem h_Nf_flow (hW : WF σ) (h : RC σ M) {p : Int32} {post : Int64 → Mem → Prop} (K : ∀ M', RC (op_flow σ p).2 M' → Ag C56 C56 M M' → post (op_flow σ p).1 M') : q_Nf_flow p M post := by
  have hP := hW.1
  unfold q_Nf_flow
  refine h_Net_has hW h (d := 1) (by decide) (fun c => ⟨fun c => absurd c (by decide), fun _ => ?_⟩) (fun c => ⟨fun _ => ?_, fun c => absurd rfl c⟩)
  · have c : vp_in p (nE σ) := c
    obtain ⟨j, hj, rfl⟩ := vp_in_of c (by omega)
    have e : op_flow σ (nI j) = (wF σ j, σ) := by unfold op_flow; rw [tnI (by omega), cif_pos c]
    rw [e] at K
    rw [clm (by omega), h.2.2.2.2.2.1 j (by omega)]
    exact ⟨vp_in_nI (by omega) (by decide), K M h Ag.rf⟩
  · have e : op_flow σ p = (0, σ) := cif_neg c _ _
    rw [e] at K; exact K M h Ag.rf
end COPS
