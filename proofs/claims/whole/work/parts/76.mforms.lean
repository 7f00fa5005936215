/-! the reference's forms: slope, rim -/
def RDm (M0 M : Mem) : Prop := Ag (fun _ => False) (fun k => k = 68) M0 M
theorem smJ_add (f g : Nat → Int64) : ∀ n, smJ (fun s => f s + g s) n = smJ f n + smJ g n := by
  intro n
  induction n with
  | zero => rfl
  | succ n ih => simp only [smJ]; rw [ih]; grind
theorem smJ_sub (f g : Nat → Int64) : ∀ n, smJ (fun s => f s - g s) n = smJ f n - smJ g n := by
  intro n
  induction n with
  | zero => simp only [smJ]; grind
  | succ n ih => simp only [smJ]; rw [ih]; grind
theorem smJ_one (y : Nat → Int64) (a : Nat) : ∀ n, smJ (fun s => if s = a then y s else 0) n = if a < n then y a else 0 := by
  intro n
  induction n with
  | zero => rfl
  | succ n ih =>
    simp only [smJ]
    rw [ih]
    by_cases z : n = a
    · subst z
      rw [if_neg (by omega), if_pos rfl, if_pos (by omega)]
      grind
    · rw [if_neg z]
      by_cases z2 : a < n
      · rw [if_pos z2, if_pos (by omega)]; grind
      · rw [if_neg z2, if_neg (by omega)]; rfl
theorem iI_1 (y : Int64) : (iI 1).toInt64 * y = y := by rw [show (iI 1).toInt64 = 1 from rfl]; grind
theorem iI_m1 (y : Int64) : (iI (-1)).toInt64 * y = 0 - y := by rw [show (iI (-1)).toInt64 = -1 from rfl]; grind
theorem iI_0 (y : Int64) : (iI 0).toInt64 * y = 0 := by rw [show (iI 0).toInt64 = 0 from rfl]; grind
theorem plate_ne {σ : Sg} (hW : WF σ) {k : Nat} (hk : k < nF σ) : pF1 σ k ≠ pS1 σ k ∧ pA1 σ k ≠ pF1 σ k ∧ pA1 σ k ≠ pS1 σ k := by
  have w := hW.2.2.2.1 k hk
  have w1 := hW.2.1 _ w.1
  have w2 := hW.2.1 _ w.2.1
  have w3 := hW.2.1 _ w.2.2.1
  refine ⟨fun q => ?_, fun q => ?_, fun q => ?_⟩
  · have := congrArg (vE σ) q; have := congrArg (vB σ) q; omega
  · have := congrArg (vE σ) q; have := congrArg (vB σ) q; omega
  · have := congrArg (vE σ) q; have := congrArg (vB σ) q; omega
theorem sgn1_mul {σ : Sg} (hW : WF σ) {k : Nat} (hk : k < nE σ) (s : Nat) (y : Int64) : (iI (sgn σ 1 k s)).toInt64 * y = (if s = vE σ k then y else 0) - (if s = vB σ k then y else 0) := by
  have w := hW.2.1 k hk
  unfold sgn
  rw [if_pos rfl]
  by_cases a : vE σ k = s
  · rw [if_pos a, if_pos a.symm, if_neg (by omega), iI_1]; grind
  · have a2 : ¬ s = vE σ k := fun q => a q.symm
    by_cases b : vB σ k = s
    · rw [if_neg a, if_pos b, if_neg a2, if_pos b.symm, iI_m1]
    · have b2 : ¬ s = vB σ k := fun q => b q.symm
      rw [if_neg a, if_neg b, if_neg a2, if_neg b2, iI_0]; grind
theorem sgn2_mul {σ : Sg} (hW : WF σ) {k : Nat} (hk : k < nF σ) (s : Nat) (y : Int64) : (iI (sgn σ 2 k s)).toInt64 * y = (if s = pF1 σ k then y else 0) + (if s = pS1 σ k then y else 0) - (if s = pA1 σ k then y else 0) := by
  have w := plate_ne hW hk
  unfold sgn
  rw [if_neg (by decide)]
  by_cases a : pF1 σ k = s
  · rw [if_pos (Or.inl a), if_pos a.symm, if_neg (by omega), if_neg (by omega), iI_1]; grind
  · by_cases b : pS1 σ k = s
    · rw [if_pos (Or.inr b), if_neg (by omega), if_pos b.symm, if_neg (by omega), iI_1]; grind
    · have a2 : ¬ s = pF1 σ k := fun q => a q.symm
      have b2 : ¬ s = pS1 σ k := fun q => b q.symm
      rw [if_neg (fun q => q.elim a b), if_neg a2, if_neg b2]
      by_cases c : pA1 σ k = s
      · rw [if_pos c, if_pos c.symm, iI_m1]; grind
      · have c2 : ¬ s = pA1 σ k := fun q => c q.symm
        rw [if_neg c, if_neg c2, iI_0]; grind
theorem slp_1 {σ : Sg} (hW : WF σ) {f k : Nat} (hd : fD σ f = 0) (hk : k < nE σ) : slp σ f k = (fN σ f (vE σ k)).toInt64 - (fN σ f (vB σ k)).toInt64 := by
  have w := hW.2.1 k hk
  unfold slp
  rw [hd]
  rw [smJ_congr (fun s _ => sgn1_mul hW hk s _), smJ_sub, smJ_one (fun s => (fN σ f s).toInt64), smJ_one (fun s => (fN σ f s).toInt64)]
  show (if vE σ k < nP σ then _ else _) - (if vB σ k < nP σ then _ else _) = _
  rw [if_pos (by omega), if_pos (by omega)]
theorem slp_2 {σ : Sg} (hW : WF σ) {f k : Nat} (hd : fD σ f = 1) (hk : k < nF σ) : slp σ f k = (fN σ f (pF1 σ k)).toInt64 + (fN σ f (pS1 σ k)).toInt64 - (fN σ f (pA1 σ k)).toInt64 := by
  have w := hW.2.2.2.1 k hk
  unfold slp
  rw [hd]
  rw [smJ_congr (fun s _ => sgn2_mul hW hk s _), smJ_sub, smJ_add, smJ_one (fun s => (fN σ f s).toInt64), smJ_one (fun s => (fN σ f s).toInt64), smJ_one (fun s => (fN σ f s).toInt64)]
  show (if pF1 σ k < nE σ then _ else _) + (if pS1 σ k < nE σ then _ else _) - (if pA1 σ k < nE σ then _ else _) = _
  rw [if_pos (by omega), if_pos (by omega), if_pos (by omega)]
section MFORMS
variable {σ : Sg} {M0 M : Mem}
theorem RDm.rm (h : RM σ M0) (r : RDm M0 M) : RM σ M := h.ag (r.mono (fun k hk => hk.elim) (fun k hk => by unfold Tm; omega))
theorem RDm.e (r : RDm M0 M) (k : Nat) : M.1 k = M0.1 k := r.1 k (fun q => q)
theorem RDm.d (r : RDm M0 M) : Ag D56 D56 M0 M := r.mono (fun k hk => hk.elim) (fun k hk => by unfold D56; omega)
theorem h_edgeIs (hW : WF σ) (h : RM σ M) {e : Nat} (he : e < nE σ) {x y : Nat} (hx : x = vB σ e) (hy : y = vE σ e) {post : Int32 → Mem → Prop} (hp : post (nI e) M) : q_Mo_edgeOf (nI x) (nI y) M post := by
  have w := hW.2.1 e he
  have hP := hW.1
  subst hx hy
  refine h_edgeOf hW h rfl rfl rfl (by omega) (by omega) (fun k h1 h2 h3 h4 => ?_) (fun c => ?_)
  · have := hW.2.2.1 k e h2 he h3 h4
    subst this; exact hp
  · have := fE_some (B := vB σ) (E := vE σ) (i := vB σ e) (j := vE σ e) (fun a b ha hb => hW.2.2.1 a b ha hb) he rfl rfl
    rw [c] at this
    cases this
theorem h_onEdge (hW : WF σ) (h : RM σ M) {f e : Nat} (hf : f < 12) (he : e < nE σ) {x y : Nat} (hx : x = vB σ e) (hy : y = vE σ e) {post : Int64 → Mem → Prop} (hp : post (fN σ f e).toInt64 M) : q_Mo_onEdge (nI f) (nI x) (nI y) M post := by
  have hP := hW.1
  unfold q_Mo_onEdge
  exact h_edgeIs hW h he hx hy (h_Mo_at h rfl hf (by omega) hp)
theorem h_becomes (hW : WF σ) (h : RM σ M0) (r : RDm M0 M) {g d : Nat} (hg : g < 12) (hd : d ≤ 2) {mk : Nat → Int64} (hm : ∀ k, k < sz σ d → M.2 68 k = mk k) {post : Int32 → Mem → Prop} (K : ∀ M', RM (put σ g d mk).2 M' → Ag D56 D56 M0 M' → post (put σ g d mk).1 M') : q_Mo_becomes (nI g) (nI d) M post := by
  have hz := hW.sz d
  have h' := RDm.rm h r
  unfold q_Mo_becomes
  refine pk_loop (fun m i (M' : Mem) => q_Mo_becomes_L2 _ _ post m (nI g) (nI d) (nI i) M') (fun i M' => M' = M ∧ ∀ k, k < i → w64 (mk k) 1000000) (sz σ d) 0 M (Nat.zero_le _) ⟨rfl, fun k hk => by omega⟩ ?_ ?_
  · rintro m M1 ⟨rfl, hw⟩
    have e : put σ g d mk = (nI d, uForm σ g d (fun k => if k < sz σ d then (mk k).toInt32 else 0)) := cif_pos hw _ _
    rw [e] at K
    unfold q_Mo_becomes_L2
    refine h_Mo_size h' rfl hd ⟨fun _ => h_clears hg (fun M2 g2 b1 b2 => ?_), fun c => absurd (nI_le (Nat.le_refl _) (by omega)) c⟩
    refine pk_loop (fun m i (M' : Mem) => q_Mo_becomes_L46 _ post m (nI g) (nI d) (nI i) M') (fun i M' => Ag (fun k => k = 63) (fun _ => False) M2 M' ∧ ∀ q, M'.1 63 q = if 12 * g ≤ q ∧ q < 12 * g + 12 then (if q - 12 * g < i then (mk (q - 12 * g)).toInt32 else 0) else M1.1 63 q) (sz σ d) 0 M2 (Nat.zero_le _) ⟨Ag.rf, fun q => by rw [b2 q, if_neg (Nat.not_lt_zero _)]⟩ ?_ ?_
    · rintro m M3 ⟨g3, h3⟩
      unfold q_Mo_becomes_L46
      have e56 : M3.1 56 = M1.1 56 := by rw [g3.1 56 (by omega), g2.1 56 (by omega)]
      refine h_Mo_size h' e56 hd ⟨fun _ => ?_, fun c => absurd (nI_le (Nat.le_refl _) (by omega)) c⟩
      have g4 : Ag (fun k => k = 62 ∨ k = 63) (fun k => k = 68) M0 M3 := (r.mono (fun k hk => hk.elim) (fun k hk => hk)).trans ((g2.mono (fun k hk => hk) (fun k hk => hk.elim)).trans (g3.mono (fun k hk => Or.inr hk) (fun k hk => hk.elim)))
      refine K M3 (RM_form h hg (g4.mono (fun k hk => by omega) (fun k hk => by unfold Tm; omega)) (fun i hi => ?_) (fun i hi => ?_)) (g4.mono (fun k hk => by unfold D56; omega) (fun k hk => by unfold D56; omega))
      · rw [g3.1 62 (by omega), b1 i, r.e]
      · rw [h3 i, r.e]
    · rintro m i M3 hi ⟨g3, h3⟩ ih
      have e56 : M3.1 56 = M1.1 56 := by rw [g3.1 56 (by omega), g2.1 56 (by omega)]
      have e68 : M3.2 68 i = mk i := by rw [g3.2 68 (fun q => q), g2.2 68 (fun q => q)]; exact hm i hi
      unfold q_Mo_becomes_L46
      refine h_Mo_size h' e56 hd ⟨fun c => absurd c (nI_ge hi (by omega)), fun _ => ?_⟩
      rw [ix12, clm (by omega), clm (by omega), nI_1, e68]
      refine ⟨vp_in_nI (by omega) (by decide), vp_in_nI (by omega) (by decide), fun M4 e4 => ?_⟩
      subst e4
      refine ih _ ⟨g3.trans (agI rfl), fun q => ?_⟩
      rw [wI_1, if_pos rfl, h3 q]
      by_cases z : q = 12 * g + i
      · rw [if_pos z, if_pos (by omega), if_pos (by omega), z, show 12 * g + i - 12 * g = i by omega]
      · rw [if_neg z]
        by_cases z1 : 12 * g ≤ q ∧ q < 12 * g + 12
        · rw [if_pos z1, if_pos z1]
          by_cases z2 : q - 12 * g < i
          · rw [if_pos z2, if_pos (by omega)]
          · rw [if_neg z2, if_neg (by omega)]
        · rw [if_neg z1, if_neg z1]
  · rintro m i M1 hi ⟨rfl, hw⟩ ih
    unfold q_Mo_becomes_L2
    refine h_Mo_size h' rfl hd ⟨fun c => absurd c (nI_ge hi (by omega)), fun _ => ?_⟩
    rw [clm (by omega), nI_1, hm i hi]
    refine ⟨vp_in_nI (by omega) (by decide), h_in (-1000000) 1000000 rfl rfl (fun c1 c2 => ⟨fun _ => ih _ ⟨rfl, fun k hk => ?_⟩, fun c => absurd c (by decide)⟩) (fun c => ⟨fun c => absurd rfl c, fun _ => ?_⟩)⟩
    · rcases Nat.lt_or_ge k i with z | z
      · exact hw k z
      · have : k = i := by omega
        subst this; exact ⟨c1, c2⟩
    · have e : put σ g d mk = (-5, σ) := cif_neg (fun q => c (q i hi)) _ _
      rw [e] at K
      exact K _ h' r.d
theorem h_Mo_makeSlope (hW : WF σ) (h : RM σ M0) (r : RDm M0 M) {f : Nat} (hf : f < 12) (hd : fD σ f ≤ 1) {post : Mem → Prop} (K : ∀ M', RDm M0 M' → (∀ k, k < sz σ (fD σ f + 1) → M'.2 68 k = slp σ f k) → post M') : q_Mo_makeSlope (nI f) M post := by
  have hz2 := hW.sz (fD σ f + 1)
  have hP := hW.1
  unfold q_Mo_makeSlope
  rw [clm (by omega), ((RDm.rm h r).2.2.2.2.1 f hf).1, nI_1]
  refine ⟨vp_in_nI hf (by decide), ?_⟩
  refine pk_loop (fun m i (M' : Mem) => q_Mo_makeSlope_L11 _ post m (nI f) (nI (fD σ f + 1)) (nI i) M') (fun i M' => RDm M0 M' ∧ ∀ k, k < i → M'.2 68 k = slp σ f k) (sz σ (fD σ f + 1)) 0 M (Nat.zero_le _) ⟨r, fun k hk => by omega⟩ ?_ ?_
  · rintro m M1 ⟨r1, h1⟩
    unfold q_Mo_makeSlope_L11
    exact h_Mo_size (RDm.rm h r1) rfl (by omega) ⟨fun _ => K M1 r1 h1, fun c => absurd (nI_le (Nat.le_refl _) (by omega)) c⟩
  · rintro m i M1 hi ⟨r1, h1⟩ ih
    have rc1 := RDm.rm h r1
    have fin : ∀ x : Int64, x = slp σ f i → ∀ M9, M9 = wJ M1 68 i x → RDm M0 M9 ∧ ∀ k, k < i + 1 → M9.2 68 k = slp σ f k := by
      rintro x rfl M9 rfl
      refine ⟨r1.trans (agJ rfl), fun k hk => ?_⟩
      rw [wJ_2, if_pos rfl]
      by_cases z : k = i
      · rw [if_pos z, z]
      · rw [if_neg z]; exact h1 k (by omega)
    unfold q_Mo_makeSlope_L11
    refine h_Mo_size rc1 rfl (by omega) ⟨fun c => absurd c (nI_ge hi (by omega)), fun _ => ⟨fun c => ?_, fun c => ?_⟩⟩
    · have hd1 : fD σ f = 1 := by
        rcases Nat.lt_or_ge (fD σ f) 1 with z | z
        · have : fD σ f = 0 := by omega
          rw [this] at c; exact absurd rfl c
        · omega
      rw [hd1] at hi
      have hi : i < nF σ := hi
      have w := hW.2.2.2.1 i hi
      have hc := rc1.2.2.1 i hi
      rw [clm (by omega), hc.1, hc.2.1, nI_1]
      refine ⟨vp_in_nI (by omega) (by decide), vp_in_nI (by omega) (by decide), h_onEdge hW rc1 hf w.1 rfl rfl ⟨vp_in_nI (by omega) (by decide), vp_in_nI (by omega) (by decide), ?_⟩⟩
      rw [hc.2.1, hc.2.2]
      refine h_onEdge hW rc1 hf w.2.1 w.2.2.2.1 rfl ⟨vp_in_nI (by omega) (by decide), vp_in_nI (by omega) (by decide), ?_⟩
      rw [hc.1, hc.2.2]
      refine h_onEdge hW rc1 hf w.2.2.1 w.2.2.2.2.1.symm w.2.2.2.2.2.symm ⟨vp_in_nI (by omega) (by decide), fun M9 e9 => ?_⟩
      exact ih M9 (fin _ (slp_2 hW hd1 hi).symm M9 e9)
    · have hd1 : fD σ f = 0 := by
        have := (nI_eq (a := fD σ f + 1) (b := 1) (by omega) (by decide)).mp c
        omega
      rw [hd1] at hi
      have hi : i < nE σ := hi
      have w := hW.2.1 i hi
      have hc := rc1.2.1 i hi
      rw [clm (by omega), hc.2, nI_1]
      refine ⟨vp_in_nI (by omega) (by decide), h_Mo_at rc1 rfl hf (by omega) ⟨vp_in_nI (by omega) (by decide), ?_⟩⟩
      rw [hc.1]
      refine h_Mo_at rc1 rfl hf (by omega) ⟨vp_in_nI (by omega) (by decide), fun M9 e9 => ?_⟩
      exact ih M9 (fin _ (slp_1 hW hd1 hi).symm M9 e9)
end MFORMS
