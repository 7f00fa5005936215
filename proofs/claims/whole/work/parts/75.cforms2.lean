/-! the class's forms: cup, mix, about -/
def frt (σ : Sg) (d k p : Nat) : Nat := if p = d then k else if p = 0 then cor σ d k 0 else pF1 σ k
def bck (σ : Sg) (d k p : Nat) : Nat := if p = d then k else if p = 0 then cor σ d k d else pS1 σ k
def cpF (σ : Sg) (f g k : Nat) : Int64 := (fN σ f (frt σ (fD σ f + fD σ g) k (fD σ f))).toInt64 * (fN σ g (bck σ (fD σ f + fD σ g) k (fD σ g))).toInt64
noncomputable def op_cup (σ : Sg) (f g t : Int32) : Int32 × Sg := cif (vp_in f 12 ∧ vp_in g 12 ∧ vp_in t 12) (cif (fD σ (tn f) + fD σ (tn g) ≤ 2) (put σ (tn t) (fD σ (tn f) + fD σ (tn g)) (cpF σ (tn f) (tn g))) (-3, σ)) (-2, σ)
def mxF (σ : Sg) (f g : Nat) (p q : Int32) (k : Nat) : Int64 := p.toInt64 * (fN σ f k).toInt64 + q.toInt64 * (fN σ g k).toInt64
noncomputable def op_mix (σ : Sg) (f p g q t : Int32) : Int32 × Sg := cif (vp_in f 12 ∧ vp_in g 12 ∧ vp_in t 12 ∧ i32le p 1000 ∧ i32le q 1000) (cif (fD σ (tn f) = fD σ (tn g)) (put σ (tn t) (fD σ (tn f)) (mxF σ (tn f) (tn g) p q)) (-3, σ)) (-2, σ)
noncomputable def op_about (σ : Sg) (f w : Int32) : Int32 × Sg := cif (vp_in f 12 ∧ vp_in w 4)
  (cif (tn w = 0) (nI (fD σ (tn f)), σ) (cif (tn w = 1) (cif (∀ k, k < 12 → fN σ (tn f) k = 0) (1, σ) (0, σ))
    (cif (tn w = 2) (cif (fD σ (tn f) = 2 ∨ ∀ k, k < sz σ (fD σ (tn f) + 1) → slp σ (tn f) k = 0) (1, σ) (0, σ)) (cif (fD σ (tn f) = 0 ∨ ∀ k, k < sz σ (fD σ (tn f) - 1) → rmF σ (tn f) k = 0) (1, σ) (0, σ))))) (-2, σ)
section CFORMS2
variable {σ : Sg} {M0 M : Mem}
theorem cor_lt (hW : WF σ) {d k i : Nat} (hd : d = 1 ∨ d = 2) (hk : k < sz σ d) : cor σ d k i < 6 := by
  have hP := hW.1
  unfold cor
  rcases hd with rfl | rfl
  · have := hW.2.1 k hk
    simp only [if_true]
    split <;> omega
  · have w := hW.2.2.2.1 k hk
    have w1 := hW.2.1 _ w.1
    have w2 := hW.2.1 _ w.2.1
    rw [if_neg (by decide)]
    split
    · omega
    · split <;> omega
theorem h_frontOf (hW : WF σ) (h : RC σ M) {d k p : Nat} (hd : d ≤ 2) (hp : p ≤ d) (hk : k < sz σ d) {post : Int32 → Mem → Prop} (K : frt σ d k p < 12 → post (nI (frt σ d k p)) M) : q_Net_frontOf (nI d) (nI k) (nI p) M post := by
  have hz := hW.sz d
  unfold q_Net_frontOf
  rw [nI_eq (by omega) (by omega)]
  refine ⟨fun c => ⟨fun c2 => ?_, fun c2 => ?_⟩, fun c => ?_⟩
  · have c2 : ¬ p = 0 := fun q => c2 (by rw [q]; rfl)
    have hd2 : d = 2 := by omega
    subst hd2
    have w := hW.2.2.2.1 k hk
    have hP := hW.1
    rw [clm (by omega), (h.2.2.1 k hk).1]
    have e : frt σ 2 k p = pF1 σ k := by unfold frt; rw [if_neg c, if_neg c2]
    rw [e] at K
    have hk2 : k < nF σ := hk
    exact ⟨vp_in_nI (by omega) (by decide), K (by omega)⟩
  · have c2 : p = 0 := (nI_eq (by omega) (by decide)).mp (show nI p = nI 0 from c2)
    have e : frt σ d k p = cor σ d k 0 := by unfold frt; rw [if_neg c, if_pos c2]
    rw [e] at K
    have := cor_lt hW (d := d) (k := k) (i := 0) (by omega) hk
    exact h_Net_pointOf hW h (i := 0) (by omega) hk (by omega) (K (by omega))
  · have e : frt σ d k p = k := by unfold frt; rw [if_pos c]
    rw [e] at K
    exact K (by omega)
theorem h_backOf (hW : WF σ) (h : RC σ M) {d k p : Nat} (hd : d ≤ 2) (hp : p ≤ d) (hk : k < sz σ d) {post : Int32 → Mem → Prop} (K : bck σ d k p < 12 → post (nI (bck σ d k p)) M) : q_Net_backOf (nI d) (nI k) (nI p) M post := by
  have hz := hW.sz d
  unfold q_Net_backOf
  rw [nI_eq (by omega) (by omega)]
  refine ⟨fun c => ⟨fun c2 => ?_, fun c2 => ?_⟩, fun c => ?_⟩
  · have c2 : ¬ p = 0 := fun q => c2 (by rw [q]; rfl)
    have hd2 : d = 2 := by omega
    subst hd2
    have w := hW.2.2.2.1 k hk
    have hP := hW.1
    rw [clm (by omega), (h.2.2.1 k hk).2.1]
    have e : bck σ 2 k p = pS1 σ k := by unfold bck; rw [if_neg c, if_neg c2]
    rw [e] at K
    have hk2 : k < nF σ := hk
    exact ⟨vp_in_nI (by omega) (by decide), K (by omega)⟩
  · have c2 : p = 0 := (nI_eq (by omega) (by decide)).mp (show nI p = nI 0 from c2)
    have e : bck σ d k p = cor σ d k d := by unfold bck; rw [if_neg c, if_pos c2]
    rw [e] at K
    have := cor_lt hW (d := d) (k := k) (i := d) (by omega) hk
    exact h_Net_pointOf hW h (i := d) (by omega) hk (by omega) (K (by omega))
  · have e : bck σ d k p = k := by unfold bck; rw [if_pos c]
    rw [e] at K
    exact K (by omega)
theorem h_Nf_cup (hW : WF σ) (h : RC σ M) {f g t : Int32} {post : Int32 → Mem → Prop} (K : ∀ M', RC (op_cup σ f g t).2 M' → Ag C56 C56 M M' → post (op_cup σ f g t).1 M') : q_Nf_cup f g t M post := by
  unfold q_Nf_cup
  have bad : ¬ (vp_in f 12 ∧ vp_in g 12 ∧ vp_in t 12) → post (-2) M := fun q => by
    have e : op_cup σ f g t = (-2, σ) := cif_neg q _ _
    rw [e] at K; exact K M h Ag.rf
  refine h_formAt (fun i hi ei => ?_) (fun cf => ?_)
  · refine h_formAt (fun j hj ej => ?_) (fun cg => ?_)
    · refine h_formAt (fun l hl el => ⟨(fun c => nomatch c), fun i7 c => ?_⟩) (fun ct => ⟨(fun c => nomatch c), fun i7 c => ?_⟩)
      · cases c
        refine ⟨hi, (fun c => nomatch c), fun i8 c => ?_⟩
        cases c
        refine ⟨hj, (fun c => nomatch c), fun i9 c => ?_⟩
        cases c
        refine ⟨hl, ?_⟩
        subst ei ej el
        have hf := h.2.2.2.2.1 i hi
        have hg := h.2.2.2.2.1 j hj
        have hd := (hW.2.2.2.2.2.2.1 i hi).1
        have hd2 := (hW.2.2.2.2.2.2.1 j hj).1
        rw [hf.1, hg.1, nI_add]
        have good : (vp_in (nI i) 12 ∧ vp_in (nI j) 12 ∧ vp_in (nI l) 12) := ⟨vp_in_nI hi (by decide), vp_in_nI hj (by decide), vp_in_nI hl (by decide)⟩
        refine ⟨fun c => ?_, fun c => ?_⟩
        · have hdd : fD σ i + fD σ j ≤ 2 := (nI_leI (by omega) (by decide)).mp (show nI (fD σ i + fD σ j) ≤ nI 2 from c)
          have e : op_cup σ (nI i) (nI j) (nI l) = put σ l (fD σ i + fD σ j) (cpF σ i j) := by
            unfold op_cup; rw [cif_pos good, tnI (by omega), tnI (by omega), tnI (by omega), cif_pos hdd]
          rw [e] at K
          have hz := hW.sz (fD σ i + fD σ j)
          refine pk_loop (fun m k (M' : Mem) => q_Nf_cup_L64 i j l _ post m (nI (fD σ i + fD σ j)) (nI k) M') (fun k M' => RD M M' ∧ ∀ q, q < k → M'.2 31 q = cpF σ i j q) (sz σ (fD σ i + fD σ j)) 0 M (Nat.zero_le _) ⟨Ag.rf, fun q hq => by omega⟩ ?_ ?_
          · rintro m M1 ⟨r1, h1⟩
            unfold q_Nf_cup_L64
            exact h_Net_size (RD.rc h r1) hdd ⟨fun _ => h_giveMade hW h r1 hl hdd h1 K, fun c => absurd (nI_le (Nat.le_refl _) (by omega)) c⟩
          · rintro m k M1 hk ⟨r1, h1⟩ ih
            have rc1 := RD.rc h r1
            unfold q_Nf_cup_L64
            refine h_Net_size rc1 hdd ⟨fun c => absurd c (nI_ge hk (by omega)), fun _ => ?_⟩
            rw [(rc1.2.2.2.2.1 i hi).1]
            refine h_frontOf hW rc1 hdd (by omega) hk (fun b1 => ⟨vp_in_nI b1 (by decide), ?_⟩)
            rw [(rc1.2.2.2.2.1 j hj).1]
            refine h_backOf hW rc1 hdd (by omega) hk (fun b2 => ⟨vp_in_nI b2 (by decide), vp_in_nI (by omega) (by decide), fun M2 e2 => ?_⟩)
            rw [clm (by omega), clm (by omega), clm (by omega), (rc1.2.2.2.2.1 i hi).2 _ b1, (rc1.2.2.2.2.1 j hj).2 _ b2] at e2
            rw [nI_1]
            subst e2
            refine ih _ ⟨r1.trans (agJ rfl), fun q hq => ?_⟩
            rw [wJ_2, if_pos rfl]
            by_cases z : q = k
            · rw [if_pos z, z]; rfl
            · rw [if_neg z]; exact h1 q (by omega)
        · have hdd : ¬ fD σ i + fD σ j ≤ 2 := fun q => c (show nI (fD σ i + fD σ j) ≤ nI 2 from nI_le q (by decide))
          have e : op_cup σ (nI i) (nI j) (nI l) = (-3, σ) := by
            unfold op_cup; rw [cif_pos good, tnI (by omega), tnI (by omega), tnI (by omega), cif_neg hdd]
          rw [e] at K; exact K M h Ag.rf
      · cases c
        refine ⟨hi, (fun c => nomatch c), fun i8 c => ?_⟩
        cases c
        exact ⟨hj, fun _ => bad (fun q => ct q.2.2), fun i9 c => nomatch c⟩
    · have fin : ∀ r6 : Option Nat, ((some i : Option Nat) = none → post (-2) M) := fun _ c => nomatch c
      refine h_formAt (fun l hl el => ⟨(fun c => nomatch c), fun i7 c => ?_⟩) (fun ct => ⟨(fun c => nomatch c), fun i7 c => ?_⟩)
      · cases c
        exact ⟨hi, fun _ => bad (fun q => cg q.2.1), fun i9 c => nomatch c⟩
      · cases c
        exact ⟨hi, fun _ => bad (fun q => cg q.2.1), fun i9 c => nomatch c⟩
  · refine h_formAt (fun j hj ej => ?_) (fun cg => ?_)
    · exact h_formAt (fun l hl el => ⟨fun _ => bad (fun q => cf q.1), fun i7 c => nomatch c⟩) (fun ct => ⟨fun _ => bad (fun q => cf q.1), fun i7 c => nomatch c⟩)
    · exact h_formAt (fun l hl el => ⟨fun _ => bad (fun q => cf q.1), fun i7 c => nomatch c⟩) (fun ct => ⟨fun _ => bad (fun q => cf q.1), fun i7 c => nomatch c⟩)
theorem h_Nf_mix (hW : WF σ) (h : RC σ M) {f p g q t : Int32} {post : Int32 → Mem → Prop} (K : ∀ M', RC (op_mix σ f p g q t).2 M' → Ag C56 C56 M M' → post (op_mix σ f p g q t).1 M') : q_Nf_mix f p g q t M post := by
  unfold q_Nf_mix
  have bad : ¬ (vp_in f 12 ∧ vp_in g 12 ∧ vp_in t 12 ∧ i32le p 1000 ∧ i32le q 1000) → post (-2) M := fun z => by
    have e : op_mix σ f p g q t = (-2, σ) := cif_neg z _ _
    rw [e] at K; exact K M h Ag.rf
  refine h_formAt (fun i hi ei => ?_) (fun cf => ?_)
  · refine h_formAt (fun j hj ej => ?_) (fun cg => ?_)
    · refine h_formAt (fun l hl el => ⟨(fun c => nomatch c), fun i7 c => ?_⟩) (fun ct => ⟨(fun c => nomatch c), fun i7 c => ?_⟩)
      · cases c
        refine ⟨hi, (fun c => nomatch c), fun i8 c => ?_⟩
        cases c
        refine ⟨hj, (fun c => nomatch c), fun i9 c => ?_⟩
        cases c
        refine ⟨hl, ?_⟩
        refine h_isWithin 1000 (by decide) rfl (fun c1 => ⟨fun c => absurd c (by decide), fun _ => ?_⟩) (fun c1 => ⟨fun _ => bad (fun z => c1 (w64_i.mpr z.2.2.2.1)), fun c => absurd rfl c⟩)
        refine h_isWithin 1000 (by decide) rfl (fun c2 => ⟨fun _ => ?_, fun c => absurd c (by decide)⟩) (fun c2 => ⟨fun c => absurd rfl c, fun _ => bad (fun z => c2 (w64_i.mpr z.2.2.2.2))⟩)
        subst ei ej el
        have hf := h.2.2.2.2.1 i hi
        have hg := h.2.2.2.2.1 j hj
        have hd := (hW.2.2.2.2.2.2.1 i hi).1
        have hd2 := (hW.2.2.2.2.2.2.1 j hj).1
        rw [hf.1, hg.1, nI_eq (by omega) (by omega)]
        have good : (vp_in (nI i) 12 ∧ vp_in (nI j) 12 ∧ vp_in (nI l) 12 ∧ i32le p 1000 ∧ i32le q 1000) := ⟨vp_in_nI hi (by decide), vp_in_nI hj (by decide), vp_in_nI hl (by decide), w64_i.mp c1, w64_i.mp c2⟩
        refine ⟨fun c => ?_, fun c => ?_⟩
        · have e : op_mix σ (nI i) p (nI j) q (nI l) = put σ l (fD σ i) (mxF σ i j p q) := by
            unfold op_mix; rw [cif_pos good, tnI (by omega), tnI (by omega), tnI (by omega), cif_pos c]
          rw [e] at K
          have hz := hW.sz (fD σ i)
          refine pk_loop (fun m k (M' : Mem) => q_Nf_mix_L85 i j l _ post m p q (nI k) M') (fun k M' => RD M M' ∧ ∀ z, z < k → M'.2 31 z = mxF σ i j p q z) (sz σ (fD σ i)) 0 M (Nat.zero_le _) ⟨Ag.rf, fun q hq => by omega⟩ ?_ ?_
          · rintro m M1 ⟨r1, h1⟩
            have rc1 := RD.rc h r1
            unfold q_Nf_mix_L85
            rw [(rc1.2.2.2.2.1 i hi).1]
            exact h_Net_size rc1 hd ⟨fun _ => by rw [(rc1.2.2.2.2.1 i hi).1]; exact h_giveMade hW h r1 hl hd h1 K, fun c => absurd (nI_le (Nat.le_refl _) (by omega)) c⟩
          · rintro m k M1 hk ⟨r1, h1⟩ ih
            have rc1 := RD.rc h r1
            unfold q_Nf_mix_L85
            rw [(rc1.2.2.2.2.1 i hi).1]
            refine h_Net_size rc1 hd ⟨fun c => absurd c (nI_ge hk (by omega)), fun _ => ?_⟩
            rw [clm (by omega), nI_1, (rc1.2.2.2.2.1 i hi).2 k (by omega), (rc1.2.2.2.2.1 j hj).2 k (by omega)]
            refine ⟨vp_in_nI (by omega) (by decide), vp_in_nI (by omega) (by decide), vp_in_nI (by omega) (by decide), fun M2 e2 => ?_⟩
            subst e2
            refine ih _ ⟨r1.trans (agJ rfl), fun z hz => ?_⟩
            rw [wJ_2, if_pos rfl]
            by_cases y : z = k
            · rw [if_pos y, y]; rfl
            · rw [if_neg y]; exact h1 z (by omega)
        · have e : op_mix σ (nI i) p (nI j) q (nI l) = (-3, σ) := by
            unfold op_mix; rw [cif_pos good, tnI (by omega), tnI (by omega), tnI (by omega), cif_neg c]
          rw [e] at K; exact K M h Ag.rf
      · cases c
        refine ⟨hi, (fun c => nomatch c), fun i8 c => ?_⟩
        cases c
        exact ⟨hj, fun _ => bad (fun z => ct z.2.2.1), fun i9 c => nomatch c⟩
    · refine h_formAt (fun l hl el => ⟨(fun c => nomatch c), fun i7 c => ?_⟩) (fun ct => ⟨(fun c => nomatch c), fun i7 c => ?_⟩)
      · cases c
        exact ⟨hi, fun _ => bad (fun z => cg z.2.1), fun i9 c => nomatch c⟩
      · cases c
        exact ⟨hi, fun _ => bad (fun z => cg z.2.1), fun i9 c => nomatch c⟩
  · refine h_formAt (fun j hj ej => ?_) (fun cg => ?_)
    · exact h_formAt (fun l hl el => ⟨fun _ => bad (fun z => cf z.1), fun i7 c => nomatch c⟩) (fun ct => ⟨fun _ => bad (fun z => cf z.1), fun i7 c => nomatch c⟩)
    · exact h_formAt (fun l hl el => ⟨fun _ => bad (fun z => cf z.1), fun i7 c => nomatch c⟩) (fun ct => ⟨fun _ => bad (fun z => cf z.1), fun i7 c => nomatch c⟩)
theorem h_fitsIn (h : RC σ M) {f : Nat} (hf : f < 12) (n : Nat) {lim : Int32} (hn : n < 2 ^ 31) (hl : lim = nI n) {post : Int32 → Mem → Prop} (h1 : (∀ k, k < 12 → i32le (fN σ f k) n) → post 1 M) (h0 : ¬ (∀ k, k < 12 → i32le (fN σ f k) n) → post 0 M) : q_Frm_fitsIn f lim M post := by
  unfold q_Frm_fitsIn
  refine pk_loop (fun m i (M' : Mem) => q_Frm_fitsIn_L2 f _ _ post m lim (nI i) M') (fun i M' => M' = M ∧ ∀ k, k < i → i32le (fN σ f k) n) 12 0 M (Nat.zero_le _) ⟨rfl, fun k hk => by omega⟩ ?_ ?_
  · rintro m M1 ⟨rfl, h2⟩
    unfold q_Frm_fitsIn_L2
    exact ⟨fun _ => h1 h2, fun c => absurd (show (12 : Int32) ≤ nI 12 by decide) c⟩
  · rintro m i M1 hi ⟨rfl, h2⟩ ih
    unfold q_Frm_fitsIn_L2
    rw [clm (by omega), nI_1, (h.2.2.2.2.1 f hf).2 i hi]
    refine ⟨fun c => absurd (show nI 12 ≤ nI i from c) (nI_ge hi (by decide)), fun _ => ⟨vp_in_nI hi (by decide), h_isWithin n hn hl (fun c => ⟨fun _ => ih _ ⟨rfl, fun k hk => ?_⟩, fun c => absurd c (by decide)⟩) (fun c => ⟨fun c => absurd rfl c, fun _ => h0 (fun q => c (w64_i.mpr (q i hi)))⟩)⟩⟩
    rcases Nat.lt_or_ge k i with z | z
    · exact h2 k z
    · have : k = i := by omega
      subst this; exact w64_i.mp c
theorem h_isMadeZero {n : Nat} (hn : n ≤ 12) {mk : Nat → Int64} (hm : ∀ k, k < n → M.2 31 k = mk k) {post : Int32 → Mem → Prop} (h1 : (∀ k, k < n → mk k = 0) → post 1 M) (h0 : ¬ (∀ k, k < n → mk k = 0) → post 0 M) : q_Nf_isMadeZero (nI n) M post := by
  unfold q_Nf_isMadeZero
  refine pk_loop (fun m i (M' : Mem) => q_Nf_isMadeZero_L2 _ _ post m (nI n) (nI i) M') (fun i M' => M' = M ∧ ∀ k, k < i → mk k = 0) n 0 M (Nat.zero_le _) ⟨rfl, fun k hk => by omega⟩ ?_ ?_
  · rintro m M1 ⟨rfl, h2⟩
    unfold q_Nf_isMadeZero_L2
    exact ⟨fun _ => h1 h2, fun c => absurd (nI_le (Nat.le_refl _) (by omega)) c⟩
  · rintro m i M1 hi ⟨rfl, h2⟩ ih
    unfold q_Nf_isMadeZero_L2
    rw [clm (by omega), nI_1, hm i hi]
    refine ⟨fun c => absurd c (nI_ge hi (by omega)), fun _ => ⟨vp_in_nI (by omega) (by decide), fun c => ih _ ⟨rfl, fun k hk => ?_⟩, fun c => h0 (fun q => c (q i hi))⟩⟩
    rcases Nat.lt_or_ge k i with z | z
    · exact h2 k z
    · have : k = i := by omega
      subst this; exact c
theorem i32le0 {x : Int32} : i32le x 0 ↔ x = 0 := by
  constructor
  · intro q
    have := q.1
    have := q.2
    exact Int32.toInt_inj.mp (by show x.toInt = 0; omega)
  · rintro rfl
    exact ⟨by decide, by decide⟩
theorem h_Nf_about (hW : WF σ) (h : RC σ M) {f w : Int32} {post : Int32 → Mem → Prop} (K : ∀ M', RC (op_about σ f w).2 M' → Ag C56 C56 M M' → post (op_about σ f w).1 M') : q_Nf_about f w M post := by
  unfold q_Nf_about
  have bad : ¬ (vp_in f 12 ∧ vp_in w 4) → post (-2) M := fun z => by
    have e : op_about σ f w = (-2, σ) := cif_neg z _ _
    rw [e] at K; exact K M h Ag.rf
  refine h_formAt (fun i hi ei => ⟨(fun c => nomatch c), fun i3 c => ?_⟩) (fun c => ⟨fun _ => bad (fun q => c q.1), fun i3 c => nomatch c⟩)
  cases c
  subst ei
  have hf := h.2.2.2.2.1 i hi
  have hd := (hW.2.2.2.2.2.2.1 i hi).1
  refine ⟨hi, fun c => bad (fun q => nvin_neg c q.2), fun c => ⟨fun c2 => ?_, fun c2 => bad (fun q => ?_)⟩⟩
  · have hv : vp_in w 4 := nle_vin (by decide) c (fun q => by
      rw [Int32.le_iff_toInt_le] at c2 q
      have e1 : (nI 4).toInt = 4 := rfl
      have e2 : (3 : Int32).toInt = 3 := rfl
      omega)
    obtain ⟨j, hj, rfl⟩ := vp_in_of hv (by decide)
    have K2 := K
    unfold op_about at K2
    rw [cif_pos ⟨vp_in_nI hi (by decide), hv⟩, tnI (show i < 200 by omega), tnI (show j < 200 by omega)] at K2
    clear K
    match j, hj with
    | 0, _ =>
      rw [cif_pos rfl] at K2
      exact ⟨fun c => absurd rfl c, fun _ => by rw [hf.1]; exact K2 M h Ag.rf⟩
    | 1, _ =>
      rw [cif_neg (by decide), cif_pos rfl] at K2
      refine ⟨fun _ => ⟨fun c => absurd rfl c, fun _ => h_fitsIn h hi 0 (by decide) rfl (fun q => ⟨fun c => absurd c (by decide), fun _ => ?_⟩) (fun q => ⟨fun _ => ?_, fun c => absurd rfl c⟩)⟩, fun c => absurd c (by decide)⟩
      · rw [cif_pos (fun k hk => i32le0.mp (q k hk))] at K2; exact K2 M h Ag.rf
      · rw [cif_neg (fun z => q (fun k hk => i32le0.mpr (z k hk)))] at K2; exact K2 M h Ag.rf
    | 2, _ =>
      rw [cif_neg (by decide), cif_neg (by decide), cif_pos rfl] at K2
      refine ⟨fun _ => ⟨fun _ => ⟨fun c => absurd rfl c, fun _ => ?_⟩, fun c => absurd c (by decide)⟩, fun c => absurd c (by decide)⟩
      unfold q_Nf_hasNoSlope
      rw [hf.1]
      refine ⟨fun c3 => ?_, fun c3 => ?_⟩
      · have hd2 : ¬ fD σ i = 2 := fun q => c3 (by rw [q]; rfl)
        refine h_makeSlope hW h Ag.rf hi (by omega) (fun M1 r1 h1 => ?_)
        have rc1 := RD.rc h r1
        have g1 : Ag C56 C56 M M1 := r1.mono (fun k hk => hk.elim) (fun k hk => by unfold C56; omega)
        rw [(rc1.2.2.2.2.1 i hi).1, nI_1]
        refine h_Net_size rc1 (by omega) (h_isMadeZero (hW.sz _) h1 (fun q => ⟨rfl, fun c => absurd c (by decide), fun _ => ?_⟩) (fun q => ⟨rfl, fun _ => ?_, fun c => absurd rfl c⟩))
        · rw [cif_pos (Or.inr q)] at K2; exact K2 M1 rc1 g1
        · rw [cif_neg (fun z => by rcases z with z | z; exact hd2 z; exact q z)] at K2; exact K2 M1 rc1 g1
      · have hd2 : fD σ i = 2 := (nI_eq (by omega) (by decide)).mp (show nI (fD σ i) = nI 2 from c3)
        rw [cif_pos (Or.inl hd2)] at K2
        exact ⟨fun c => absurd c (by decide), fun _ => K2 M h Ag.rf⟩
    | 3, _ =>
      rw [cif_neg (by decide), cif_neg (by decide), cif_neg (by decide)] at K2
      refine ⟨fun _ => ⟨fun _ => ⟨fun _ => ?_, fun c => absurd c (by decide)⟩, fun c => absurd c (by decide)⟩, fun c => absurd c (by decide)⟩
      unfold q_Nf_hasNoRim
      rw [hf.1]
      refine ⟨fun c3 => ?_, fun c3 => ?_⟩
      · have hd2 : ¬ fD σ i = 0 := fun q => c3 (by rw [q]; rfl)
        have em : nI (fD σ i) - 1 = nI (fD σ i - 1) := by
          obtain ⟨e, he⟩ : ∃ e, fD σ i = e + 1 := ⟨fD σ i - 1, by omega⟩
          rw [he, nI_pred]; rfl
        refine h_makeRim hW h Ag.rf hi (by omega) (fun M1 r1 h1 => ?_)
        have rc1 := RD.rc h r1
        have g1 : Ag C56 C56 M M1 := r1.mono (fun k hk => hk.elim) (fun k hk => by unfold C56; omega)
        rw [(rc1.2.2.2.2.1 i hi).1, em]
        refine h_Net_size rc1 (by omega) (h_isMadeZero (hW.sz _) h1 (fun q => ⟨rfl, fun c => absurd c (by decide), fun _ => ?_⟩) (fun q => ⟨rfl, fun _ => ?_, fun c => absurd rfl c⟩))
        · rw [cif_pos (Or.inr q)] at K2; exact K2 M1 rc1 g1
        · rw [cif_neg (fun z => by rcases z with z | z; exact hd2 z; exact q z)] at K2; exact K2 M1 rc1 g1
      · have hd2 : fD σ i = 0 := (nI_eq (by omega) (by decide)).mp (show nI (fD σ i) = nI 0 from c3)
        rw [cif_pos (Or.inl hd2)] at K2
        exact ⟨fun c => absurd c (by decide), fun _ => K2 M h Ag.rf⟩
  · obtain ⟨j, hj, rfl⟩ := vp_in_of q.2 (by decide)
    exact c2 (show nI j ≤ nI 3 from nI_le (by omega) (by decide))
end CFORMS2
