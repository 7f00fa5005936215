/-! potential -/
theorem jn_same {L : Nat → Nat} {a b : Nat} (h : L a = L b) : jn L a b = L := by
  funext q
  unfold jn
  rw [← h, Nat.max_self, Nat.min_self]
  by_cases z : L q = L a
  · rw [if_pos z, z]
  · rw [if_neg z]
def pR (σ : Sg) (f : Nat) : Nat → Nat → Int64
  | 0 => fun _ => 0
  | e + 1 => fun p => if prt (vB σ) (vE σ) e (vB σ e) = prt (vB σ) (vE σ) e (vE σ e) then pR σ f e p else if prt (vB σ) (vE σ) e p = prt (vB σ) (vE σ) e (vE σ e) then pR σ f e p + (pR σ f e (vB σ e) + (fN σ f e).toInt64 - pR σ f e (vE σ e)) else pR σ f e p
def pO (σ : Sg) (f e : Nat) : Int64 := pR σ f e (vB σ e) + (fN σ f e).toInt64 - pR σ f e (vE σ e)
def pBad (σ : Sg) (f e : Nat) : Prop := prt (vB σ) (vE σ) e (vB σ e) = prt (vB σ) (vE σ) e (vE σ e) ∧ ¬ pO σ f e = 0
noncomputable def fB (σ : Sg) (f : Nat) : Nat → Option Nat
  | 0 => none
  | n + 1 => cif (fB σ f n = none) (cif (pBad σ f n) (some n) none) (fB σ f n)
theorem fB_none {σ : Sg} {f : Nat} : ∀ {n : Nat}, (∀ l, l < n → ¬ pBad σ f l) → fB σ f n = none := by
  intro n
  induction n with
  | zero => intro _; rfl
  | succ n ih => intro h; unfold fB; rw [cif_pos (ih (fun l hl => h l (by omega))), cif_neg (h n (by omega))]
theorem fB_some {σ : Sg} {f e : Nat} (h0 : ∀ l, l < e → ¬ pBad σ f l) (h1 : pBad σ f e) : ∀ {n : Nat}, e < n → fB σ f n = some e := by
  intro n
  induction n with
  | zero => intro h; omega
  | succ n ih =>
    intro h
    unfold fB
    rcases Nat.lt_or_ge e n with z | z
    · rw [cif_neg (by rw [ih z]; simp), ih z]
    · have : e = n := by omega
      subst this
      rw [cif_pos (fB_none h0), cif_pos h1]
def pot (σ : Sg) (f p : Nat) : Int64 := pR σ f (nE σ) p - pR σ f (nE σ) (prt (vB σ) (vE σ) (nE σ) p)
noncomputable def op_potential (σ : Sg) (f g : Int32) : Int32 × Sg := cif (vp_in f 12 ∧ vp_in g 12) (cif (fD σ (tn f) = 1) (cif (fB σ (tn f) (nE σ) = none) (cif ((put σ (tn g) 0 (pot σ (tn f))).1 = -5) (-5) (-1), (put σ (tn g) 0 (pot σ (tn f))).2) (nI ((fB σ (tn f) (nE σ)).getD 0), σ)) (-3, σ)) (-2, σ)
def RCl (M0 M : Mem) (L : Nat → Nat) (R : Nat → Int64) : Prop := Ag (fun k => k = 30) (fun k => k = 29) M0 M ∧ ∀ q, q < 6 → M.1 30 q = nI (L q) ∧ M.2 29 q = R q
section POT
variable {σ : Sg} {M0 M : Mem}
theorem RCl.rc {L : Nat → Nat} {R : Nat → Int64} (h : RC σ M0) (r : RCl M0 M L R) : RC σ M := h.ag (r.1.mono (fun k hk => by unfold Sc; omega) (fun k hk => by unfold Sc; omega))
theorem h_Cli_join {L : Nat → Nat} {R : Nat → Int64} (r : RCl M0 M L R) (hL : ∀ q, q < 6 → L q < 6) {a b : Nat} (ha : a < 6) (hb : b < 6) (hne : L a ≠ L b) {x : Int64} {post : Mem → Prop} (K : ∀ M', RCl M0 M' (jn L a b) (fun p => if L p = L b then R p + x else R p) → post M') : q_Cli_join (nI (L a)) (nI (L b)) x M post := by
  have la := hL a ha
  have lb := hL b hb
  unfold q_Cli_join
  rw [nI_min (by omega) (by omega)]
  refine pk_loop (fun m i (M' : Mem) => q_Cli_join_L10 _ post m (nI (L a)) (nI (L b)) x (nI (min (L a) (L b))) (nI i) M') (fun i M' => Ag (fun k => k = 30) (fun k => k = 29) M0 M' ∧ ∀ q, q < 6 → M'.1 30 q = (if q < i then nI (jn L a b q) else nI (L q)) ∧ M'.2 29 q = (if q < i then (if L q = L b then R q + x else R q) else R q)) 6 0 M (Nat.zero_le _) ⟨r.1, fun q hq => by rw [if_neg (by omega), if_neg (by omega)]; exact r.2 q hq⟩ ?_ ?_
  · rintro m M1 ⟨g1, h1⟩
    unfold q_Cli_join_L10
    refine ⟨fun _ => K M1 ⟨g1, fun q hq => ?_⟩, fun c => absurd (show (6 : Int32) ≤ nI 6 by decide) c⟩
    have := h1 q hq
    rw [if_pos hq, if_pos hq] at this
    exact this
  · rintro m i M1 hi ⟨g1, h1⟩ ih
    have li := hL i hi
    have hi1 := h1 i hi
    rw [if_neg (by omega), if_neg (by omega)] at hi1
    unfold q_Cli_join_L10
    rw [clm (by omega), nI_1, hi1.1, nI_eq (by omega) (by omega), nI_eq (by omega) (by omega)]
    refine ⟨fun c => absurd (show nI 6 ≤ nI i from c) (nI_ge hi (by decide)), fun _ => ⟨vp_in_nI hi (by decide), fun c => ⟨vp_in_nI hi (by decide), fun c2 => ih M1 ⟨g1, fun q hq => ?_⟩, fun c2 => ⟨vp_in_nI hi (by decide), fun M2 e2 => ih M2 ⟨by rw [e2]; exact g1.trans (agI rfl), fun q hq => ?_⟩⟩⟩, fun c => ⟨vp_in_nI hi (by decide), vp_in_nI hi (by decide), fun M2 e2 => ⟨vp_in_nI hi (by decide), fun M3 e3 => ih M3 ⟨by rw [e3, e2]; exact (g1.trans (agJ rfl)).trans (agI rfl), fun q hq => ?_⟩⟩⟩⟩⟩
    · have hq1 := h1 q hq
      by_cases z : q = i
      · subst z
        rw [if_pos (by omega), if_pos (by omega), if_neg c, hi1.1, hi1.2]
        refine ⟨?_, rfl⟩
        unfold jn; rw [if_neg (by omega)]
      · by_cases z2 : q < i
        · rw [if_pos z2, if_pos z2] at hq1; rw [if_pos (by omega), if_pos (by omega)]; exact hq1
        · rw [if_neg z2, if_neg z2] at hq1; rw [if_neg (by omega), if_neg (by omega)]; exact hq1
    · have hq1 := h1 q hq
      have e1 : M2.1 30 q = if q = i then nI (min (L a) (L b)) else M1.1 30 q := by rw [e2, wI_1, if_pos rfl]
      have e3 : M2.2 29 q = M1.2 29 q := by rw [e2]; rfl
      rw [e1, e3]
      by_cases z : q = i
      · subst z
        rw [if_pos rfl, if_pos (show q < q + 1 by omega), if_pos (show q < q + 1 by omega), if_neg c, hi1.2]
        refine ⟨?_, rfl⟩
        unfold jn
        by_cases z3 : L q = max (L a) (L b)
        · rw [if_pos z3]
        · rw [if_neg z3, c2]; congr 1; omega
      · rw [if_neg z]
        by_cases z2 : q < i
        · rw [if_pos z2, if_pos z2] at hq1; rw [if_pos (by omega), if_pos (by omega)]; exact hq1
        · rw [if_neg z2, if_neg z2] at hq1; rw [if_neg (by omega), if_neg (by omega)]; exact hq1
    · have hq1 := h1 q hq
      have e1 : M3.1 30 q = if q = i then nI (min (L a) (L b)) else M1.1 30 q := by rw [e3, wI_1, if_pos rfl, e2]; rfl
      have e4 : M3.2 29 q = if q = i then M1.2 29 i + x else M1.2 29 q := by rw [e3, wI_2, e2, wJ_2, if_pos rfl]
      rw [e1, e4]
      by_cases z : q = i
      · subst z
        rw [if_pos rfl, if_pos rfl, if_pos (show q < q + 1 by omega), if_pos (show q < q + 1 by omega), if_pos c, hi1.2]
        refine ⟨?_, rfl⟩
        unfold jn
        by_cases z3 : L q = max (L a) (L b)
        · rw [if_pos z3]
        · rw [if_neg z3, c]; congr 1; omega
      · rw [if_neg z, if_neg z]
        by_cases z2 : q < i
        · rw [if_pos z2, if_pos z2] at hq1; rw [if_pos (by omega), if_pos (by omega)]; exact hq1
        · rw [if_neg z2, if_neg z2] at hq1; rw [if_neg (by omega), if_neg (by omega)]; exact hq1
theorem h_Cli_along (hW : WF σ) (h : RC σ M) {f : Nat} (hf : f < 12) {post : Int32 → Mem → Prop} (K1 : ∀ e M', fB σ f (nE σ) = some e → e < nE σ → RC σ M' → Ag C56 C56 M M' → post (nI e) M') (K0 : ∀ M', fB σ f (nE σ) = none → RCl M M' (prt (vB σ) (vE σ) (nE σ)) (pR σ f (nE σ)) → post (-1) M') : q_Cli_along f M post := by
  have hP := hW.1
  unfold q_Cli_along
  refine pk_loop (fun m i (M' : Mem) => q_Cli_along_L2 f _ post m (nI i) M') (fun i M' => Ag (fun k => k = 30) (fun k => k = 29) M M' ∧ ∀ q, q < i → M'.1 30 q = nI q ∧ M'.2 29 q = 0) 6 0 M (Nat.zero_le _) ⟨Ag.rf, fun q hq => by omega⟩ ?_ ?_
  · rintro m M1 ⟨g1, h1⟩
    unfold q_Cli_along_L2
    refine ⟨fun _ => ?_, fun c => absurd (show (6 : Int32) ≤ nI 6 by decide) c⟩
    refine pk_loop (fun m i (M' : Mem) => q_Cli_along_L30 f _ _ post m (nI i) M') (fun i M' => RCl M M' (prt (vB σ) (vE σ) i) (pR σ f i) ∧ ∀ l, l < i → ¬ pBad σ f l) (nE σ) 0 M1 (Nat.zero_le _) ⟨⟨g1, h1⟩, fun l hl => by omega⟩ ?_ ?_
    · rintro m2 M2 ⟨r2, h2⟩
      have rc2 := RCl.rc h r2
      unfold q_Cli_along_L30
      rw [rc2.1.2.1]
      exact ⟨fun _ => K0 M2 (fB_none h2) r2, fun c => absurd (nI_le (Nat.le_refl _) (by omega)) c⟩
    · rintro m2 i M2 hi ⟨r2, h2⟩ ih
      have rc2 := RCl.rc h r2
      have w := hW.2.1 i hi
      have hb := rc2.2.1 i hi
      have qa := r2.2 (vB σ i) (by omega)
      have qb := r2.2 (vE σ i) (by omega)
      have la := prt_le (vB σ) (vE σ) i (vB σ i)
      have lb := prt_le (vB σ) (vE σ) i (vE σ i)
      unfold q_Cli_along_L30
      rw [rc2.1.2.1, clm (by omega), hb.1, hb.2, clm (by omega), clm (by omega), qa.1, qa.2, qb.1, qb.2, (rc2.2.2.2.2.1 f hf).2 i (by omega), nI_1, nI_eq (by omega) (by omega)]
      refine ⟨fun c => absurd c (nI_ge hi (by omega)), fun _ => ⟨vp_in_nI (by omega) (by decide), vp_in_nI (by omega) (by decide), vp_in_nI (by omega) (by decide), vp_in_nI (by omega) (by decide), vp_in_nI (by omega) (by decide), fun v hv => ⟨vp_in_nI (by omega) (by decide), vp_in_nI (by omega) (by decide), fun c => ⟨fun c2 => ?_, fun c2 => ?_⟩, fun c => ⟨vp_in_nI (by omega) (by decide), vp_in_nI (by omega) (by decide), ?_⟩⟩⟩⟩
      · refine ih M2 ⟨?_, fun l hl => ?_⟩
        · have e1 : prt (vB σ) (vE σ) (i + 1) = prt (vB σ) (vE σ) i := jn_same c
          have e2 : pR σ f (i + 1) = pR σ f i := by funext p; simp only [pR]; rw [if_pos c]
          rw [e1, e2]; exact r2
        · rcases Nat.lt_or_ge l i with z | z
          · exact h2 l z
          · have : l = i := by omega
            subst this; exact fun q => q.2 (by unfold pO; rw [← hv]; exact c2)
      · refine K1 i M2 (fB_some h2 ⟨c, fun q => c2 (by rw [hv]; exact q)⟩ hi) hi rc2 (r2.1.mono (fun k hk => by unfold C56; omega) (fun k hk => by unfold C56; omega))
      · refine h_Cli_join r2 (fun q hq => by have := prt_le (vB σ) (vE σ) i q; omega) (by omega) (by omega) c (fun M3 r3 => ih M3 ⟨?_, fun l hl => ?_⟩)
        · have e2 : pR σ f (i + 1) = fun p => if prt (vB σ) (vE σ) i p = prt (vB σ) (vE σ) i (vE σ i) then pR σ f i p + v else pR σ f i p := by
            funext p; simp only [pR]; rw [if_neg c, hv]
          rw [e2]; exact r3
        · rcases Nat.lt_or_ge l i with z | z
          · exact h2 l z
          · have : l = i := by omega
            subst this; exact fun q => c q.1
  · rintro m i M1 hi ⟨g1, h1⟩ ih
    unfold q_Cli_along_L2
    rw [clm (by omega), nI_1]
    refine ⟨fun c => absurd (show nI 6 ≤ nI i from c) (nI_ge hi (by decide)), fun _ => ⟨vp_in_nI hi (by decide), fun M2 e2 => ⟨vp_in_nI hi (by decide), fun M3 e3 => ih M3 ⟨by rw [e3, e2]; exact (g1.trans (agJ rfl)).trans (agI rfl), fun q hq => ?_⟩⟩⟩⟩
    have e1 : M3.1 30 q = if q = i then nI i else M1.1 30 q := by rw [e3, wI_1, if_pos rfl, e2]; rfl
    have e4 : M3.2 29 q = if q = i then 0 else M1.2 29 q := by rw [e3, wI_2, e2, wJ_2, if_pos rfl]
    rw [e1, e4]
    by_cases z : q = i
    · rw [if_pos z, if_pos z, z]; exact ⟨rfl, rfl⟩
    · rw [if_neg z, if_neg z]; exact h1 q (by omega)
theorem put_1 {g d : Nat} {mk : Nat → Int64} (hd : d ≤ 2) : (put σ g d mk).1 = -5 ∨ (put σ g d mk).1 = nI d := by
  by_cases z : ∀ k, k < sz σ d → w64 (mk k) 1000000
  · right; unfold put; rw [cif_pos z]
  · left; unfold put; rw [cif_neg z]
theorem h_Nf_potential (hW : WF σ) (h : RC σ M) {f g : Int32} {post : Int32 → Mem → Prop} (K : ∀ M', RC (op_potential σ f g).2 M' → Ag C56 C56 M M' → post (op_potential σ f g).1 M') : q_Nf_potential f g M post := by
  have hP := hW.1
  unfold q_Nf_potential
  have bad : ¬ (vp_in f 12 ∧ vp_in g 12) → post (-2) M := fun q => by
    have e : op_potential σ f g = (-2, σ) := cif_neg q _ _
    rw [e] at K; exact K M h Ag.rf
  refine h_formAt (fun i hi ei => h_formAt (fun j hj ej => ⟨(fun c => nomatch c), fun i5 c => ?_⟩) (fun cg => ⟨(fun c => nomatch c), fun i5 c => ?_⟩)) (fun cf => h_formAt (fun j hj ej => ⟨fun _ => bad (fun q => cf q.1), fun i5 c => nomatch c⟩) (fun cg => ⟨fun _ => bad (fun q => cf q.1), fun i5 c => nomatch c⟩))
  · cases c
    refine ⟨hi, (fun c => nomatch c), fun i6 c => ?_⟩
    cases c
    subst ei ej
    have hf := h.2.2.2.2.1 i hi
    have hd := (hW.2.2.2.2.2.2.1 i hi).1
    have good : vp_in (nI i) 12 ∧ vp_in (nI j) 12 := ⟨vp_in_nI hi (by decide), vp_in_nI hj (by decide)⟩
    refine ⟨hj, ?_⟩
    rw [hf.1]
    refine ⟨fun c => ?_, fun c => ?_⟩
    · have hd1 : fD σ i = 1 := (nI_eq (by omega) (by decide)).mp (show nI (fD σ i) = nI 1 from c)
      have e : op_potential σ (nI i) (nI j) = cif (fB σ i (nE σ) = none) (cif ((put σ j 0 (pot σ i)).1 = -5) (-5) (-1), (put σ j 0 (pot σ i)).2) (nI ((fB σ i (nE σ)).getD 0), σ) := by
        unfold op_potential; rw [cif_pos good, tnI (by omega), tnI (by omega), cif_pos hd1]
      rw [e] at K
      refine h_Cli_along hW h hi (fun e M1 h1 he rc1 g1 => ⟨fun c => absurd c (m1_ne (by omega)), fun _ => ?_⟩) (fun M1 h1 r1 => ⟨fun _ => ?_, fun c => absurd rfl c⟩)
      · rw [cif_neg (by rw [h1]; simp), h1] at K
        exact K M1 rc1 g1
      · rw [cif_pos h1] at K
        have rc1 := RCl.rc h r1
        refine pk_loop (fun m p (M' : Mem) => q_Nf_potential_L62 j _ post m (nI p) M') (fun p M' => RD M1 M' ∧ ∀ q, q < p → M'.2 31 q = pot σ i q) (nP σ) 0 M1 (Nat.zero_le _) ⟨Ag.rf, fun q hq => by omega⟩ ?_ ?_
        · rintro m M2 ⟨r2, h2⟩
          unfold q_Nf_potential_L62
          rw [(RD.rc rc1 r2).1.1]
          refine ⟨fun _ => ?_, fun c => absurd (nI_le (Nat.le_refl _) (by omega)) c⟩
          refine h_giveMade (d := 0) hW rc1 r2 hj (by decide) h2 (fun M3 rc3 g3 => ?_)
          have g4 : Ag C56 C56 M M3 := (r1.1.mono (fun k hk => by unfold C56; omega) (fun k hk => by unfold C56; omega)).trans g3
          rcases put_1 (σ := σ) (g := j) (d := 0) (mk := pot σ i) (by decide) with z | z
          · rw [cif_pos z] at K
            rw [z]
            exact ⟨fun c => absurd rfl c, fun _ => K M3 rc3 g4⟩
          · rw [cif_neg (by rw [z]; decide)] at K
            rw [z]
            exact ⟨fun _ => K M3 rc3 g4, fun c => absurd c (by decide)⟩
        · rintro m p M2 hp ⟨r2, h2⟩ ih
          have rc2 := RD.rc rc1 r2
          have lp := prt_le (vB σ) (vE σ) (nE σ) p
          have k1 := r1.2 p (by omega)
          have k2 := r1.2 (prt (vB σ) (vE σ) (nE σ) p) (by omega)
          unfold q_Nf_potential_L62 q_Cli_aboveLeast
          rw [rc2.1.1, clm (by omega), nI_1, r2.1 30 (fun q => q), r2.2 29 (by omega), k1.1, clm (by omega), k1.2, k2.2]
          refine ⟨fun c => absurd c (nI_ge hp (by omega)), fun _ => ⟨vp_in_nI (by omega) (by decide), vp_in_nI (by omega) (by decide), vp_in_nI (by omega) (by decide), vp_in_nI (by omega) (by decide), fun M3 e3 => ih M3 ⟨by rw [e3]; exact r2.trans (agJ rfl), fun q hq => ?_⟩⟩⟩
          rw [e3, wJ_2, if_pos rfl]
          by_cases z : q = p
          · rw [if_pos z, z]; rfl
          · rw [if_neg z]; exact h2 q (by omega)
    · have hd1 : ¬ fD σ i = 1 := fun q => c (by rw [q]; rfl)
      have e : op_potential σ (nI i) (nI j) = (-3, σ) := by
        unfold op_potential; rw [cif_pos good, tnI (by omega), tnI (by omega), cif_neg hd1]
      rw [e] at K; exact K M h Ag.rf
  · cases c
    exact ⟨hi, fun _ => bad (fun q => cg q.2), fun i6 c => nomatch c⟩
/-- the reference's parts and heights -/
def RPm (σ : Sg) (M0 M : Mem) (L : Nat → Nat) (R : Nat → Int64) : Prop := Ag (fun k => k = 72) (fun k => k = 73) M0 M ∧ ∀ q, q < nP σ → M.1 72 q = nI (L q) ∧ M.2 73 q = R q
theorem RPm.rm {L : Nat → Nat} {R : Nat → Int64} (h : RM σ M0) (r : RPm σ M0 M L R) : RM σ M := h.ag (r.1.mono (fun k hk => by unfold Sm; omega) (fun k hk => by unfold Tm; omega))
theorem h_Mo_potential (hW : WF σ) (h : RM σ M) {f g : Int32} {post : Int32 → Mem → Prop} (K : ∀ M', RM (op_potential σ f g).2 M' → Ag D56 D56 M M' → post (op_potential σ f g).1 M') : q_Mo_potential f g M post := by
  have hP := hW.1
  unfold q_Mo_potential
  have bad : ¬ (vp_in f 12 ∧ vp_in g 12) → post (-2) M := fun q => by
    have e : op_potential σ f g = (-2, σ) := cif_neg q _ _
    rw [e] at K; exact K M h Ag.rf
  refine h_isForm (fun i hi ei => ⟨fun c => absurd c (by decide), fun _ => ?_⟩) (fun c => ⟨fun _ => bad (fun q => c q.1), fun c => absurd rfl c⟩)
  refine h_isForm (fun j hj ej => ⟨fun _ => ?_, fun c => absurd c (by decide)⟩) (fun c => ⟨fun c => absurd rfl c, fun _ => bad (fun q => c q.2)⟩)
  subst ei ej
  have hf := h.2.2.2.2.1 i hi
  have hd := (hW.2.2.2.2.2.2.1 i hi).1
  have good : vp_in (nI i) 12 ∧ vp_in (nI j) 12 := ⟨vp_in_nI hi (by decide), vp_in_nI hj (by decide)⟩
  rw [clm (by omega), hf.1]
  refine ⟨good.1, fun c => ?_, fun c => ?_⟩
  · have hd1 : fD σ i = 1 := (nI_eq (by omega) (by decide)).mp (show nI (fD σ i) = nI 1 from c)
    have e : op_potential σ (nI i) (nI j) = cif (fB σ i (nE σ) = none) (cif ((put σ j 0 (pot σ i)).1 = -5) (-5) (-1), (put σ j 0 (pot σ i)).2) (nI ((fB σ i (nE σ)).getD 0), σ) := by
      unfold op_potential; rw [cif_pos good, tnI (by omega), tnI (by omega), cif_pos hd1]
    rw [e] at K
    refine pk_loop (fun m p (M' : Mem) => q_Mo_potential_L32 _ post m (nI i) (nI j) (nI p) M') (fun p M' => Ag (fun k => k = 72) (fun k => k = 73) M M' ∧ ∀ q, q < p → M'.1 72 q = nI q ∧ M'.2 73 q = 0) (nP σ) 0 M (Nat.zero_le _) ⟨Ag.rf, fun q hq => by omega⟩ ?_ ?_
    · rintro m M1 ⟨g1, h1⟩
      unfold q_Mo_potential_L32
      rw [g1.1 56 (by omega), h.1.1]
      refine ⟨fun _ => ?_, fun c => absurd (nI_le (Nat.le_refl _) (by omega)) c⟩
      refine pk_loop (fun m e (M' : Mem) => q_Mo_potential_L62 _ _ post m (nI i) (nI j) (nI e) M') (fun e M' => RPm σ M M' (prt (vB σ) (vE σ) e) (pR σ i e) ∧ ∀ l, l < e → ¬ pBad σ i l) (nE σ) 0 M1 (Nat.zero_le _) ⟨⟨g1, h1⟩, fun l hl => by omega⟩ ?_ ?_
      · rintro m2 M2 ⟨r2, h2⟩
        have rc2 := RPm.rm h r2
        unfold q_Mo_potential_L62
        rw [rc2.1.2.1]
        refine ⟨fun _ => ?_, fun c => absurd (nI_le (Nat.le_refl _) (by omega)) c⟩
        rw [cif_pos (fB_none h2)] at K
        refine pk_loop (fun m p (M' : Mem) => q_Mo_potential_L219 _ post m (nI j) (nI p) M') (fun p M' => RDm M2 M' ∧ ∀ q, q < p → M'.2 68 q = pot σ i q) (nP σ) 0 M2 (Nat.zero_le _) ⟨Ag.rf, fun q hq => by omega⟩ ?_ ?_
        · rintro m3 M3 ⟨r3, h3⟩
          unfold q_Mo_potential_L219
          rw [(RDm.rm rc2 r3).1.1]
          refine ⟨fun _ => ?_, fun c => absurd (nI_le (Nat.le_refl _) (by omega)) c⟩
          refine h_becomes (d := 0) hW rc2 r3 hj (by decide) h3 (fun M4 rc4 g4 => ?_)
          have g5 : Ag D56 D56 M M4 := (r2.1.mono (fun k hk => by unfold D56; omega) (fun k hk => by unfold D56; omega)).trans g4
          rcases put_1 (σ := σ) (g := j) (d := 0) (mk := pot σ i) (by decide) with z | z
          · rw [cif_pos z] at K
            rw [z]
            exact ⟨fun c => absurd rfl c, fun _ => K M4 rc4 g5⟩
          · rw [cif_neg (by rw [z]; decide)] at K
            rw [z]
            exact ⟨fun _ => K M4 rc4 g5, fun c => absurd c (by decide)⟩
        · rintro m3 p M3 hp ⟨r3, h3⟩ ih
          have rc3 := RDm.rm rc2 r3
          have lp := prt_le (vB σ) (vE σ) (nE σ) p
          have k1 := r2.2 p (by omega)
          have k2 := r2.2 (prt (vB σ) (vE σ) (nE σ) p) (by omega)
          unfold q_Mo_potential_L219
          rw [rc3.1.1, clm (by omega), nI_1, r3.e, r3.2 73 (by omega), k1.1, clm (by omega), k1.2, k2.2]
          refine ⟨fun c => absurd c (nI_ge hp (by omega)), fun _ => ⟨vp_in_nI (by omega) (by decide), vp_in_nI (by omega) (by decide), vp_in_nI (by omega) (by decide), vp_in_nI (by omega) (by decide), fun M4 e4 => ih M4 ⟨by rw [e4]; exact r3.trans (agJ rfl), fun q hq => ?_⟩⟩⟩
          rw [e4, wJ_2, if_pos rfl]
          by_cases z : q = p
          · rw [if_pos z, z]; rfl
          · rw [if_neg z]; exact h3 q (by omega)
      · rintro m2 e M2 he ⟨r2, h2⟩ ih
        have rc2 := RPm.rm h r2
        have w := hW.2.1 e he
        have hb := rc2.2.1 e he
        have qa := r2.2 (vB σ e) (by omega)
        have qb := r2.2 (vE σ e) (by omega)
        have la := prt_le (vB σ) (vE σ) e (vB σ e)
        have lb := prt_le (vB σ) (vE σ) e (vE σ e)
        unfold q_Mo_potential_L62
        rw [rc2.1.2.1, clm (by omega), hb.1, clm (by omega)]
        refine ⟨fun c => absurd c (nI_ge he (by omega)), fun _ => ⟨vp_in_nI (by omega) (by decide), vp_in_nI (by omega) (by decide), h_Mo_at rc2 rfl hi (by omega) ?_⟩⟩
        rw [hb.1, hb.2, clm (show vB σ e < 200 by omega), clm (show vE σ e < 200 by omega), qa.1, qa.2, qb.1, qb.2, nI_eq (by omega) (by omega), nI_1]
        refine ⟨vp_in_nI (by omega) (by decide), vp_in_nI (by omega) (by decide), fun v hv => ⟨vp_in_nI (by omega) (by decide), vp_in_nI (by omega) (by decide), vp_in_nI (by omega) (by decide), vp_in_nI (by omega) (by decide), fun c => ⟨vp_in_nI (by omega) (by decide), vp_in_nI (by omega) (by decide), ?_⟩, fun c => ⟨fun c2 => ?_, fun c2 => ?_⟩⟩⟩
        · refine pk_loop (fun m p (M' : Mem) => q_Mo_potential_L152 _ post m (nI i) (nI j) (nI e) v (nI (prt (vB σ) (vE σ) e (vE σ e))) (nI p) M') (fun p M' => Ag (fun k => k = 72) (fun k => k = 73) M M' ∧ (∀ q, q < nP σ → M'.1 72 q = nI (prt (vB σ) (vE σ) e q) ∧ M'.2 73 q = if q < p then pR σ i (e + 1) q else pR σ i e q)) (nP σ) 0 M2 (Nat.zero_le _) ⟨r2.1, fun q hq => by rw [if_neg (by omega)]; exact r2.2 q hq⟩ ?_ ?_
          · rintro m3 M3 ⟨g3, h3⟩
            have rc3 : RM σ M3 := h.ag (g3.mono (fun k hk => by unfold Sm; omega) (fun k hk => by unfold Tm; omega))
            have hb3 := rc3.2.1 e he
            unfold q_Mo_potential_L152
            rw [rc3.1.1]
            refine ⟨fun _ => ⟨vp_in_nI (by omega) (by decide), vp_in_nI (by omega) (by decide), ?_⟩, fun c => absurd (nI_le (Nat.le_refl _) (by omega)) c⟩
            rw [clm (by omega), hb3.1, hb3.2]
            refine h_joins hW rc3 (L := prt (vB σ) (vE σ) e) (fun q hq => by have := prt_le (vB σ) (vE σ) e q; omega) ⟨Ag.rf, fun q hq => (h3 q hq).1⟩ (by omega) (by omega) (fun M4 r4 => ?_)
            rw [nI_1]
            refine ih M4 ⟨⟨g3.trans (r4.1.mono (fun k hk => hk) (fun k hk => hk.elim)), fun q hq => ⟨r4.2 q hq, ?_⟩⟩, fun l hl => ?_⟩
            · rw [r4.1.2 73 (fun q => q)]
              have := (h3 q hq).2
              rw [if_pos hq] at this
              exact this
            · rcases Nat.lt_or_ge l e with z | z
              · exact h2 l z
              · have : l = e := by omega
                subst this; exact fun q => c q.1
          · rintro m3 p M3 hp ⟨g3, h3⟩ ih3
            have rc3 : RM σ M3 := h.ag (g3.mono (fun k hk => by unfold Sm; omega) (fun k hk => by unfold Tm; omega))
            have lp := prt_le (vB σ) (vE σ) e p
            have hp3 := h3 p hp
            rw [if_neg (by omega)] at hp3
            have fin : ∀ x : Int64, x = pR σ i (e + 1) p → ∀ M9, M9 = wJ M3 73 p x → Ag (fun k => k = 72) (fun k => k = 73) M M9 ∧ (∀ q, q < nP σ → M9.1 72 q = nI (prt (vB σ) (vE σ) e q) ∧ M9.2 73 q = if q < p + 1 then pR σ i (e + 1) q else pR σ i e q) := by
              rintro x rfl M9 rfl
              refine ⟨g3.trans (agJ rfl), fun q hq => ?_⟩
              have hq3 := h3 q hq
              refine ⟨hq3.1, ?_⟩
              rw [wJ_2, if_pos rfl, hq3.2]
              by_cases z : q = p
              · rw [if_pos z, if_pos (by omega), z]
              · rw [if_neg z]
                by_cases z2 : q < p
                · rw [if_pos z2, if_pos (by omega)]
                · rw [if_neg z2, if_neg (by omega)]
            unfold q_Mo_potential_L152
            rw [rc3.1.1, clm (show p < 200 by omega), hp3.1, hp3.2, nI_1 (a := p), nI_eq (show prt (vB σ) (vE σ) e p < 2 ^ 31 by omega) (by omega)]
            refine ⟨fun c => absurd c (nI_ge hp (by omega)), fun _ => ⟨vp_in_nI (by omega) (by decide), vp_in_nI (by omega) (by decide), fun c3 => ⟨vp_in_nI (by omega) (by decide), fun M9 e9 => ih3 M9 (fin _ ?_ M9 e9)⟩, fun c3 => ⟨vp_in_nI (by omega) (by decide), fun M9 e9 => ih3 M9 (fin _ ?_ M9 e9)⟩⟩⟩
            · simp only [pR]; rw [if_neg c, if_neg c3]; grind
            · simp only [pR]; rw [if_neg c, if_pos c3, hv]
        · refine ih M2 ⟨?_, fun l hl => ?_⟩
          · have e1 : prt (vB σ) (vE σ) (e + 1) = prt (vB σ) (vE σ) e := jn_same c
            have e2 : pR σ i (e + 1) = pR σ i e := by funext p; simp only [pR]; rw [if_pos c]
            rw [e1, e2]; exact r2
          · rcases Nat.lt_or_ge l e with z | z
            · exact h2 l z
            · have : l = e := by omega
              subst this; exact fun q => q.2 (by unfold pO; rw [← hv]; exact c2)
        · rw [cif_neg (by rw [fB_some h2 ⟨c, fun q => c2 (by rw [hv]; exact q)⟩ he]; simp), fB_some h2 ⟨c, fun q => c2 (by rw [hv]; exact q)⟩ he] at K
          exact K M2 rc2 (r2.1.mono (fun k hk => by unfold D56; omega) (fun k hk => by unfold D56; omega))
    · rintro m p M1 hp ⟨g1, h1⟩ ih
      unfold q_Mo_potential_L32
      rw [g1.1 56 (by omega), h.1.1, clm (by omega), nI_1]
      refine ⟨fun c => absurd c (nI_ge hp (by omega)), fun _ => ⟨vp_in_nI (by omega) (by decide), fun M2 e2 => ⟨vp_in_nI (by omega) (by decide), fun M3 e3 => ih M3 ⟨by rw [e3, e2]; exact (g1.trans (agI rfl)).trans (agJ rfl), fun q hq => ?_⟩⟩⟩⟩
      have e1 : M3.1 72 q = if q = p then nI p else M1.1 72 q := by rw [e3, wJ_1, e2, wI_1, if_pos rfl]
      have e4 : M3.2 73 q = if q = p then 0 else M1.2 73 q := by rw [e3, wJ_2, if_pos rfl, e2]; rfl
      rw [e1, e4]
      by_cases z : q = p
      · rw [if_pos z, if_pos z, z]; exact ⟨rfl, rfl⟩
      · rw [if_neg z, if_neg z]; exact h1 q (by omega)
  · have hd1 : ¬ fD σ i = 1 := fun q => c (by rw [q]; rfl)
    have e : op_potential σ (nI i) (nI j) = (-3, σ) := by
      unfold op_potential; rw [cif_pos good, tnI (by omega), tnI (by omega), cif_neg hd1]
    rw [e] at K; exact K M h Ag.rf
end POT
