/-! the reference's forms: cup, mix, about -/
section MFORMS3
variable {σ : Sg} {M0 M : Mem}
theorem h_cupAt (hW : WF σ) (h : RM σ M) {f g k : Nat} (hf : f < 12) (hg : g < 12) (hd : fD σ f + fD σ g ≤ 2) (hk : k < sz σ (fD σ f + fD σ g)) {post : Int64 → Mem → Prop} (hp : post (cpF σ f g k) M) : q_Mo_cupAt (nI f) (nI g) (nI k) M post := by
  have hP := hW.1
  have hz := hW.sz (fD σ f + fD σ g)
  have h1 := (h.2.2.2.2.1 f hf).1
  have h2 := (h.2.2.2.2.1 g hg).1
  unfold q_Mo_cupAt
  rw [clm (by omega), clm (by omega), clm (by omega), h1, h2, nI_add]
  refine ⟨vp_in_nI hf (by decide), vp_in_nI hg (by decide), fun c0 => ⟨fun c1 => ?_, fun c1 => ?_⟩, fun c0 => ?_⟩
  · have d2 : fD σ f + fD σ g = 2 := by
      rcases Nat.lt_or_ge (fD σ f + fD σ g) 1 with z | z
      · exact absurd (show nI (fD σ f + fD σ g) = 0 by rw [show fD σ f + fD σ g = 0 by omega]; rfl) c0
      · rcases Nat.lt_or_ge (fD σ f + fD σ g) 2 with z2 | z2
        · exact absurd (show nI (fD σ f + fD σ g) = 1 by rw [show fD σ f + fD σ g = 1 by omega]; rfl) c1
        · omega
    rw [d2] at hk
    have hk : k < nF σ := hk
    have hc := h.2.2.1 k hk
    have w := hW.2.2.2.1 k hk
    have w1 := hW.2.1 _ w.1
    have w2 := hW.2.1 _ w.2.1
    unfold cpF frt bck at hp
    rw [d2] at hp
    rw [hc.1, hc.2.1]
    refine ⟨fun e1 => ⟨fun e0 => ?_, fun e0 => ?_⟩, fun e1 => ?_⟩
    · have x : fD σ f = 2 := by
        rcases Nat.lt_or_ge (fD σ f) 1 with z | z
        · exact absurd (show nI (fD σ f) = 0 by rw [show fD σ f = 0 by omega]; rfl) e0
        · rcases Nat.lt_or_ge (fD σ f) 2 with z2 | z2
          · exact absurd (show nI (fD σ f) = 1 by rw [show fD σ f = 1 by omega]; rfl) e1
          · omega
      have y : fD σ g = 0 := by omega
      rw [x, y] at hp
      refine h_Mo_at h rfl hf (by omega) ⟨vp_in_nI (by omega) (by decide), ?_⟩
      rw [hc.2.2]
      exact h_Mo_at h rfl hg (by omega) hp
    · have x : fD σ f = 0 := (nI_eq (by omega) (by decide)).mp (show nI (fD σ f) = nI 0 from e0)
      have y : fD σ g = 2 := by omega
      rw [x, y] at hp
      exact ⟨vp_in_nI (by omega) (by decide), h_Mo_at h rfl hf (by omega) (h_Mo_at h rfl hg (by omega) hp)⟩
    · have x : fD σ f = 1 := (nI_eq (by omega) (by decide)).mp (show nI (fD σ f) = nI 1 from e1)
      have y : fD σ g = 1 := by omega
      rw [x, y] at hp
      refine ⟨vp_in_nI (by omega) (by decide), vp_in_nI (by omega) (by decide), h_onEdge hW h hf w.1 rfl rfl ⟨vp_in_nI (by omega) (by decide), vp_in_nI (by omega) (by decide), ?_⟩⟩
      rw [hc.2.1, hc.2.2]
      exact h_onEdge hW h hg w.2.1 w.2.2.2.1 rfl hp
  · have d1 : fD σ f + fD σ g = 1 := (nI_eq (by omega) (by decide)).mp (show nI (fD σ f + fD σ g) = nI 1 from c1)
    rw [d1] at hk
    have hk : k < nE σ := hk
    have hc := h.2.1 k hk
    have w := hW.2.1 k hk
    unfold cpF frt bck at hp
    rw [d1] at hp
    rw [hc.1]
    refine ⟨fun e0 => ?_, fun e0 => ?_⟩
    · have x : fD σ f = 1 := by
        rcases Nat.lt_or_ge (fD σ f) 1 with z | z
        · exact absurd (show nI (fD σ f) = 0 by rw [show fD σ f = 0 by omega]; rfl) e0
        · omega
      have y : fD σ g = 0 := by omega
      rw [x, y] at hp
      refine h_Mo_at h rfl hf (by omega) ⟨vp_in_nI (by omega) (by decide), ?_⟩
      rw [hc.2]
      exact h_Mo_at h rfl hg (by omega) hp
    · have x : fD σ f = 0 := (nI_eq (by omega) (by decide)).mp (show nI (fD σ f) = nI 0 from e0)
      have y : fD σ g = 1 := by omega
      rw [x, y] at hp
      exact ⟨vp_in_nI (by omega) (by decide), h_Mo_at h rfl hf (by omega) (h_Mo_at h rfl hg (by omega) hp)⟩
  · have d0 : fD σ f + fD σ g = 0 := (nI_eq (by omega) (by decide)).mp (show nI (fD σ f + fD σ g) = nI 0 from c0)
    have x : fD σ f = 0 := by omega
    have y : fD σ g = 0 := by omega
    unfold cpF frt bck at hp
    rw [x, y] at hp
    exact h_Mo_at h rfl hf (by omega) (h_Mo_at h rfl hg (by omega) hp)
theorem h_Mo_cup (hW : WF σ) (h : RM σ M) {f g t : Int32} {post : Int32 → Mem → Prop} (K : ∀ M', RM (op_cup σ f g t).2 M' → Ag D56 D56 M M' → post (op_cup σ f g t).1 M') : q_Mo_cup f g t M post := by
  unfold q_Mo_cup
  have bad : ¬ (vp_in f 12 ∧ vp_in g 12 ∧ vp_in t 12) → post (-2) M := fun q => by
    have e : op_cup σ f g t = (-2, σ) := cif_neg q _ _
    rw [e] at K; exact K M h Ag.rf
  refine h_isForm (fun i hi ei => ⟨fun c => absurd c (by decide), fun _ => ?_⟩) (fun c => ⟨fun _ => bad (fun q => c q.1), fun c => absurd rfl c⟩)
  refine h_isForm (fun j hj ej => ⟨fun c => absurd c (by decide), fun _ => ?_⟩) (fun c => ⟨fun _ => bad (fun q => c q.2.1), fun c => absurd rfl c⟩)
  refine h_isForm (fun l hl el => ⟨fun _ => ?_, fun c => absurd c (by decide)⟩) (fun c => ⟨fun c => absurd rfl c, fun _ => bad (fun q => c q.2.2)⟩)
  subst ei ej el
  have hf := h.2.2.2.2.1 i hi
  have hg := h.2.2.2.2.1 j hj
  have hd := (hW.2.2.2.2.2.2.1 i hi).1
  have hd2 := (hW.2.2.2.2.2.2.1 j hj).1
  rw [clm (by omega), clm (by omega), hf.1, hg.1, nI_add]
  have good : (vp_in (nI i) 12 ∧ vp_in (nI j) 12 ∧ vp_in (nI l) 12) := ⟨vp_in_nI hi (by decide), vp_in_nI hj (by decide), vp_in_nI hl (by decide)⟩
  refine ⟨good.1, good.2.1, fun c => ?_, fun c => ?_⟩
  · have hdd : fD σ i + fD σ j ≤ 2 := (nI_leI (by omega) (by decide)).mp (show nI (fD σ i + fD σ j) ≤ nI 2 from c)
    have e : op_cup σ (nI i) (nI j) (nI l) = put σ l (fD σ i + fD σ j) (cpF σ i j) := by
      unfold op_cup; rw [cif_pos good, tnI (by omega), tnI (by omega), tnI (by omega), cif_pos hdd]
    rw [e] at K
    have hz := hW.sz (fD σ i + fD σ j)
    refine pk_loop (fun m k (M' : Mem) => q_Mo_cup_L51 _ post m (nI i) (nI j) (nI l) (nI (fD σ i + fD σ j)) (nI k) M') (fun k M' => RDm M M' ∧ ∀ q, q < k → M'.2 68 q = cpF σ i j q) (sz σ (fD σ i + fD σ j)) 0 M (Nat.zero_le _) ⟨Ag.rf, fun q hq => by omega⟩ ?_ ?_
    · rintro m M1 ⟨r1, h1⟩
      unfold q_Mo_cup_L51
      exact h_Mo_size (RDm.rm h r1) rfl hdd ⟨fun _ => h_becomes hW h r1 hl hdd h1 K, fun c => absurd (nI_le (Nat.le_refl _) (by omega)) c⟩
    · rintro m k M1 hk ⟨r1, h1⟩ ih
      have rc1 := RDm.rm h r1
      unfold q_Mo_cup_L51
      refine h_Mo_size rc1 rfl hdd ⟨fun c => absurd c (nI_ge hk (by omega)), fun _ => h_cupAt hW rc1 hi hj hdd hk ⟨vp_in_nI (by omega) (by decide), fun M2 e2 => ?_⟩⟩
      rw [clm (by omega)] at e2
      rw [nI_1]
      subst e2
      refine ih _ ⟨r1.trans (agJ rfl), fun q hq => ?_⟩
      rw [wJ_2, if_pos rfl]
      by_cases z : q = k
      · rw [if_pos z, z]
      · rw [if_neg z]; exact h1 q (by omega)
  · have hdd : ¬ fD σ i + fD σ j ≤ 2 := fun q => c (show nI (fD σ i + fD σ j) ≤ nI 2 from nI_le q (by decide))
    have e : op_cup σ (nI i) (nI j) (nI l) = (-3, σ) := by
      unfold op_cup; rw [cif_pos good, tnI (by omega), tnI (by omega), tnI (by omega), cif_neg hdd]
    rw [e] at K; exact K M h Ag.rf
theorem h_Mo_mix (hW : WF σ) (h : RM σ M) {f p g q t : Int32} {post : Int32 → Mem → Prop} (K : ∀ M', RM (op_mix σ f p g q t).2 M' → Ag D56 D56 M M' → post (op_mix σ f p g q t).1 M') : q_Mo_mix f p g q t M post := by
  unfold q_Mo_mix
  have bad : ¬ (vp_in f 12 ∧ vp_in g 12 ∧ vp_in t 12 ∧ i32le p 1000 ∧ i32le q 1000) → post (-2) M := fun z => by
    have e : op_mix σ f p g q t = (-2, σ) := cif_neg z _ _
    rw [e] at K; exact K M h Ag.rf
  refine h_isForm (fun i hi ei => ⟨fun c => absurd c (by decide), fun _ => ?_⟩) (fun c => ⟨fun _ => bad (fun q => c q.1), fun c => absurd rfl c⟩)
  refine h_isForm (fun j hj ej => ⟨fun c => absurd c (by decide), fun _ => ?_⟩) (fun c => ⟨fun _ => bad (fun q => c q.2.1), fun c => absurd rfl c⟩)
  refine h_isForm (fun l hl el => ⟨fun c => absurd c (by decide), fun _ => ?_⟩) (fun c => ⟨fun _ => bad (fun q => c q.2.2.1), fun c => absurd rfl c⟩)
  refine h_in (-1000) 1000 rfl rfl (fun c1 c2 => ⟨fun c => absurd c (by decide), fun _ => ?_⟩) (fun c => ⟨fun _ => bad (fun q => c (by rw [toI64]; exact q.2.2.2.1)), fun c => absurd rfl c⟩)
  refine h_in (-1000) 1000 rfl rfl (fun c3 c4 => ⟨fun _ => ?_, fun c => absurd c (by decide)⟩) (fun c => ⟨fun c => absurd rfl c, fun _ => bad (fun q => c (by rw [toI64]; exact q.2.2.2.2))⟩)
  rw [toI64] at c1 c2 c3 c4
  subst ei ej el
  have hf := h.2.2.2.2.1 i hi
  have hg := h.2.2.2.2.1 j hj
  have hd := (hW.2.2.2.2.2.2.1 i hi).1
  have hd2 := (hW.2.2.2.2.2.2.1 j hj).1
  rw [clm (by omega), clm (by omega), hf.1, hg.1, nI_eq (by omega) (by omega)]
  have good : (vp_in (nI i) 12 ∧ vp_in (nI j) 12 ∧ vp_in (nI l) 12 ∧ i32le p 1000 ∧ i32le q 1000) := ⟨vp_in_nI hi (by decide), vp_in_nI hj (by decide), vp_in_nI hl (by decide), ⟨c1, c2⟩, ⟨c3, c4⟩⟩
  refine ⟨good.1, good.2.1, fun c => ?_, fun c => ?_⟩
  · have e : op_mix σ (nI i) p (nI j) q (nI l) = put σ l (fD σ i) (mxF σ i j p q) := by
      unfold op_mix; rw [cif_pos good, tnI (by omega), tnI (by omega), tnI (by omega), cif_pos c]
    rw [e] at K
    have hz := hW.sz (fD σ i)
    refine pk_loop (fun m k (M' : Mem) => q_Mo_mix_L75 _ post m (nI i) p (nI j) q (nI l) (nI k) M') (fun k M' => RDm M M' ∧ ∀ z, z < k → M'.2 68 z = mxF σ i j p q z) 12 0 M (Nat.zero_le _) ⟨Ag.rf, fun q hq => by omega⟩ ?_ ?_
    · rintro m M1 ⟨r1, h1⟩
      have rc1 := RDm.rm h r1
      unfold q_Mo_mix_L75
      refine ⟨fun _ => ⟨good.1, ?_⟩, fun c => absurd (show (12 : Int32) ≤ nI 12 by decide) c⟩
      rw [clm (by omega), (rc1.2.2.2.2.1 i hi).1]
      exact h_becomes hW h r1 hl hd (fun k hk => h1 k (by omega)) K
    · rintro m k M1 hk ⟨r1, h1⟩ ih
      have rc1 := RDm.rm h r1
      unfold q_Mo_mix_L75
      refine ⟨fun c => absurd (show nI 12 ≤ nI k from c) (nI_ge hk (by decide)), fun _ => h_Mo_at rc1 rfl hi hk (h_Mo_at rc1 rfl hj hk ⟨vp_in_nI hk (by decide), fun M2 e2 => ?_⟩)⟩
      rw [clm (by omega)] at e2
      rw [nI_1]
      subst e2
      refine ih _ ⟨r1.trans (agJ rfl), fun z hz => ?_⟩
      rw [wJ_2, if_pos rfl]
      by_cases y : z = k
      · rw [if_pos y, y]; rfl
      · rw [if_neg y]; exact h1 z (by omega)
  · have e : op_mix σ (nI i) p (nI j) q (nI l) = (-3, σ) := by
      unfold op_mix; rw [cif_pos good, tnI (by omega), tnI (by omega), tnI (by omega), cif_neg c]
    rw [e] at K; exact K M h Ag.rf
theorem h_isNought (hW : WF σ) (h : RM σ M) {d : Nat} (hd : d ≤ 2) {mk : Nat → Int64} (hm : ∀ k, k < sz σ d → M.2 68 k = mk k) {post : Int32 → Mem → Prop} (h1 : (∀ k, k < sz σ d → mk k = 0) → post 1 M) (h0 : ¬ (∀ k, k < sz σ d → mk k = 0) → post 0 M) : q_Mo_isNought (nI d) M post := by
  have hz := hW.sz d
  unfold q_Mo_isNought
  refine pk_loop (fun m i (s : Int32 × Mem) => q_Mo_isNought_L4 _ post m (nI d) s.1 (nI i) s.2) (fun i s => s.2 = M ∧ ((s.1 = 1 ∧ ∀ k, k < i → mk k = 0) ∨ (s.1 = 0 ∧ ¬ ∀ k, k < i → mk k = 0))) (sz σ d) 0 (1, M) (Nat.zero_le _) ⟨rfl, Or.inl ⟨rfl, fun k hk => by omega⟩⟩ ?_ ?_
  · rintro m ⟨x, M1⟩ ⟨e, h2⟩
    dsimp only at e h2
    subst e
    unfold q_Mo_isNought_L4
    refine h_Mo_size h rfl hd ⟨fun _ => ?_, fun c => absurd (nI_le (Nat.le_refl _) (by omega)) c⟩
    rcases h2 with ⟨rfl, h2⟩ | ⟨rfl, h2⟩
    · dsimp only; exact ⟨rfl, h1 h2⟩
    · dsimp only; exact ⟨rfl, h0 h2⟩
  · rintro m i ⟨x, M1⟩ hi ⟨e, h2⟩ ih
    dsimp only at e h2
    subst e
    unfold q_Mo_isNought_L4
    refine h_Mo_size h rfl hd ⟨fun c => absurd c (nI_ge hi (by omega)), fun _ => ?_⟩
    dsimp only
    rw [clm (by omega), nI_1, hm i hi]
    rcases h2 with ⟨rfl, h2⟩ | ⟨rfl, h2⟩
    · refine ⟨fun c => absurd c (by decide), fun _ => ⟨vp_in_nI (by omega) (by decide), fun c => ih (0, M1) ⟨rfl, Or.inr ⟨rfl, fun q => c (q i (by omega))⟩⟩, fun c => ih (1, M1) ⟨rfl, Or.inl ⟨rfl, fun k hk => ?_⟩⟩⟩⟩
      rcases Nat.lt_or_ge k i with z | z
      · exact h2 k z
      · have : k = i := by omega
        subst this; exact c
    · exact ⟨fun _ => ih (0, M1) ⟨rfl, Or.inr ⟨rfl, fun q => h2 (fun k hk => q k (by omega))⟩⟩, fun c => absurd rfl c⟩
theorem toI64_0 {x : Int32} : x.toInt64 = 0 ↔ x = 0 := by
  constructor
  · intro q
    have e := toI64 x
    rw [q] at e
    exact Int32.toInt_inj.mp e.symm
  · rintro rfl; rfl
theorem h_Mo_about (hW : WF σ) (h : RM σ M) {f w : Int32} {post : Int32 → Mem → Prop} (K : ∀ M', RM (op_about σ f w).2 M' → Ag D56 D56 M M' → post (op_about σ f w).1 M') : q_Mo_about f w M post := by
  unfold q_Mo_about
  have bad : ¬ (vp_in f 12 ∧ vp_in w 4) → post (-2) M := fun z => by
    have e : op_about σ f w = (-2, σ) := cif_neg z _ _
    rw [e] at K; exact K M h Ag.rf
  refine h_isForm (fun i hi ei => ⟨fun c => absurd c (by decide), fun _ => ?_⟩) (fun c => ⟨fun _ => bad (fun q => c q.1), fun c => absurd rfl c⟩)
  refine h_in32 4 rfl (fun hv => ⟨fun _ => ?_, fun c => absurd c (by decide)⟩) (fun c => ⟨fun c => absurd rfl c, fun _ => bad (fun q => c q.2)⟩)
  subst ei
  have hf := h.2.2.2.2.1 i hi
  have hd := (hW.2.2.2.2.2.2.1 i hi).1
  have hz := hW.sz (fD σ i)
  rw [clm (by omega), hf.1]
  refine ⟨vp_in_nI hi (by decide), ?_⟩
  obtain ⟨j, hj, rfl⟩ := vp_in_of hv (by decide)
  have K2 := K
  unfold op_about at K2
  rw [cif_pos ⟨vp_in_nI hi (by decide), hv⟩, tnI (show i < 200 by omega), tnI (show j < 200 by omega)] at K2
  clear K
  have n01 : ¬ (1 : Int32) = 0 := by decide
  match j, hj with
  | 0, _ =>
    rw [cif_pos rfl] at K2
    exact ⟨fun c => absurd rfl c, fun _ => K2 M h Ag.rf⟩
  | 1, _ =>
    rw [cif_neg (by decide), cif_pos rfl] at K2
    refine ⟨fun _ => ⟨fun c => absurd rfl c, fun _ => ?_⟩, fun c => absurd c (by decide)⟩
    refine pk_loop (fun m k (s : Int32 × Mem) => q_Mo_about_L46 _ post m (nI i) (nI (fD σ i)) s.1 (nI k) s.2) (fun k s => s.2 = M ∧ ((s.1 = 1 ∧ ∀ l, l < k → fN σ i l = 0) ∨ (s.1 = 0 ∧ ¬ ∀ l, l < 12 → fN σ i l = 0))) (sz σ (fD σ i)) 0 (1, M) (Nat.zero_le _) ⟨rfl, Or.inl ⟨rfl, fun k hk => by omega⟩⟩ ?_ ?_
    · rintro m ⟨x, M1⟩ ⟨e, h2⟩
      dsimp only at e h2
      subst e
      unfold q_Mo_about_L46
      refine h_Mo_size h rfl hd ⟨fun _ => ?_, fun c => absurd (nI_le (Nat.le_refl _) (by omega)) c⟩
      rcases h2 with ⟨rfl, h2⟩ | ⟨rfl, h2⟩
      · rw [cif_pos (fun k hk => by
          rcases Nat.lt_or_ge k (sz σ (fD σ i)) with z | z
          · exact h2 k z
          · exact ((hW.2.2.2.2.2.2.1 i hi).2 k hk).2 z)] at K2
        exact ⟨fun c => absurd c n01, fun _ => K2 M1 h Ag.rf⟩
      · rw [cif_neg h2] at K2
        exact ⟨fun _ => K2 M1 h Ag.rf, fun c => absurd rfl c⟩
    · rintro m k ⟨x, M1⟩ hk ⟨e, h2⟩ ih
      dsimp only at e h2
      subst e
      unfold q_Mo_about_L46
      refine h_Mo_size h rfl hd ⟨fun c => absurd c (nI_ge hk (by omega)), fun _ => ?_⟩
      dsimp only
      rw [nI_1]
      rcases h2 with ⟨rfl, h2⟩ | ⟨rfl, h2⟩
      · refine ⟨fun c => absurd c (by decide), fun _ => h_Mo_at h rfl hi (by omega) ⟨fun c => ih (0, M1) ⟨rfl, Or.inr ⟨rfl, fun q => c (toI64_0.mpr (q k (by omega)))⟩⟩, fun c => ih (1, M1) ⟨rfl, Or.inl ⟨rfl, fun l hl => ?_⟩⟩⟩⟩
        rcases Nat.lt_or_ge l k with z | z
        · exact h2 l z
        · have : l = k := by omega
          subst this; exact toI64_0.mp c
      · exact ⟨fun _ => ih (0, M1) ⟨rfl, Or.inr ⟨rfl, h2⟩⟩, fun c => absurd rfl c⟩
  | 2, _ =>
    rw [cif_neg (by decide), cif_neg (by decide), cif_pos rfl] at K2
    refine ⟨fun _ => ⟨fun _ => ⟨fun c => absurd rfl c, fun _ => ⟨fun c3 => ⟨fun _ => ⟨fun c => absurd c n01, fun _ => ?_⟩, fun c => absurd c (by decide)⟩, fun c3 => ?_⟩⟩, fun c => absurd c (by decide)⟩, fun c => absurd c (by decide)⟩
    · have hd2 : 2 ≤ fD σ i := (nI_leI (by decide) (by omega)).mp (show nI 2 ≤ nI (fD σ i) from c3)
      rw [cif_pos (Or.inl (by omega))] at K2
      exact K2 M h Ag.rf
    · have hd2 : ¬ 2 ≤ fD σ i := fun q => c3 (show nI 2 ≤ nI (fD σ i) from nI_le q (by omega))
      refine h_Mo_makeSlope hW h Ag.rf hi (by omega) (fun M1 r1 h1 => ?_)
      have rc1 := RDm.rm h r1
      rw [nI_1]
      refine h_isNought hW rc1 (by omega) h1 (fun q => ⟨fun c => absurd c n01, fun _ => ?_⟩) (fun q => ⟨fun _ => ?_, fun c => absurd rfl c⟩)
      · rw [cif_pos (Or.inr q)] at K2; exact K2 M1 rc1 r1.d
      · rw [cif_neg (fun z => by rcases z with z | z; omega; exact q z)] at K2; exact K2 M1 rc1 r1.d
  | 3, _ =>
    rw [cif_neg (by decide), cif_neg (by decide), cif_neg (by decide)] at K2
    refine ⟨fun _ => ⟨fun _ => ⟨fun _ => ⟨fun c => absurd rfl c, fun _ => ⟨fun c3 => ⟨fun c => absurd c n01, fun _ => ?_⟩, fun c3 => ?_⟩⟩, fun c => absurd c (by decide)⟩, fun c => absurd c (by decide)⟩, fun c => absurd c (by decide)⟩
    · have hd2 : fD σ i ≤ 0 := (nI_leI (by omega) (by decide)).mp (show nI (fD σ i) ≤ nI 0 from c3)
      rw [cif_pos (Or.inl (by omega))] at K2
      exact K2 M h Ag.rf
    · have hd2 : ¬ fD σ i ≤ 0 := fun q => c3 (show nI (fD σ i) ≤ nI 0 from nI_le q (by decide))
      have em : nI (fD σ i) - 1 = nI (fD σ i - 1) := by
        obtain ⟨e, he⟩ : ∃ e, fD σ i = e + 1 := ⟨fD σ i - 1, by omega⟩
        rw [he, nI_pred]; rfl
      refine h_Mo_makeRim hW h Ag.rf hi (by omega) (fun M1 r1 h1 => ?_)
      have rc1 := RDm.rm h r1
      rw [em]
      refine h_isNought hW rc1 (by omega) h1 (fun q => ⟨fun c => absurd c n01, fun _ => ?_⟩) (fun q => ⟨fun _ => ?_, fun c => absurd rfl c⟩)
      · rw [cif_pos (Or.inr q)] at K2; exact K2 M1 rc1 r1.d
      · rw [cif_neg (fun z => by rcases z with z | z; omega; exact q z)] at K2; exact K2 M1 rc1 r1.d
end MFORMS3
