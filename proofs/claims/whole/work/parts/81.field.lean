/-! field: the first point whose part has no wall -/
theorem jn_idem {L : Nat → Nat} (h : ∀ q, L (L q) = L q) (a b : Nat) : ∀ q, jn L a b (jn L a b q) = jn L a b q := by
  intro q
  have ha := h a
  have hb := h b
  have key : jn L a b q = L q ∨ jn L a b q = min (L a) (L b) := by
    unfold jn
    by_cases z : L q = max (L a) (L b)
    · rw [if_pos z]; right; rfl
    · rw [if_neg z]; left; rfl
  have hm : L (min (L a) (L b)) = min (L a) (L b) := by
    rcases Nat.le_total (L a) (L b) with z | z
    · rw [Nat.min_eq_left z]; exact ha
    · rw [Nat.min_eq_right z]; exact hb
  by_cases z : L q = max (L a) (L b)
  · have e : jn L a b q = min (L a) (L b) := by unfold jn; rw [if_pos z]
    rw [e]
    unfold jn
    rw [hm]
    by_cases y : min (L a) (L b) = max (L a) (L b)
    · rw [if_pos y]
    · rw [if_neg y]
  · have e : jn L a b q = L q := by unfold jn; rw [if_neg z]
    rw [e]
    unfold jn
    rw [h q, if_neg z]
theorem prt_idem (B E : Nat → Nat) : ∀ e q, prt B E e (prt B E e q) = prt B E e q := by
  intro e
  induction e with
  | zero => intro q; rfl
  | succ e ih => exact jn_idem ih _ _
noncomputable def fsN (P : Nat → Prop) : Nat → Option Nat
  | 0 => none
  | n + 1 => cif (fsN P n = none) (cif (P n) (some n) none) (fsN P n)
theorem fsN_none {P : Nat → Prop} : ∀ {n : Nat}, (∀ l, l < n → ¬ P l) → fsN P n = none := by
  intro n
  induction n with
  | zero => intro _; rfl
  | succ n ih => intro h; unfold fsN; rw [cif_pos (ih (fun l hl => h l (by omega))), cif_neg (h n (by omega))]
theorem fsN_some {P : Nat → Prop} {e : Nat} (h0 : ∀ l, l < e → ¬ P l) (h1 : P e) : ∀ {n : Nat}, e < n → fsN P n = some e := by
  intro n
  induction n with
  | zero => intro h; omega
  | succ n ih =>
    intro h
    unfold fsN
    rcases Nat.lt_or_ge e n with z | z
    · rw [cif_neg (by rw [ih z]; simp), ih z]
    · have : e = n := by omega
      subst this
      rw [cif_pos (fsN_none h0), cif_pos h1]
theorem fsN_none' {P : Nat → Prop} : ∀ {n : Nat}, fsN P n = none → ∀ l, l < n → ¬ P l := by
  intro n
  induction n with
  | zero => intro _ l hl; omega
  | succ n ih =>
    intro h l hl
    unfold fsN at h
    by_cases z : fsN P n = none
    · rw [cif_pos z] at h
      by_cases y : P n
      · rw [cif_pos y] at h; exact nomatch h
      · rcases Nat.lt_or_ge l n with z2 | z2
        · exact ih z l z2
        · have : l = n := by omega
          subst this; exact y
    · rw [cif_neg z] at h; exact absurd h z
theorem fsN_lt {P : Nat → Prop} : ∀ {n e : Nat}, fsN P n = some e → e < n := by
  intro n
  induction n with
  | zero => intro e h; unfold fsN at h; simp at h
  | succ n ih =>
    intro e h
    unfold fsN at h
    by_cases z : fsN P n = none
    · rw [cif_pos z] at h
      by_cases y : P n
      · rw [cif_pos y] at h
        have := Option.some.inj h
        omega
      · rw [cif_neg y] at h; simp at h
    · rw [cif_neg z] at h
      have := ih h
      omega
def noW (σ : Sg) (p : Nat) : Prop := ∀ q, q < nP σ → vL σ q = vL σ p → wT σ q = 0
noncomputable def fld (σ : Sg) : Int32 := (fsN (noW σ) (nP σ)).elim (-1) nI
noncomputable def op_field (σ : Sg) : Int32 × Sg := (fld σ, σ)
section FIELD
variable {σ : Sg} {M : Mem}
theorem WF.lle (hW : WF σ) {q : Nat} (hq : q < 6) : vL σ q ≤ q := by
  rw [hW.2.2.2.2.2.1 q hq]; exact prt_le _ _ _ _
theorem WF.idem (hW : WF σ) {q : Nat} (hq : q < 6) : vL σ (vL σ q) = vL σ q := by
  have := hW.lle hq
  rw [hW.2.2.2.2.2.1 (vL σ q) (by omega), hW.2.2.2.2.2.1 q hq]; exact prt_idem _ _ _ _
theorem h_isWalled (hW : WF σ) (h : RC σ M) {p : Nat} (hp : p < 6) {post : Int32 → Mem → Prop} (h1 : ¬ (∀ q, q < nP σ → vL σ q = p → wT σ q = 0) → post 1 M) (h0 : (∀ q, q < nP σ → vL σ q = p → wT σ q = 0) → post 0 M) : q_Wal_isWalled (nI p) M post := by
  have hP := hW.1
  unfold q_Wal_isWalled
  refine pk_loop (fun m i (M' : Mem) => q_Wal_isWalled_L2 _ _ post m (nI p) (nI i) M') (fun i M' => M' = M ∧ ∀ q, q < i → vL σ q = p → wT σ q = 0) (nP σ) 0 M (Nat.zero_le _) ⟨rfl, fun q hq => by omega⟩ ?_ ?_
  · rintro m M1 ⟨rfl, h2⟩
    unfold q_Wal_isWalled_L2
    rw [h.1.1]
    exact ⟨fun _ => h0 h2, fun c => absurd (nI_le (Nat.le_refl _) (by omega)) c⟩
  · rintro m i M1 hi ⟨rfl, h2⟩ ih
    have hq := h.2.2.2.1 i (by omega)
    have wt := (hW.2.2.2.2.2.2.2.1 i (by omega)).1
    have wl := hW.lle (q := i) (by omega)
    have nx : (vL σ i = p → wT σ i = 0) → ∀ q, q < i + 1 → vL σ q = p → wT σ q = 0 := fun z q hq => by
      rcases Nat.lt_or_ge q i with y | y
      · exact h2 q y
      · have : q = i := by omega
        subst this; exact z
    unfold q_Wal_isWalled_L2
    rw [h.1.1, clm (by omega), hq.1, hq.2.1, nI_1, nI_eq (by omega) (by omega)]
    refine ⟨fun c => absurd c (nI_ge hi (by omega)), fun _ => ⟨vp_in_nI (by omega) (by decide), fun c => ih M1 ⟨rfl, nx (fun z => absurd z c)⟩, fun c => ⟨vp_in_nI (by omega) (by decide), fun c2 => ih M1 ⟨rfl, nx (fun _ => ?_)⟩, fun c2 => h1 (fun z => c2 ?_)⟩⟩⟩
    · exact (nI_eq (by omega) (by decide)).mp (show nI (wT σ i) = nI 0 from c2)
    · rw [z i hi c]; rfl
theorem h_leastWithout (hW : WF σ) (h : RC σ M) {post : Int32 → Mem → Prop} (hp : post (fld σ) M) : q_Wal_leastWithout M post := by
  have hP := hW.1
  unfold q_Wal_leastWithout
  refine pk_loop (fun m i (M' : Mem) => q_Wal_leastWithout_L2 _ _ post m (nI i) M') (fun i M' => M' = M ∧ ∀ q, q < i → ¬ noW σ q) (nP σ) 0 M (Nat.zero_le _) ⟨rfl, fun q hq => by omega⟩ ?_ ?_
  · rintro m M1 ⟨rfl, h2⟩
    have e : fld σ = -1 := by unfold fld; rw [fsN_none h2]; rfl
    rw [e] at hp
    unfold q_Wal_leastWithout_L2
    rw [h.1.1]
    exact ⟨fun _ => hp, fun c => absurd (nI_le (Nat.le_refl _) (by omega)) c⟩
  · rintro m i M1 hi ⟨rfl, h2⟩ ih
    have hq := h.2.2.2.1 i (by omega)
    have wl := hW.lle (q := i) (by omega)
    have nx : ¬ noW σ i → ∀ q, q < i + 1 → ¬ noW σ q := fun z q hq => by
      rcases Nat.lt_or_ge q i with y | y
      · exact h2 q y
      · have : q = i := by omega
        subst this; exact z
    unfold q_Wal_leastWithout_L2
    rw [h.1.1, clm (by omega), hq.1, nI_1, nI_eq (by omega) (by omega)]
    refine ⟨fun c => absurd c (nI_ge hi (by omega)), fun _ => ⟨vp_in_nI (by omega) (by decide), fun c => ih M1 ⟨rfl, nx (fun z => h2 (vL σ i) (by omega) (fun q hq e => z q hq ?_))⟩, fun c => h_isWalled hW h (by omega) (fun y => ⟨fun _ => ih M1 ⟨rfl, nx (fun z => y (fun q hq e => z q hq (by rw [c]; exact e)))⟩, fun c => absurd c (by decide)⟩) (fun y => ⟨fun c => absurd rfl c, fun _ => ?_⟩)⟩⟩
    · rw [hW.idem (by omega)] at e; exact e
    · have n1 : noW σ i := fun q hq e => y q hq (by rw [c] at e; exact e)
      have e : fld σ = nI i := by unfold fld; rw [fsN_some h2 n1 hi]; rfl
      rw [e] at hp
      exact hp
theorem h_Nf_field (hW : WF σ) (h : RC σ M) {post : Int32 → Mem → Prop} (K : ∀ M', RC (op_field σ).2 M' → Ag C56 C56 M M' → post (op_field σ).1 M') : q_Nf_field M post := by
  unfold q_Nf_field
  exact h_leastWithout hW h (K M h Ag.rf)
theorem h_forbids (hW : WF σ) (h : RM σ M) {post : Int32 → Mem → Prop} (K : ∀ M', RM σ M' → Ag (fun k => k = 72) (fun _ => False) M M' → post (fld σ) M') : q_Mo_forbids M post := by
  have hP := hW.1
  unfold q_Mo_forbids
  refine h_parts hW h Ag.rf (fun M0 r0 => ?_)
  have rm0 : RM σ M0 := h.ag (r0.1.mono (fun k hk => by unfold Sm; omega) (fun k hk => hk.elim))
  refine pk_loop (fun m i (M' : Mem) => q_Mo_forbids_L7 _ _ post m (nI i) M') (fun i M' => M' = M0 ∧ ∀ q, q < i → ¬ noW σ q) (nP σ) 0 M0 (Nat.zero_le _) ⟨rfl, fun q hq => by omega⟩ ?_ ?_
  · rintro m M1 ⟨rfl, h2⟩
    have e : fld σ = -1 := by unfold fld; rw [fsN_none h2]; rfl
    rw [e] at K
    unfold q_Mo_forbids_L7
    rw [rm0.1.1]
    exact ⟨fun _ => K M1 rm0 r0.1, fun c => absurd (nI_le (Nat.le_refl _) (by omega)) c⟩
  · rintro m i M1 hi ⟨rfl, h2⟩ ih
    have nx : ¬ noW σ i → ∀ q, q < i + 1 → ¬ noW σ q := fun z q hq => by
      rcases Nat.lt_or_ge q i with y | y
      · exact h2 q y
      · have : q = i := by omega
        subst this; exact z
    have li := hW.lle (q := i) (by omega)
    unfold q_Mo_forbids_L7
    rw [rm0.1.1]
    refine ⟨fun c => absurd c (nI_ge hi (by omega)), fun _ => ?_⟩
    refine pk_loop (fun m2 j (s : Int32 × Mem) => q_Mo_forbids_L19 _ post m2 (nI i) s.1 (nI j) s.2) (fun j s => s.2 = M1 ∧ ((s.1 = 0 ∧ ∀ q, q < j → vL σ q = vL σ i → wT σ q = 0) ∨ (s.1 = 1 ∧ ¬ noW σ i))) (nP σ) 0 (0, M1) (Nat.zero_le _) ⟨rfl, Or.inl ⟨rfl, fun q hq => by omega⟩⟩ ?_ ?_
    · rintro m2 ⟨x, M2⟩ ⟨e, h3⟩
      dsimp only at e h3
      subst e
      unfold q_Mo_forbids_L19
      rw [rm0.1.1]
      refine ⟨fun _ => ?_, fun c => absurd (nI_le (Nat.le_refl _) (by omega)) c⟩
      dsimp only
      rw [nI_1]
      rcases h3 with ⟨rfl, h3⟩ | ⟨rfl, h3⟩
      · have e : fld σ = nI i := by unfold fld; rw [fsN_some h2 h3 hi]; rfl
        rw [e] at K
        exact ⟨fun c => absurd rfl c, fun _ => K M2 rm0 r0.1⟩
      · exact ⟨fun _ => ih M2 ⟨rfl, nx h3⟩, fun c => absurd c (by decide)⟩
    · rintro m2 j ⟨x, M2⟩ hj ⟨e, h3⟩ ih2
      dsimp only at e h3
      subst e
      have hq := rm0.2.2.2.1 j (by omega)
      have wt := (hW.2.2.2.2.2.2.2.1 j (by omega)).1
      have lj := hW.lle (q := j) (by omega)
      unfold q_Mo_forbids_L19
      dsimp only
      rw [rm0.1.1, clm (show j < 200 by omega), clm (show i < 200 by omega), hq.1, r0.2 j hj, r0.2 i hi, nI_1 (a := j), nI_eq (show vL σ j < 2 ^ 31 by omega) (by omega)]
      refine ⟨fun c => absurd c (nI_ge hj (by omega)), fun _ => ?_⟩
      rcases h3 with ⟨rfl, h3⟩ | ⟨rfl, h3⟩
      · have nx2 : (vL σ j = vL σ i → wT σ j = 0) → ∀ q, q < j + 1 → vL σ q = vL σ i → wT σ q = 0 := fun z q hq => by
          rcases Nat.lt_or_ge q j with y | y
          · exact h3 q y
          · have : q = j := by omega
            subst this; exact z
        refine ⟨fun c => absurd rfl c, fun _ => ⟨vp_in_nI (by omega) (by decide), fun c => ih2 (0, M2) ⟨rfl, Or.inl ⟨rfl, nx2 (fun _ => ?_)⟩⟩, fun c => ⟨vp_in_nI (by omega) (by decide), vp_in_nI (by omega) (by decide), fun c2 => ih2 (0, M2) ⟨rfl, Or.inl ⟨rfl, nx2 (fun z => absurd z c2)⟩⟩, fun c2 => ih2 (1, M2) ⟨rfl, Or.inr ⟨rfl, fun z => c ?_⟩⟩⟩⟩⟩
        · exact (nI_eq (by omega) (by decide)).mp (show nI (wT σ j) = nI 0 from c)
        · rw [z j hj c2]; rfl
      · exact ⟨fun _ => ih2 (1, M2) ⟨rfl, Or.inr ⟨rfl, h3⟩⟩, fun c => absurd c (by decide)⟩
theorem h_Mo_field (hW : WF σ) (h : RM σ M) {post : Int32 → Mem → Prop} (K : ∀ M', RM (op_field σ).2 M' → Ag D56 D56 M M' → post (op_field σ).1 M') : q_Mo_field M post := by
  unfold q_Mo_field
  exact h_forbids hW h (fun M' h1 g1 => K M' h1 (g1.mono (fun k hk => by unfold D56; omega) (fun k hk => hk.elim)))
end FIELD
