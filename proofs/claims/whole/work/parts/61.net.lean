/-! the class's net: what its methods answer -/
theorem nle_vin {x : Int32} {n : Nat} (hn : n < 2 ^ 31) (h0 : ¬ x < 0) (h1 : ¬ nI n ≤ x) : vp_in x n := by
  rcases pk_ix x hn with h | h | ⟨j, hj, rfl⟩
  · exact absurd h h0
  · exact absurd h h1
  · exact vp_in_nI hj hn
theorem nvin_neg {x : Int32} {n : Nat} (h : x < 0) : ¬ vp_in x n := fun q => q (Or.inl h)
theorem nvin_le {x : Int32} {n : Nat} (hn : n < 2 ^ 31) (h : nI n ≤ x) : ¬ vp_in x n := fun q => by
  obtain ⟨j, hj, rfl⟩ := vp_in_of q hn
  exact absurd h (nI_ge hj hn)
theorem nI_ne {a b : Nat} (ha : a < 2 ^ 31) (hb : b < 2 ^ 31) (h : a ≠ b) : ¬ nI a = nI b := fun q => h ((nI_eq ha hb).mp q)
theorem clm {n : Nat} (h : n < 200) : (nI n).toNatClampNeg = n := nI_clamp (by omega)
theorem WF.sz {σ : Sg} (h : WF σ) (d : Nat) : sz σ d ≤ 12 := by
  obtain ⟨⟨h1, h2, h3, h4⟩, -⟩ := h
  unfold Jvm.Pilot.CNetFormsLaw_law_r6761_ed7814.sz
  split
  · omega
  · split <;> omega
section NETC
variable {σ : Sg} {M : Mem}
theorem h_Net_size (h : RC σ M) {d : Nat} (hd : d ≤ 2) {post : Int32 → Mem → Prop} (hp : post (nI (sz σ d)) M) : q_Net_size (nI d) M post := by
  obtain ⟨⟨a1, a2, a3⟩, -⟩ := h
  unfold q_Net_size
  match d, hd with
  | 0, _ => exact ⟨fun c => absurd rfl c, fun _ => by rw [a1]; exact hp⟩
  | 1, _ => exact ⟨fun _ => ⟨fun c => absurd rfl c, fun _ => by rw [a2]; exact hp⟩, fun c => absurd c (by decide)⟩
  | 2, _ => exact ⟨fun _ => ⟨fun _ => by rw [a3]; exact hp, fun c => absurd c (by decide)⟩, fun c => absurd c (by decide)⟩
theorem h_Net_has (hW : WF σ) (h : RC σ M) {d : Nat} (hd : d ≤ 2) {x : Int32} {post : Int32 → Mem → Prop} (h1 : vp_in x (sz σ d) → post 1 M) (h0 : ¬ vp_in x (sz σ d) → post 0 M) : q_Net_has (nI d) x M post := by
  have hz := hW.sz d
  unfold q_Net_has
  refine ⟨fun c => h0 (nvin_neg c), fun c => h_Net_size h hd ⟨fun c2 => h0 (nvin_le (by omega) c2), fun c2 => h1 (nle_vin (by omega) c c2)⟩⟩
theorem h_Net_edgeBetween (hW : WF σ) (h : RC σ M) {i j : Nat} (hi : i < 6) (hj : j < 6) {post : Int32 → Mem → Prop} (h1 : ∀ k, k < nE σ → vB σ k = i → vE σ k = j → post (nI k) M) (h0 : (∀ k, k < nE σ → ¬ (vB σ k = i ∧ vE σ k = j)) → post (-1) M) : q_Net_edgeBetween (nI i) (nI j) M post := by
  obtain ⟨⟨a1, a2, a3⟩, hb, -⟩ := h
  obtain ⟨⟨w1, w2, w3, w4⟩, we, -⟩ := hW
  unfold q_Net_edgeBetween
  refine pk_loop (fun n k (M' : Mem) => q_Net_edgeBetween_L2 _ _ post n (nI i) (nI j) (nI k) M') (fun k M' => M' = M ∧ ∀ l, l < k → ¬ (vB σ l = i ∧ vE σ l = j)) (nE σ) 0 M (Nat.zero_le _) ⟨rfl, fun l hl => absurd hl (Nat.not_lt_zero _)⟩ ?_ ?_
  · rintro n M' ⟨rfl, hn⟩
    unfold q_Net_edgeBetween_L2
    rw [a2]
    exact ⟨fun _ => h0 hn, fun c => absurd (nI_le (Nat.le_refl _) (by omega)) c⟩
  · rintro n k M' hk ⟨rfl, hn⟩ ih
    have hbk := hb k hk
    have hek := we k hk
    have next : ¬ (vB σ k = i ∧ vE σ k = j) → q_Net_edgeBetween_L2 (fun x2 M3 => post x2 M3) (fun M4 => post (-1 : Int32) M4) post n (nI i) (nI j) (nI k + 1) M' := fun q => by
      rw [nI_1]
      exact ih M' ⟨rfl, fun l hl => by
        rcases Nat.lt_or_ge l k with z | z
        · exact hn l z
        · have : l = k := by omega
          subst this; exact q⟩
    unfold q_Net_edgeBetween_L2
    rw [a2, clm (by omega), hbk.1, hbk.2]
    refine ⟨fun c => absurd c (nI_ge hk (by omega)), fun _ => ⟨vp_in_nI (by omega) (by omega), fun c => ?_, fun c => ⟨vp_in_nI (by omega) (by omega), fun c2 => ?_, fun c2 => ?_⟩⟩⟩
    · exact next (fun q => c (by rw [q.1]))
    · exact next (fun q => c2 (by rw [q.2]))
    · exact h1 k hk ((nI_eq (by omega) (by omega)).mp c) ((nI_eq (by omega) (by omega)).mp c2)
theorem h_Net_hasPlateOf (hW : WF σ) (h : RC σ M) {i j : Nat} (hi : i < 12) (hj : j < 12) {post : Int32 → Mem → Prop} (h1 : ∀ k, k < nF σ → pF1 σ k = i → pS1 σ k = j → post 1 M) (h0 : (∀ k, k < nF σ → ¬ (pF1 σ k = i ∧ pS1 σ k = j)) → post 0 M) : q_Net_hasPlateOf (nI i) (nI j) M post := by
  obtain ⟨⟨a1, a2, a3⟩, -, hb, -⟩ := h
  obtain ⟨⟨w1, w2, w3, w4⟩, -, -, we, -⟩ := hW
  unfold q_Net_hasPlateOf
  refine pk_loop (fun n k (M' : Mem) => q_Net_hasPlateOf_L2 _ _ post n (nI i) (nI j) (nI k) M') (fun k M' => M' = M ∧ ∀ l, l < k → ¬ (pF1 σ l = i ∧ pS1 σ l = j)) (nF σ) 0 M (Nat.zero_le _) ⟨rfl, fun l hl => absurd hl (Nat.not_lt_zero _)⟩ ?_ ?_
  · rintro n M' ⟨rfl, hn⟩
    unfold q_Net_hasPlateOf_L2
    rw [a3]
    exact ⟨fun _ => h0 hn, fun c => absurd (nI_le (Nat.le_refl _) (by omega)) c⟩
  · rintro n k M' hk ⟨rfl, hn⟩ ih
    have hbk := hb k hk
    have hek := we k hk
    have next : ¬ (pF1 σ k = i ∧ pS1 σ k = j) → q_Net_hasPlateOf_L2 (fun M3 => post (1 : Int32) M3) (fun M4 => post (0 : Int32) M4) post n (nI i) (nI j) (nI k + 1) M' := fun q => by
      rw [nI_1]
      exact ih M' ⟨rfl, fun l hl => by
        rcases Nat.lt_or_ge l k with z | z
        · exact hn l z
        · have : l = k := by omega
          subst this; exact q⟩
    unfold q_Net_hasPlateOf_L2
    rw [a3, clm (by omega), hbk.1, hbk.2.1]
    refine ⟨fun c => absurd c (nI_ge hk (by omega)), fun _ => ⟨vp_in_nI (by omega) (by omega), fun c => ?_, fun c => ⟨vp_in_nI (by omega) (by omega), fun c2 => ?_, fun c2 => ?_⟩⟩⟩
    · exact next (fun q => c (by rw [q.1]))
    · exact next (fun q => c2 (by rw [q.2]))
    · exact h1 k hk ((nI_eq (by omega) (by omega)).mp c) ((nI_eq (by omega) (by omega)).mp c2)
/-- how many of the first n are their own -/
def own (L : Nat → Nat) : Nat → Nat
  | 0 => 0
  | n + 1 => own L n + (if L n = n then 1 else 0)
theorem own_le (L : Nat → Nat) : ∀ n, own L n ≤ n
  | 0 => Nat.le_refl _
  | n + 1 => by have := own_le L n; unfold own; split <;> omega
theorem prt_le (B E : Nat → Nat) : ∀ e q, prt B E e q ≤ q
  | 0, q => Nat.le_refl _
  | e + 1, q => by
    have h1 := prt_le B E e q
    unfold prt jn
    split <;> omega
theorem h_Net_countParts (hW : WF σ) (h : RC σ M) {post : Int32 → Mem → Prop} (hp : post (nI (own (vL σ) (nP σ))) M) : q_Net_countParts M post := by
  obtain ⟨⟨a1, a2, a3⟩, -, -, hq, -⟩ := h
  obtain ⟨⟨w1, w2, w3, w4⟩, -, -, -, -, wl, -⟩ := hW
  unfold q_Net_countParts
  refine pk_loop (fun n k (s : Int32 × Mem) => q_Net_countParts_L4 _ post n s.1 (nI k) s.2) (fun k s => s.2 = M ∧ s.1 = nI (own (vL σ) k)) (nP σ) 0 (0, M) (Nat.zero_le _) ⟨rfl, rfl⟩ ?_ ?_
  · rintro n ⟨c, M'⟩ ⟨h1, h2⟩
    dsimp only at h1 h2
    subst h1 h2
    unfold q_Net_countParts_L4
    rw [a1]
    exact ⟨fun _ => hp, fun c => absurd (nI_le (Nat.le_refl _) (by omega)) c⟩
  · rintro n k ⟨c, M'⟩ hk ⟨h1, h2⟩ ih
    dsimp only at h1 h2
    subst h1 h2
    have hl := wl k (by omega)
    have hl2 := prt_le (vB σ) (vE σ) (nE σ) k
    unfold q_Net_countParts_L4
    dsimp only
    rw [a1, clm (by omega), (hq k (by omega)).1, nI_1, nI_1]
    refine ⟨fun c => absurd c (nI_ge hk (by omega)), fun _ => ⟨vp_in_nI (by omega) (by omega), fun c => ?_, fun c => ?_⟩⟩
    · refine ih (nI (own (vL σ) k), M') ⟨rfl, ?_⟩
      have : ¬ vL σ k = k := fun q => c (by rw [q])
      simp [own, this]
    · refine ih (nI (own (vL σ) k + 1), M') ⟨rfl, ?_⟩
      have : vL σ k = k := (nI_eq (by omega) (by omega)).mp c
      simp [own, this]
/-- the i-th point of an edge or plate -/
def cor (σ : Sg) (d k i : Nat) : Nat := if d = 1 then (if i = 0 then vB σ k else vE σ k) else (if i = 0 then vB σ (pF1 σ k) else if i = 1 then vE σ (pF1 σ k) else vE σ (pS1 σ k))
theorem h_Net_pointOf (hW : WF σ) (h : RC σ M) {d k i : Nat} (hd : d = 1 ∨ d = 2) (hk : k < sz σ d) (hi : i ≤ d) {post : Int32 → Mem → Prop} (hp : post (nI (cor σ d k i)) M) : q_Net_pointOf (nI d) (nI k) (nI i) M post := by
  have hz := hW.sz d
  obtain ⟨⟨a1, a2, a3⟩, hb, hc, -⟩ := h
  obtain ⟨⟨w1, w2, w3, w4⟩, we, -, wf, -⟩ := hW
  unfold q_Net_pointOf
  rw [clm (by omega)]
  rcases hd with rfl | rfl
  · have hk' : k < nE σ := hk
    have h1 := hb k hk'
    refine ⟨fun c => absurd rfl c, fun _ => ?_⟩
    rw [h1.1, h1.2]
    match i, hi with
    | 0, _ => exact ⟨fun c => absurd rfl c, fun _ => ⟨vp_in_nI (by omega) (by omega), hp⟩⟩
    | 1, _ => exact ⟨fun _ => ⟨fun c => absurd rfl c, fun _ => ⟨vp_in_nI (by omega) (by omega), hp⟩⟩, fun c => absurd c (by decide)⟩
  · have hk' : k < nF σ := hk
    have h1 := hc k hk'
    have h2 := wf k hk'
    have h3 := hb (pF1 σ k) h2.1
    have h4 := hb (pS1 σ k) h2.2.1
    refine ⟨fun _ => ⟨vp_in_nI (by omega) (by omega), ?_⟩, fun c => absurd c (by decide)⟩
    rw [h1.1, h1.2.1, clm (by omega), clm (by omega), h3.1, h3.2, h4.2]
    match i, hi with
    | 0, _ => exact ⟨fun c => absurd rfl c, fun _ => ⟨vp_in_nI (by omega) (by omega), hp⟩⟩
    | 1, _ => exact ⟨fun _ => ⟨fun c => absurd rfl c, fun _ => ⟨vp_in_nI (by omega) (by omega), hp⟩⟩, fun c => absurd c (by decide)⟩
    | 2, _ => exact ⟨fun _ => ⟨fun _ => ⟨vp_in_nI (by omega) (by omega), vp_in_nI (by omega) (by omega), hp⟩, fun c => absurd c (by decide)⟩, fun c => absurd c (by decide)⟩
/-- how an edge or plate counts a side -/
def sgn (σ : Sg) (d k s : Nat) : Int := if d = 1 then (if vE σ k = s then 1 else if vB σ k = s then -1 else 0) else (if pF1 σ k = s ∨ pS1 σ k = s then 1 else if pA1 σ k = s then -1 else 0)
theorem sgn_cases (σ : Sg) (d k s : Nat) : sgn σ d k s = 1 ∨ sgn σ d k s = -1 ∨ sgn σ d k s = 0 := by
  unfold sgn
  repeat' split
  all_goals simp
def iI (x : Int) : Int32 := Int32.ofInt x
theorem h_Net_signOf (hW : WF σ) (h : RC σ M) {d k s : Nat} (hd : d = 1 ∨ d = 2) (hk : k < sz σ d) (hs : s < 12) {post : Int32 → Mem → Prop} (hp : post (iI (sgn σ d k s)) M) : q_Net_signOf (nI d) (nI k) (nI s) M post := by
  have hz := hW.sz d
  obtain ⟨⟨a1, a2, a3⟩, hb, hc, -⟩ := h
  obtain ⟨⟨w1, w2, w3, w4⟩, we, -, wf, -⟩ := hW
  unfold q_Net_signOf
  rw [clm (by omega)]
  rcases hd with rfl | rfl
  · have hk' : k < nE σ := hk
    have h1 := hb k hk'
    have h2 := we k hk'
    have e1 := nI_eq (a := vE σ k) (b := s) (by omega) (by omega)
    have e2 := nI_eq (a := vB σ k) (b := s) (by omega) (by omega)
    rw [h1.1, h1.2, e1, e2]
    refine ⟨fun c => absurd rfl c, fun _ => ⟨vp_in_nI (by omega) (by omega), fun c1 => ⟨vp_in_nI (by omega) (by omega), fun c2 => ?_, fun c2 => ?_⟩, fun c1 => ?_⟩⟩
    · simp only [sgn, if_true, c1, c2, if_false] at hp; exact hp
    · simp only [sgn, if_true, c1, c2, if_false] at hp; exact hp
    · simp only [sgn, if_true, c1] at hp; exact hp
  · have hk' : k < nF σ := hk
    have h1 := hc k hk'
    have h2 := wf k hk'
    have e1 := nI_eq (a := pF1 σ k) (b := s) (by omega) (by omega)
    have e2 := nI_eq (a := pS1 σ k) (b := s) (by omega) (by omega)
    have e3 := nI_eq (a := pA1 σ k) (b := s) (by omega) (by omega)
    rw [h1.1, h1.2.1, h1.2.2, e1, e2, e3]
    have hd2 : ¬ (2 = 1) := by decide
    refine ⟨fun _ => ⟨vp_in_nI (by omega) (by omega), fun c1 => ?_, fun c1 => ⟨vp_in_nI (by omega) (by omega), fun c2 => ⟨vp_in_nI (by omega) (by omega), fun c3 => ?_, fun c3 => ?_⟩, fun c2 => ?_⟩⟩, fun c => absurd c (by decide)⟩
    · simp [sgn, c1] at hp; exact hp
    · simp [sgn, c1, c2, c3] at hp; exact hp
    · simp [sgn, c1, c2, c3] at hp; exact hp
    · simp [sgn, c1, c2] at hp; exact hp
end NETC
