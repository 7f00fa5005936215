/-! edges, plates, a new net -/
theorem prt_congr {B E B' E' : Nat → Nat} : ∀ {e : Nat}, (∀ k, k < e → B k = B' k ∧ E k = E' k) → prt B E e = prt B' E' e := by
  intro e
  induction e with
  | zero => intro _; rfl
  | succ e ih =>
    intro h
    have h1 := ih (fun k hk => h k (by omega))
    have h2 := h e (by omega)
    simp only [prt]
    rw [h1, h2.1, h2.2]
theorem prt_ge {B E : Nat → Nat} {P : Nat} : ∀ {e : Nat}, (∀ k, k < e → B k < P ∧ E k < P) → ∀ q, P ≤ q → prt B E e q = q := by
  intro e
  induction e with
  | zero => intro _ q _; rfl
  | succ e ih =>
    intro h q hq
    have h1 := ih (fun k hk => h k (by omega)) q hq
    have h2 := h e (by omega)
    have l1 := prt_le B E e (B e)
    have l2 := prt_le B E e (E e)
    simp only [prt, jn]
    rw [h1, if_neg (by omega)]
section UPD2
variable {σ : Sg} {M M' : Mem}
theorem RC_edge (hW : WF σ) (h : RC σ M) {a b : Nat} (ha : Ag (fun k => k = 1 ∨ k = 2 ∨ k = 3 ∨ k = 7 ∨ Sc k) Sc M M') (h0 : M'.1 1 0 = M.1 1 0 ∧ M'.1 1 1 = nI (nE σ + 1) ∧ M'.1 1 2 = M.1 1 2) (h1 : ∀ k, k < nE σ → M'.1 2 k = M.1 2 k ∧ M'.1 3 k = M.1 3 k) (h2 : M'.1 2 (nE σ) = nI a ∧ M'.1 3 (nE σ) = nI b) (h3 : ∀ q, q < 6 → M'.1 7 q = nI (jn (vL σ) a b q)) : RC (uEdge σ a b) M' := by
  have e : ∀ k, (k < 15 ∧ k ≠ 1 ∧ k ≠ 2 ∧ k ≠ 3 ∧ k ≠ 7) ∨ (32 ≤ k ∧ k < 56) → M'.1 k = M.1 k := fun k hk => ha.1 k (by unfold Sc; omega)
  have e2 : ∀ k, k < 15 → M'.2 k = M.2 k := fun k hk => ha.2 k (by unfold Sc; omega)
  obtain ⟨a1, b1, c, d1, f1, g1, s1⟩ := h
  refine ⟨?_, ?_, ?_, ?_, ?_, ?_, ?_⟩
  · rw [h0.1, h0.2.1, h0.2.2]; exact ⟨a1.1, rfl, a1.2.2⟩
  · intro k hk
    have hk : k < nE σ + 1 := hk
    rcases Nat.lt_or_ge k (nE σ) with q | q
    · rw [(h1 k q).1, (h1 k q).2]
      have e3 : vB (uEdge σ a b) k = vB σ k := by simp [vB, uEdge, show k ≠ nE σ by omega]
      have e4 : vE (uEdge σ a b) k = vE σ k := by simp [vE, uEdge, show k ≠ nE σ by omega]
      rw [e3, e4]; exact b1 k q
    · have : k = nE σ := by omega
      subst this
      have e3 : vB (uEdge σ a b) (nE σ) = a := by simp [vB, uEdge]
      have e4 : vE (uEdge σ a b) (nE σ) = b := by simp [vE, uEdge]
      rw [e3, e4]; exact h2
  · intro k hk; rw [e 4 (by omega), e 5 (by omega), e 6 (by omega)]; exact c k hk
  · intro k hk
    rw [e 10 (by omega), e 11 (by omega), e2 13 (by omega)]
    have e3 : vL (uEdge σ a b) k = jn (vL σ) a b k := by simp [vL, uEdge]
    rw [e3]
    exact ⟨h3 k hk, (d1 k hk).2⟩
  · intro i hi
    rw [e (32 + 2 * i) (by omega), e (33 + 2 * i) (by omega)]
    exact f1 i hi
  · intro k hk; rw [e2 14 (by omega)]; exact g1 k hk
  · rw [e 12 (by omega)]; exact s1
theorem RM_edge (hW : WF σ) (h : RM σ M) {a b : Nat} (ha : Ag (fun k => k = 56 ∨ k = 57 ∨ k = 58 ∨ Sm k) Tm M M') (h0 : M'.1 56 0 = M.1 56 0 ∧ M'.1 56 1 = nI (nE σ + 1) ∧ M'.1 56 2 = M.1 56 2 ∧ M'.1 56 14 = M.1 56 14) (h1 : ∀ k, k < nE σ → M'.1 57 k = M.1 57 k ∧ M'.1 58 k = M.1 58 k) (h2 : M'.1 57 (nE σ) = nI a ∧ M'.1 58 (nE σ) = nI b) : RM (uEdge σ a b) M' := by
  have e : ∀ k, 59 ≤ k → k < 68 → M'.1 k = M.1 k := fun k h1 h2 => ha.1 k (by unfold Sm; omega)
  have e2 : ∀ k, 57 ≤ k → k < 68 → M'.2 k = M.2 k := fun k h1 h2 => ha.2 k (by unfold Tm; omega)
  obtain ⟨a1, b1, c, d1, f1, g1, s1⟩ := h
  have wf := hW.2.2.2.1
  have old : ∀ k, k < nE σ → vB (uEdge σ a b) k = vB σ k ∧ vE (uEdge σ a b) k = vE σ k := fun k q => ⟨by simp [vB, uEdge, show k ≠ nE σ by omega], by simp [vE, uEdge, show k ≠ nE σ by omega]⟩
  refine ⟨?_, ?_, ?_, ?_, ?_, ?_, ?_⟩
  · rw [h0.1, h0.2.1, h0.2.2.1]; exact ⟨a1.1, rfl, a1.2.2⟩
  · intro k hk
    have hk : k < nE σ + 1 := hk
    rcases Nat.lt_or_ge k (nE σ) with q | q
    · rw [(h1 k q).1, (h1 k q).2, (old k q).1, (old k q).2]; exact b1 k q
    · have : k = nE σ := by omega
      subst this
      have e3 : vB (uEdge σ a b) (nE σ) = a := by simp [vB, uEdge]
      have e4 : vE (uEdge σ a b) (nE σ) = b := by simp [vE, uEdge]
      rw [e3, e4]; exact h2
  · intro k hk
    have hk : k < nF σ := hk
    have w := wf k hk
    have p1 : pF1 (uEdge σ a b) k = pF1 σ k := by simp [pF1, uEdge]
    have p2 : pS1 (uEdge σ a b) k = pS1 σ k := by simp [pS1, uEdge]
    rw [e 59 (by omega) (by omega), e 60 (by omega) (by omega), e 61 (by omega) (by omega), p1, p2, (old _ w.1).1, (old _ w.1).2, (old _ w.2.1).2]
    exact c k hk
  · intro k hk; rw [e 64 (by omega) (by omega), e 65 (by omega) (by omega), e2 66 (by omega) (by omega)]; exact d1 k hk
  · intro i hi; rw [e 62 (by omega) (by omega), e 63 (by omega) (by omega)]; exact f1 i hi
  · intro k hk; rw [e2 67 (by omega) (by omega)]; exact g1 k hk
  · rw [h0.2.2.2]; exact s1
theorem WF_edge (h : WF σ) {a b : Nat} (hab : a < b) (hb : b < nP σ) (he : nE σ < 12) (hn : ∀ k, k < nE σ → ¬ (vB σ k = a ∧ vE σ k = b)) : WF (uEdge σ a b) := by
  obtain ⟨a1, b1, c, d1, f1, g1, s1, t1, u1, v1⟩ := h
  have old : ∀ k, k < nE σ → vB (uEdge σ a b) k = vB σ k ∧ vE (uEdge σ a b) k = vE σ k := fun k q => ⟨by simp [vB, uEdge, show k ≠ nE σ by omega], by simp [vE, uEdge, show k ≠ nE σ by omega]⟩
  have e3 : vB (uEdge σ a b) (nE σ) = a := by simp [vB, uEdge]
  have e4 : vE (uEdge σ a b) (nE σ) = b := by simp [vE, uEdge]
  refine ⟨⟨a1.1, a1.2.1, (by show nE σ + 1 ≤ 12; omega), a1.2.2.2⟩, ?_, ?_, ?_, ?_, ?_, ?_, t1, u1, ?_⟩
  · intro k hk
    have hk : k < nE σ + 1 := hk
    rcases Nat.lt_or_ge k (nE σ) with q | q
    · rw [(old k q).1, (old k q).2]; exact b1 k q
    · have : k = nE σ := by omega
      subst this
      rw [e3, e4]; exact ⟨hab, hb⟩
  · intro k l hk hl
    have hk : k < nE σ + 1 := hk
    have hl : l < nE σ + 1 := hl
    rcases Nat.lt_or_ge k (nE σ) with q | q
    · rcases Nat.lt_or_ge l (nE σ) with r | r
      · rw [(old k q).1, (old k q).2, (old l r).1, (old l r).2]; exact c k l q r
      · have : l = nE σ := by omega
        subst this
        rw [(old k q).1, (old k q).2, e3, e4]
        intro x y; exact absurd ⟨x, y⟩ (hn k q)
    · have : k = nE σ := by omega
      subst this
      rcases Nat.lt_or_ge l (nE σ) with r | r
      · rw [e3, e4, (old l r).1, (old l r).2]
        intro x y; exact absurd ⟨x.symm, y.symm⟩ (hn l r)
      · intro _ _; omega
  · intro k hk
    have hk : k < nF σ := hk
    have w := d1 k hk
    have p1 : pF1 (uEdge σ a b) k = pF1 σ k := by simp [pF1, uEdge]
    have p2 : pS1 (uEdge σ a b) k = pS1 σ k := by simp [pS1, uEdge]
    have p3 : pA1 (uEdge σ a b) k = pA1 σ k := by simp [pA1, uEdge]
    rw [p1, p2, p3, (old _ w.1).1, (old _ w.1).2, (old _ w.2.1).1, (old _ w.2.1).2, (old _ w.2.2.1).1, (old _ w.2.2.1).2]
    exact ⟨Nat.lt_succ_of_lt w.1, Nat.lt_succ_of_lt w.2.1, Nat.lt_succ_of_lt w.2.2.1, w.2.2.2⟩
  · intro k l hk hl
    have p1 : ∀ k, pF1 (uEdge σ a b) k = pF1 σ k := fun k => by simp [pF1, uEdge]
    have p2 : ∀ k, pS1 (uEdge σ a b) k = pS1 σ k := fun k => by simp [pS1, uEdge]
    rw [p1, p1, p2, p2]
    exact f1 k l hk hl
  · intro q hq
    have e5 : vL (uEdge σ a b) q = jn (vL σ) a b q := by simp [vL, uEdge]
    show _ = prt _ _ (nE σ + 1) q
    have hP := a1.2.1
    simp only [prt]
    rw [e5, e3, e4, ← prt_congr (fun k hk => ⟨(old k hk).1.symm, (old k hk).2.symm⟩)]
    have l1 := g1 q hq
    have l2 := g1 a (by omega)
    have l3 := g1 b (by omega)
    simp only [jn]
    rw [l1, l2, l3]
  · intro f hf
    have w := s1 f hf
    have p1 : fD (uEdge σ a b) f = fD σ f := by simp [fD, uEdge]
    rw [p1]
    refine ⟨w.1, fun k hk => ⟨(w.2 k hk).1, fun q => (w.2 k hk).2 ?_⟩⟩
    have : sz σ (fD σ f) ≤ sz (uEdge σ a b) (fD σ f) := by
      unfold sz
      show _ ≤ if _ then nP σ else if _ then nE σ + 1 else nF σ
      split
      · exact Nat.le_refl _
      · split
        · first | exact Nat.le_succ _ | exact Nat.le_refl _
        · first | exact Nat.le_succ _ | exact Nat.le_refl _
    omega
  · intro k hk hq
    have hq : nE σ + 1 ≤ k := hq
    exact v1 k hk (by omega)
theorem RC_plate (h : RC σ M) {x y z : Nat} (ha : Ag (fun k => k = 1 ∨ k = 4 ∨ k = 5 ∨ k = 6 ∨ Sc k) Sc M M') (h0 : M'.1 1 0 = M.1 1 0 ∧ M'.1 1 1 = M.1 1 1 ∧ M'.1 1 2 = nI (nF σ + 1)) (h1 : ∀ k, k < nF σ → M'.1 4 k = M.1 4 k ∧ M'.1 5 k = M.1 5 k ∧ M'.1 6 k = M.1 6 k) (h2 : M'.1 4 (nF σ) = nI x ∧ M'.1 5 (nF σ) = nI y ∧ M'.1 6 (nF σ) = nI z) : RC (uPlate σ x y z) M' := by
  have e : ∀ k, (k < 15 ∧ k ≠ 1 ∧ k ≠ 4 ∧ k ≠ 5 ∧ k ≠ 6) ∨ (32 ≤ k ∧ k < 56) → M'.1 k = M.1 k := fun k hk => ha.1 k (by unfold Sc; omega)
  have e2 : ∀ k, k < 15 → M'.2 k = M.2 k := fun k hk => ha.2 k (by unfold Sc; omega)
  obtain ⟨a1, b1, c, d1, f1, g1, s1⟩ := h
  refine ⟨?_, ?_, ?_, ?_, ?_, ?_, ?_⟩
  · rw [h0.1, h0.2.1, h0.2.2]; exact ⟨a1.1, a1.2.1, rfl⟩
  · intro k hk
    have p1 : vB (uPlate σ x y z) k = vB σ k := by simp [vB, uPlate]
    have p2 : vE (uPlate σ x y z) k = vE σ k := by simp [vE, uPlate]
    rw [e 2 (by omega), e 3 (by omega), p1, p2]; exact b1 k hk
  · intro k hk
    have hk : k < nF σ + 1 := hk
    rcases Nat.lt_or_ge k (nF σ) with q | q
    · have p1 : pF1 (uPlate σ x y z) k = pF1 σ k := by simp [pF1, uPlate, show k ≠ nF σ by omega]
      have p2 : pS1 (uPlate σ x y z) k = pS1 σ k := by simp [pS1, uPlate, show k ≠ nF σ by omega]
      have p3 : pA1 (uPlate σ x y z) k = pA1 σ k := by simp [pA1, uPlate, show k ≠ nF σ by omega]
      rw [p1, p2, p3, (h1 k q).1, (h1 k q).2.1, (h1 k q).2.2]; exact c k q
    · have : k = nF σ := by omega
      subst this
      have p1 : pF1 (uPlate σ x y z) (nF σ) = x := by simp [pF1, uPlate]
      have p2 : pS1 (uPlate σ x y z) (nF σ) = y := by simp [pS1, uPlate]
      have p3 : pA1 (uPlate σ x y z) (nF σ) = z := by simp [pA1, uPlate]
      rw [p1, p2, p3]; exact h2
  · intro k hk
    have p1 : vL (uPlate σ x y z) k = vL σ k := by simp [vL, uPlate]
    have p2 : wT (uPlate σ x y z) k = wT σ k := by simp [wT, uPlate]
    rw [e 7 (by omega), e 10 (by omega), e 11 (by omega), e2 13 (by omega), p1, p2]
    exact d1 k hk
  · intro i hi
    have p1 : fD (uPlate σ x y z) i = fD σ i := by simp [fD, uPlate]
    rw [e (32 + 2 * i) (by omega), e (33 + 2 * i) (by omega), p1]
    exact f1 i hi
  · intro k hk; rw [e2 14 (by omega)]; exact g1 k hk
  · rw [e 12 (by omega)]; exact s1
theorem RM_plate (h : RM σ M) {x y z : Nat} (ha : Ag (fun k => k = 56 ∨ k = 59 ∨ k = 60 ∨ k = 61 ∨ Sm k) Tm M M') (h0 : M'.1 56 0 = M.1 56 0 ∧ M'.1 56 1 = M.1 56 1 ∧ M'.1 56 2 = nI (nF σ + 1) ∧ M'.1 56 14 = M.1 56 14) (h1 : ∀ k, k < nF σ → M'.1 59 k = M.1 59 k ∧ M'.1 60 k = M.1 60 k ∧ M'.1 61 k = M.1 61 k) (h2 : M'.1 59 (nF σ) = nI (vB σ x) ∧ M'.1 60 (nF σ) = nI (vE σ x) ∧ M'.1 61 (nF σ) = nI (vE σ y)) : RM (uPlate σ x y z) M' := by
  have e : ∀ k, 57 ≤ k → k < 68 → k ≠ 59 → k ≠ 60 → k ≠ 61 → M'.1 k = M.1 k := fun k h1 h2 h3 h4 h5 => ha.1 k (by unfold Sm; omega)
  have e2 : ∀ k, 57 ≤ k → k < 68 → M'.2 k = M.2 k := fun k h1 h2 => ha.2 k (by unfold Tm; omega)
  obtain ⟨a1, b1, c, d1, f1, g1, s1⟩ := h
  have pB : ∀ k, vB (uPlate σ x y z) k = vB σ k := fun k => by simp [vB, uPlate]
  have pE : ∀ k, vE (uPlate σ x y z) k = vE σ k := fun k => by simp [vE, uPlate]
  refine ⟨?_, ?_, ?_, ?_, ?_, ?_, ?_⟩
  · rw [h0.1, h0.2.1, h0.2.2.1]; exact ⟨a1.1, a1.2.1, rfl⟩
  · intro k hk
    rw [e 57 (by omega) (by omega) (by omega) (by omega) (by omega), e 58 (by omega) (by omega) (by omega) (by omega) (by omega), pB, pE]; exact b1 k hk
  · intro k hk
    have hk : k < nF σ + 1 := hk
    rw [pB, pE, pE]
    rcases Nat.lt_or_ge k (nF σ) with q | q
    · have p1 : pF1 (uPlate σ x y z) k = pF1 σ k := by simp [pF1, uPlate, show k ≠ nF σ by omega]
      have p2 : pS1 (uPlate σ x y z) k = pS1 σ k := by simp [pS1, uPlate, show k ≠ nF σ by omega]
      rw [p1, p2, (h1 k q).1, (h1 k q).2.1, (h1 k q).2.2]; exact c k q
    · have : k = nF σ := by omega
      subst this
      have p1 : pF1 (uPlate σ x y z) (nF σ) = x := by simp [pF1, uPlate]
      have p2 : pS1 (uPlate σ x y z) (nF σ) = y := by simp [pS1, uPlate]
      rw [p1, p2]; exact h2
  · intro k hk
    have p2 : wT (uPlate σ x y z) k = wT σ k := by simp [wT, uPlate]
    rw [e 64 (by omega) (by omega) (by omega) (by omega) (by omega), e 65 (by omega) (by omega) (by omega) (by omega) (by omega), e2 66 (by omega) (by omega), p2]; exact d1 k hk
  · intro i hi
    have p1 : fD (uPlate σ x y z) i = fD σ i := by simp [fD, uPlate]
    rw [e 62 (by omega) (by omega) (by omega) (by omega) (by omega), e 63 (by omega) (by omega) (by omega) (by omega) (by omega), p1]; exact f1 i hi
  · intro k hk; rw [e2 67 (by omega) (by omega)]; exact g1 k hk
  · rw [h0.2.2.2]; exact s1
theorem WF_plate (h : WF σ) {x y z : Nat} (hF : nF σ < 10) (hx : x < nE σ) (hy : y < nE σ) (hz : z < nE σ) (e1 : vE σ x = vB σ y) (e2 : vB σ z = vB σ x) (e3 : vE σ z = vE σ y) (hn : ∀ k, k < nF σ → ¬ (pF1 σ k = x ∧ pS1 σ k = y)) : WF (uPlate σ x y z) := by
  obtain ⟨a1, b1, c, d1, f1, g1, s1, t1, u1, v1⟩ := h
  have pB : vB (uPlate σ x y z) = vB σ := by funext k; simp [vB, uPlate]
  have pE : vE (uPlate σ x y z) = vE σ := by funext k; simp [vE, uPlate]
  have pL : vL (uPlate σ x y z) = vL σ := by funext k; simp [vL, uPlate]
  have pT : wT (uPlate σ x y z) = wT σ := by funext k; simp [wT, uPlate]
  have pD : fD (uPlate σ x y z) = fD σ := by funext k; simp [fD, uPlate]
  have old : ∀ k, k < nF σ → pF1 (uPlate σ x y z) k = pF1 σ k ∧ pS1 (uPlate σ x y z) k = pS1 σ k ∧ pA1 (uPlate σ x y z) k = pA1 σ k := fun k q => ⟨by simp [pF1, uPlate, show k ≠ nF σ by omega], by simp [pS1, uPlate, show k ≠ nF σ by omega], by simp [pA1, uPlate, show k ≠ nF σ by omega]⟩
  have nw : pF1 (uPlate σ x y z) (nF σ) = x ∧ pS1 (uPlate σ x y z) (nF σ) = y ∧ pA1 (uPlate σ x y z) (nF σ) = z := ⟨by simp [pF1, uPlate], by simp [pS1, uPlate], by simp [pA1, uPlate]⟩
  refine ⟨⟨a1.1, a1.2.1, a1.2.2.1, (by show nF σ + 1 ≤ 10; omega)⟩, ?_, ?_, ?_, ?_, ?_, ?_, ?_, ?_, v1⟩
  · rw [pB, pE]; exact b1
  · rw [pB, pE]; exact c
  · intro k hk
    have hk : k < nF σ + 1 := hk
    rw [pB, pE]
    rcases Nat.lt_or_ge k (nF σ) with q | q
    · rw [(old k q).1, (old k q).2.1, (old k q).2.2]; exact d1 k q
    · have : k = nF σ := by omega
      subst this
      rw [nw.1, nw.2.1, nw.2.2]; exact ⟨hx, hy, hz, e1, e2, e3⟩
  · intro k l hk hl
    have hk : k < nF σ + 1 := hk
    have hl : l < nF σ + 1 := hl
    rcases Nat.lt_or_ge k (nF σ) with q | q
    · rcases Nat.lt_or_ge l (nF σ) with r | r
      · rw [(old k q).1, (old k q).2.1, (old l r).1, (old l r).2.1]; exact f1 k l q r
      · have : l = nF σ := by omega
        subst this
        rw [(old k q).1, (old k q).2.1, nw.1, nw.2.1]
        intro x y; exact absurd ⟨x, y⟩ (hn k q)
    · have : k = nF σ := by omega
      subst this
      rcases Nat.lt_or_ge l (nF σ) with r | r
      · rw [nw.1, nw.2.1, (old l r).1, (old l r).2.1]
        intro x y; exact absurd ⟨x.symm, y.symm⟩ (hn l r)
      · intro _ _; omega
  · rw [pL, pB, pE]; exact g1
  · intro f hf
    have w := s1 f hf
    rw [pD]
    refine ⟨w.1, fun k hk => ⟨(w.2 k hk).1, fun q => (w.2 k hk).2 ?_⟩⟩
    have : sz σ (fD σ f) ≤ sz (uPlate σ x y z) (fD σ f) := by
      unfold sz
      show _ ≤ if _ then nP σ else if _ then nE σ else nF σ + 1
      split
      · exact Nat.le_refl _
      · split
        · first | exact Nat.le_succ _ | exact Nat.le_refl _
        · first | exact Nat.le_succ _ | exact Nat.le_refl _
    omega
  · intro q hq
    rw [pT]; exact t1 q hq
  · intro q hq hp
    rw [pT]; exact u1 q hq hp
theorem RC_net (h : RC σ M) {n : Nat} (h0 : M'.1 1 0 = nI n ∧ M'.1 1 1 = 0 ∧ M'.1 1 2 = 0) (h1 : ∀ q, q < 6 → M'.1 7 q = nI q ∧ M'.1 10 q = 0 ∧ M'.1 11 q = M.1 11 q ∧ M'.2 13 q = 0) (h2 : ∀ f, f < 12 → M'.1 (32 + 2 * f) 0 = 0 ∧ ∀ k, k < 12 → M'.1 (33 + 2 * f) k = 0) (h3 : ∀ k, k < 12 → M'.2 14 k = 0) (h4 : M'.1 12 0 = 0) : RC (uNet σ n) M' := by
  obtain ⟨-, -, -, d1, -, -, -⟩ := h
  refine ⟨?_, ?_, ?_, ?_, ?_, ?_, ?_⟩
  · exact h0
  · intro k hk
    have hk : k < 0 := hk
    omega
  · intro k hk
    have hk : k < 0 := hk
    omega
  · intro q hq
    have := h1 q hq
    rw [this.2.2.1]
    exact ⟨this.1, this.2.1, (d1 q hq).2.2.1, this.2.2.2⟩
  · intro f hf
    have := h2 f hf
    have e : fN (uNet σ n) f = fun _ => 0 := by simp [fN, uNet, hf]
    rw [e]
    exact ⟨this.1, this.2⟩
  · exact h3
  · exact h4
theorem RM_net (h : RM σ M) {n : Nat} (h0 : M'.1 56 0 = nI n ∧ M'.1 56 1 = 0 ∧ M'.1 56 2 = 0) (h1 : ∀ q, q < 6 → M'.1 64 q = 0 ∧ M'.1 65 q = M.1 65 q ∧ M'.2 66 q = 0) (h2 : ∀ f, f < 12 → M'.1 62 f = 0) (h2b : ∀ k, k < 144 → M'.1 63 k = 0) (h3 : ∀ k, k < 12 → M'.2 67 k = 0) (h4 : M'.1 56 14 = 0) : RM (uNet σ n) M' := by
  obtain ⟨-, -, -, d1, -, -, -⟩ := h
  refine ⟨?_, ?_, ?_, ?_, ?_, ?_, ?_⟩
  · exact h0
  · intro k hk
    have hk : k < 0 := hk
    omega
  · intro k hk
    have hk : k < 0 := hk
    omega
  · intro q hq
    have := h1 q hq
    rw [this.2.1]
    exact ⟨this.1, (d1 q hq).2.1, this.2.2⟩
  · intro f hf
    have e : fN (uNet σ n) f = fun _ => 0 := by simp [fN, uNet, hf]
    rw [e]
    exact ⟨h2 f hf, fun k hk => h2b _ (by omega)⟩
  · exact h3
  · exact h4
theorem WF_net (h : WF σ) {n : Nat} (h1 : 1 ≤ n) (h6 : n ≤ 6) : WF (uNet σ n) := by
  obtain ⟨-, -, -, -, -, -, -, t1, -, -⟩ := h
  refine ⟨⟨h1, h6, (by show 0 ≤ 12; omega), (by show 0 ≤ 10; omega)⟩, ?_, ?_, ?_, ?_, ?_, ?_, ?_, ?_, ?_⟩
  · intro k hk
    have hk : k < 0 := hk
    omega
  · intro k l hk
    have hk : k < 0 := hk
    omega
  · intro k hk
    have hk : k < 0 := hk
    omega
  · intro k l hk
    have hk : k < 0 := hk
    omega
  · intro q hq; rfl
  · intro f hf
    have e : fN (uNet σ n) f = fun _ => 0 := by simp [fN, uNet, hf]
    rw [e]
    exact ⟨Nat.zero_le _, fun k hk => ⟨(by show i32le 0 1000000; constructor <;> decide), fun _ => rfl⟩⟩
  · intro q hq
    exact ⟨Nat.zero_le _, (t1 q hq).2⟩
  · intro q hq hp; exact ⟨rfl, rfl⟩
  · intro k hk hp; rfl
end UPD2
