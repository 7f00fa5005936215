/-! the state that class and reference share -/
abbrev Sg : Type := (Nat → Nat → Nat) × (Nat → Nat → Int32) × (Nat → Nat → Int64)
abbrev nP (σ : Sg) : Nat := σ.1 0 0
abbrev nE (σ : Sg) : Nat := σ.1 0 1
abbrev nF (σ : Sg) : Nat := σ.1 0 2
abbrev vB (σ : Sg) : Nat → Nat := σ.1 1
abbrev vE (σ : Sg) : Nat → Nat := σ.1 2
abbrev pF1 (σ : Sg) : Nat → Nat := σ.1 3
abbrev pS1 (σ : Sg) : Nat → Nat := σ.1 4
abbrev pA1 (σ : Sg) : Nat → Nat := σ.1 5
abbrev vL (σ : Sg) : Nat → Nat := σ.1 6
abbrev fD (σ : Sg) : Nat → Nat := σ.1 7
abbrev wT (σ : Sg) : Nat → Nat := σ.1 8
abbrev fN (σ : Sg) : Nat → Nat → Int32 := σ.2.1
abbrev wN (σ : Sg) : Nat → Int32 := σ.2.1 12
abbrev wS (σ : Sg) : Int32 := σ.2.1 13 0
abbrev wL (σ : Sg) : Nat → Int64 := σ.2.2 0
abbrev wF (σ : Sg) : Nat → Int64 := σ.2.2 1
def sz (σ : Sg) (d : Nat) : Nat := if d = 0 then nP σ else if d = 1 then nE σ else nF σ
/-- parts: each point's least, after the first e edges -/
def jn (L : Nat → Nat) (a b : Nat) : Nat → Nat := fun q => if L q = max (L a) (L b) then min (L a) (L b) else L q
def prt (B E : Nat → Nat) : Nat → Nat → Nat
  | 0 => fun q => q
  | e + 1 => jn (prt B E e) (B e) (E e)
def i32le (x : Int32) (n : Int) : Prop := -n ≤ x.toInt ∧ x.toInt ≤ n
def WF (σ : Sg) : Prop :=
  (1 ≤ nP σ ∧ nP σ ≤ 6 ∧ nE σ ≤ 12 ∧ nF σ ≤ 10) ∧
  (∀ k, k < nE σ → vB σ k < vE σ k ∧ vE σ k < nP σ) ∧
  (∀ k l, k < nE σ → l < nE σ → vB σ k = vB σ l → vE σ k = vE σ l → k = l) ∧
  (∀ k, k < nF σ → pF1 σ k < nE σ ∧ pS1 σ k < nE σ ∧ pA1 σ k < nE σ ∧ vE σ (pF1 σ k) = vB σ (pS1 σ k) ∧ vB σ (pA1 σ k) = vB σ (pF1 σ k) ∧ vE σ (pA1 σ k) = vE σ (pS1 σ k)) ∧
  (∀ k l, k < nF σ → l < nF σ → pF1 σ k = pF1 σ l → pS1 σ k = pS1 σ l → k = l) ∧
  (∀ q, q < 6 → vL σ q = prt (vB σ) (vE σ) (nE σ) q) ∧
  (∀ f, f < 12 → fD σ f ≤ 2 ∧ ∀ k, k < 12 → i32le (fN σ f k) 1000000 ∧ (sz σ (fD σ f) ≤ k → fN σ f k = 0)) ∧
  (∀ q, q < 6 → wT σ q ≤ 1 ∧ i32le (wN σ q) 1000) ∧
  (∀ q, q < 6 → nP σ ≤ q → wL σ q = 0 ∧ wT σ q = 0) ∧ (∀ k, k < 12 → nE σ ≤ k → wF σ k = 0)
/-- the class holds σ -/
def RC (σ : Sg) (M : Mem) : Prop :=
  (M.1 1 0 = nI (nP σ) ∧ M.1 1 1 = nI (nE σ) ∧ M.1 1 2 = nI (nF σ)) ∧
  (∀ k, k < nE σ → M.1 2 k = nI (vB σ k) ∧ M.1 3 k = nI (vE σ k)) ∧
  (∀ k, k < nF σ → M.1 4 k = nI (pF1 σ k) ∧ M.1 5 k = nI (pS1 σ k) ∧ M.1 6 k = nI (pA1 σ k)) ∧
  (∀ q, q < 6 → M.1 7 q = nI (vL σ q) ∧ M.1 10 q = nI (wT σ q) ∧ M.1 11 q = wN σ q ∧ M.2 13 q = wL σ q) ∧
  (∀ f, f < 12 → M.1 (32 + 2 * f) 0 = nI (fD σ f) ∧ ∀ k, k < 12 → M.1 (33 + 2 * f) k = fN σ f k) ∧
  (∀ k, k < 12 → M.2 14 k = wF σ k) ∧ M.1 12 0 = wS σ
/-- the reference holds σ -/
def RM (σ : Sg) (M : Mem) : Prop :=
  (M.1 56 0 = nI (nP σ) ∧ M.1 56 1 = nI (nE σ) ∧ M.1 56 2 = nI (nF σ)) ∧
  (∀ k, k < nE σ → M.1 57 k = nI (vB σ k) ∧ M.1 58 k = nI (vE σ k)) ∧
  (∀ k, k < nF σ → M.1 59 k = nI (vB σ (pF1 σ k)) ∧ M.1 60 k = nI (vE σ (pF1 σ k)) ∧ M.1 61 k = nI (vE σ (pS1 σ k))) ∧
  (∀ q, q < 6 → M.1 64 q = nI (wT σ q) ∧ M.1 65 q = wN σ q ∧ M.2 66 q = wL σ q) ∧
  (∀ f, f < 12 → M.1 62 f = nI (fD σ f) ∧ ∀ k, k < 12 → M.1 63 (12 * f + k) = fN σ f k) ∧
  (∀ k, k < 12 → M.2 67 k = wF σ k) ∧ M.1 56 14 = wS σ
/-- memory is as it was, but ints of the cells S and longs of the cells T -/
def Ag (S T : Nat → Prop) (M M' : Mem) : Prop := (∀ k, ¬ S k → M'.1 k = M.1 k) ∧ ∀ k, ¬ T k → M'.2 k = M.2 k
theorem Ag.rf {S T : Nat → Prop} {M : Mem} : Ag S T M M := ⟨fun _ _ => rfl, fun _ _ => rfl⟩
theorem Ag.trans {S T : Nat → Prop} {A B C : Mem} (h1 : Ag S T A B) (h2 : Ag S T B C) : Ag S T A C := ⟨fun k hk => (h2.1 k hk).trans (h1.1 k hk), fun k hk => (h2.2 k hk).trans (h1.2 k hk)⟩
theorem Ag.mono {S T S2 T2 : Nat → Prop} {A B : Mem} (h1 : Ag S T A B) (h : ∀ k, S k → S2 k) (h2 : ∀ k, T k → T2 k) : Ag S2 T2 A B := ⟨fun k hk => h1.1 k (fun q => hk (h k q)), fun k hk => h1.2 k (fun q => hk (h2 k q))⟩
theorem wI_1 (M : Mem) (k i : Nat) (x : Int32) (k' j : Nat) : (wI M k i x).1 k' j = if k' = k then (if j = i then x else M.1 k j) else M.1 k' j := by
  by_cases h : k' = k
  · subst h; simp [wI, va_up, upd]
  · simp [wI, va_up, h]
theorem wI_2 (M : Mem) (k i : Nat) (x : Int32) : (wI M k i x).2 = M.2 := rfl
theorem wJ_1 (M : Mem) (k i : Nat) (x : Int64) : (wJ M k i x).1 = M.1 := rfl
theorem wJ_2 (M : Mem) (k i : Nat) (x : Int64) (k' j : Nat) : (wJ M k i x).2 k' j = if k' = k then (if j = i then x else M.2 k j) else M.2 k' j := by
  by_cases h : k' = k
  · subst h; simp [wJ, va_up, vp_updL]
  · simp [wJ, va_up, h]
theorem agI {S T : Nat → Prop} {A : Mem} {k i : Nat} {x : Int32} (h : S k) : Ag S T A (wI A k i x) := ⟨fun j hj => by
  have h1 : j ≠ k := fun q => hj (q ▸ h)
  funext q; rw [wI_1, if_neg h1], fun _ _ => rfl⟩
theorem agJ {S T : Nat → Prop} {A : Mem} {k i : Nat} {x : Int64} (h : T k) : Ag S T A (wJ A k i x) := ⟨fun _ _ => rfl, fun j hj => by
  have h1 : j ≠ k := fun q => hj (q ▸ h)
  funext q; rw [wJ_2, if_neg h1]⟩
/-- the class's cells for work alone, and the reference's -/
def Sc (k : Nat) : Prop := (15 ≤ k ∧ k < 32) ∨ 56 ≤ k
def Sm (k : Nat) : Prop := k < 56 ∨ 68 ≤ k
def Tm (k : Nat) : Prop := k < 57 ∨ 68 ≤ k
theorem RC.ag {σ : Sg} {M M' : Mem} (h : RC σ M) (a : Ag Sc Sc M M') : RC σ M' := by
  have e : ∀ k, k < 15 ∨ (32 ≤ k ∧ k < 56) → M'.1 k = M.1 k ∧ M'.2 k = M.2 k := fun k hk => ⟨a.1 k (by unfold Sc; omega), a.2 k (by unfold Sc; omega)⟩
  obtain ⟨⟨a1, a2, a3⟩, b, c, d, f, g, s⟩ := h
  refine ⟨?_, ?_, ?_, ?_, ?_, ?_, ?_⟩
  · rw [(e 1 (by omega)).1]; exact ⟨a1, a2, a3⟩
  · intro k hk; rw [(e 2 (by omega)).1, (e 3 (by omega)).1]; exact b k hk
  · intro k hk; rw [(e 4 (by omega)).1, (e 5 (by omega)).1, (e 6 (by omega)).1]; exact c k hk
  · intro k hk; rw [(e 7 (by omega)).1, (e 10 (by omega)).1, (e 11 (by omega)).1, (e 13 (by omega)).2]; exact d k hk
  · intro k hk; rw [(e (32 + 2 * k) (by omega)).1, (e (33 + 2 * k) (by omega)).1]; exact f k hk
  · intro k hk; rw [(e 14 (by omega)).2]; exact g k hk
  · rw [(e 12 (by omega)).1]; exact s
theorem RM.ag {σ : Sg} {M M' : Mem} (h : RM σ M) (a : Ag Sm Tm M M') : RM σ M' := by
  have e : ∀ k, 56 ≤ k → k < 68 → M'.1 k = M.1 k := fun k h1 h2 => a.1 k (by unfold Sm; omega)
  have e2 : ∀ k, 57 ≤ k → k < 68 → M'.2 k = M.2 k := fun k h1 h2 => a.2 k (by unfold Tm; omega)
  obtain ⟨⟨a1, a2, a3⟩, b, c, d, f, g, s⟩ := h
  refine ⟨?_, ?_, ?_, ?_, ?_, ?_, ?_⟩
  · rw [e 56 (by omega) (by omega)]; exact ⟨a1, a2, a3⟩
  · intro k hk; rw [e 57 (by omega) (by omega), e 58 (by omega) (by omega)]; exact b k hk
  · intro k hk; rw [e 59 (by omega) (by omega), e 60 (by omega) (by omega), e 61 (by omega) (by omega)]; exact c k hk
  · intro k hk; rw [e 64 (by omega) (by omega), e 65 (by omega) (by omega), e2 66 (by omega) (by omega)]; exact d k hk
  · intro k hk; rw [e 62 (by omega) (by omega), e 63 (by omega) (by omega)]; exact f k hk
  · intro k hk; rw [e2 67 (by omega) (by omega)]; exact g k hk
  · rw [e 56 (by omega) (by omega)]; exact s
