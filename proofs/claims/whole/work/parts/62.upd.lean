/-! how the state changes, and what then holds of class and reference -/
def uForm (σ : Sg) (f d : Nat) (g : Nat → Int32) : Sg := (fun i j => if i = 7 ∧ j = f then d else σ.1 i j, fun i => if i = f then g else σ.2.1 i, σ.2.2)
def uWall (σ : Sg) (T : Nat → Nat) (N : Nat → Int32) : Sg := (fun i => if i = 8 then T else σ.1 i, fun i => if i = 12 then N else σ.2.1 i, σ.2.2)
def uWave (σ : Sg) (st : Int32) (L F : Nat → Int64) : Sg := (σ.1, fun i => if i = 13 then (fun _ => st) else σ.2.1 i, fun i => if i = 0 then L else if i = 1 then F else σ.2.2 i)
def uEdge (σ : Sg) (a b : Nat) : Sg := (fun i j => if i = 0 ∧ j = 1 then nE σ + 1 else if i = 1 ∧ j = nE σ then a else if i = 2 ∧ j = nE σ then b else if i = 6 then jn (vL σ) a b j else σ.1 i j, σ.2)
def uPlate (σ : Sg) (x y z : Nat) : Sg := (fun i j => if i = 0 ∧ j = 2 then nF σ + 1 else if i = 3 ∧ j = nF σ then x else if i = 4 ∧ j = nF σ then y else if i = 5 ∧ j = nF σ then z else σ.1 i j, σ.2)
/-- a net of n points and nothing else; the walls' numbers stay (nobody reads them) -/
def uNet (σ : Sg) (n : Nat) : Sg := (fun i j => if i = 0 then (if j = 0 then n else 0) else if i = 6 then j else if i = 7 then 0 else if i = 8 then 0 else σ.1 i j, fun i => if i < 12 then (fun _ => 0) else if i = 13 then (fun _ => 0) else σ.2.1 i, fun _ _ => 0)
section UPD
variable {σ : Sg} {M M' : Mem}
theorem RC_form (h : RC σ M) {f d : Nat} {g : Nat → Int32} (hf : f < 12) (a : Ag (fun k => k = 32 + 2 * f ∨ k = 33 + 2 * f ∨ Sc k) Sc M M') (h1 : M'.1 (32 + 2 * f) 0 = nI d) (h2 : ∀ k, k < 12 → M'.1 (33 + 2 * f) k = g k) : RC (uForm σ f d g) M' := by
  have e : ∀ k, k < 15 ∨ (32 ≤ k ∧ k < 56 ∧ k ≠ 32 + 2 * f ∧ k ≠ 33 + 2 * f) → M'.1 k = M.1 k := fun k hk => a.1 k (by unfold Sc; omega)
  have e2 : ∀ k, k < 15 → M'.2 k = M.2 k := fun k hk => a.2 k (by unfold Sc; omega)
  obtain ⟨a1, b, c, d1, f1, g1, s1⟩ := h
  refine ⟨?_, ?_, ?_, ?_, ?_, ?_, ?_⟩
  · rw [e 1 (by omega)]; exact a1
  · intro k hk; rw [e 2 (by omega), e 3 (by omega)]; exact b k hk
  · intro k hk; rw [e 4 (by omega), e 5 (by omega), e 6 (by omega)]; exact c k hk
  · intro k hk
    have hw : wN (uForm σ f d g) = wN σ := by simp only [wN, uForm]; rw [if_neg (by omega)]
    rw [e 7 (by omega), e 10 (by omega), e 11 (by omega), e2 13 (by omega), hw]; exact d1 k hk
  · intro i hi
    by_cases q : i = f
    · subst q
      simp only [fD, fN, uForm, and_self, if_true]
      exact ⟨h1, h2⟩
    · simp only [fD, fN, uForm, q, and_false, if_false]
      rw [e (32 + 2 * i) (by omega), e (33 + 2 * i) (by omega)]
      exact f1 i hi
  · intro k hk; rw [e2 14 (by omega)]; exact g1 k hk
  · have hw : wS (uForm σ f d g) = wS σ := by simp only [wS, uForm]; rw [if_neg (by omega)]
    rw [e 12 (by omega), hw]; exact s1
theorem RM_form (h : RM σ M) {f d : Nat} {g : Nat → Int32} (hf : f < 12) (a : Ag (fun k => k = 62 ∨ k = 63 ∨ Sm k) Tm M M') (h1 : ∀ i, i < 12 → M'.1 62 i = if i = f then nI d else M.1 62 i) (h2 : ∀ i, i < 144 → M'.1 63 i = if 12 * f ≤ i ∧ i < 12 * f + 12 then g (i - 12 * f) else M.1 63 i) : RM (uForm σ f d g) M' := by
  have e : ∀ k, 56 ≤ k → k < 68 → k ≠ 62 → k ≠ 63 → M'.1 k = M.1 k := fun k h1 h2 h3 h4 => a.1 k (by unfold Sm; omega)
  have e2 : ∀ k, 57 ≤ k → k < 68 → M'.2 k = M.2 k := fun k h1 h2 => a.2 k (by unfold Tm; omega)
  obtain ⟨a1, b, c, d1, f1, g1, s1⟩ := h
  refine ⟨?_, ?_, ?_, ?_, ?_, ?_, ?_⟩
  · rw [e 56 (by omega) (by omega) (by omega) (by omega)]; exact a1
  · intro k hk; rw [e 57 (by omega) (by omega) (by omega) (by omega), e 58 (by omega) (by omega) (by omega) (by omega)]; exact b k hk
  · intro k hk; rw [e 59 (by omega) (by omega) (by omega) (by omega), e 60 (by omega) (by omega) (by omega) (by omega), e 61 (by omega) (by omega) (by omega) (by omega)]; exact c k hk
  · intro k hk
    have hw : wN (uForm σ f d g) = wN σ := by simp only [wN, uForm]; rw [if_neg (by omega)]
    rw [e 64 (by omega) (by omega) (by omega) (by omega), e 65 (by omega) (by omega) (by omega) (by omega), e2 66 (by omega) (by omega), hw]; exact d1 k hk
  · intro i hi
    by_cases q : i = f
    · subst q
      simp only [fD, fN, uForm, and_self, if_true]
      refine ⟨by rw [h1 i hi, if_pos rfl], fun k hk => ?_⟩
      rw [h2 _ (by omega), if_pos (by omega), show 12 * i + k - 12 * i = k by omega]
    · simp only [fD, fN, uForm, q, and_false, if_false]
      have f2 := f1 i hi
      refine ⟨by rw [h1 i hi, if_neg q]; exact f2.1, fun k hk => ?_⟩
      rw [h2 _ (by omega), if_neg (by omega)]
      exact f2.2 k hk
  · intro k hk; rw [e2 67 (by omega) (by omega)]; exact g1 k hk
  · have hw : wS (uForm σ f d g) = wS σ := by simp only [wS, uForm]; rw [if_neg (by omega)]
    rw [e 56 (by omega) (by omega) (by omega) (by omega), hw]; exact s1
theorem WF_form (h : WF σ) {f d : Nat} {g : Nat → Int32} (hf : f < 12) (hd : d ≤ 2) (hg : ∀ k, k < 12 → i32le (g k) 1000000 ∧ (sz σ d ≤ k → g k = 0)) : WF (uForm σ f d g) := by
  obtain ⟨a1, b, c, d1, f1, g1, s1, t1, u1, v1⟩ := h
  have hz : ∀ q, sz (uForm σ f d g) q = sz σ q := fun q => rfl
  refine ⟨a1, b, c, d1, f1, g1, ?_, ?_, u1, v1⟩
  · intro i hi
    by_cases q : i = f
    · subst q
      simp only [fD, fN, uForm, and_self, if_true]
      exact ⟨hd, hg⟩
    · have e1 : fD (uForm σ f d g) i = fD σ i := by simp only [fD, uForm, q, and_false, if_false]
      have e2 : fN (uForm σ f d g) i = fN σ i := by simp only [fN, uForm, q, if_false]
      rw [e1, e2]
      exact s1 i hi
  · intro q hq
    have hw : wN (uForm σ f d g) = wN σ := by simp only [wN, uForm]; rw [if_neg (by omega)]
    rw [hw]
    exact t1 q hq
theorem RC_wall (h : RC σ M) {T : Nat → Nat} {N : Nat → Int32} (a : Ag (fun k => k = 10 ∨ k = 11 ∨ Sc k) Sc M M') (h1 : ∀ q, q < 6 → M'.1 10 q = nI (T q) ∧ M'.1 11 q = N q) : RC (uWall σ T N) M' := by
  have e : ∀ k, (k < 15 ∧ k ≠ 10 ∧ k ≠ 11) ∨ (32 ≤ k ∧ k < 56) → M'.1 k = M.1 k := fun k hk => a.1 k (by unfold Sc; omega)
  have e2 : ∀ k, k < 15 → M'.2 k = M.2 k := fun k hk => a.2 k (by unfold Sc; omega)
  obtain ⟨a1, b, c, d1, f1, g1, s1⟩ := h
  refine ⟨?_, ?_, ?_, ?_, ?_, ?_, ?_⟩
  · rw [e 1 (by omega)]; exact a1
  · intro k hk; rw [e 2 (by omega), e 3 (by omega)]; exact b k hk
  · intro k hk; rw [e 4 (by omega), e 5 (by omega), e 6 (by omega)]; exact c k hk
  · intro k hk
    rw [e 7 (by omega), e2 13 (by omega)]
    exact ⟨(d1 k hk).1, (h1 k hk).1, (h1 k hk).2, (d1 k hk).2.2.2⟩
  · intro i hi
    have hw : fN (uWall σ T N) i = fN σ i := by simp only [fN, uWall]; rw [if_neg (by omega)]
    rw [e (32 + 2 * i) (by omega), e (33 + 2 * i) (by omega), hw]
    exact f1 i hi
  · intro k hk; rw [e2 14 (by omega)]; exact g1 k hk
  · rw [e 12 (by omega)]; exact s1
theorem RM_wall (h : RM σ M) {T : Nat → Nat} {N : Nat → Int32} (a : Ag (fun k => k = 64 ∨ k = 65 ∨ Sm k) Tm M M') (h1 : ∀ q, q < 6 → M'.1 64 q = nI (T q) ∧ M'.1 65 q = N q) : RM (uWall σ T N) M' := by
  have e : ∀ k, 56 ≤ k → k < 68 → k ≠ 64 → k ≠ 65 → M'.1 k = M.1 k := fun k h1 h2 h3 h4 => a.1 k (by unfold Sm; omega)
  have e2 : ∀ k, 57 ≤ k → k < 68 → M'.2 k = M.2 k := fun k h1 h2 => a.2 k (by unfold Tm; omega)
  obtain ⟨a1, b, c, d1, f1, g1, s1⟩ := h
  refine ⟨?_, ?_, ?_, ?_, ?_, ?_, ?_⟩
  · rw [e 56 (by omega) (by omega) (by omega) (by omega)]; exact a1
  · intro k hk; rw [e 57 (by omega) (by omega) (by omega) (by omega), e 58 (by omega) (by omega) (by omega) (by omega)]; exact b k hk
  · intro k hk; rw [e 59 (by omega) (by omega) (by omega) (by omega), e 60 (by omega) (by omega) (by omega) (by omega), e 61 (by omega) (by omega) (by omega) (by omega)]; exact c k hk
  · intro k hk
    rw [e2 66 (by omega) (by omega)]
    exact ⟨(h1 k hk).1, (h1 k hk).2, (d1 k hk).2.2⟩
  · intro i hi
    have hw : fN (uWall σ T N) i = fN σ i := by simp only [fN, uWall]; rw [if_neg (by omega)]
    rw [e 62 (by omega) (by omega) (by omega) (by omega), e 63 (by omega) (by omega) (by omega) (by omega), hw]
    exact f1 i hi
  · intro k hk; rw [e2 67 (by omega) (by omega)]; exact g1 k hk
  · rw [e 56 (by omega) (by omega) (by omega) (by omega)]; exact s1
theorem WF_wall (h : WF σ) {T : Nat → Nat} {N : Nat → Int32} (h1 : ∀ q, q < 6 → T q ≤ 1 ∧ i32le (N q) 1000 ∧ (nP σ ≤ q → T q = 0)) : WF (uWall σ T N) := by
  obtain ⟨a1, b, c, d1, f1, g1, s1, t1, u1, v1⟩ := h
  refine ⟨a1, b, c, d1, f1, g1, ?_, fun q hq => ⟨(h1 q hq).1, (h1 q hq).2.1⟩, fun q hq hp => ⟨(u1 q hq hp).1, (h1 q hq).2.2 hp⟩, v1⟩
  intro i hi
  have hw : fN (uWall σ T N) i = fN σ i := by simp only [fN, uWall]; rw [if_neg (by omega)]
  rw [hw]
  exact s1 i hi
theorem RC_wave (h : RC σ M) {st : Int32} {L F : Nat → Int64} (a : Ag (fun k => k = 12 ∨ Sc k) (fun k => k = 13 ∨ k = 14 ∨ Sc k) M M') (h0 : M'.1 12 0 = st) (h1 : ∀ q, q < 6 → M'.2 13 q = L q) (h2 : ∀ k, k < 12 → M'.2 14 k = F k) : RC (uWave σ st L F) M' := by
  have e : ∀ k, (k < 15 ∧ k ≠ 12) ∨ (32 ≤ k ∧ k < 56) → M'.1 k = M.1 k := fun k hk => a.1 k (by unfold Sc; omega)
  obtain ⟨a1, b, c, d1, f1, g1, s1⟩ := h
  refine ⟨?_, ?_, ?_, ?_, ?_, ?_, ?_⟩
  · rw [e 1 (by omega)]; exact a1
  · intro k hk; rw [e 2 (by omega), e 3 (by omega)]; exact b k hk
  · intro k hk; rw [e 4 (by omega), e 5 (by omega), e 6 (by omega)]; exact c k hk
  · intro k hk
    have hw : wN (uWave σ st L F) = wN σ := by simp only [wN, uWave]; rw [if_neg (by omega)]
    rw [e 7 (by omega), e 10 (by omega), e 11 (by omega), hw]
    exact ⟨(d1 k hk).1, (d1 k hk).2.1, (d1 k hk).2.2.1, h1 k hk⟩
  · intro i hi
    have hw : fN (uWave σ st L F) i = fN σ i := by simp only [fN, uWave]; rw [if_neg (by omega)]
    rw [e (32 + 2 * i) (by omega), e (33 + 2 * i) (by omega), hw]
    exact f1 i hi
  · intro k hk; exact h2 k hk
  · exact h0
theorem RM_wave (h : RM σ M) {st : Int32} {L F : Nat → Int64} (a : Ag (fun k => k = 56 ∨ Sm k) (fun k => k = 66 ∨ k = 67 ∨ Tm k) M M') (h00 : ∀ j, j < 3 → M'.1 56 j = M.1 56 j) (h0 : M'.1 56 14 = st) (h1 : ∀ q, q < 6 → M'.2 66 q = L q) (h2 : ∀ k, k < 12 → M'.2 67 k = F k) : RM (uWave σ st L F) M' := by
  have e : ∀ k, 57 ≤ k → k < 68 → M'.1 k = M.1 k := fun k h1 h2 => a.1 k (by unfold Sm; omega)
  obtain ⟨a1, b, c, d1, f1, g1, s1⟩ := h
  refine ⟨?_, ?_, ?_, ?_, ?_, ?_, ?_⟩
  · rw [h00 0 (by omega), h00 1 (by omega), h00 2 (by omega)]; exact a1
  · intro k hk; rw [e 57 (by omega) (by omega), e 58 (by omega) (by omega)]; exact b k hk
  · intro k hk; rw [e 59 (by omega) (by omega), e 60 (by omega) (by omega), e 61 (by omega) (by omega)]; exact c k hk
  · intro k hk
    have hw : wN (uWave σ st L F) = wN σ := by simp only [wN, uWave]; rw [if_neg (by omega)]
    rw [e 64 (by omega) (by omega), e 65 (by omega) (by omega), hw]
    exact ⟨(d1 k hk).1, (d1 k hk).2.1, h1 k hk⟩
  · intro i hi
    have hw : fN (uWave σ st L F) i = fN σ i := by simp only [fN, uWave]; rw [if_neg (by omega)]
    rw [e 62 (by omega) (by omega), e 63 (by omega) (by omega), hw]
    exact f1 i hi
  · intro k hk; exact h2 k hk
  · exact h0
theorem WF_wave (h : WF σ) {st : Int32} {L F : Nat → Int64} (h1 : ∀ q, q < 6 → nP σ ≤ q → L q = 0) (h2 : ∀ k, k < 12 → nE σ ≤ k → F k = 0) : WF (uWave σ st L F) := by
  obtain ⟨a1, b, c, d1, f1, g1, s1, t1, u1, v1⟩ := h
  refine ⟨a1, b, c, d1, f1, g1, ?_, ?_, fun q hq hp => ⟨h1 q hq hp, (u1 q hq hp).2⟩, h2⟩
  · intro i hi
    have hw : fN (uWave σ st L F) i = fN σ i := by simp only [fN, uWave]; rw [if_neg (by omega)]
    rw [hw]
    exact s1 i hi
  · intro q hq
    have hw : wN (uWave σ st L F) = wN σ := by simp only [wN, uWave]; rw [if_neg (by omega)]
    rw [hw]
    exact t1 q hq
end UPD
