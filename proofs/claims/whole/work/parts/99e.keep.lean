/-! what is well-formed stays so -/
theorem fE_of {B E : Nat → Nat} {i j k : Nat} : ∀ {n : Nat}, fE B E i j n = some k → k < n ∧ B k = i ∧ E k = j := by
  intro n
  induction n with
  | zero => intro h; cases h
  | succ n ih =>
    intro h
    unfold fE at h
    by_cases z : B n = i ∧ E n = j
    · rw [if_pos z] at h; cases h; exact ⟨by omega, z⟩
    · rw [if_neg z] at h
      have := ih h
      exact ⟨by omega, this.2⟩
section KEEP
variable {σ : Sg}
theorem tn_of {x : Int32} {n : Nat} (h : vp_in x n) (hn : n < 200) : tn x < n ∧ x = nI (tn x) := by
  obtain ⟨j, hj, rfl⟩ := vp_in_of h (by omega)
  rw [tnI (by omega)]; exact ⟨hj, rfl⟩
theorem k_put (hW : WF σ) {g d : Nat} (hg : g < 12) (hd : d ≤ 2) (mk : Nat → Int64) : WF (put σ g d mk).2 := by
  unfold put
  by_cases z : ∀ k, k < sz σ d → w64 (mk k) 1000000
  · rw [cif_pos z]
    refine WF_form hW hg hd (fun k _ => ⟨?_, fun h => by rw [if_neg (by omega)]⟩)
    by_cases y : k < sz σ d
    · rw [if_pos y]; unfold i32le; rw [toI32 (z k y)]; exact z k y
    · rw [if_neg y]; exact ⟨by decide, by decide⟩
  · rw [cif_neg z]; exact hW
theorem k_net (hW : WF σ) (a : Int32) : WF (op_net σ a).2 := by
  unfold op_net
  by_cases z : ¬ a < 1 ∧ a ≤ 6
  · rw [cif_pos z]
    have h1 := z.1
    have h2 := z.2
    rw [Int32.lt_iff_toInt_lt] at h1
    rw [Int32.le_iff_toInt_le] at h2
    have e1 : (1 : Int32).toInt = 1 := rfl
    have e6 : (6 : Int32).toInt = 6 := rfl
    have v : vp_in a 7 := vin_i.mpr (by omega)
    have t := tn_of v (by omega)
    have e : a.toInt = tn a := by
      have := congrArg Int32.toInt t.2
      rw [nI_toInt (by omega)] at this; exact this
    exact WF_net hW (by omega) (by omega)
  · rw [cif_neg z]; exact hW
theorem k_edge (hW : WF σ) (a b : Int32) : WF (op_edge σ a b).2 := by
  have hP := hW.1
  unfold op_edge
  by_cases z : vp_in a (nP σ) ∧ vp_in b (nP σ) ∧ a < b
  · rw [cif_pos z]
    by_cases y : ∃ k, k < nE σ ∧ vB σ k = tn a ∧ vE σ k = tn b
    · rw [cif_pos y]; exact hW
    · rw [cif_neg y]
      by_cases x : nE σ < 12
      · rw [cif_pos x]
        have t1 := tn_of z.1 (by omega)
        have t2 := tn_of z.2.1 (by omega)
        have lt := z.2.2
        rw [t1.2, t2.2, Int32.lt_iff_toInt_lt, nI_toInt (by omega), nI_toInt (by omega)] at lt
        exact WF_edge hW (by omega) t2.1 x (fun k hk q => y ⟨k, hk, q⟩)
      · rw [cif_neg x]; exact hW
  · rw [cif_neg z]; exact hW
theorem k_face (hW : WF σ) (a b c : Int32) : WF (op_face σ a b c).2 := by
  have hP := hW.1
  unfold op_face
  by_cases z : vp_in a (nP σ) ∧ vp_in b (nP σ) ∧ vp_in c (nP σ) ∧ a < b ∧ b < c
  · rw [cif_pos z]
    split
    · rename_i x y w h1 h2 h3
      by_cases y1 : ∃ k, k < nF σ ∧ pF1 σ k = x ∧ pS1 σ k = y
      · rw [cif_pos y1]; exact hW
      · rw [cif_neg y1]
        by_cases y2 : nF σ < 10
        · rw [cif_pos y2]
          have f1 := fE_of h1
          have f2 := fE_of h2
          have f3 := fE_of h3
          exact WF_plate hW y2 f1.1 f2.1 f3.1 (by omega) (by omega) (by omega) (fun k hk q => y1 ⟨k, hk, q⟩)
        · rw [cif_neg y2]; exact hW
    · exact hW
  · rw [cif_neg z]; exact hW
theorem k_corner (hW : WF σ) (d k i : Int32) : WF (op_corner σ d k i).2 := by
  unfold op_corner
  by_cases z : (d = 1 ∧ vp_in k (nE σ)) ∨ (d = 2 ∧ vp_in k (nF σ))
  · rw [cif_pos z]
    by_cases y : vp_in i (tn d + 1)
    · rw [cif_pos y]; exact hW
    · rw [cif_neg y]; exact hW
  · rw [cif_neg z]; exact hW
theorem k_form (hW : WF σ) (f d : Int32) : WF (op_form σ f d).2 := by
  unfold op_form
  by_cases z : vp_in f 12 ∧ vp_in d 3
  · rw [cif_pos z]
    have t1 := tn_of z.1 (by decide)
    have t2 := tn_of z.2 (by decide)
    exact WF_form hW t1.1 (by omega) (fun k _ => ⟨⟨by decide, by decide⟩, fun _ => rfl⟩)
  · rw [cif_neg z]; exact hW
theorem k_set (hW : WF σ) (f k v : Int32) : WF (op_set σ f k v).2 := by
  unfold op_set
  by_cases z : vp_in f 12 ∧ vp_in k (sz σ (fD σ (tn f))) ∧ i32le v 1000000
  · rw [cif_pos z]
    have t1 := tn_of z.1 (by decide)
    have hf := hW.2.2.2.2.2.2.1 (tn f) t1.1
    have hz := hW.sz (fD σ (tn f))
    have t2 := tn_of z.2.1 (by omega)
    refine WF_form hW t1.1 hf.1 (fun j hj => ⟨?_, fun h => ?_⟩)
    · by_cases y : j = tn k
      · rw [if_pos y]; exact z.2.2
      · rw [if_neg y]; exact (hf.2 j hj).1
    · rw [if_neg (by omega)]; exact (hf.2 j hj).2 h
  · rw [cif_neg z]; exact hW
theorem k_get (hW : WF σ) (f k : Int32) : WF (op_get σ f k).2 := by
  unfold op_get
  by_cases z : vp_in f 12 ∧ vp_in k (sz σ (fD σ (tn f)))
  · rw [cif_pos z]; exact hW
  · rw [cif_neg z]; exact hW
theorem k_slope (hW : WF σ) (f g : Int32) : WF (op_slope σ f g).2 := by
  unfold op_slope
  by_cases z : vp_in f 12 ∧ vp_in g 12
  · rw [cif_pos z]
    have t1 := tn_of z.1 (by decide)
    have t2 := tn_of z.2 (by decide)
    have hf := hW.2.2.2.2.2.2.1 (tn f) t1.1
    by_cases y : fD σ (tn f) = 2
    · rw [cif_pos y]; exact hW
    · rw [cif_neg y]; exact k_put hW t2.1 (by omega) _
  · rw [cif_neg z]; exact hW
theorem k_rim (hW : WF σ) (f g : Int32) : WF (op_rim σ f g).2 := by
  unfold op_rim
  by_cases z : vp_in f 12 ∧ vp_in g 12
  · rw [cif_pos z]
    have t1 := tn_of z.1 (by decide)
    have t2 := tn_of z.2 (by decide)
    have hf := hW.2.2.2.2.2.2.1 (tn f) t1.1
    by_cases y : fD σ (tn f) = 0
    · rw [cif_pos y]; exact hW
    · rw [cif_neg y]; exact k_put hW t2.1 (by omega) _
  · rw [cif_neg z]; exact hW
theorem k_cup (hW : WF σ) (f g t : Int32) : WF (op_cup σ f g t).2 := by
  unfold op_cup
  by_cases z : vp_in f 12 ∧ vp_in g 12 ∧ vp_in t 12
  · rw [cif_pos z]
    have t3 := tn_of z.2.2 (by decide)
    by_cases y : fD σ (tn f) + fD σ (tn g) ≤ 2
    · rw [cif_pos y]; exact k_put hW t3.1 y _
    · rw [cif_neg y]; exact hW
  · rw [cif_neg z]; exact hW
theorem k_mix (hW : WF σ) (f p g q t : Int32) : WF (op_mix σ f p g q t).2 := by
  unfold op_mix
  by_cases z : vp_in f 12 ∧ vp_in g 12 ∧ vp_in t 12 ∧ i32le p 1000 ∧ i32le q 1000
  · rw [cif_pos z]
    have t1 := tn_of z.1 (by decide)
    have t3 := tn_of z.2.2.1 (by decide)
    have hf := hW.2.2.2.2.2.2.1 (tn f) t1.1
    by_cases y : fD σ (tn f) = fD σ (tn g)
    · rw [cif_pos y]; exact k_put hW t3.1 hf.1 _
    · rw [cif_neg y]; exact hW
  · rw [cif_neg z]; exact hW
theorem k_potential (hW : WF σ) (f g : Int32) : WF (op_potential σ f g).2 := by
  unfold op_potential
  by_cases z : vp_in f 12 ∧ vp_in g 12
  · rw [cif_pos z]
    have t2 := tn_of z.2 (by decide)
    by_cases y : fD σ (tn f) = 1
    · rw [cif_pos y]
      by_cases x : fB σ (tn f) (nE σ) = none
      · rw [cif_pos x]; exact k_put hW t2.1 (by decide) _
      · rw [cif_neg x]; exact hW
    · rw [cif_neg y]; exact hW
  · rw [cif_neg z]; exact hW
theorem k_split (hW : WF σ) (f p e w : Int32) : WF (op_split σ f p e w).2 := by
  unfold op_split
  by_cases z : vp_in f 12 ∧ vp_in p 3 ∧ vp_in e (nE σ) ∧ vp_in w 2 ∧ fD σ (tn f) = 1
  · rw [cif_pos z]
    by_cases y : ∀ k, k < 12 → i32le (fN σ (tn f) k) 1000
    · rw [cif_pos y]; exact hW
    · rw [cif_neg y]; exact hW
  · rw [cif_neg z]; exact hW
theorem k_wall (hW : WF σ) (p v : Int32) : WF (op_wall σ p v).2 := by
  have hP := hW.1
  unfold op_wall
  by_cases z : vp_in p (nP σ) ∧ i32le v 1000
  · rw [cif_pos z]
    have t1 := tn_of z.1 (by omega)
    refine WF_wall hW (fun q hq => ?_)
    have h1 := hW.2.2.2.2.2.2.2.1 q hq
    have h2 := hW.2.2.2.2.2.2.2.2.1 q hq
    by_cases y : q = tn p
    · rw [if_pos y, if_pos y]; exact ⟨by decide, z.2, fun h => by omega⟩
    · rw [if_neg y, if_neg y]; exact ⟨h1.1, h1.2, fun h => (h2 h).2⟩
  · rw [cif_neg z]; exact hW
theorem k_open (hW : WF σ) (p : Int32) : WF (op_open σ p).2 := by
  unfold op_open
  by_cases z : vp_in p (nP σ)
  · rw [cif_pos z]
    by_cases x : wT σ (tn p) = 0
    · rw [cif_pos x]; exact hW
    · rw [cif_neg x]
      refine WF_wall hW (fun q hq => ?_)
      have h1 := hW.2.2.2.2.2.2.2.1 q hq
      have h2 := hW.2.2.2.2.2.2.2.2.1 q hq
      by_cases y : q = tn p
      · rw [if_pos y]; exact ⟨by decide, h1.2, fun _ => rfl⟩
      · rw [if_neg y]; exact ⟨h1.1, h1.2, fun h => (h2 h).2⟩
  · rw [cif_neg z]; exact hW
theorem k_raise (hW : WF σ) (f : Int32) : WF (op_raise σ f).2 := by
  unfold op_raise
  by_cases z : vp_in f 12
  · rw [cif_pos z]
    by_cases y : fD σ (tn f) = 2
    · rw [cif_pos y]; exact hW
    · rw [cif_neg y]
      exact WF_wave hW (fun q _ h => by rw [if_neg (by omega)]) (fun k _ h => by rw [if_neg (by omega)])
  · rw [cif_neg z]; exact hW
theorem rsF_z (hW : WF σ) {w : Int64} {F L : Nat → Int64} {q : Nat} (hq : nP σ ≤ q) : ∀ n, n ≤ nE σ → rsF σ w F n L q = L q := by
  intro n
  induction n with
  | zero => intro _; rfl
  | succ n ih =>
    intro h
    have hb := hW.2.1 n (by omega)
    unfold rsF
    rw [if_neg (by omega), if_neg (by omega)]
    exact ih (by omega)
theorem stF_z (hW : WF σ) {b : Bool} {s : (Nat → Int64) × (Nat → Int64)} : (∀ q, nP σ ≤ q → (stF σ b s).1 q = s.1 q) ∧ ∀ k, nE σ ≤ k → (stF σ b s).2 k = s.2 k := by
  cases b with
  | true =>
    constructor
    · intro q hq; show rsF σ (-1) s.2 (nE σ) s.1 q = _; exact rsF_z hW hq _ (Nat.le_refl _)
    · intro k hk; show (if k < nE σ then _ else s.2 k) = _; rw [if_neg (by omega)]
  | false =>
    constructor
    · intro q hq; show rsF σ 1 _ (nE σ) s.1 q = _; exact rsF_z hW hq _ (Nat.le_refl _)
    · intro k hk; show (if k < nE σ then _ else s.2 k) = _; rw [if_neg (by omega)]
theorem itF_z (hW : WF σ) {b : Bool} {s : (Nat → Int64) × (Nat → Int64)} : ∀ n, (∀ q, nP σ ≤ q → (itF σ b n s).1 q = s.1 q) ∧ ∀ k, nE σ ≤ k → (itF σ b n s).2 k = s.2 k := by
  intro n
  induction n with
  | zero => exact ⟨fun _ _ => rfl, fun _ _ => rfl⟩
  | succ n ih =>
    rw [itF_succ]
    have h := stF_z hW (b := b) (s := itF σ b n s)
    exact ⟨fun q hq => by rw [h.1 q hq, ih.1 q hq], fun k hk => by rw [h.2 k hk, ih.2 k hk]⟩
theorem k_wave (hW : WF σ) (n : Int32) : WF (op_wave σ n).2 := by
  unfold op_wave
  by_cases z : ¬ n = 0 ∧ i32le n 100
  · rw [cif_pos z]
    have h := itF_z hW (b := decide (n < 0)) (s := (wL σ, wF σ)) n.toInt.natAbs
    exact WF_wave hW (fun q h6 hq => by rw [h.1 q hq]; exact (hW.2.2.2.2.2.2.2.2.1 q h6 hq).1) (fun k h12 hk => by rw [h.2 k hk]; exact hW.2.2.2.2.2.2.2.2.2 k h12 hk)
  · rw [cif_neg z]; exact hW
theorem k_height (hW : WF σ) (p : Int32) : WF (op_height σ p).2 := by
  unfold op_height
  by_cases z : vp_in p (nP σ)
  · rw [cif_pos z]; exact hW
  · rw [cif_neg z]; exact hW
theorem k_flow (hW : WF σ) (p : Int32) : WF (op_flow σ p).2 := by
  unfold op_flow
  by_cases z : vp_in p (nE σ)
  · rw [cif_pos z]; exact hW
  · rw [cif_neg z]; exact hW
theorem k_count (hW : WF σ) (p : Int32) : WF (op_count σ p).2 := by rw [op_count_2]; exact hW
end KEEP
