/-! the tables are small -/
theorem sm_add (f g : Nat → Int) (m : Nat) : sm m (fun e => f e + g e) = sm m f + sm m g := by
  have h := sm_lin 1 1 f g m
  simp only [Int.one_mul] at h
  exact h
theorem sm_swap (f : Nat → Nat → Int) (b : Nat) : ∀ a, sm a (fun e => sm b (fun q => f e q)) = sm b (fun q => sm a (fun e => f e q)) := by
  intro a
  induction a with
  | zero => exact (sm_zero (fun _ _ => rfl)).symm
  | succ a ih =>
    show sm a (fun e => sm b (fun q => f e q)) + sm b (fun q => f a q) = sm b (fun q => sm a (fun e => f e q) + f a q)
    rw [ih, sm_add]
theorem sm_one (m : Nat) : sm m (fun _ => 1) = m := by
  induction m with
  | zero => rfl
  | succ m ih => show sm m _ + 1 = _; rw [ih]; rfl
theorem sm_ge {f : Nat → Int} {m : Nat} (h : ∀ e, e < m → 0 ≤ f e) {q : Nat} (hq : q < m) : f q ≤ sm m f := by
  induction m with
  | zero => omega
  | succ m ih =>
    show f q ≤ sm m f + f m
    have h0 : 0 ≤ sm m f := sm_nonneg (fun e he => h e (by omega))
    have h1 := h m (by omega)
    rcases Nat.lt_or_ge q m with z | z
    · have := ih (fun e he => h e (by omega)) z
      omega
    · have : q = m := by omega
      subst this; omega
theorem sm_uniq {f : Nat → Int} {m : Nat} (h : ∀ e, e < m → f e = 0 ∨ f e = 1) (u : ∀ e e', e < m → e' < m → f e = 1 → f e' = 1 → e = e') : sm m f ≤ 1 := by
  induction m with
  | zero => show (0 : Int) ≤ 1; decide
  | succ m ih =>
    show sm m f + f m ≤ 1
    have h1 := ih (fun e he => h e (by omega)) (fun e e' he he' => u e e' (by omega) (by omega))
    rcases h m (by omega) with z | z
    · omega
    · have : sm m f = 0 := sm_zero (fun e he => by
        rcases h e (by omega) with y | y
        · exact y
        · have := u e m (by omega) (by omega) y z
          omega)
      omega
theorem sm_split (f : Nat → Int) (a : Nat) : ∀ b, sm (a + b) f = sm a f + sm b (fun e => f (a + e)) := by
  intro b
  induction b with
  | zero => show sm a f = sm a f + 0; omega
  | succ b ih => show sm (a + b) f + f (a + b) = sm a f + (sm b _ + f (a + b)); rw [ih]; omega
theorem sm_bd {f : Nat → Int} {m : Nat} {B : Int} (h : ∀ e, e < m → f e ≤ B) : sm m f ≤ m * B := by
  induction m with
  | zero => simp [sm]
  | succ m ih =>
    have h1 := ih (fun e he => h e (by omega))
    have h2 := h m (by omega)
    show sm m f + f m ≤ ((m + 1 : Nat) : Int) * B
    have : ((m + 1 : Nat) : Int) * B = m * B + B := by rw [Int.natCast_add]; grind
    omega
section SMALL
variable {σ : Sg}
theorem deg6 (hW : WF σ) {i : Nat} (hi : i < nP σ) : sm (nE σ) (fun e => sgn σ 1 e i * sgn σ 1 e i) ≤ nP σ := by
  obtain ⟨w1, w2, w3, -⟩ := hW
  have h1 : sm (nE σ) (fun e => sgn σ 1 e i * sgn σ 1 e i) ≤ sm (nE σ) (fun e => sm (nP σ) (fun q => if (vB σ e = i ∧ vE σ e = q) ∨ (vB σ e = q ∧ vE σ e = i) then 1 else 0)) := by
    refine sm_le (fun e he => ?_)
    have hb := w2 e he
    have n0 : ∀ q, q < nP σ → (0 : Int) ≤ (if (vB σ e = i ∧ vE σ e = q) ∨ (vB σ e = q ∧ vE σ e = i) then 1 else 0) := fun q _ => by split <;> decide
    unfold sgn
    rw [if_pos rfl]
    by_cases z : vE σ e = i
    · rw [if_pos z]
      have := sm_ge n0 (q := vB σ e) (by omega)
      rw [if_pos (Or.inr ⟨rfl, z⟩)] at this
      exact this
    · rw [if_neg z]
      by_cases y : vB σ e = i
      · rw [if_pos y]
        have := sm_ge n0 (q := vE σ e) (by omega)
        rw [if_pos (Or.inl ⟨y, rfl⟩)] at this
        exact this
      · rw [if_neg y]; exact sm_nonneg n0
  rw [sm_swap] at h1
  have h2 : sm (nP σ) (fun q => sm (nE σ) (fun e => if (vB σ e = i ∧ vE σ e = q) ∨ (vB σ e = q ∧ vE σ e = i) then 1 else 0)) ≤ nP σ * 1 := by
    refine sm_bd (fun q hq => sm_uniq (fun e he => by split <;> simp) (fun e e' he he' a b => ?_))
    have hb := w2 e he
    have hb' := w2 e' he'
    have c : (vB σ e = i ∧ vE σ e = q) ∨ (vB σ e = q ∧ vE σ e = i) := by
      by_cases z : (vB σ e = i ∧ vE σ e = q) ∨ (vB σ e = q ∧ vE σ e = i)
      · exact z
      · rw [if_neg z] at a; exact absurd a (by decide)
    have c' : (vB σ e' = i ∧ vE σ e' = q) ∨ (vB σ e' = q ∧ vE σ e' = i) := by
      by_cases z : (vB σ e' = i ∧ vE σ e' = q) ∨ (vB σ e' = q ∧ vE σ e' = i)
      · exact z
      · rw [if_neg z] at b; exact absurd b (by decide)
    exact w3 e e' he he' (by omega) (by omega)
  omega
theorem sq_bd {x : Int} {B : Int} (h : -B ≤ x ∧ x ≤ B) : x * x ≤ B * B := (abs_mul h h).2
theorem cS_sl (hW : WF σ) {f : Nat} (hf : ∀ e, e < nE σ → i32le (fN σ f e) 1000) : cS (nE σ) (slv σ f) 6 (nP σ) := by
  obtain ⟨⟨w1, w2, w3, w4⟩, -⟩ := id hW
  refine ⟨by omega, by decide, Int.le_trans (pow_mono (by decide) w2) (by decide), fun i hi => ?_, ?_⟩
  · have e : gA (nE σ) (slv σ f) i i = sm (nE σ) (fun e => sgn σ 1 e i * sgn σ 1 e i) := sm_congr (fun e _ => by unfold slv; rw [if_neg (by omega)])
    have := deg6 hW hi
    rw [e]; omega
  · have : gA (nE σ) (slv σ f) (nP σ) (nP σ) ≤ nE σ * 1000000 := sm_bd (fun e he => by unfold slv; rw [if_pos rfl]; exact sq_bd (B := 1000) (hf e he))
    omega
theorem cS_pl (hW : WF σ) {w : Nat → Int} (hw : ∀ e, e < nE σ → -1000 ≤ w e ∧ w e ≤ 1000) : cS (nE σ) (plv σ w) 3 (nF σ) := by
  obtain ⟨⟨w1, w2, w3, w4⟩, -⟩ := id hW
  refine ⟨by omega, by decide, Int.le_trans (pow_mono (by decide) w4) (by decide), fun i hi => ?_, ?_⟩
  · have e : gA (nE σ) (plv σ w) i i ≤ sm (nE σ) (fun e => ((if e = pF1 σ i then 1 else 0) + (if e = pS1 σ i then 1 else 0)) + (if e = pA1 σ i then 1 else 0)) := by
      refine sm_le (fun e _ => ?_)
      unfold plv sgn
      rw [if_neg (by omega), if_neg (by decide)]
      have n0 : ∀ p : Nat, (0 : Int) ≤ if e = p then 1 else 0 := fun p => by split <;> decide
      have n1 := n0 (pF1 σ i)
      have n2 := n0 (pS1 σ i)
      have n3 := n0 (pA1 σ i)
      by_cases z : pF1 σ i = e ∨ pS1 σ i = e
      · rw [if_pos z]
        rcases z with z | z
        · rw [if_pos z.symm] at n1 ⊢; omega
        · rw [if_pos z.symm] at n2 ⊢; omega
      · rw [if_neg z]
        by_cases y : pA1 σ i = e
        · rw [if_pos y, if_pos y.symm]; omega
        · rw [if_neg y]; omega
    rw [sm_add, sm_add] at e
    have u : ∀ p : Nat, sm (nE σ) (fun e => if e = p then (1 : Int) else 0) ≤ 1 := fun p => sm_uniq (fun e _ => by split <;> simp) (fun e e' _ _ a b => by
      by_cases z : e = p
      · by_cases y : e' = p
        · omega
        · rw [if_neg y] at b; exact absurd b (by decide)
      · rw [if_neg z] at a; exact absurd a (by decide))
    have u1 := u (pF1 σ i)
    have u2 := u (pS1 σ i)
    have u3 := u (pA1 σ i)
    omega
  · have : gA (nE σ) (plv σ w) (nF σ) (nF σ) ≤ nE σ * 1000000 := sm_bd (fun e he => by unfold plv; rw [if_pos rfl]; exact sq_bd (B := 1000) (hw e he))
    omega
theorem cS_f (hW : WF σ) : cS (nP σ + nE σ) (fwv σ) 6 (nP σ) := by
  obtain ⟨⟨w1, w2, w3, w4⟩, we, -, -, -, -, -, wt, -⟩ := id hW
  refine ⟨by omega, by decide, Int.le_trans (pow_mono (by decide) w2) (by decide), fun i hi => ?_, ?_⟩
  · unfold gA
    rw [sm_split]
    by_cases z : wT σ i = 0
    · rw [sm_zero (m := nP σ) (fun x hx => by
        rw [fv_w hx, if_neg (show ¬ i = nP σ by omega)]
        by_cases y : wT σ x = 0
        · rw [if_pos y]; rfl
        · rw [if_neg y, if_neg (fun q => y (by rw [← q]; exact z))]; rfl)]
      rw [sm_congr (g := fun e => sgn σ 1 e i * sgn σ 1 e i) (fun e he => by rw [fv_e, if_neg (show ¬ i = nP σ by omega), if_pos z])]
      have := deg6 hW hi
      omega
    · rw [sm_zero (m := nE σ) (fun e he => by rw [fv_e, if_neg (show ¬ i = nP σ by omega), if_neg z]; rfl)]
      have : sm (nP σ) (fun x => fwv σ i x * fwv σ i x) ≤ sm (nP σ) (fun _ => 1) := sm_le (fun x hx => by
        rw [fv_w hx, if_neg (show ¬ i = nP σ by omega)]
        repeat' split
        all_goals decide)
      rw [sm_one] at this
      omega
  · unfold gA
    rw [sm_split]
    have h1 : sm (nP σ) (fun x => fwv σ (nP σ) x * fwv σ (nP σ) x) ≤ nP σ * 1000000 := sm_bd (fun x hx => by
      have := (wt x (by omega)).2
      rw [fv_w hx, if_pos rfl]
      by_cases y : wT σ x = 0
      · rw [if_pos y]; decide
      · rw [if_neg y]; exact sq_bd (B := 1000) this)
    have h2 : sm (nE σ) (fun e => fwv σ (nP σ) (nP σ + e) * fwv σ (nP σ) (nP σ + e)) ≤ nE σ * 1000000 := sm_bd (fun e he => by
      have hb := we e he
      have a1 := (wt (vB σ e) (by omega)).2
      have a2 := (wt (vE σ e) (by omega)).2
      rw [fv_e, if_pos rfl]
      refine sq_bd (B := 1000) ?_
      unfold i32le at a1 a2
      repeat' split
      all_goals omega)
    omega
end SMALL
section OK
variable {m n : Nat} {v : Nat → Nat → Int} {B : Int}
theorem gA_bd (hS : cS m v B n) {i j : Nat} (hi : i < n) (hj : j ≤ n) : -15000 ≤ gA m v i j ∧ gA m v i j ≤ 15000 := by
  obtain ⟨-, -, -, h1, h2⟩ := hS
  have a := (h1 i hi).2
  have b : gA m v j j ≤ 25000000 := by
    rcases Nat.lt_or_ge j n with z | z
    · have := (h1 j z).2; omega
    · have : j = n := by omega
      subst this; exact h2
  refine le_of_sq (by decide) ?_
  have c := sm_cs (v i) (v j) m
  have p1 : 0 ≤ gA m v i i := sm_nonneg (fun e _ => sq_nonneg _)
  have p2 : 0 ≤ gA m v j j := sm_nonneg (fun e _ => sq_nonneg _)
  have c1 : gA m v i i * gA m v j j ≤ 9 * gA m v j j := Int.mul_le_mul_of_nonneg_right a p2
  have c2 : gA m v i j * gA m v i j ≤ gA m v i i * gA m v j j := c
  omega
theorem gA_ok (hS : cS m v B n) {i j : Nat} (hi : i < n) (hj : j ≤ n) : (lI (gA m v i j)).toInt = gA m v i j := by
  have := gA_bd hS hi hj
  exact lI_t (by omega) (by omega)
/-- what the reference's elimination needs to know of the class's -/
def cOK (n : Nat) (s : (Nat → Nat → Int64) × Int64) : Prop := ∀ c, c < n → (csq n s c).2 ≠ 0 ∧ ((csq n s c).1 c c = 0 → (∀ j, j ≤ n → (csq n s c).1 c j = 0) ∧ ∀ i, c ≤ i → i < n → (csq n s c).1 i c = 0)
theorem csq_ok (hS : cS m v B n) : cOK n (fun i j => lI (gA m v i j), 1) := by
  intro c hc
  obtain ⟨is, h⟩ := csq_inv (s := (fun i j => lI (gA m v i j), 1)) hS rfl (fun i j hi hj => gA_ok hS hi hj) c (by omega)
  obtain ⟨d0, d1, -⟩ := cI_bd hS h (by omega)
  refine ⟨fun q => ?_, fun z => ?_⟩
  · have := h.2.2.2.1
    rw [q] at this
    have e : (0 : Int64).toInt = 0 := rfl
    omega
  · have := (cI_step hS h hc).1 z
    exact ⟨this.1, this.2.1⟩
theorem csq_d (hS : cS m v B n) : 0 < (csq n (fun i j => lI (gA m v i j), 1) n).2.toInt ∧ (csq n (fun i j => lI (gA m v i j), 1) n).2.toInt ≤ 60000 := by
  obtain ⟨is, h⟩ := csq_inv (s := (fun i j => lI (gA m v i j), 1)) hS rfl (fun i j hi hj => gA_ok hS hi hj) n (Nat.le_refl _)
  obtain ⟨d0, d1, -⟩ := cI_bd hS h (Nat.le_refl _)
  rw [h.2.2.2.1]; exact ⟨d0, d1⟩
end OK
