/-! fieldAt on both sides -/
theorem wd_congr : ∀ (cs : List Nat) {v v' : Nat → Int} {ω ω' : List Nat → Int}, (∀ c ∈ cs, v c = v' c) → (∀ t : List Nat, (∀ c ∈ t, c ∈ cs) → ω t = ω' t) → wd v ω cs = wd v' ω' cs := by
  intro cs
  induction cs with
  | nil => intro v v' ω ω' _ _; rfl
  | cons c cs ih =>
    intro v v' ω ω' h1 h2
    rw [wd_cons, wd_cons, h1 c (by simp), h2 cs (fun x hx => by simp [hx]), ih (v := v) (v' := v') (ω := fun t => ω (c :: t)) (ω' := fun t => ω' (c :: t)) (fun x hx => h1 x (by simp [hx])) (fun t ht => h2 (c :: t) (fun x hx => by
      rcases List.mem_cons.mp hx with e | e
      · simp [e]
      · simp [ht x e]))]
theorem dt_congr {f g : Nat → Nat → Int} : ∀ (is cs : List Nat), (∀ i ∈ is, ∀ c ∈ cs, f i c = g i c) → dt (is.map f) cs = dt (is.map g) cs := by
  intro is
  induction is with
  | nil => intro cs _; rfl
  | cons i is ih =>
    intro cs h
    show dt (f i :: is.map f) cs = dt (g i :: is.map g) cs
    rw [dt_cons, dt_cons]
    exact wd_congr cs (fun c hc => h i (by simp) c hc) (fun t ht => ih t (fun j hj c hc => h j (by simp [hj]) c (ht c hc)))
theorem sp_coef {v : Nat → Nat → Int} : ∀ (c : Nat) {x : Nat → Int}, Sp ((dn c).map v) x → ∃ a : Nat → Int, ∀ e, x e = sm c (fun i => a i * v i e) := by
  intro c
  induction c with
  | zero => intro x h; exact ⟨fun _ => 0, fun e => h e⟩
  | succ c ih =>
    intro x h
    obtain ⟨a0, h0⟩ := h
    obtain ⟨a, ha⟩ := ih h0
    refine ⟨fun i => if i = c then a0 else a i, fun e => ?_⟩
    show x e = sm c _ + (if c = c then a0 else a c) * v c e
    rw [if_pos rfl, sm_congr (g := fun i => a i * v i e) (fun i hi => by dsimp only; rw [if_neg (by omega)]), ← ha e]
    omega
theorem prt_const {B E : Nat → Nat} {g : Nat → Int} : ∀ {k : Nat}, (∀ e, e < k → g (B e) = g (E e)) → ∀ q, g (prt B E k q) = g q := by
  intro k
  induction k with
  | zero => intro _ q; rfl
  | succ k ih =>
    intro h q
    have ih' := ih (fun e he => h e (by omega))
    have hk := h k (by omega)
    show g (jn (prt B E k) (B k) (E k) q) = g q
    unfold jn
    have ga := ih' (B k)
    have gb := ih' (E k)
    by_cases z : prt B E k q = max (prt B E k (B k)) (prt B E k (E k))
    · rw [if_pos z, ← ih' q, z]
      rcases Nat.le_total (prt B E k (B k)) (prt B E k (E k)) with y | y
      · rw [Nat.max_eq_right y, Nat.min_eq_left y, ga, gb, hk]
      · rw [Nat.max_eq_left y, Nat.min_eq_right y, ga, gb, hk]
    · rw [if_neg z]; exact ih' q
def FRI (σ : Sg) (k i j : Nat) : Int := if wT σ i = 0 then (if j < nP σ then sm k (fun e => sgn σ 1 e i * sgn σ 1 e j) else 0) else (if j = nP σ then (wN σ i).toInt else if j = i then 1 else 0)
def rA (σ : Sg) (i c : Nat) : Int := if c ≤ nP σ then gA (nP σ + nE σ) (fwv σ) i c else 0
def fRT (σ : Sg) : Nat → Nat → Int64 := fun i j => lI (FRI σ (nE σ) i j)
section FAT
variable {σ : Sg} {M M0 : Mem}
theorem FRI_bd (hW : WF σ) {i : Nat} (hi : i < nP σ) (c : Nat) : -(gW (nP σ) c) ≤ FRI σ (nE σ) i c ∧ FRI σ (nE σ) i c ≤ gW (nP σ) c := by
  have wt := hW.2.2.2.2.2.2.2.1
  have hP := hW.1
  unfold FRI gW
  by_cases z : wT σ i = 0
  · rw [if_pos z]
    by_cases y : c < nP σ
    · rw [if_pos y, if_neg (by omega)]
      refine le_of_sq (by decide) ?_
      have h1 := sm_cs (fun e => sgn σ 1 e i) (fun e => sgn σ 1 e c) (nE σ)
      have d1 := deg6 hW hi
      have d2 := deg6 hW y
      have p2 : 0 ≤ sm (nE σ) (fun e => sgn σ 1 e c * sgn σ 1 e c) := sm_nonneg (fun e _ => sq_nonneg _)
      have p1 : 0 ≤ sm (nE σ) (fun e => sgn σ 1 e i * sgn σ 1 e i) := sm_nonneg (fun e _ => sq_nonneg _)
      have m := (abs_mul (s := 6) (t := 6) (x := sm (nE σ) (fun e => sgn σ 1 e i * sgn σ 1 e i)) (y := sm (nE σ) (fun e => sgn σ 1 e c * sgn σ 1 e c)) ⟨by omega, by omega⟩ ⟨by omega, by omega⟩).2
      omega
    · rw [if_neg y]
      split <;> decide
  · rw [if_neg z]
    by_cases y : c = nP σ
    · rw [if_pos y, if_pos y]
      have := (wt i (by omega)).2
      unfold i32le at this
      omega
    · rw [if_neg y, if_neg y]
      split <;> decide
theorem rA_bd (hW : WF σ) {i : Nat} (hi : i < nP σ) (c : Nat) : -(gW (nP σ) c) ≤ rA σ i c ∧ rA σ i c ≤ gW (nP σ) c := by
  have hS := cS_f hW
  unfold rA gW
  by_cases z : c ≤ nP σ
  · rw [if_pos z]
    by_cases y : c = nP σ
    · rw [if_pos y]; exact gA_bd hS hi z
    · rw [if_neg y]
      refine le_of_sq (by decide) ?_
      have h1 := sm_cs (fwv σ i) (fwv σ c) (nP σ + nE σ)
      have d1 := (hS.2.2.2.1 i hi).1
      have d2 := (hS.2.2.2.1 c (by omega)).1
      have p1 : 0 ≤ gA (nP σ + nE σ) (fwv σ) i i := sm_nonneg (fun e _ => sq_nonneg _)
      have p2 : 0 ≤ gA (nP σ + nE σ) (fwv σ) c c := sm_nonneg (fun e _ => sq_nonneg _)
      have m := (abs_mul (s := 6) (t := 6) (x := gA (nP σ + nE σ) (fwv σ) i i) (y := gA (nP σ + nE σ) (fwv σ) c c) ⟨by omega, d1⟩ ⟨by omega, d2⟩).2
      have h2 : gA (nP σ + nE σ) (fwv σ) i c * gA (nP σ + nE σ) (fwv σ) i c ≤ gA (nP σ + nE σ) (fwv σ) i i * gA (nP σ + nE σ) (fwv σ) c c := h1
      omega
  · rw [if_neg z]; split <;> decide
/-- no pivot is 0 where each part has a wall -/
theorem no_zero (hW : WF σ) (hw : ∀ p, p < nP σ → ¬ noW σ p) : ∀ c, c ≤ nP σ → cI (nP σ + nE σ) (fwv σ) 6 (nP σ) c (dn c) (csq (nP σ) (fT σ, 1) c) := by
  have hS := cS_f hW
  have hP := hW.1
  have we := hW.2.1
  intro c
  induction c with
  | zero =>
    intro _
    refine ⟨gB_nil 6, by simp [dn], fun t ht => (by cases ht), rfl, fun i j _ h2 h3 => ?_, fun i j h => by omega⟩
    rw [show dn 0 = [] from rfl, gL_nil i (by omega)]
    exact gA_ok hS h2 h3
  | succ c ih =>
    intro hc
    have h := ih (by omega)
    have st := cI_step hS h (by omega)
    by_cases hz : (csq (nP σ) (fT σ, 1) c).1 c c = 0
    · exfalso
      have hb := h.1
      have g0 : gL (nP σ + nE σ) (fwv σ) (dn c) c c = 0 := by
        have := h.2.2.2.2.1 c c (Nat.le_refl _) (by omega) (by omega)
        rw [← this, hz]; rfl
      have u0 := sm_sq_zero (f := gU (nP σ + nE σ) (fwv σ) (dn c) c) (m := nP σ + nE σ) (by rw [gU_dot hb.1 c (by omega), g0]; simp)
      obtain ⟨a, ha⟩ := sp_coef c (al_span ((dn c).map (gR (nP σ + nE σ) (fwv σ))) (dn c) (gR (nP σ + nE σ) (fwv σ) c))
      have hpos := hb.2.1
      have key : ∀ e, e < nP σ + nE σ → gD (nP σ + nE σ) (fwv σ) (dn c) * fwv σ c e = sm c (fun i => a i * fwv σ i e) := fun e he => by
        have h1 := ha (1000 + e)
        have h2 := u0 e he
        unfold gU at h2
        rw [h2] at h1
        have e2 : ∀ i, gR (nP σ + nE σ) (fwv σ) i (1000 + e) = fwv σ i e := fun i => by unfold gR; rw [if_neg (by omega), show 1000 + e - 1000 = e by omega]
        rw [e2] at h1
        have e3 : sm c (fun i => a i * gR (nP σ + nE σ) (fwv σ) i (1000 + e)) = sm c (fun i => a i * fwv σ i e) := sm_congr (fun i _ => by rw [e2])
        rw [e3] at h1
        unfold gD
        omega
      generalize gD (nP σ + nE σ) (fwv σ) (dn c) = D at key hpos
      by_cases wc : wT σ c = 0
      · have hg : ∀ e, e < nE σ → (fun q => if wT σ q = 0 then (if q = c then D else if q < c then -(a q) else 0) else 0) (vB σ e) = (fun q => if wT σ q = 0 then (if q = c then D else if q < c then -(a q) else 0) else 0) (vE σ e) := by
          intro e he
          have hb2 := we e he
          have k := key (nP σ + e) (by omega)
          have h1 : sm c (fun i => a i * fwv σ i (nP σ + e)) = sm c (fun i => (if i = vE σ e then (if wT σ i = 0 then a i else 0) else 0) + (if i = vB σ e then (if wT σ i = 0 then -(a i) else 0) else 0)) := sm_congr (fun i hi => by
            rw [fv_e, if_neg (by omega)]
            unfold sgn
            rw [if_pos rfl]
            by_cases y : wT σ i = 0
            · rw [if_pos y, if_pos y, if_pos y]
              by_cases z1 : i = vE σ e
              · rw [if_pos z1.symm, if_pos z1, if_neg (by omega)]; omega
              · rw [if_neg (fun q => z1 q.symm), if_neg z1]
                by_cases z2 : i = vB σ e
                · rw [if_pos z2.symm, if_pos z2]; omega
                · rw [if_neg (fun q => z2 q.symm), if_neg z2]; omega
            · rw [if_neg y, if_neg y, if_neg y]
              repeat' split
              all_goals omega)
          rw [h1, sm_add, sm_del, sm_del, fv_e, if_neg (by omega), if_pos wc] at k
          unfold sgn at k
          rw [if_pos rfl] at k
          dsimp only
          by_cases z1 : vE σ e = c
          · rw [if_pos z1, if_neg (show ¬ vE σ e < c by omega), if_pos (show vB σ e < c by omega)] at k
            rw [z1, if_pos wc, if_pos rfl, if_neg (show ¬ vB σ e = c by omega), if_pos (show vB σ e < c by omega)]
            omega
          · rw [if_neg z1] at k
            by_cases z2 : vB σ e = c
            · rw [if_pos z2, if_neg (show ¬ vE σ e < c by omega), if_neg (show ¬ vB σ e < c by omega)] at k
              omega
            · rw [if_neg z2] at k
              rw [if_neg z1, if_neg z2]
              by_cases y1 : vE σ e < c
              · rw [if_pos y1, if_pos (show vB σ e < c by omega)] at k
                rw [if_pos y1, if_pos (show vB σ e < c by omega)]
                by_cases x1 : wT σ (vE σ e) = 0
                · by_cases x2 : wT σ (vB σ e) = 0
                  · rw [if_pos x1, if_pos x2] at k ⊢; omega
                  · rw [if_pos x1, if_neg x2] at k ⊢; omega
                · by_cases x2 : wT σ (vB σ e) = 0
                  · rw [if_neg x1, if_pos x2] at k ⊢; omega
                  · rw [if_neg x1, if_neg x2] at k ⊢
              · rw [if_neg y1] at k ⊢
                by_cases y2 : vB σ e < c
                · rw [if_pos y2] at k ⊢
                  by_cases x2 : wT σ (vB σ e) = 0
                  · rw [if_pos x2] at k ⊢
                    split <;> omega
                  · rw [if_neg x2] at k ⊢
                    split <;> rfl
                · rw [if_neg y2]
                  repeat' split
                  all_goals rfl
        have hq : ∀ q, q < nP σ → (fun q => if wT σ q = 0 then (if q = c then D else if q < c then -(a q) else 0) else 0) (vL σ q) = (fun q => if wT σ q = 0 then (if q = c then D else if q < c then -(a q) else 0) else 0) q := fun q hq => by
          rw [hW.2.2.2.2.2.1 q (by omega)]
          exact prt_const (g := fun q => if wT σ q = 0 then (if q = c then D else if q < c then -(a q) else 0) else 0) hg q
        have hno := hw c (by omega)
        unfold noW at hno
        simp only [Classical.not_forall] at hno
        obtain ⟨q, q1, q2, q3⟩ := hno
        have h1 := hq q q1
        have h2 := hq c (by omega)
        rw [q2, h2] at h1
        dsimp only at h1
        rw [if_pos wc, if_pos rfl, if_neg q3] at h1
        omega
      · have k := key c (by omega)
        rw [fv_w (by omega), if_neg wc, if_neg (by omega), if_pos rfl, sm_zero (fun i hi => by rw [fv_w (by omega), if_neg wc, if_neg (by omega), if_neg (by omega)]; simp)] at k
        omega
    · exact st.2 hz
theorem gjA (hW : WF σ) (hw : ∀ p, p < nP σ → ¬ noW σ p) : ∀ c, c ≤ nP σ → gjD (rA σ) c ≠ 0 := fun c hc => by
  have h := (no_zero hW hw c hc).1.2.1
  have hP := hW.1
  have e : gjD (rA σ) c = gD (nP σ + nE σ) (fwv σ) (dn c) := dt_congr (dn c) (dn c) (fun i _ x hx => by
    have := dn_lt hx
    unfold rA gR
    rw [if_pos (by omega), if_pos (by omega)])
  rw [e]; omega
theorem gj_fR (r : Nat → Nat → Int) (n : Nat) : fR n (gju r) (gjD r) := fun c _ hD => ⟨gj_D c, fun j hj => gj_row c hj, fun i j hi => gj_step hD hi⟩
theorem fP_0 (hW : WF σ) : fP (nP σ) (wT σ) (fun w => (wN σ w).toInt) (gju (rA σ)) (gju (FRI σ (nE σ))) (gjD (rA σ)) (gjD (FRI σ (nE σ))) 0 := by
  have we := hW.2.1
  have eD : ∀ r, gjD r 0 = 1 := fun r => rfl
  refine ⟨rfl, fun w hw hww j _ hj => ?_, fun i hi hwi => ⟨fun j _ hj => ⟨fun wj => ?_, fun wj => ?_⟩, ?_⟩⟩
  · rw [gj_0, gj_0, eD, Int.one_mul]
    constructor
    · unfold rA gA
      rw [if_pos hj, sm_split, sm_zero (m := nE σ) (fun e _ => by rw [fv_e, if_neg (by omega), if_neg hww]; simp)]
      have e1 : sm (nP σ) (fun x => fwv σ w x * fwv σ j x) = sm (nP σ) (fun x => if x = w then fwv σ j x else 0) := sm_congr (fun x hx => by
        rw [fv_w (i := w) hx, if_neg (show ¬ w = nP σ by omega)]
        by_cases y : x = w
        · rw [if_pos y, if_neg (by rw [y]; exact hww), if_pos y.symm]; omega
        · rw [if_neg y, if_neg (show ¬ w = x from fun q => y q.symm)]; split <;> simp)
      rw [e1, sm_del, if_pos hw, fv_w hw, if_neg hww, Int.add_zero]
    · unfold FRI
      rw [if_neg hww]
  · rw [gj_0, gj_0]
    unfold rA gA FRI
    rw [if_pos (by omega), if_pos hwi, if_pos hj, sm_split, sm_zero (m := nP σ) (fun x hx => by
      rw [fv_w (i := i) hx, if_neg (show ¬ i = nP σ by omega)]
      by_cases y : i = x
      · rw [← y, if_pos hwi]; simp
      · rw [if_neg y]; split <;> simp)]
    rw [Int.zero_add]
    refine sm_congr (fun e _ => ?_)
    rw [fv_e (i := i), fv_e (i := j), if_neg (show ¬ i = nP σ by omega), if_neg (show ¬ j = nP σ by omega), if_pos hwi, if_pos wj]
  · rw [gj_0]
    unfold rA gA
    rw [if_pos (by omega), sm_zero]
    intro x hx
    rcases Nat.lt_or_ge x (nP σ) with y | y
    · rw [fv_w (i := i) y, if_neg (show ¬ i = nP σ by omega)]
      by_cases z : i = x
      · rw [← z, if_pos hwi]; simp
      · rw [if_neg z]; split <;> simp
    · obtain ⟨e, rfl⟩ := Nat.exists_eq_add_of_le y
      rw [fv_e (i := j), if_neg (by omega), if_neg wj]; simp
  · rw [gj_0, gj_0]
    have e0 : FRI σ (nE σ) i (nP σ) = 0 := by unfold FRI; rw [if_pos hwi, if_neg (by omega)]
    have e1 : sm (nP σ) (fun w => if 0 ≤ w ∧ wT σ w ≠ 0 then gju (FRI σ (nE σ)) 0 i w * (wN σ w).toInt else 0) = sm (nP σ) (fun w => sm (nE σ) (fun e => sgn σ 1 e i * ((if w = vE σ e then (if wT σ w = 0 then 0 else (wN σ w).toInt) else 0) + (if w = vB σ e then (if wT σ w = 0 then 0 else -(wN σ w).toInt) else 0)))) := sm_congr (fun w hw => by
      by_cases z : wT σ w = 0
      · rw [if_neg (fun q => q.2 z), sm_zero]
        intro e _
        rw [if_pos z, if_pos z]
        repeat' split
        all_goals simp
      · rw [if_pos ⟨Nat.zero_le _, z⟩, gj_0]
        unfold FRI
        rw [if_pos hwi, if_pos hw]
        have := sm_lin (wN σ w).toInt 0 (fun e => sgn σ 1 e i * sgn σ 1 e w) (fun _ => 0) (nE σ)
        have e2 : sm (nE σ) (fun e => sgn σ 1 e i * sgn σ 1 e w) * (wN σ w).toInt = (wN σ w).toInt * sm (nE σ) (fun e => sgn σ 1 e i * sgn σ 1 e w) + 0 * sm (nE σ) (fun _ => 0) := by grind
        rw [e2, ← this]
        refine sm_congr (fun e he => ?_)
        have hb := we e he
        rw [if_neg z, if_neg z]
        have e3 : sgn σ 1 e w = (if w = vE σ e then 1 else 0) + (if w = vB σ e then -1 else 0) := by
          unfold sgn
          rw [if_pos rfl]
          by_cases y1 : w = vE σ e
          · rw [if_pos y1.symm, if_pos y1, if_neg (by omega)]; rfl
          · rw [if_neg (fun q => y1 q.symm), if_neg y1]
            by_cases y2 : w = vB σ e
            · rw [if_pos y2.symm, if_pos y2]; rfl
            · rw [if_neg (fun q => y2 q.symm), if_neg y2]; rfl
        rw [e3]
        by_cases y1 : w = vE σ e
        · rw [if_pos y1, if_pos y1]
          by_cases y2 : w = vB σ e
          · omega
          · rw [if_neg y2, if_neg y2]; grind
        · rw [if_neg y1, if_neg y1]
          by_cases y2 : w = vB σ e
          · rw [if_pos y2, if_pos y2]; grind
          · rw [if_neg y2, if_neg y2]; grind)
    rw [e0, e1, sm_swap]
    unfold rA gA
    rw [if_pos (Nat.le_refl _), sm_split, sm_zero (m := nP σ) (fun x hx => by
      rw [fv_w (i := i) hx, if_neg (show ¬ i = nP σ by omega)]
      by_cases y : i = x
      · rw [← y, if_pos hwi]; simp
      · rw [if_neg y]; split <;> simp), Int.zero_add, Int.zero_sub]
    have e4 : sm (nE σ) (fun e => sm (nP σ) (fun w => sgn σ 1 e i * ((if w = vE σ e then (if wT σ w = 0 then 0 else (wN σ w).toInt) else 0) + (if w = vB σ e then (if wT σ w = 0 then 0 else -(wN σ w).toInt) else 0)))) = sm (nE σ) (fun e => -(fwv σ i (nP σ + e) * fwv σ (nP σ) (nP σ + e))) := sm_congr (fun e he => by
      have hb := we e he
      have l1 := sm_lin (sgn σ 1 e i) 0 (fun w => (if w = vE σ e then (if wT σ w = 0 then 0 else (wN σ w).toInt) else 0) + (if w = vB σ e then (if wT σ w = 0 then 0 else -(wN σ w).toInt) else 0)) (fun _ => 0) (nP σ)
      have l2 : sm (nP σ) (fun w => sgn σ 1 e i * ((if w = vE σ e then (if wT σ w = 0 then 0 else (wN σ w).toInt) else 0) + (if w = vB σ e then (if wT σ w = 0 then 0 else -(wN σ w).toInt) else 0))) = sm (nP σ) (fun w => sgn σ 1 e i * ((if w = vE σ e then (if wT σ w = 0 then 0 else (wN σ w).toInt) else 0) + (if w = vB σ e then (if wT σ w = 0 then 0 else -(wN σ w).toInt) else 0)) + 0 * 0) := sm_congr (fun w _ => by grind)
      rw [l2, l1, sm_add, sm_del, sm_del, if_pos (show vE σ e < nP σ by omega), if_pos (show vB σ e < nP σ by omega), fv_e (i := i), fv_e (i := nP σ), if_neg (show ¬ i = nP σ by omega), if_pos (show nP σ = nP σ from rfl), if_pos hwi]
      unfold sgn
      rw [if_pos rfl]
      by_cases y1 : vE σ e = i
      · rw [if_pos y1, y1, if_pos hwi, if_pos hwi, if_pos hwi]
        split <;> grind
      · rw [if_neg y1]
        by_cases y2 : vB σ e = i
        · rw [if_pos y2, y2, if_pos hwi, if_pos hwi]
          split <;> grind
        · rw [if_neg y2]; grind)
    rw [e4]
    have l3 := sm_lin (-1) 0 (fun e => fwv σ i (nP σ + e) * fwv σ (nP σ) (nP σ + e)) (fun _ => 0) (nE σ)
    have l4 : sm (nE σ) (fun e => -(fwv σ i (nP σ + e) * fwv σ (nP σ) (nP σ + e))) = sm (nE σ) (fun e => -1 * (fwv σ i (nP σ + e) * fwv σ (nP σ) (nP σ + e)) + 0 * 0) := sm_congr (fun e _ => by grind)
    rw [l4, l3]
    grind
theorem fP_all (hW : WF σ) (hw : ∀ p, p < nP σ → ¬ noW σ p) : ∀ c, c ≤ nP σ → fP (nP σ) (wT σ) (fun w => (wN σ w).toInt) (gju (rA σ)) (gju (FRI σ (nE σ))) (gjD (rA σ)) (gjD (FRI σ (nE σ))) c := by
  intro c
  induction c with
  | zero => intro _; exact fP_0 hW
  | succ c ih => intro hc; exact fP_step (gj_fR _ _) (gj_fR _ _) (gjA hW hw) (by omega) (ih (by omega))
theorem fld_eq (hW : WF σ) (hw : ∀ p, p < nP σ → ¬ noW σ p) : cOK (nP σ) (fRT σ, 1) ∧ (csq (nP σ) (fRT σ, 1) (nP σ)).2 = (csq (nP σ) (fT σ, 1) (nP σ)).2 ∧ ∀ i, i < nP σ → (csq (nP σ) (fRT σ, 1) (nP σ)).1 i (nP σ) = (csq (nP σ) (fT σ, 1) (nP σ)).1 i (nP σ) := by
  have hP := hW.1
  have hS := cS_f hW
  have DA := gjA hW hw
  have P := fP_all hW hw
  have DR : ∀ c, c ≤ nP σ → gjD (FRI σ (nE σ)) c ≠ 0 := fun c hc => by rw [(P c hc).1]; exact DA c hc
  have cA := gj_csq (n := nP σ) (r := rA σ) (T := fT σ) (by omega) (fun i hi c => rA_bd hW hi c) (fun i j hi hj => by unfold rA; rw [if_pos hj]; exact gA_ok hS hi hj) DA
  have cR := gj_csq (n := nP σ) (r := FRI σ (nE σ)) (T := fRT σ) (by omega) (fun i hi c => FRI_bd hW hi c) (fun i j hi hj => by
    have b := FRI_bd hW hi j
    have w0 : gW (nP σ) j ≤ 15000 := by unfold gW; split <;> decide
    exact lI_t (by omega) (by omega)) DR
  refine ⟨fun c hc => ⟨fun q => ?_, fun q => ?_⟩, ?_, fun i hi => ?_⟩
  · have := (cR c (by omega)).1
    rw [q] at this
    exact DR c (by omega) this.symm
  · have := (cR c (by omega)).2 c c hc (Nat.le_refl _) (by omega)
    rw [q, ← gj_D] at this
    exact absurd this.symm (DR (c + 1) (by omega))
  · apply Int64.toInt_inj.mp
    rw [(cR _ (Nat.le_refl _)).1, (cA _ (Nat.le_refl _)).1, (P _ (Nat.le_refl _)).1]
  · apply Int64.toInt_inj.mp
    rw [(cR _ (Nat.le_refl _)).2 i _ hi (Nat.le_refl _) (Nat.le_refl _), (cA _ (Nat.le_refl _)).2 i _ hi (Nat.le_refl _) (Nat.le_refl _)]
    by_cases z : wT σ i = 0
    · have := ((P _ (Nat.le_refl _)).2.2 i hi z).2
      rw [this, sm_zero (fun w hw => by rw [if_neg (by omega)])]
      omega
    · have := (P _ (Nat.le_refl _)).2.1 i hi z (nP σ) (Nat.le_refl _) (Nat.le_refl _)
      rw [this.1, this.2]
end FAT
