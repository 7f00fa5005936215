/-! the class's field table, and the bounds of the tables -/
def fwv (σ : Sg) (i x : Nat) : Int :=
  if x < nP σ then (if wT σ x = 0 then 0 else if i = nP σ then (wN σ x).toInt else if i = x then 1 else 0)
  else if i = nP σ then (if wT σ (vB σ (x - nP σ)) = 0 then (if wT σ (vE σ (x - nP σ)) = 0 then 0 else -(wN σ (vE σ (x - nP σ))).toInt) else (if wT σ (vE σ (x - nP σ)) = 0 then (wN σ (vB σ (x - nP σ))).toInt else 0))
  else if wT σ i = 0 then sgn σ 1 (x - nP σ) i else 0
def fT (σ : Sg) : Nat → Nat → Int64 := fun i j => lI (gA (nP σ + nE σ) (fwv σ) i j)
section CFIELD
variable {σ : Sg} {M0 M : Mem} {T : Nat → Nat → Int64}
theorem fv_w {i x : Nat} (hx : x < nP σ) : fwv σ i x = if wT σ x = 0 then 0 else if i = nP σ then (wN σ x).toInt else if i = x then 1 else 0 := by unfold fwv; rw [if_pos hx]
theorem fv_e {i e : Nat} : fwv σ i (nP σ + e) = if i = nP σ then (if wT σ (vB σ e) = 0 then (if wT σ (vE σ e) = 0 then 0 else -(wN σ (vE σ e)).toInt) else (if wT σ (vE σ e) = 0 then (wN σ (vB σ e)).toInt else 0)) else if wT σ i = 0 then sgn σ 1 e i else 0 := by
  unfold fwv
  rw [if_neg (by omega), show nP σ + e - nP σ = e by omega]
theorem fi_wall {x : Nat} (hx : x < nP σ) (hw : ¬ wT σ x = 0) {i j : Nat} (hi : i < nP σ) (hj : j ≤ nP σ) (G : Nat → Nat → Int64) : upT (upT G x x 1) x (nP σ) (lI (wN σ x).toInt) i j = G i j + lI (fwv σ i x * fwv σ j x) := by
  rw [fv_w hx, fv_w hx, if_neg hw, if_neg hw, if_neg (show ¬ i = nP σ by omega)]
  unfold upT
  by_cases i1 : i = x
  · rw [if_pos i1]
    by_cases j1 : j = nP σ
    · rw [if_pos ⟨i1, j1⟩, if_neg (by omega), if_pos j1, lI_mul]; rw [show lI 1 = 1 from rfl]; grind
    · rw [if_neg (fun q => j1 q.2), if_neg j1]
      by_cases j2 : j = x
      · rw [if_pos ⟨i1, j2⟩, if_pos j2]; rfl
      · rw [if_neg (fun q => j2 q.2), if_neg j2, show lI (1 * 0) = 0 from rfl]; grind
  · rw [if_neg (fun q => i1 q.1), if_neg (fun q => i1 q.1), if_neg i1, show (0 : Int) * _ = 0 from Int.zero_mul _, show lI 0 = 0 from rfl]; grind
theorem fi_e {b f n : Nat} (hb : b < f) (hf : f < n) (tb tf : Bool) (Wb Wf : Int64) {i j : Nat} (hi : i < n) (hj : j ≤ n) (G : Nat → Nat → Int64) (vi vj : Int64)
    (ei : vi = if (if i = b then tb else if i = f then tf else true) = true then 0 else if f = i then 1 else if b = i then -1 else 0)
    (ej : vj = if j = n then (if tb = false then (if tf = false then 0 else -Wf) else (if tf = false then Wb else 0)) else if (if j = b then tb else if j = f then tf else true) = true then 0 else if f = j then 1 else if b = j then -1 else 0) :
    (if tf = true then (if tb = true then G else upT (upT G b b 1) b n Wf) else upT (upT (if tb = true then G else upT (upT G b b 1) b f (-1)) f f 1) f (if tb = true then n else b) (if tb = true then Wb else -1)) i j = G i j + vi * vj := by
  subst ei; subst ej
  have z3 : ¬ (b = f) := by omega
  have z3' : ¬ (f = b) := by omega
  have z6 : ¬ (n = b) := by omega
  have z7 : ¬ (n = f) := by omega
  have z8 : ¬ (b = n) := by omega
  have z9 : ¬ (f = n) := by omega
  have z0 : ¬ (i = n) := by omega
  cases tb <;> cases tf <;> simp only [upT, if_true, if_false, Bool.false_eq_true] <;>
  · by_cases i1 : i = f
    · subst i1
      by_cases j1 : j = n
      · subst j1; simp [z3, z3', z6, z7]
      · by_cases j2 : j = i
        · subst j2; simp [j1, z3, z3']
        · by_cases j3 : j = b
          · subst j3; simp [z3, z3', z8, z9]
          · have z4 : ¬ (i = j) := by omega
            have z5 : ¬ (b = j) := by omega
            simp [j1, j2, j3, z3, z3', z4, z5]
    · by_cases i2 : i = b
      · subst i2
        by_cases j1 : j = n
        · subst j1; simp [z3, z3', z6, z7] <;> grind
        · by_cases j2 : j = f
          · subst j2; simp [z3, z3', z9]
          · by_cases j3 : j = i
            · subst j3; simp [z3, z3', z8]
            · have z4 : ¬ (f = j) := by omega
              have z5 : ¬ (i = j) := by omega
              simp [j1, j2, j3, z3, z3', z4, z5]
      · have z1 : ¬ (f = i) := by omega
        have z2 : ¬ (b = i) := by omega
        simp [i1, i2, z1, z2]
theorem fi_vi (hW : WF σ) {e : Nat} (he : e < nE σ) {tb tf : Bool} (htb : tb = true ↔ ¬ wT σ (vB σ e) = 0) (htf : tf = true ↔ ¬ wT σ (vE σ e) = 0) {i : Nat} (hi : i < nP σ) : lI (fwv σ i (nP σ + e)) = if (if i = vB σ e then tb else if i = vE σ e then tf else true) = true then 0 else if vE σ e = i then 1 else if vB σ e = i then -1 else 0 := by
  have hb := hW.2.1 e he
  rw [fv_e, if_neg (by omega)]
  unfold sgn
  rw [if_pos rfl]
  by_cases i1 : i = vB σ e
  · rw [if_pos i1, if_neg (show ¬ vE σ e = i by omega), if_pos i1.symm, if_neg (show ¬ vE σ e = i by omega), if_pos i1.symm, i1]
    by_cases z : wT σ (vB σ e) = 0
    · rw [if_pos z, if_neg (fun q => (htb.mp q) z)]; rfl
    · rw [if_neg z, if_pos (htb.mpr z)]; rfl
  · rw [if_neg i1]
    by_cases i2 : i = vE σ e
    · rw [if_pos i2, if_pos i2.symm, if_pos i2.symm, i2]
      by_cases z : wT σ (vE σ e) = 0
      · rw [if_pos z, if_neg (fun q => (htf.mp q) z)]; rfl
      · rw [if_neg z, if_pos (htf.mpr z)]; rfl
    · rw [if_neg i2, if_pos (show true = true from rfl), if_neg (show ¬ vE σ e = i from fun q => i2 q.symm), if_neg (show ¬ vB σ e = i from fun q => i1 q.symm)]
      by_cases z : wT σ i = 0
      · rw [if_pos z]; rfl
      · rw [if_neg z]; rfl
theorem fi_vn {e : Nat} {tb tf : Bool} (htb : tb = true ↔ ¬ wT σ (vB σ e) = 0) (htf : tf = true ↔ ¬ wT σ (vE σ e) = 0) : lI (fwv σ (nP σ) (nP σ + e)) = if tb = false then (if tf = false then 0 else -lI (wN σ (vE σ e)).toInt) else (if tf = false then lI (wN σ (vB σ e)).toInt else 0) := by
  rw [fv_e, if_pos rfl]
  by_cases z : wT σ (vB σ e) = 0
  · have : tb = false := by cases tb with
      | false => rfl
      | true => exact absurd z (htb.mp rfl)
    rw [if_pos z, if_pos this]
    by_cases y : wT σ (vE σ e) = 0
    · have : tf = false := by cases tf with
        | false => rfl
        | true => exact absurd y (htf.mp rfl)
      rw [if_pos y, if_pos this]; rfl
    · rw [if_neg y, if_neg (show ¬ tf = false by rw [htf.mpr y]; decide), lI_neg]
  · rw [if_neg z, if_neg (show ¬ tb = false by rw [htb.mpr z]; decide)]
    by_cases y : wT σ (vE σ e) = 0
    · have : tf = false := by cases tf with
        | false => rfl
        | true => exact absurd y (htf.mp rfl)
      rw [if_pos y, if_pos this]
    · rw [if_neg y, if_neg (show ¬ tf = false by rw [htf.mpr y]; decide)]; rfl
theorem fi_ed (hW : WF σ) {e : Nat} (he : e < nE σ) {tb tf : Bool} (htb : tb = true ↔ ¬ wT σ (vB σ e) = 0) (htf : tf = true ↔ ¬ wT σ (vE σ e) = 0) {i j : Nat} (hi : i < nP σ) (hj : j ≤ nP σ) (G : Nat → Nat → Int64) :
    (if tf = true then (if tb = true then G else upT (upT G (vB σ e) (vB σ e) 1) (vB σ e) (nP σ) (lI (wN σ (vE σ e)).toInt)) else upT (upT (if tb = true then G else upT (upT G (vB σ e) (vB σ e) 1) (vB σ e) (vE σ e) (-1)) (vE σ e) (vE σ e) 1) (vE σ e) (if tb = true then nP σ else vB σ e) (if tb = true then lI (wN σ (vB σ e)).toInt else -1)) i j = G i j + lI (fwv σ i (nP σ + e) * fwv σ j (nP σ + e)) := by
  have hb := hW.2.1 e he
  rw [lI_mul]
  refine fi_e hb.1 hb.2 tb tf _ _ hi hj G _ _ (fi_vi hW he htb htf hi) ?_
  by_cases z : j = nP σ
  · rw [if_pos z, z]; exact fi_vn htb htf
  · rw [if_neg z]; exact fi_vi hW he htb htf (by omega)
theorem h_balanceAt (hW : WF σ) (h : RC σ M0) (r : RB (nP σ) T M0 M) {a b : Nat} (ha : a < nP σ) (hb : b < nP σ) {post : Mem → Prop} (K1 : ¬ wT σ a = 0 → post M) (K2 : wT σ a = 0 → wT σ b = 0 → ∀ M', RB (nP σ) (upT (upT T a a 1) a b (-1)) M0 M' → post M') (K3 : wT σ a = 0 → ¬ wT σ b = 0 → ∀ M', RB (nP σ) (upT (upT T a a 1) a (nP σ) (lI (wN σ b).toInt)) M0 M' → post M') : q_Nf_balanceAt (nI a) (nI b) M post := by
  obtain ⟨⟨w1, w2, w3, w4⟩, -, -, -, -, -, -, wt, -⟩ := id hW
  have ha' := wt a (by omega)
  have hb' := wt b (by omega)
  unfold q_Nf_balanceAt
  rw [clm (show a < 200 by omega), clm (show b < 200 by omega), ((r.rc h).2.2.2.1 a (by omega)).2.1, show (nI (wT σ a) = 0) = (wT σ a = 0) from propext (nI_eq (a := wT σ a) (b := 0) (by omega) (by omega))]
  refine ⟨vp_in_nI (by omega) (by decide), fun z => h_Bal_add (by omega) r ha ha (fun M1 r1 => ⟨vp_in_nI (by omega) (by decide), ?_⟩), fun z => K1 z⟩
  have hc := (r1.rc h).2.2.2.1 b (by omega)
  rw [hc.2.1, hc.2.2.1, show (nI (wT σ b) = 0) = (wT σ b = 0) from propext (nI_eq (a := wT σ b) (b := 0) (by omega) (by omega)), lI_32]
  exact ⟨fun y => h_Bal_add (by omega) r1 ha hb (fun M2 r2 => K2 z y M2 r2), fun y => ⟨vp_in_nI (by omega) (by decide), h_Bal_addDue (by omega) r1 ha (fun M2 r2 => K3 z y M2 r2)⟩⟩
theorem h_balanceField (hW : WF σ) (h : RC σ M) {post : Mem → Prop} (K : ∀ M', RB (nP σ) (csq (nP σ) (fT σ, 1) (nP σ)).1 M M' → M'.2 15 4 = (csq (nP σ) (fT σ, 1) (nP σ)).2 → post M') : q_Nf_balanceField M post := by
  obtain ⟨⟨w1, w2, w3, w4⟩, we, -, -, -, -, -, wt, -⟩ := id hW
  unfold q_Nf_balanceField
  rw [h.1.1]
  refine h_Bal_begin (by omega) Ag.rf (fun M1 r1 => ?_)
  refine pk_loop (fun m x (M' : Mem) => q_Nf_balanceField_L16 _ post m (nI x) M') (fun x M' => RB (nP σ) (fun i j => lI (gA x (fwv σ) i j)) M M') (nP σ) 0 M1 (Nat.zero_le _) r1 ?_ ?_
  · rintro m M2 r2
    unfold q_Nf_balanceField_L16
    rw [(r2.rc h).1.1]
    refine ⟨fun _ => ?_, fun c => absurd (nI_le (Nat.le_refl _) (by omega)) c⟩
    refine pk_loop (fun m e (M' : Mem) => q_Nf_balanceField_L75 _ post m (nI e) M') (fun e M' => RB (nP σ) (fun i j => lI (gA (nP σ + e) (fwv σ) i j)) M M') (nE σ) 0 M2 (Nat.zero_le _) r2 ?_ ?_
    · rintro m M3 r3
      unfold q_Nf_balanceField_L75
      rw [(r3.rc h).1.2.1]
      exact ⟨fun _ => h_Bal_solve (by omega) r3 (fun M4 r4 h4 _ => K M4 r4 h4), fun c => absurd (nI_le (Nat.le_refl _) (by omega)) c⟩
    · rintro m e M3 he r3 ih
      have hb := we e he
      have hc := (r3.rc h).2.1 e he
      unfold q_Nf_balanceField_L75
      rw [(r3.rc h).1.2.1, clm (show e < 200 by omega), hc.1, hc.2, nI_1 (a := e)]
      have fin : ∀ {tb tf : Bool} (_ : tb = true ↔ ¬ wT σ (vB σ e) = 0) (_ : tf = true ↔ ¬ wT σ (vE σ e) = 0) (M' : Mem), RB (nP σ) (if tf = true then (if tb = true then (fun i j => lI (gA (nP σ + e) (fwv σ) i j)) else upT (upT (fun i j => lI (gA (nP σ + e) (fwv σ) i j)) (vB σ e) (vB σ e) 1) (vB σ e) (nP σ) (lI (wN σ (vE σ e)).toInt)) else upT (upT (if tb = true then (fun i j => lI (gA (nP σ + e) (fwv σ) i j)) else upT (upT (fun i j => lI (gA (nP σ + e) (fwv σ) i j)) (vB σ e) (vB σ e) 1) (vB σ e) (vE σ e) (-1)) (vE σ e) (vE σ e) 1) (vE σ e) (if tb = true then nP σ else vB σ e) (if tb = true then lI (wN σ (vB σ e)).toInt else -1)) M M' → q_Nf_balanceField_L75 (fun M9 => q_Bal_solve M9 (fun M10 => post M10)) post m (nI (e + 1)) M' := by
        intro tb tf htb htf M' r'
        refine ih M' (r'.congr (fun i j hi hj => ?_))
        rw [fi_ed hW he htb htf hi hj]
        show _ = lI (gA (nP σ + e + 1) (fwv σ) i j)
        rw [gA_s, lI_add]
      refine ⟨fun c => absurd c (nI_ge he (by omega)), fun _ => ⟨vp_in_nI (by omega) (by decide), vp_in_nI (by omega) (by decide), ?_⟩⟩
      have second : ∀ M4, RC σ M4 → vp_in (nI e) 12 ∧ (vp_in (nI e) 12 ∧ (q_Nf_balanceAt (nI (vE σ e)) (nI (vB σ e)) M4 (fun M7 => q_Nf_balanceField_L75 (fun M9 => q_Bal_solve M9 (fun M10 => post M10)) post m (nI (e + 1)) M7))) → vp_in (nI e) 12 ∧ (vp_in (nI e) 12 ∧ (q_Nf_balanceAt (M4.1 3 e) (M4.1 2 e) M4 (fun M7 => q_Nf_balanceField_L75 (fun M9 => q_Bal_solve M9 (fun M10 => post M10)) post m (nI (e + 1)) M7))) := by
        intro M4 h4 q
        rw [(h4.2.1 e he).1, (h4.2.1 e he).2]; exact q
      refine h_balanceAt hW h r3 (by omega) (by omega) (fun z => second M3 (r3.rc h) ⟨vp_in_nI (by omega) (by decide), vp_in_nI (by omega) (by decide), ?_⟩) (fun z y M4 r4 => second M4 (r4.rc h) ⟨vp_in_nI (by omega) (by decide), vp_in_nI (by omega) (by decide), ?_⟩) (fun z y M4 r4 => second M4 (r4.rc h) ⟨vp_in_nI (by omega) (by decide), vp_in_nI (by omega) (by decide), ?_⟩)
      · exact h_balanceAt hW h r3 (by omega) (by omega) (fun y => fin (tb := true) (tf := true) (by simp [z]) (by simp [y]) M3 r3) (fun y y2 => absurd y2 z) (fun y _ M5 r5 => fin (tb := true) (tf := false) (by simp [z]) (by simp [y]) M5 r5)
      · exact h_balanceAt hW h r4 (by omega) (by omega) (fun y2 => absurd y y2) (fun _ _ M5 r5 => fin (tb := false) (tf := false) (by simp [z]) (by simp [y]) M5 r5) (fun _ y2 => absurd z y2)
      · exact h_balanceAt hW h r4 (by omega) (by omega) (fun _ => fin (tb := false) (tf := true) (by simp [z]) (by simp [y]) M4 r4) (fun y2 => absurd y2 y) (fun y2 => absurd y2 y)
  · rintro m x M2 hx r2 ih
    have hc := (r2.rc h).2.2.2.1 x (by omega)
    have hw := wt x (by omega)
    unfold q_Nf_balanceField_L16
    rw [(r2.rc h).1.1, clm (show x < 200 by omega), hc.2.1, nI_1 (a := x), show (nI (wT σ x) = 0) = (wT σ x = 0) from propext (nI_eq (a := wT σ x) (b := 0) (by omega) (by omega))]
    refine ⟨fun c => absurd c (nI_ge hx (by omega)), fun _ => ⟨vp_in_nI (by omega) (by decide), fun z => ih M2 (r2.congr (fun i j hi hj => ?_)), fun z => h_Bal_add (by omega) r2 hx hx (fun M3 r3 => ⟨vp_in_nI (by omega) (by decide), ?_⟩)⟩⟩
    · rw [gA_s, lI_add, fv_w hx, if_pos z, show (0 : Int) * _ = 0 from Int.zero_mul _, show lI 0 = 0 from rfl]; grind
    · rw [((r3.rc h).2.2.2.1 x (by omega)).2.2.1, lI_32]
      refine h_Bal_addDue (by omega) r3 hx (fun M4 r4 => ih M4 (r4.congr (fun i j hi hj => ?_)))
      rw [fi_wall hx z hi hj, gA_s, lI_add]
end CFIELD
