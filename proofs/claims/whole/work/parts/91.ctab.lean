/-! the class's tables -/
def lI (x : Int) : Int64 := Int64.ofInt x
theorem lI_add (a b : Int) : lI (a + b) = lI a + lI b := Int64.ofInt_add a b
theorem lI_mul (a b : Int) : lI (a * b) = lI a * lI b := Int64.ofInt_mul a b
theorem lI_sub (a b : Int) : lI (a - b) = lI a - lI b := Int64.ofInt_sub a b
theorem lI_neg (a : Int) : lI (-a) = -lI a := Int64.ofInt_neg a
theorem lI_t {x : Int} (h1 : -9223372036854775808 < x) (h2 : x < 9223372036854775808) : (lI x).toInt = x := by
  unfold lI
  rw [Int64.toInt_ofInt]; exact bm64 h1 h2
theorem lI_32 (x : Int32) : x.toInt64 = lI x.toInt := by
  apply Int64.toInt_inj.mp
  have h1 := Int32.le_toInt x
  have h2 := Int32.toInt_lt x
  rw [toI64, lI_t (by omega) (by omega)]
theorem lI_n32 {x : Int32} (h : i32le x 1000000) : (-x).toInt64 = lI (-x.toInt) := by
  rw [lI_32]
  congr 1
  have h1 := h.1
  have h2 := h.2
  rw [Int32.toInt_neg]
  exact Int.bmod_eq_of_le_mul_two (by omega) (by omega)
theorem lI_sg (σ : Sg) (d k s : Nat) : (iI (sgn σ d k s)).toInt64 = lI (sgn σ d k s) := by
  rcases sgn_cases σ d k s with h | h | h <;> rw [h] <;> rfl
theorem lI_sg2 (σ : Sg) (d k s d' k' s' : Nat) : (iI (sgn σ d k s) * iI (sgn σ d' k' s')).toInt64 = lI (sgn σ d k s * sgn σ d' k' s') := by
  rcases sgn_cases σ d k s with h | h | h <;> rcases sgn_cases σ d' k' s' with h' | h' | h' <;> rw [h, h'] <;> rfl
/-- the rows of the slope's table and of the plates' -/
def slv (σ : Sg) (f : Nat) (i e : Nat) : Int := if i = nP σ then (fN σ f e).toInt else sgn σ 1 e i
def plv (σ : Sg) (w : Nat → Int) (i e : Nat) : Int := if i = nF σ then w e else sgn σ 2 i e
theorem gA_s (m : Nat) (v : Nat → Nat → Int) (i j : Nat) : gA (m + 1) v i j = gA m v i j + v i m * v j m := rfl
section CTAB
variable {σ : Sg} {M0 M : Mem} {T : Nat → Nat → Int64}
theorem up6 (G : Nat → Nat → Int64) {b f n : Nat} (hb : b < f) (hf : f < n) (W : Int64) {i j : Nat} (hi : i < n) (hj : j ≤ n) :
    upT (upT (upT (upT (upT (upT G b b 1) f f 1) b f (-1)) f b (-1)) b n (-W)) f n W i j = G i j + (if f = i then 1 else if b = i then -1 else 0) * (if j = n then W else if f = j then 1 else if b = j then -1 else 0) := by
  unfold upT
  have z3 : ¬ (b = f) := by omega
  have z3' : ¬ (f = b) := by omega
  have z6 : ¬ (n = b) := by omega
  have z7 : ¬ (n = f) := by omega
  have z8 : ¬ (b = n) := by omega
  have z9 : ¬ (f = n) := by omega
  by_cases i1 : i = f
  · subst i1
    by_cases j1 : j = n
    · subst j1; simp [z3, z3', z6, z7]
    · by_cases j2 : j = i
      · subst j2; simp [j1, z3, z3']
      · by_cases j3 : j = b
        · subst j3; simp [z3, z3', z8, z9]
        · have z4 : ¬ (i = j) := by omega
          have z5 : ¬ (b = j) := by omega
          simp [j1, j2, j3, z3, z3', z4, z5]
  · by_cases i2 : i = b
    · subst i2
      by_cases j1 : j = n
      · subst j1; simp [z3, z3', z6, z7]; grind
      · by_cases j2 : j = f
        · subst j2; simp [z3, z3', z9]
        · by_cases j3 : j = i
          · subst j3; simp [z3, z3', z8]
          · have z4 : ¬ (f = j) := by omega
            have z5 : ¬ (i = j) := by omega
            simp [j1, j2, j3, z3, z3', z4, z5]
    · have z1 : ¬ (f = i) := by omega
      have z2 : ¬ (b = i) := by omega
      simp [i1, i2, z1, z2]
theorem sl_step (hW : WF σ) {f k : Nat} (hk : k < nE σ) {i j : Nat} (hi : i < nP σ) (hj : j ≤ nP σ) :
    upT (upT (upT (upT (upT (upT (fun i j => lI (gA k (slv σ f) i j)) (vB σ k) (vB σ k) 1) (vE σ k) (vE σ k) 1) (vB σ k) (vE σ k) (-1)) (vE σ k) (vB σ k) (-1)) (vB σ k) (nP σ) (lI (-(fN σ f k).toInt))) (vE σ k) (nP σ) (lI (fN σ f k).toInt) i j = lI (gA (k + 1) (slv σ f) i j) := by
  obtain ⟨w1, w2, -⟩ := hW
  have hb := w2 k hk
  rw [gA_s, lI_add, lI_mul, lI_neg, up6 _ hb.1 hb.2 _ hi hj]
  have ei : lI (slv σ f i k) = if vE σ k = i then 1 else if vB σ k = i then -1 else 0 := by
    unfold slv sgn
    rw [if_neg (by omega), if_pos rfl]
    repeat' split
    all_goals rfl
  have ej : lI (slv σ f j k) = if j = nP σ then lI (fN σ f k).toInt else if vE σ k = j then 1 else if vB σ k = j then -1 else 0 := by
    unfold slv sgn
    rw [if_pos rfl]
    repeat' split
    all_goals rfl
  rw [ei, ej]
theorem h_slopePart (hW : WF σ) (h : RC σ M) {f x : Nat} (hf : f < 12) (hx : x < nE σ) {post : Int64 → Mem → Prop} (K : ∀ M', RB (nP σ) (csq (nP σ) (fun i j => lI (gA (nE σ) (slv σ f) i j), 1) (nP σ)).1 M M' → M'.2 15 4 = (csq (nP σ) (fun i j => lI (gA (nE σ) (slv σ f) i j), 1) (nP σ)).2 → post ((csq (nP σ) (fun i j => lI (gA (nE σ) (slv σ f) i j), 1) (nP σ)).1 (vE σ x) (nP σ) - (csq (nP σ) (fun i j => lI (gA (nE σ) (slv σ f) i j), 1) (nP σ)).1 (vB σ x) (nP σ)) M') : q_Nf_slopePart f (nI x) M post := by
  obtain ⟨⟨w1, w2, w3, w4⟩, we, -, -, -, -, wf, -⟩ := id hW
  unfold q_Nf_slopePart
  rw [h.1.1]
  refine h_Bal_begin (by omega) Ag.rf (fun M1 r1 => ?_)
  refine pk_loop (fun m e (M' : Mem) => q_Nf_slopePart_L16 f _ post m (nI x) (nI e) M') (fun e M' => RB (nP σ) (fun i j => lI (gA e (slv σ f) i j)) M M') (nE σ) 0 M1 (Nat.zero_le _) r1 ?_ ?_
  · rintro m M2 r2
    unfold q_Nf_slopePart_L16
    rw [(r2.rc h).1.2.1]
    refine ⟨fun _ => h_Bal_solve (by omega) r2 (fun M3 r3 h3 _ => ?_), fun c => absurd (nI_le (Nat.le_refl _) (by omega)) c⟩
    have h2 := (r3.rc h).2.1 x hx
    have h4 := we x hx
    rw [clm (by omega), h2.2]
    exact ⟨vp_in_nI (by omega) (by decide), h_Bal_above (by omega) r3 (by omega) ⟨vp_in_nI (by omega) (by decide), by rw [h2.1]; exact h_Bal_above (by omega) r3 (by omega) (K M3 r3 h3)⟩⟩
  · rintro m e M2 he r2 ih
    have hc := r2.rc h
    have h2 := hc.2.1 e he
    have h4 := we e he
    unfold q_Nf_slopePart_L16
    rw [hc.1.2.1, clm (show e < 200 by omega), h2.1, h2.2, nI_1 (a := e)]
    refine ⟨fun c => absurd c (nI_ge he (by omega)), fun _ => ⟨vp_in_nI (by omega) (by decide), vp_in_nI (by omega) (by decide), ?_⟩⟩
    refine h_Bal_add (by omega) r2 (by omega) (by omega) (fun M3 r3 => h_Bal_add (by omega) r3 (by omega) (by omega) (fun M4 r4 => h_Bal_add (by omega) r4 (by omega) (by omega) (fun M5 r5 => h_Bal_add (by omega) r5 (by omega) (by omega) (fun M6 r6 => ⟨vp_in_nI (by omega) (by decide), ?_⟩))))
    rw [((r6.rc h).2.2.2.2.1 f hf).2 e (by omega), lI_n32 ((wf f hf).2 e (by omega)).1]
    refine h_Bal_addDue (by omega) r6 (by omega) (fun M7 r7 => ⟨vp_in_nI (by omega) (by decide), ?_⟩)
    rw [((r7.rc h).2.2.2.2.1 f hf).2 e (by omega), lI_32]
    exact h_Bal_addDue (by omega) r7 (by omega) (fun M8 r8 => ih M8 (r8.congr (fun i j hi hj => sl_step hW he hi hj)))
theorem h_addPlateProducts (hW : WF σ) (h : RC σ M0) (r : RB (nF σ) T M0 M) {post : Mem → Prop} (K : ∀ M', RB (nF σ) (fun i j => if j < nF σ then T i j + lI (gA (nE σ) (sgn σ 2) i j) else T i j) M0 M' → post M') : q_Nf_addPlateProducts M post := by
  obtain ⟨⟨w1, w2, w3, w4⟩, -⟩ := id hW
  unfold q_Nf_addPlateProducts
  refine pk_loop (fun m a (M' : Mem) => q_Nf_addPlateProducts_L2 _ post m (nI a) M') (fun a M' => RB (nF σ) (fun i j => if i < a ∧ j < nF σ then T i j + lI (gA (nE σ) (sgn σ 2) i j) else T i j) M0 M') (nF σ) 0 M (Nat.zero_le _) (r.congr (fun i j _ _ => by rw [if_neg (by omega)])) ?_ ?_
  · rintro m M2 r2
    unfold q_Nf_addPlateProducts_L2
    rw [(r2.rc h).1.2.2]
    refine ⟨fun _ => K M2 (r2.congr (fun i j hi hj => ?_)), fun c => absurd (nI_le (Nat.le_refl _) (by omega)) c⟩
    by_cases z : j < nF σ
    · rw [if_pos ⟨hi, z⟩, if_pos z]
    · rw [if_neg (fun q => z q.2), if_neg z]
  · rintro m a M2 ha r2 ih
    unfold q_Nf_addPlateProducts_L2
    rw [(r2.rc h).1.2.2]
    refine ⟨fun c => absurd c (nI_ge ha (by omega)), fun _ => ?_⟩
    generalize hT1 : (fun i j => if i < a ∧ j < nF σ then T i j + lI (gA (nE σ) (sgn σ 2) i j) else T i j) = T1 at r2
    refine pk_loop (fun m2 b (M' : Mem) => q_Nf_addPlateProducts_L15 _ post m2 (nI a) (nI b) M') (fun b M' => RB (nF σ) (fun i j => if i = a ∧ j < b then T1 i j + lI (gA (nE σ) (sgn σ 2) i j) else T1 i j) M0 M') (nF σ) 0 M2 (Nat.zero_le _) (r2.congr (fun i j _ _ => by rw [if_neg (by omega)])) ?_ ?_
    · rintro m2 M3 r3
      unfold q_Nf_addPlateProducts_L15
      rw [(r3.rc h).1.2.2, nI_1 (a := a)]
      refine ⟨fun _ => ih M3 (r3.congr (fun i j hi hj => ?_)), fun c => absurd (nI_le (Nat.le_refl _) (by omega)) c⟩
      rw [← hT1]
      dsimp only
      by_cases z : j < nF σ
      · by_cases y : i = a
        · rw [if_pos ⟨y, z⟩, if_neg (by omega), if_pos ⟨by omega, z⟩]
        · rw [if_neg (fun q => y q.1)]
          by_cases x : i < a
          · rw [if_pos ⟨x, z⟩, if_pos ⟨by omega, z⟩]
          · rw [if_neg (fun q => x q.1), if_neg (by omega)]
      · rw [if_neg (fun q => z q.2), if_neg (fun q => z q.2), if_neg (fun q => z q.2)]
    · rintro m2 b M3 hb r3 ih2
      unfold q_Nf_addPlateProducts_L15
      rw [(r3.rc h).1.2.2]
      refine ⟨fun c => absurd c (nI_ge hb (by omega)), fun _ => ?_⟩
      generalize hT2 : (fun i j => if i = a ∧ j < b then T1 i j + lI (gA (nE σ) (sgn σ 2) i j) else T1 i j) = T2 at r3
      refine pk_loop (fun m3 e (M' : Mem) => q_Nf_addPlateProducts_L28 _ post m3 (nI a) (nI b) (nI e) M') (fun e M' => RB (nF σ) (upT T2 a b (lI (gA e (sgn σ 2) a b))) M0 M') (nE σ) 0 M3 (Nat.zero_le _) (r3.congr (fun i j _ _ => ?_)) ?_ ?_
      · unfold upT
        by_cases z : i = a ∧ j = b
        · rw [if_pos z, show lI (gA 0 (sgn σ 2) a b) = 0 from rfl]; grind
        · rw [if_neg z]
      · rintro m3 M4 r4
        unfold q_Nf_addPlateProducts_L28
        rw [(r4.rc h).1.2.1, nI_1 (a := b)]
        refine ⟨fun _ => ih2 M4 (r4.congr (fun i j hi hj => ?_)), fun c => absurd (nI_le (Nat.le_refl _) (by omega)) c⟩
        rw [← hT2]
        unfold upT
        dsimp only
        by_cases z : i = a ∧ j = b
        · rw [if_pos z, if_neg (by omega), if_pos ⟨z.1, by omega⟩, z.1, z.2]
        · rw [if_neg z]
          by_cases y : i = a ∧ j < b
          · rw [if_pos y, if_pos ⟨y.1, by omega⟩]
          · rw [if_neg y, if_neg (by omega)]
      · rintro m3 e M4 he r4 ih3
        unfold q_Nf_addPlateProducts_L28
        have hc := r4.rc h
        rw [hc.1.2.1, nI_1 (a := e)]
        refine ⟨fun c => absurd c (nI_ge he (by omega)), fun _ => h_Net_signOf hW hc (Or.inr rfl) (show a < sz σ 2 from ha) (by omega) (h_Net_signOf hW hc (Or.inr rfl) (show b < sz σ 2 from hb) (by omega) ?_)⟩
        rw [lI_sg2]
        refine h_Bal_add (by omega) r4 ha hb (fun M5 r5 => ih3 M5 (r5.congr (fun i j hi hj => ?_)))
        unfold upT
        by_cases z : i = a ∧ j = b
        · rw [if_pos z, if_pos z, if_pos z, gA_s, lI_add]; grind
        · rw [if_neg z, if_neg z, if_neg z]
/-- the plates' table, with dues w -/
def plT (σ : Sg) (w : Nat → Int) : Nat → Nat → Int64 := fun i j => lI (gA (nE σ) (plv σ w) i j)
theorem gA_congr {m : Nat} {v v' : Nat → Nat → Int} {i j : Nat} (h1 : ∀ e, e < m → v i e = v' i e) (h2 : ∀ e, e < m → v j e = v' j e) : gA m v i j = gA m v' i j := sm_congr (fun e he => by rw [h1 e he, h2 e he])
theorem plT_lt {w : Nat → Int} {i j : Nat} (hi : i < nF σ) (hj : j < nF σ) : plT σ w i j = lI (gA (nE σ) (sgn σ 2) i j) := by
  unfold plT
  rw [gA_congr (v' := sgn σ 2) (fun e _ => by unfold plv; rw [if_neg (by omega)]) (fun e _ => by unfold plv; rw [if_neg (by omega)])]
theorem plT_0 {i : Nat} : plT σ (fun _ => 0) i (nF σ) = 0 := by
  unfold plT gA
  rw [sm_zero (fun e _ => by unfold plv; rw [if_pos rfl]; simp)]; rfl
theorem h_countTurns (hW : WF σ) (h : RC σ M) {post : Int32 → Mem → Prop} (K : ∀ M', RC σ M' → Ag C56 C56 M M' → post (nI (cpv (nF σ) (plT σ (fun _ => 0), 1) (nF σ))) M') : q_Nf_countTurns M post := by
  obtain ⟨⟨w1, w2, w3, w4⟩, -⟩ := id hW
  unfold q_Nf_countTurns
  rw [h.1.2.2]
  refine h_Bal_begin w4 Ag.rf (fun M1 r1 => h_addPlateProducts hW h r1 (fun M2 r2 => ?_))
  have r3 : RB (nF σ) (plT σ (fun _ => 0)) M M2 := r2.congr (fun i j hi hj => by
    by_cases z : j < nF σ
    · rw [if_pos z, plT_lt hi z]; simp
    · have : j = nF σ := by omega
      subst this
      rw [if_neg z, plT_0])
  refine h_Bal_solve w4 r3 (fun M3 r4 _ h4 => ?_)
  rw [h4]
  exact K M3 (r4.rc h) r4.c56
theorem h_turnPart (hW : WF σ) (h : RC σ M) {f x : Nat} (hf : f < 12) (hx : x < nE σ) {post : Int64 → Mem → Prop} (K : ∀ M', RB (nF σ) (csq (nF σ) (plT σ (fun e => (fN σ f e).toInt), 1) (nF σ)).1 M M' → M'.2 15 4 = (csq (nF σ) (plT σ (fun e => (fN σ f e).toInt), 1) (nF σ)).2 → post (smJ (fun i => lI (sgn σ 2 i x) * (csq (nF σ) (plT σ (fun e => (fN σ f e).toInt), 1) (nF σ)).1 i (nF σ)) (nF σ)) M') : q_Nf_turnPart f (nI x) M post := by
  obtain ⟨⟨w1, w2, w3, w4⟩, -⟩ := id hW
  unfold q_Nf_turnPart
  rw [h.1.2.2]
  refine h_Bal_begin w4 Ag.rf (fun M1 r1 => h_addPlateProducts hW h r1 (fun M2 r2 => ?_))
  generalize hw : (fun e => (fN σ f e).toInt) = w at K
  have hw' : ∀ e, (fN σ f e).toInt = w e := fun e => congrFun hw e
  refine pk_loop (fun m a (M' : Mem) => q_Nf_turnPart_L20 f _ post m (nI x) (nI a) M') (fun a M' => RB (nF σ) (fun i j => if j < nF σ ∨ i < a then plT σ w i j else 0) M M') (nF σ) 0 M2 (Nat.zero_le _) (r2.congr (fun i j hi hj => ?_)) ?_ ?_
  · by_cases z : j < nF σ
    · rw [if_pos z, if_pos (Or.inl z), plT_lt hi z]; simp
    · rw [if_neg z, if_neg (by omega)]
  · rintro m M3 r3
    unfold q_Nf_turnPart_L20
    rw [(r3.rc h).1.2.2]
    refine ⟨fun _ => ?_, fun c => absurd (nI_le (Nat.le_refl _) (by omega)) c⟩
    have r4 : RB (nF σ) (plT σ w) M M3 := r3.congr (fun i j hi hj => by rw [if_pos (Or.inr hi)])
    refine h_Bal_solve w4 r4 (fun M4 r5 h5 _ => ?_)
    refine pk_loop (fun m2 a (s : Int64 × Mem) => q_Nf_turnPart_L99 _ post m2 (nI x) s.1 (nI a) s.2) (fun a s => s.2 = M4 ∧ s.1 = smJ (fun i => lI (sgn σ 2 i x) * (csq (nF σ) (plT σ w, 1) (nF σ)).1 i (nF σ)) a) (nF σ) 0 (0, M4) (Nat.zero_le _) ⟨rfl, rfl⟩ ?_ ?_
    · rintro m2 ⟨y, M5⟩ ⟨rfl, rfl⟩
      unfold q_Nf_turnPart_L99
      rw [(r5.rc h).1.2.2]
      exact ⟨fun _ => K _ r5 h5, fun c => absurd (nI_le (Nat.le_refl _) (by omega)) c⟩
    · rintro m2 a ⟨y, M5⟩ ha ⟨rfl, rfl⟩ ih
      unfold q_Nf_turnPart_L99
      dsimp only
      rw [(r5.rc h).1.2.2, nI_1 (a := a)]
      refine ⟨fun c => absurd c (nI_ge ha (by omega)), fun _ => h_Net_signOf hW (r5.rc h) (Or.inr rfl) (show a < sz σ 2 from ha) (by omega) (h_Bal_above w4 r5 ha ?_)⟩
      refine ih (_, _) ⟨rfl, ?_⟩
      rw [lI_sg]; rfl
  · rintro m a M3 ha r3 ih
    unfold q_Nf_turnPart_L20
    rw [(r3.rc h).1.2.2]
    refine ⟨fun c => absurd c (nI_ge ha (by omega)), fun _ => ?_⟩
    generalize hT1 : (fun i j => if j < nF σ ∨ i < a then plT σ w i j else 0) = T1 at r3
    refine pk_loop (fun m2 e (M' : Mem) => q_Nf_turnPart_L34 f _ post m2 (nI x) (nI a) (nI e) M') (fun e M' => RB (nF σ) (upT T1 a (nF σ) (lI (gA e (plv σ w) a (nF σ)))) M M') (nE σ) 0 M3 (Nat.zero_le _) (r3.congr (fun i j _ _ => ?_)) ?_ ?_
    · unfold upT
      by_cases z : i = a ∧ j = nF σ
      · rw [if_pos z, show lI (gA 0 (plv σ w) a (nF σ)) = 0 from rfl]; grind
      · rw [if_neg z]
    · rintro m2 M4 r4
      unfold q_Nf_turnPart_L34
      rw [(r4.rc h).1.2.1, nI_1 (a := a)]
      refine ⟨fun _ => ih M4 (r4.congr (fun i j hi hj => ?_)), fun c => absurd (nI_le (Nat.le_refl _) (by omega)) c⟩
      rw [← hT1]
      unfold upT
      dsimp only
      by_cases z : i = a ∧ j = nF σ
      · rw [if_pos z, if_neg (by omega), if_pos (Or.inr (by omega)), z.1, z.2]; unfold plT; simp
      · rw [if_neg z]
        by_cases y : j < nF σ ∨ i < a
        · rw [if_pos y, if_pos (by omega)]
        · rw [if_neg y, if_neg (by omega)]
    · rintro m2 e M4 he r4 ih2
      unfold q_Nf_turnPart_L34
      have hc := r4.rc h
      rw [hc.1.2.1, nI_1 (a := e), clm (show e < 200 by omega)]
      refine ⟨fun c => absurd c (nI_ge he (by omega)), fun _ => h_Net_signOf hW hc (Or.inr rfl) (show a < sz σ 2 from ha) (by omega) ⟨vp_in_nI (by omega) (by decide), ?_⟩⟩
      rw [(hc.2.2.2.2.1 f hf).2 e (by omega), lI_sg, lI_32, hw', ← lI_mul]
      refine h_Bal_addDue w4 r4 ha (fun M5 r5 => ih2 M5 (r5.congr (fun i j hi hj => ?_)))
      unfold upT
      by_cases z : i = a ∧ j = nF σ
      · have e1 : plv σ w a e = sgn σ 2 a e := by unfold plv; rw [if_neg (by omega)]
        have e2 : plv σ w (nF σ) e = w e := by unfold plv; rw [if_pos rfl]
        rw [if_pos z, if_pos z, if_pos z, gA_s, lI_add, e1, e2]; grind
      · rw [if_neg z, if_neg z, if_neg z]
end CTAB
