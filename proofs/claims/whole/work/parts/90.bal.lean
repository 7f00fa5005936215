/-! the class's Balance -/
def Tb : Type := Nat → Nat → Int64
def upT (T : Nat → Nat → Int64) (i j : Nat) (x : Int64) : Nat → Nat → Int64 := fun a b => if a = i ∧ b = j then T a b + x else T a b
def RB (n : Nat) (T : Nat → Nat → Int64) (M0 M : Mem) : Prop := Ag (fun k => k = 15) (fun k => k = 15 ∨ (17 ≤ k ∧ k < 28)) M0 M ∧ M.1 15 0 = nI n ∧ ∀ i, i < n → (∀ j, j < n → M.2 (17 + i) j = T i j) ∧ M.2 27 i = T i n
/-- how many pivots -/
def cpv (n : Nat) (s : (Nat → Nat → Int64) × Int64) : Nat → Nat
  | 0 => 0
  | c + 1 => if (csq n s c).1 c c = 0 then cpv n s c else cpv n s c + 1
theorem cpv_le (n : Nat) (s : (Nat → Nat → Int64) × Int64) : ∀ c, cpv n s c ≤ c
  | 0 => Nat.le_refl _
  | c + 1 => by have := cpv_le n s c; unfold cpv; split <;> omega
section BAL
variable {σ : Sg} {M0 M : Mem} {n : Nat} {T : Nat → Nat → Int64}
theorem RB.rc (h : RC σ M0) (r : RB n T M0 M) : RC σ M := h.ag (r.1.mono (fun k hk => by unfold Sc; omega) (fun k hk => by unfold Sc; omega))
theorem RB.c56 (r : RB n T M0 M) : Ag C56 C56 M0 M := r.1.mono (fun k hk => by unfold C56; omega) (fun k hk => by unfold C56; omega)
theorem RB.congr {T' : Nat → Nat → Int64} (r : RB n T M0 M) (e : ∀ i j, i < n → j ≤ n → T i j = T' i j) : RB n T' M0 M := ⟨r.1, r.2.1, fun i hi => ⟨fun j hj => by rw [(r.2.2 i hi).1 j hj, e i j hi (by omega)], by rw [(r.2.2 i hi).2, e i n hi (by omega)]⟩⟩
theorem h_quotient {a b : Int64} {post : Int64 → Mem → Prop} (hp : post (a / b) M) : q_Nf_quotient a b M post := by
  unfold q_Nf_quotient
  refine ⟨fun c => ⟨c, hp⟩, fun c => ?_⟩
  rw [c, Int64.div_zero] at hp
  exact hp
theorem h_Bal_begin (hn : n ≤ 10) (g0 : Ag (fun k => k = 15) (fun k => k = 15 ∨ (17 ≤ k ∧ k < 28)) M0 M) {post : Mem → Prop} (K : ∀ M', RB n (fun _ _ => 0) M0 M' → post M') : q_Bal_begin (nI n) M post := by
  unfold q_Bal_begin
  have e0 : (if (10 : Int32) < nI n then (10 : Int32) else nI n) = nI n := by
    by_cases z : (10 : Int32) < nI n
    · rw [Int32.lt_iff_toInt_lt, nI_toInt (by omega)] at z
      have : (10 : Int32).toInt = 10 := rfl
      omega
    · rw [if_neg z]
  rw [e0]
  intro M1 e1
  refine pk_loop (fun m i (M' : Mem) => q_Bal_begin_L12 _ post m (nI i) M') (fun i M' => Ag (fun k => k = 15) (fun k => k = 15 ∨ (17 ≤ k ∧ k < 28)) M0 M' ∧ M'.1 15 0 = nI n ∧ ∀ a, a < i → (∀ j, j < n → M'.2 (17 + a) j = 0) ∧ M'.2 27 a = 0) n 0 M1 (Nat.zero_le _) ⟨by rw [e1]; exact g0.trans (agI rfl), by rw [e1, wI_1, if_pos rfl, if_pos rfl], fun a ha => by omega⟩ ?_ ?_
  · rintro m M2 ⟨g2, h2, h3⟩
    unfold q_Bal_begin_L12
    rw [h2]
    exact ⟨fun _ => K M2 ⟨g2, h2, h3⟩, fun c => absurd (nI_le (Nat.le_refl _) (by omega)) c⟩
  · rintro m i M2 hi ⟨g2, h2, h3⟩ ih
    unfold q_Bal_begin_L12
    rw [h2, clm (by omega), nI_1]
    refine ⟨fun c => absurd c (nI_ge hi (by omega)), fun _ => ⟨vp_in_nI (by omega) (by decide), h_fillJ (by decide) (fun M3 g3 h4 _ => ⟨vp_in_nI (by omega) (by decide), fun M4 e4 => ?_⟩)⟩⟩
    refine ih M4 ⟨?_, ?_, fun a ha => ⟨fun j hj => ?_, ?_⟩⟩
    · rw [e4]; exact (g2.trans (g3.mono (fun k hk => hk.elim) (fun k hk => by omega))).trans (agJ (by omega))
    · rw [e4]; show M3.1 15 0 = _; rw [g3.1 15 (fun q => q)]; exact h2
    · rw [e4, wJ_2, if_neg (by omega)]
      by_cases z : a = i
      · rw [z]; exact h4 j (by omega)
      · rw [g3.2 (17 + a) (by omega)]; exact (h3 a (by omega)).1 j hj
    · rw [e4, wJ_2, if_pos rfl]
      by_cases z : a = i
      · rw [if_pos z]
      · rw [if_neg z, g3.2 27 (by omega)]; exact (h3 a (by omega)).2
theorem h_Bal_add (hn : n ≤ 10) (r : RB n T M0 M) {i j : Nat} (hi : i < n) (hj : j < n) {x : Int64} {post : Mem → Prop} (K : ∀ M', RB n (upT T i j x) M0 M' → post M') : q_Bal_add (nI i) (nI j) x M post := by
  unfold q_Bal_add
  rw [clm (by omega), clm (by omega), (r.2.2 i hi).1 j hj]
  refine ⟨vp_in_nI (by omega) (by decide), vp_in_nI (by omega) (by decide), vp_in_nI (by omega) (by decide), fun M2 e2 => K M2 ⟨by rw [e2]; exact r.1.trans (agJ (by omega)), by rw [e2]; exact r.2.1, fun a ha => ⟨fun b hb => ?_, ?_⟩⟩⟩
  · rw [e2, wJ_2]
    unfold upT
    by_cases z : a = i
    · subst z
      rw [if_pos rfl]
      by_cases y : b = j
      · subst y; rw [if_pos rfl, if_pos ⟨rfl, rfl⟩]
      · rw [if_neg y, if_neg (fun q => y q.2)]; exact (r.2.2 a ha).1 b hb
    · rw [if_neg (by omega), if_neg (fun q => z q.1)]; exact (r.2.2 a ha).1 b hb
  · rw [e2, wJ_2, if_neg (by omega)]
    unfold upT
    rw [if_neg (fun q => by omega)]; exact (r.2.2 a ha).2
theorem h_Bal_addDue (hn : n ≤ 10) (r : RB n T M0 M) {i : Nat} (hi : i < n) {x : Int64} {post : Mem → Prop} (K : ∀ M', RB n (upT T i n x) M0 M' → post M') : q_Bal_addDue (nI i) x M post := by
  unfold q_Bal_addDue
  rw [clm (by omega), (r.2.2 i hi).2]
  refine ⟨vp_in_nI (by omega) (by decide), vp_in_nI (by omega) (by decide), fun M2 e2 => K M2 ⟨by rw [e2]; exact r.1.trans (agJ (by omega)), by rw [e2]; exact r.2.1, fun a ha => ⟨fun b hb => ?_, ?_⟩⟩⟩
  · rw [e2, wJ_2, if_neg (by omega)]
    unfold upT
    rw [if_neg (fun q => by omega)]; exact (r.2.2 a ha).1 b hb
  · rw [e2, wJ_2, if_pos rfl]
    unfold upT
    by_cases z : a = i
    · subst z; rw [if_pos rfl, if_pos ⟨rfl, rfl⟩]
    · rw [if_neg z, if_neg (fun q => z q.1)]; exact (r.2.2 a ha).2
theorem h_Bal_clear (hn : n ≤ 10) (r : RB n T M0 M) {i k : Nat} (hi : i < n) (hk : k < n) {p d : Int64} (hd : M.2 15 4 = d) {post : Mem → Prop} (K1 : i = k → post M) (K : i ≠ k → ∀ M', RB n (fun a b => if a = i then (p * T i b - T i k * T k b) / d else T a b) M0 M' → M'.2 15 = M.2 15 → M'.1 15 = M.1 15 → post M') : q_Bal_clear (nI i) (nI k) p M post := by
  unfold q_Bal_clear
  rw [clm (by omega), clm (by omega), (r.2.2 i hi).1 k hk, nI_eq (by omega) (by omega)]
  refine ⟨fun ne => ⟨vp_in_nI (by omega) (by decide), vp_in_nI (by omega) (by decide), ?_⟩, fun e => K1 e⟩
  refine pk_loop (fun m j (M' : Mem) => q_Bal_clear_L19 _ post m (nI i) (nI k) p (T i k) (nI j) M') (fun j M' => RB n (fun a b => if a = i ∧ b < j then (p * T i b - T i k * T k b) / d else T a b) M0 M' ∧ M'.2 15 = M.2 15 ∧ M'.1 15 = M.1 15) n 0 M (Nat.zero_le _) ⟨r.congr (fun a b _ _ => by rw [if_neg (by omega)]), rfl, rfl⟩ ?_ ?_
  · rintro m M1 ⟨r1, h15, i15⟩
    unfold q_Bal_clear_L19
    rw [r1.2.1]
    refine ⟨fun _ => ⟨vp_in_nI (by omega) (by decide), vp_in_nI (by omega) (by decide), h_quotient ⟨vp_in_nI (by omega) (by decide), fun M2 e2 => ?_⟩⟩, fun c => absurd (nI_le (Nat.le_refl _) (by omega)) c⟩
    rw [clm (by omega), clm (by omega), (r1.2.2 i hi).2, (r1.2.2 k hk).2, h15, hd] at e2
    dsimp only at e2
    rw [if_neg (by omega), if_neg (by omega)] at e2
    refine K ne M2 ⟨by rw [e2]; exact r1.1.trans (agJ (by omega)), by rw [e2]; exact r1.2.1, fun a ha => ⟨fun b hb => ?_, ?_⟩⟩ ?_ ?_
    · rw [e2, wJ_2, if_neg (by omega), (r1.2.2 a ha).1 b hb]
      dsimp only
      by_cases z : a = i
      · rw [if_pos ⟨z, hb⟩, if_pos z]
      · rw [if_neg (fun q => z q.1), if_neg z]
    · rw [e2, wJ_2, if_pos rfl, (r1.2.2 a ha).2]
      dsimp only
      by_cases z : a = i
      · rw [if_pos z, if_pos z]
      · rw [if_neg z, if_neg z, if_neg (fun q => z q.1)]
    · rw [← h15, e2]; funext q; rw [wJ_2, if_neg (by omega)]
    · rw [← i15, e2]; rfl
  · rintro m j M1 hj ⟨r1, h15, i15⟩ ih
    unfold q_Bal_clear_L19
    rw [r1.2.1, nI_1]
    refine ⟨fun c => absurd c (nI_ge hj (by omega)), fun _ => ⟨vp_in_nI (by omega) (by decide), vp_in_nI (by omega) (by decide), vp_in_nI (by omega) (by decide), vp_in_nI (by omega) (by decide), vp_in_nI (by omega) (by decide), h_quotient ⟨vp_in_nI (by omega) (by decide), fun M2 e2 => ?_⟩⟩⟩
    rw [clm (by omega), clm (by omega), clm (by omega), (r1.2.2 i hi).1 j hj, (r1.2.2 k hk).1 j hj, h15, hd] at e2
    dsimp only at e2
    rw [if_neg (by omega), if_neg (by omega)] at e2
    refine ih M2 ⟨⟨by rw [e2]; exact r1.1.trans (agJ (by omega)), by rw [e2]; exact r1.2.1, fun a ha => ⟨fun b hb => ?_, ?_⟩⟩, ?_, ?_⟩
    · rw [e2, wJ_2, (r1.2.2 a ha).1 b hb]
      dsimp only
      by_cases z : a = i
      · subst z
        rw [if_pos rfl]
        by_cases y : b = j
        · subst y; rw [if_pos rfl, if_pos ⟨rfl, by omega⟩]
        · rw [if_neg y, (r1.2.2 a ha).1 b hb]
          dsimp only
          by_cases x : b < j
          · rw [if_pos ⟨rfl, x⟩, if_pos ⟨rfl, by omega⟩]
          · rw [if_neg (fun q => x q.2), if_neg (by omega)]
      · rw [if_neg (by omega), if_neg (fun q => z q.1), if_neg (fun q => z q.1)]
    · rw [e2, wJ_2, if_neg (by omega), (r1.2.2 a ha).2]; dsimp only; rw [if_neg (by omega), if_neg (by omega)]
    · rw [← h15, e2]; funext q; rw [wJ_2, if_neg (by omega)]
    · rw [← i15, e2]; rfl
theorem h_Bal_solve (hn : n ≤ 10) (r : RB n T M0 M) {post : Mem → Prop} (K : ∀ M', RB n (csq n (T, 1) n).1 M0 M' → M'.2 15 4 = (csq n (T, 1) n).2 → M'.1 15 3 = nI (cpv n (T, 1) n) → post M') : q_Bal_solve M post := by
  unfold q_Bal_solve
  intro M1 e1 M2 e2
  have r2 : RB n T M0 M2 := by
    refine ⟨by rw [e2, e1]; exact (r.1.trans (agI rfl)).trans (agJ (Or.inl rfl)), ?_, fun a ha => ⟨fun b hb => ?_, ?_⟩⟩
    · rw [e2, e1, wJ_1, wI_1, if_pos rfl, if_neg (by decide)]; exact r.2.1
    · rw [e2, wJ_2, if_neg (by omega), e1]; exact (r.2.2 a ha).1 b hb
    · rw [e2, wJ_2, if_neg (by omega), e1]; exact (r.2.2 a ha).2
  refine pk_loop (fun m c (M' : Mem) => q_Bal_solve_L12 _ post m (nI c) M') (fun c M' => RB n (csq n (T, 1) c).1 M0 M' ∧ M'.2 15 4 = (csq n (T, 1) c).2 ∧ M'.1 15 3 = nI (cpv n (T, 1) c)) n 0 M2 (Nat.zero_le _) ⟨r2, by rw [e2, wJ_2, if_pos rfl, if_pos rfl]; rfl, by rw [e2, wJ_1, e1, wI_1, if_pos rfl, if_pos rfl]; rfl⟩ ?_ ?_
  · rintro m M3 ⟨r3, h3, h4⟩
    unfold q_Bal_solve_L12
    rw [r3.2.1]
    exact ⟨fun _ => K M3 r3 h3 h4, fun c => absurd (nI_le (Nat.le_refl _) (by omega)) c⟩
  · rintro m c M3 hc ⟨r3, h3, h4⟩ ih
    have cle := cpv_le n (T, 1) c
    unfold q_Bal_solve_L12
    rw [r3.2.1, clm (by omega), (r3.2.2 c hc).1 c hc]
    refine ⟨fun q => absurd q (nI_ge hc (by omega)), fun _ => ⟨vp_in_nI (by omega) (by decide), vp_in_nI (by omega) (by decide), fun z => ?_, fun z => ?_⟩⟩
    · rw [nI_1]
      have e : csq n (T, 1) (c + 1) = csq n (T, 1) c := by show cst n c _ = _; unfold cst; rw [if_pos z]
      have e' : cpv n (T, 1) (c + 1) = cpv n (T, 1) c := by show (if _ then _ else _) = _; rw [if_pos z]
      refine ih M3 ⟨?_, ?_, ?_⟩
      · rw [e]; exact r3
      · rw [e]; exact h3
      · rw [e']; exact h4
    · have e : csq n (T, 1) (c + 1) = (fun i j => if i < n ∧ i ≠ c ∧ j ≤ n then ((csq n (T, 1) c).1 c c * (csq n (T, 1) c).1 i j - (csq n (T, 1) c).1 i c * (csq n (T, 1) c).1 c j) / (csq n (T, 1) c).2 else (csq n (T, 1) c).1 i j, (csq n (T, 1) c).1 c c) := by show cst n c _ = _; unfold cst; rw [if_neg z]
      have e' : cpv n (T, 1) (c + 1) = cpv n (T, 1) c + 1 := by show (if _ then _ else _) = _; rw [if_neg z]
      generalize csq n (T, 1) c = S at *
      refine pk_loop (fun m2 i (M' : Mem) => q_Bal_solve_L38 _ post m2 (nI c) (S.1 c c) (nI i) M') (fun i M' => RB n (fun a b => if a < i ∧ a ≠ c then (S.1 c c * S.1 a b - S.1 a c * S.1 c b) / S.2 else S.1 a b) M0 M' ∧ M'.2 15 4 = S.2 ∧ M'.1 15 3 = nI (cpv n (T, 1) c)) n 0 M3 (Nat.zero_le _) ⟨r3.congr (fun a b _ _ => by rw [if_neg (by omega)]), h3, h4⟩ ?_ ?_
      · rintro m2 M4 ⟨r4, h5, h6⟩
        unfold q_Bal_solve_L38
        rw [r4.2.1]
        refine ⟨fun _ => fun M5 e5 M6 e6 => ?_, fun q => absurd (nI_le (Nat.le_refl _) (by omega)) q⟩
        rw [nI_1]
        have e53 : M5.1 15 3 = nI (cpv n (T, 1) c) := by rw [e5]; exact h6
        refine ih M6 ⟨⟨by rw [e6, e5]; exact (r4.1.trans (agJ (Or.inl rfl))).trans (agI rfl), ?_, fun a ha => ⟨fun b hb => ?_, ?_⟩⟩, ?_, ?_⟩
        · rw [e6, wI_1, if_pos rfl, if_neg (by decide), e5]; exact r4.2.1
        · rw [e6, wI_2, e5, wJ_2, if_neg (by omega), (r4.2.2 a ha).1 b hb, e]
          by_cases y : a = c
          · dsimp only; rw [if_neg (fun q => q.2 y), if_neg (fun q => q.2.1 y)]
          · dsimp only; rw [if_pos ⟨ha, y⟩, if_pos ⟨ha, y, by omega⟩]
        · rw [e6, wI_2, e5, wJ_2, if_neg (by omega), (r4.2.2 a ha).2, e]
          by_cases y : a = c
          · dsimp only; rw [if_neg (fun q => q.2 y), if_neg (fun q => q.2.1 y)]
          · dsimp only; rw [if_pos ⟨ha, y⟩, if_pos ⟨ha, y, by omega⟩]
        · rw [e6, wI_2, e5, wJ_2, if_pos rfl, if_pos rfl, e]
        · rw [e6, wI_1, if_pos rfl, if_pos rfl, e53, nI_1, e']
      · rintro m2 i M4 hi ⟨r4, h5, h6⟩ ih2
        unfold q_Bal_solve_L38
        rw [r4.2.1, nI_1 (a := i)]
        refine ⟨fun q => absurd q (nI_ge hi (by omega)), fun _ => h_Bal_clear hn r4 hi hc h5 (fun y => ih2 M4 ⟨r4.congr (fun a b ha hb => ?_), h5, h6⟩) (fun y M5 r5 h7 h8 => ih2 M5 ⟨r5.congr (fun a b ha hb => ?_), by rw [h7]; exact h5, by rw [h8]; exact h6⟩)⟩
        · by_cases x : a < i ∧ a ≠ c
          · rw [if_pos x, if_pos ⟨by omega, x.2⟩]
          · rw [if_neg x, if_neg (by omega)]
        · by_cases x : a = i
          · subst x
            rw [if_pos rfl, if_neg (by omega), if_neg (by omega), if_neg (by omega), if_pos ⟨by omega, y⟩]
          · rw [if_neg x]
            by_cases w : a < i ∧ a ≠ c
            · rw [if_pos w, if_pos ⟨by omega, w.2⟩]
            · rw [if_neg w, if_neg (by omega)]
theorem h_Bal_above (hn : n ≤ 10) (r : RB n T M0 M) {i : Nat} (hi : i < n) {post : Int64 → Mem → Prop} (hp : post (T i n) M) : q_Bal_above (nI i) M post := by
  unfold q_Bal_above
  rw [clm (by omega), (r.2.2 i hi).2]
  exact ⟨vp_in_nI (by omega) (by decide), hp⟩
end BAL
