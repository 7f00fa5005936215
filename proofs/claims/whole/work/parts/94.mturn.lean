/-! the reference's elimination -/
theorem ix13 {f k : Nat} : (13 : Int32) * nI f + nI k = nI (13 * f + k) := by
  rw [show (13 : Int32) = nI 13 from rfl, pk_mul, nI_add]
def RX (M0 M : Mem) : Prop := Ag (fun k => k = 70) (fun k => k = 56 ∨ k = 69 ∨ k = 71) M0 M ∧ ∀ j, j ≠ 18 → M.2 56 j = M0.2 56 j
def RT (N W : Nat) (T : Nat → Nat → Int64) (M : Mem) : Prop := ∀ i, i < N → ∀ j, j < W → M.2 69 (13 * i + j) = T i j
def sw (T : Nat → Nat → Int64) (r p : Nat) : Nat → Nat → Int64 := fun i j => if i = r then T p j else if i = p then T r j else T i j
def el (S : Nat → Nat → Int64) (p c : Nat) (d : Int64) : Nat → Nat → Int64 := fun i j => if i = p then S i j else (S i j * S p c - S i c * S p j) / d
section MTURN
variable {σ : Sg} {M0 M M1 M2 : Mem} {N W : Nat} {T : Nat → Nat → Int64}
theorem RX.rf : RX M M := ⟨Ag.rf, fun _ _ => rfl⟩
theorem RX.trans (a : RX M0 M1) (b : RX M1 M2) : RX M0 M2 := ⟨a.1.trans b.1, fun j hj => (b.2 j hj).trans (a.2 j hj)⟩
theorem RX.j69 {i : Nat} {x : Int64} : RX M (wJ M 69 i x) := ⟨agJ (Or.inr (Or.inl rfl)), fun j hj => by rw [wJ_2, if_neg (by decide)]⟩
theorem RX.j71 {i : Nat} {x : Int64} : RX M (wJ M 71 i x) := ⟨agJ (Or.inr (Or.inr rfl)), fun j hj => by rw [wJ_2, if_neg (by decide)]⟩
theorem RX.j56 {x : Int64} : RX M (wJ M 56 18 x) := ⟨agJ (Or.inl rfl), fun j hj => by rw [wJ_2, if_pos rfl, if_neg hj]⟩
theorem RX.i70 {i : Nat} {x : Int32} : RX M (wI M 70 i x) := ⟨agI rfl, fun j hj => rfl⟩
theorem RX.rm (h : RM σ M0) (r : RX M0 M) : RM σ M := h.ag (r.1.mono (fun k hk => by unfold Sm; omega) (fun k hk => by unfold Tm; omega))
theorem RX.d (r : RX M0 M) : Ag D56 D56 M0 M := r.1.mono (fun k hk => by unfold D56; omega) (fun k hk => by unfold D56; omega)
theorem RT.congr {T' : Nat → Nat → Int64} (r : RT N W T M) (e : ∀ i j, i < N → j < W → T i j = T' i j) : RT N W T' M := fun i hi j hj => by rw [r i hi j hj, e i j hi hj]
theorem RT.put (hW : W ≤ 13) (r : RT N W T M) {a b : Nat} (ha : a < N) (hb : b < W) {x : Int64} : RT N W (fun i j => if i = a ∧ j = b then x else T i j) (wJ M 69 (13 * a + b) x) := by
  intro i hi j hj
  rw [wJ_2, if_pos rfl]
  dsimp only
  by_cases z : i = a ∧ j = b
  · rw [if_pos (by omega), if_pos z]
  · rw [if_neg (by omega), if_neg z, r i hi j hj]
theorem h_empties {post : Mem → Prop} (K : ∀ M', RX M M' → (∀ N W T, N ≤ 12 → W ≤ 13 → (∀ i j, T i j = (0 : Int64)) → RT N W T M') → post M') : q_Mo_empties M post := by
  unfold q_Mo_empties
  refine pk_loop (fun m i (M' : Mem) => q_Mo_empties_L2 _ post m (nI i) M') (fun i M' => RX M M' ∧ ∀ x, x < i → M'.2 69 x = 0) 156 0 M (Nat.zero_le _) ⟨RX.rf, fun x hx => by omega⟩ ?_ ?_
  · rintro m M2 ⟨r2, h2⟩
    unfold q_Mo_empties_L2
    exact ⟨fun _ => K M2 r2 (fun N W T hN hW e i hi j hj => by rw [h2 _ (by omega), e]), fun c => absurd (nI_le (Nat.le_refl 156) (by omega)) c⟩
  · rintro m i M2 hi ⟨r2, h2⟩ ih
    unfold q_Mo_empties_L2
    rw [clm (by omega), nI_1]
    refine ⟨fun c => absurd c (show ¬ nI 156 ≤ nI i from nI_ge hi (by decide)), fun _ => ⟨vp_in_nI (by omega) (by decide), fun M3 e3 => ih M3 ⟨by rw [e3]; exact r2.trans RX.j69, fun x hx => ?_⟩⟩⟩
    rw [e3, wJ_2, if_pos rfl]
    by_cases z : x = i
    · rw [if_pos z]
    · rw [if_neg z, h2 x (by omega)]
theorem h_turn (hN : N ≤ 12) (hW : W ≤ 13) (r : RT N W T M) {p c : Nat} (hp : p < N) (hc : c < W) {d : Int64} (hd : M.2 56 18 = d) (hd0 : d ≠ 0) {post : Mem → Prop} (K : ∀ M', RX M M' → RT N W (el T p c d) M' → M'.2 56 18 = T p c → M'.1 70 = M.1 70 → post M') : q_Mo_turn (nI p) (nI c) (nI N) (nI W) M post := by
  unfold q_Mo_turn
  rw [ix13, clm (by omega), r p hp c hc]
  refine ⟨vp_in_nI (by omega) (by decide), ?_⟩
  refine pk_loop (fun m i (M' : Mem) => q_Mo_turn_L16 _ post m (nI p) (nI c) (nI N) (nI W) (T p c) (nI i) M') (fun i M' => RX M M' ∧ M'.2 56 18 = d ∧ M'.1 70 = M.1 70 ∧ RT N W (fun a b => if a < i then el T p c d a b else T a b) M') N 0 M (Nat.zero_le _) ⟨RX.rf, hd, rfl, r.congr (fun a b _ _ => by rw [if_neg (by omega)])⟩ ?_ ?_
  · rintro m M3 ⟨x3, d3, i3, r3⟩
    unfold q_Mo_turn_L16
    refine ⟨fun _ M4 e4 => K M4 (by rw [e4]; exact x3.trans RX.j56) ?_ (by rw [e4, wJ_2, if_pos rfl, if_pos rfl]) (by rw [e4]; exact i3), fun q => absurd (nI_le (Nat.le_refl _) (by omega)) q⟩
    intro i hi j hj
    rw [e4, wJ_2, if_neg (by decide), r3 i hi j hj]
    dsimp only
    rw [if_pos hi]
  · rintro m i M3 hi ⟨x3, d3, i3, r3⟩ ih
    unfold q_Mo_turn_L16
    rw [ix13, clm (by omega), r3 i hi c hc]
    dsimp only
    rw [if_neg (show ¬ i < i by omega)]
    refine ⟨fun q => absurd q (nI_ge hi (by omega)), fun _ => ⟨vp_in_nI (by omega) (by decide), ?_⟩⟩
    by_cases ip : i = p
    · refine ⟨1, ?_⟩
      unfold q_Mo_turn_L39
      have e : q_Mo_turn_L16 (fun x11 M12 => ∀ M13, M13 = wJ M12 56 18 x11 → post M13) post m (nI p) (nI c) (nI N) (nI W) (T p c) (nI i + 1) M3 := by
        rw [nI_1]
        refine ih M3 ⟨x3, d3, i3, r3.congr (fun a b _ _ => ?_)⟩
        by_cases z : a < i
        · rw [if_pos z, if_pos (by omega)]
        · rw [if_neg z]
          by_cases y : a < i + 1
          · rw [if_pos y]; unfold el; rw [if_pos (by omega)]
          · rw [if_neg y]
      exact ⟨fun _ => e, fun _ => ⟨fun _ => e, fun q => absurd (by rw [ip]) q⟩⟩
    · refine pk_loop (fun m2 j (M' : Mem) => q_Mo_turn_L39 _ post m2 (nI p) (nI c) (nI N) (nI W) (T p c) (nI i) (T i c) (nI j) M') (fun j M' => RX M M' ∧ M'.2 56 18 = d ∧ M'.1 70 = M.1 70 ∧ RT N W (fun a b => if a < i ∨ (a = i ∧ b < j) then el T p c d a b else T a b) M') W 0 M3 (Nat.zero_le _) ⟨x3, d3, i3, r3.congr (fun a b _ _ => ?_)⟩ ?_ ?_
      · by_cases z : a < i
        · rw [if_pos z, if_pos (Or.inl z)]
        · rw [if_neg z, if_neg (by omega)]
      · rintro m2 M4 ⟨x4, d4, i4, r4⟩
        unfold q_Mo_turn_L39
        rw [nI_1 (a := i)]
        refine ⟨fun _ => ih M4 ⟨x4, d4, i4, r4.congr (fun a b _ hb => ?_)⟩, fun q => absurd (nI_le (Nat.le_refl _) (by omega)) q⟩
        by_cases z : a < i ∨ (a = i ∧ b < W)
        · rw [if_pos z, if_pos (by omega)]
        · rw [if_neg z, if_neg (by omega)]
      · rintro m2 j M4 hj ⟨x4, d4, i4, r4⟩ ih2
        unfold q_Mo_turn_L39
        rw [ix13, ix13, clm (show 13 * i + j < 200 by omega), clm (show 13 * p + j < 200 by omega), r4 i hi j hj, r4 p hp j hj, d4, nI_1 (a := j), nI_eq (by omega) (by omega)]
        refine ⟨fun q => absurd q (nI_ge hj (by omega)), fun _ => ⟨fun q => absurd q ip, fun _ => ⟨vp_in_nI (by omega) (by decide), vp_in_nI (by omega) (by decide), hd0, vp_in_nI (by omega) (by decide), fun M5 e5 => ?_⟩⟩⟩
        refine ih2 M5 ⟨by rw [e5]; exact x4.trans RX.j69, by rw [e5, wJ_2, if_neg (by decide)]; exact d4, by rw [e5]; exact i4, ?_⟩
        rw [e5]
        refine (r4.put hW hi hj).congr (fun a b ha hb => ?_)
        by_cases z : a = i ∧ b = j
        · rw [if_pos z]
          dsimp only
          rw [if_neg (show ¬ (i < i ∨ i = i ∧ j < j) by omega), if_pos (show a < i ∨ a = i ∧ b < j + 1 by omega), z.1, z.2]
          have e1 : el T p c d i j = (T i j * T p c - T i c * T p j) / d := by unfold el; rw [if_neg ip]
          rw [e1]
          by_cases y : p < i
          · rw [if_pos (Or.inl y)]; unfold el; rw [if_pos rfl]
          · rw [if_neg (by omega)]
        · rw [if_neg z]
          by_cases y : a < i ∨ (a = i ∧ b < j)
          · rw [if_pos y, if_pos (by omega)]
          · rw [if_neg y, if_neg (by omega)]
/-- the reference's elimination, with what holds before each column -/
theorem h_turns (hN : N ≤ 12) (hW : W ≤ 13) {C : Nat} (hC : C ≤ W) (hC2 : C ≤ 12) (Inv : Nat → Nat → (Nat → Nat → Int64) → Int64 → (Nat → Nat) → Prop) (pl0 : Nat → Nat) (r : RT N W T M) (x0 : RX M0 M) (h0 : Inv 0 0 T 1 pl0)
    (hd : ∀ c q T d pl, Inv c q T d pl → d ≠ 0 ∧ q ≤ c)
    (hnone : ∀ c q T d pl, Inv c q T d pl → c < C → q < N → (∀ r, q ≤ r → r < N → T r c = 0) → Inv (c + 1) q T d pl)
    (hsome : ∀ c q T d pl, Inv c q T d pl → c < C → q < N → ∀ r, q ≤ r → r < N → (∀ l, q ≤ l → l < r → T l c = 0) → T r c ≠ 0 → Inv (c + 1) (q + 1) (el (sw T r q) q c d) (T r c) (fun x => if x = q then c else pl x))
    {post : Int32 → Mem → Prop} (K : ∀ c q T d pl M', Inv c q T d pl → c ≤ C → (c = C ∨ N ≤ q) → RX M0 M' → RT N W T M' → M'.2 56 18 = d → (∀ x, x < q → M'.1 70 x = nI (pl x)) → post (nI q) M') : q_Mo_turns (nI N) (nI C) (nI W) M post := by
  unfold q_Mo_turns
  intro M1 e1
  have r1 : RT N W T M1 := fun i hi j hj => by rw [e1, wJ_2, if_neg (by decide)]; exact r i hi j hj
  have x1 : RX M0 M1 := by rw [e1]; exact x0.trans RX.j56
  have d1 : M1.2 56 18 = 1 := by rw [e1, wJ_2, if_pos rfl, if_pos rfl]
  refine pk_loop (fun m c (s : Nat × Mem) => q_Mo_turns_L11 _ post m (nI N) (nI C) (nI W) (nI s.1) (nI c) s.2) (fun c s => ∃ T d pl, Inv c s.1 T d pl ∧ RX M0 s.2 ∧ RT N W T s.2 ∧ s.2.2 56 18 = d ∧ ∀ x, x < s.1 → s.2.1 70 x = nI (pl x)) C 0 (0, M1) (Nat.zero_le _) ⟨T, 1, pl0, h0, x1, r1, d1, fun x hx => by omega⟩ ?_ ?_
  · rintro m ⟨q, M2⟩ ⟨T2, d2, pl2, i2, x2, r2, e2, p2⟩
    unfold q_Mo_turns_L11
    exact ⟨fun _ => K C q T2 d2 pl2 M2 i2 (Nat.le_refl _) (Or.inl rfl) x2 r2 e2 p2, fun z => absurd (nI_le (Nat.le_refl _) (by omega)) z⟩
  · rintro m c ⟨q, M2⟩ hc ⟨T2, d2, pl2, i2, x2, r2, e2, p2⟩ ih
    dsimp only at i2 x2 r2 e2 p2 ⊢
    have hq := (hd c q T2 d2 pl2 i2).2
    unfold q_Mo_turns_L11
    refine ⟨fun z => absurd z (nI_ge hc (by omega)), fun _ => ⟨fun z => K c q T2 d2 pl2 M2 i2 (by omega) (Or.inr ?_) x2 r2 e2 p2, fun z => ?_⟩⟩
    · rcases Nat.lt_or_ge q N with y | y
      · exact absurd z (nI_ge y (by omega))
      · exact y
    · have hqN : q < N := by
        rcases Nat.lt_or_ge q N with y | y
        · exact y
        · exact absurd (nI_le y (by omega)) z
      have last : ∀ rr, q ≤ rr → rr ≤ N → (∀ l, q ≤ l → l < rr → T2 l c = 0) → (rr = N ∨ (rr < N ∧ T2 rr c ≠ 0)) → ∀ fu, (fun (x3 x4 x5 x6 x7 x8 : Int32) (M9 : Mem) => (x3 ≤ x8 → q_Mo_turns_L11 (fun x22 M23 => post x22 M23) post m x3 x4 x5 x6 (x7 + 1) M9) ∧ (¬ x3 ≤ x8 → ∃ n12, q_Mo_turns_L66 (fun x13 x14 x15 x16 x17 M18 => q_Mo_turn x16 x17 x13 x15 M18 (fun M19 => vp_in x16 12 ∧ (∀ M20, M20 = wI M19 70 x16.toNatClampNeg x17 → q_Mo_turns_L11 (fun x22 M23 => post x22 M23) post m x13 x14 x15 (x16 + 1) (x17 + 1) M20))) post n12 x3 x4 x5 x6 x7 x8 (0 : Int32) M9)) (nI N) (nI C) (nI W) (nI q) (nI c) (nI rr) M2 ∨ fu := by
        intro rr h1 h2 h3 h4 fu
        left
        dsimp only
        refine ⟨fun y => ?_, fun y => ?_⟩
        · have e : rr = N := by
            rcases h4 with y2 | y2
            · exact y2
            · exact absurd y (nI_ge y2.1 (by omega))
          rw [nI_1 (a := c)]
          exact ih (q, M2) ⟨T2, d2, pl2, hnone c q T2 d2 pl2 i2 hc hqN (fun l a b => h3 l a (by omega)), x2, r2, e2, p2⟩
        · have h5 : rr < N ∧ T2 rr c ≠ 0 := by
            rcases h4 with y2 | y2
            · exact absurd (by rw [y2]; exact nI_le (Nat.le_refl _) (by omega)) y
            · exact y2
          refine pk_loop (fun m2 j (M' : Mem) => q_Mo_turns_L66 _ post m2 (nI N) (nI C) (nI W) (nI q) (nI c) (nI rr) (nI j) M') (fun j M' => RX M0 M' ∧ M'.2 56 18 = d2 ∧ M'.1 70 = M2.1 70 ∧ RT N W (fun a b => if b < j then sw T2 rr q a b else T2 a b) M') W 0 M2 (Nat.zero_le _) ⟨x2, e2, rfl, r2.congr (fun a b _ _ => by rw [if_neg (by omega)])⟩ ?_ ?_
          · rintro m2 M3 ⟨x3, e3, i3, r3⟩
            unfold q_Mo_turns_L66
            refine ⟨fun _ => ?_, fun z => absurd (nI_le (Nat.le_refl _) (by omega)) z⟩
            have r4 : RT N W (sw T2 rr q) M3 := r3.congr (fun a b _ hb => by rw [if_pos hb])
            refine h_turn hN hW r4 hqN (by omega) e3 (hd c q T2 d2 pl2 i2).1 (fun M4 x4 r5 e5 i5 => ⟨vp_in_nI (by omega) (by decide), fun M5 e6 => ?_⟩)
            rw [nI_1 (a := c), nI_1 (a := q)]
            rw [clm (by omega)] at e6
            have es : sw T2 rr q q c = T2 rr c := by
              unfold sw
              by_cases y3 : q = rr
              · rw [if_pos y3, y3]
              · rw [if_neg y3, if_pos rfl]
            rw [es] at e5
            refine ih (q + 1, M5) ⟨_, _, _, hsome c q T2 d2 pl2 i2 hc hqN rr h1 h5.1 h3 h5.2, ?_, ?_, ?_, fun x hx => ?_⟩
            · rw [e6]; exact (x3.trans x4).trans RX.i70
            · rw [e6]; exact r5
            · rw [e6]; exact e5
            · dsimp only at hx ⊢
              rw [e6, wI_1, if_pos rfl]
              by_cases y3 : x = q
              · rw [if_pos y3, if_pos y3]
              · rw [if_neg y3, if_neg y3, i5, i3]; exact p2 x (by omega)
          · rintro m2 j M3 hj ⟨x3, e3, i3, r3⟩ ih2
            unfold q_Mo_turns_L66
            rw [ix13, ix13, clm (show 13 * rr + j < 200 by omega), clm (show 13 * q + j < 200 by omega), r3 q hqN j hj, r3 rr h5.1 j hj, nI_1 (a := j)]
            dsimp only
            rw [if_neg (show ¬ j < j by omega), if_neg (show ¬ j < j by omega)]
            refine ⟨fun z => absurd z (nI_ge hj (by omega)), fun _ => ⟨vp_in_nI (by omega) (by decide), vp_in_nI (by omega) (by decide), vp_in_nI (by omega) (by decide), fun M4 e4 => ⟨vp_in_nI (by omega) (by decide), fun M5 e5 => ?_⟩⟩⟩
            refine ih2 M5 ⟨by rw [e5, e4]; exact (x3.trans RX.j69).trans RX.j69, by rw [e5, wJ_2, if_neg (by decide), e4, wJ_2, if_neg (by decide)]; exact e3, by rw [e5, e4]; exact i3, ?_⟩
            rw [e5, e4]
            refine ((r3.put hW h5.1 hj).put hW hqN hj).congr (fun a b ha hb => ?_)
            by_cases y3 : b = j
            · rw [if_pos (show b < j + 1 by omega), if_neg (show ¬ b < j by omega), y3]
              unfold sw
              by_cases y4 : a = rr
              · rw [if_pos y4]
                by_cases y5 : a = q
                · rw [if_pos ⟨y5, rfl⟩, ← y4, y5]
                · rw [if_neg (fun z => y5 z.1), if_pos ⟨y4, rfl⟩]
              · rw [if_neg y4]
                by_cases y5 : a = q
                · rw [if_pos ⟨y5, rfl⟩, if_pos y5]
                · rw [if_neg (fun z => y5 z.1), if_neg (fun z => y4 z.1), if_neg y5]
            · rw [if_neg (fun z => y3 z.2), if_neg (fun z => y3 z.2)]
              by_cases y4 : b < j
              · rw [if_pos y4, if_pos (by omega)]
              · rw [if_neg y4, if_neg (by omega)]
      suffices H : ∃ n2, q_Mo_turns_L27 (fun x3 x4 x5 x6 x7 x8 M9 => (x3 ≤ x8 → q_Mo_turns_L11 (fun x22 M23 => post x22 M23) post m x3 x4 x5 x6 (x7 + 1) M9) ∧ (¬ x3 ≤ x8 → ∃ n12, q_Mo_turns_L66 (fun x13 x14 x15 x16 x17 M18 => q_Mo_turn x16 x17 x13 x15 M18 (fun M19 => vp_in x16 12 ∧ (∀ M20, M20 = wI M19 70 x16.toNatClampNeg x17 → q_Mo_turns_L11 (fun x22 M23 => post x22 M23) post m x13 x14 x15 (x16 + 1) (x17 + 1) M20))) post n12 x3 x4 x5 x6 x7 x8 (0 : Int32) M9)) post n2 (nI N) (nI C) (nI W) (nI q) (nI c) (nI q) M2 from H
      refine pk_loop (fun m2 rr (M' : Mem) => q_Mo_turns_L27 _ post m2 (nI N) (nI C) (nI W) (nI q) (nI c) (nI rr) M') (fun rr M' => M' = M2 ∧ q ≤ rr ∧ ∀ l, q ≤ l → l < rr → T2 l c = 0) N q M2 (by omega) ⟨rfl, Nat.le_refl _, fun l a b => by omega⟩ ?_ ?_
      · rintro m2 M3 ⟨rfl, h1, h2⟩
        unfold q_Mo_turns_L27
        exact ⟨fun _ => (last N h1 (Nat.le_refl _) h2 (Or.inl rfl) False).elim id False.elim, fun z => absurd (nI_le (Nat.le_refl _) (by omega)) z⟩
      · rintro m2 rr M3 hr ⟨rfl, h1, h2⟩ ih2
        unfold q_Mo_turns_L27
        rw [ix13, clm (show 13 * rr + c < 200 by omega), r2 rr hr c (by omega), nI_1 (a := rr)]
        refine ⟨fun z => absurd z (nI_ge hr (by omega)), fun _ => ⟨vp_in_nI (by omega) (by decide), fun y => (last rr h1 (by omega) h2 (Or.inr ⟨hr, y⟩) False).elim id False.elim, fun y => ih2 _ ⟨rfl, by omega, fun l a b => ?_⟩⟩⟩
        rcases Nat.lt_or_ge l rr with y2 | y2
        · exact h2 l a y2
        · have : l = rr := by omega
          rw [this]; exact y
end MTURN
