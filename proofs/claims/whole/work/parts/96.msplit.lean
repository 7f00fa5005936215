/-! the reference's tables for split -/
def RY (M0 M : Mem) : Prop := Ag (fun k => k = 70) (fun k => k = 56 ∨ 69 ≤ k) M0 M
section MSPLIT
variable {σ : Sg} {M0 M M1 M2 : Mem} {N W : Nat} {T : Nat → Nat → Int64}
theorem RX.y (r : RX M0 M) : RY M0 M := r.1.mono (fun k hk => hk) (fun k hk => by omega)
theorem RY.trans (a : RY M0 M1) (b : RY M1 M2) : RY M0 M2 := Ag.trans a b
theorem RY.j {k i : Nat} {x : Int64} (h : k = 56 ∨ 69 ≤ k) : RY M (wJ M k i x) := agJ h
theorem RY.rm (h : RM σ M0) (r : RY M0 M) : RM σ M := h.ag (r.mono (fun k hk => by unfold Sm; omega) (fun k hk => by unfold Tm; omega))
theorem RY.d (r : RY M0 M) : Ag D56 D56 M0 M := r.mono (fun k hk => by unfold D56; omega) (fun k hk => by unfold D56; omega)
theorem RT.add (hW : W ≤ 13) (r : RT N W T M) {a b : Nat} (ha : a < N) (hb : b < W) {x y : Int64} (e : y = T a b + x) : RT N W (upT T a b x) (wJ M 69 (13 * a + b) y) := by
  refine (r.put hW ha hb).congr (fun i j hi hj => ?_)
  unfold upT
  by_cases z : i = a ∧ j = b
  · rw [if_pos z, if_pos z, z.1, z.2, e]
  · rw [if_neg z, if_neg z]
theorem RT.of {M' : Mem} (r : RT N W T M) (e : M'.2 69 = M.2 69) : RT N W T M' := fun i hi j hj => by rw [e]; exact r i hi j hj
theorem up_comm {b f n : Nat} (h : b ≠ f) (x y : Int64) (i j : Nat) : upT (upT T f n y) b n x i j = upT (upT T b n x) f n y i j := by
  unfold upT
  by_cases i1 : i = b
  · have : ¬ i = f := by omega
    simp [i1, this, h]
  · by_cases i2 : i = f
    · simp [i2, Ne.symm h]
    · simp [i1, i2]
theorem h_sideOf (hW : WF σ) (h : RM σ M) {k e : Nat} (hk : k < nF σ) (he : e < nE σ) {post : Int64 → Mem → Prop} (hp : post (lI (sgn σ 2 k e)) M) : q_Mo_sideOf (nI k) (nI e) M post := by
  obtain ⟨⟨w1, w2, w3, w4⟩, we, wu, wf, -⟩ := id hW
  have f := wf k hk
  have h1 := h.2.1 e he
  have h2 := h.2.2.1 k hk
  have b0 := we e he
  have b1 := we (pF1 σ k) f.1
  have b2 := we (pS1 σ k) f.2.1
  have b3 := we (pA1 σ k) f.2.2.1
  unfold q_Mo_sideOf
  rw [clm (show e < 200 by omega), clm (show k < 200 by omega), h1.1, h1.2, h2.1, h2.2.1, h2.2.2, nI_eq (a := vB σ e) (b := vB σ (pF1 σ k)) (by omega) (by omega), nI_eq (a := vB σ e) (b := vE σ (pF1 σ k)) (by omega) (by omega), nI_eq (a := vE σ e) (b := vE σ (pF1 σ k)) (by omega) (by omega), nI_eq (a := vE σ e) (b := vE σ (pS1 σ k)) (by omega) (by omega)]
  have v1 : vp_in (nI e) 12 := vp_in_nI (by omega) (by decide)
  have v2 : vp_in (nI k) 10 := vp_in_nI (by omega) (by decide)
  have l1 : ((vB σ e = vB σ (pF1 σ k) ∧ vE σ e = vE σ (pF1 σ k)) ∨ (vB σ e = vE σ (pF1 σ k) ∧ vE σ e = vE σ (pS1 σ k))) → post 1 M := fun q => by
    have : sgn σ 2 k e = 1 := by
      unfold sgn
      rw [if_neg (by decide), if_pos]
      rcases q with q | q
      · exact Or.inl (wu _ _ f.1 he q.1.symm q.2.symm)
      · exact Or.inr (wu _ _ f.2.1 he (by omega) q.2.symm)
    rw [this] at hp; exact hp
  have l2 : ¬ ((vB σ e = vB σ (pF1 σ k) ∧ vE σ e = vE σ (pF1 σ k)) ∨ (vB σ e = vE σ (pF1 σ k) ∧ vE σ e = vE σ (pS1 σ k))) → (vB σ e = vB σ (pF1 σ k) ∧ vE σ e = vE σ (pS1 σ k)) → post (-1) M := fun q q2 => by
    have : sgn σ 2 k e = -1 := by
      unfold sgn
      rw [if_neg (by decide), if_neg, if_pos]
      · exact wu _ _ f.2.2.1 he (by omega) (by omega)
      · rintro (z | z)
        · rw [z] at q; exact q (Or.inl ⟨rfl, rfl⟩)
        · rw [← z] at q; exact q (Or.inr ⟨by omega, rfl⟩)
    rw [this] at hp; exact hp
  have l3 : ¬ ((vB σ e = vB σ (pF1 σ k) ∧ vE σ e = vE σ (pF1 σ k)) ∨ (vB σ e = vE σ (pF1 σ k) ∧ vE σ e = vE σ (pS1 σ k))) → ¬ (vB σ e = vB σ (pF1 σ k) ∧ vE σ e = vE σ (pS1 σ k)) → post 0 M := fun q q2 => by
    have : sgn σ 2 k e = 0 := by
      unfold sgn
      rw [if_neg (by decide), if_neg, if_neg]
      · intro z; rw [← z] at q2; exact q2 ⟨by omega, by omega⟩
      · rintro (z | z)
        · rw [z] at q; exact q (Or.inl ⟨rfl, rfl⟩)
        · rw [← z] at q; exact q (Or.inr ⟨by omega, rfl⟩)
    rw [this] at hp; exact hp
  generalize (vB σ e = vB σ (pF1 σ k)) = A at *
  generalize (vE σ e = vE σ (pF1 σ k)) = B at *
  generalize (vB σ e = vE σ (pF1 σ k)) = C at *
  generalize (vE σ e = vE σ (pS1 σ k)) = D at *
  clear h1 h2 f
  by_cases a : A <;> by_cases b : B <;> by_cases c : C <;> by_cases d : D <;> simp [a, b, c, d, v1, v2] at l1 l2 l3 ⊢ <;> assumption
theorem h_splits1 (hW : WF σ) (h : RM σ M0) {f : Nat} (hf : f < 12) (r : RT (nP σ) (nP σ + 1) (fun _ _ => 0) M) (x0 : RX M0 M) {k : Int32 → Mem → Prop} {post : Mem → Prop} (K : ∀ M', RX M0 M' → RT (nP σ) (nP σ + 1) (fun i j => lI (gA (nE σ) (slv σ f) i j)) M' → k (nI f) M') : ∃ n, q_Mo_splits_L6 k post n (nI f) (0 : Int32) M := by
  obtain ⟨⟨w1, w2, w3, w4⟩, we, -⟩ := id hW
  refine pk_loop (fun m e (M' : Mem) => q_Mo_splits_L6 _ post m (nI f) (nI e) M') (fun e M' => RX M0 M' ∧ RT (nP σ) (nP σ + 1) (fun i j => lI (gA e (slv σ f) i j)) M') (nE σ) 0 M (Nat.zero_le _) ⟨x0, r⟩ ?_ ?_
  · rintro m M2 ⟨x2, r2⟩
    unfold q_Mo_splits_L6
    rw [(x2.rm h).1.2.1]
    exact ⟨fun _ => K M2 x2 r2, fun z => absurd (nI_le (Nat.le_refl _) (by omega)) z⟩
  · rintro m e M2 he ⟨x2, r2⟩ ih
    have hm := x2.rm h
    have h1 := hm.2.1 e he
    have hb := we e he
    unfold q_Mo_splits_L6
    rw [hm.1.2.1, clm (show e < 200 by omega), h1.1, h1.2, ix13, ix13, ix13, ix13, clm (show 13 * vB σ e + vB σ e < 200 by omega), clm (show 13 * vE σ e + vE σ e < 200 by omega), clm (show 13 * vB σ e + vE σ e < 200 by omega), clm (show 13 * vE σ e + vB σ e < 200 by omega), nI_1 (a := e)]
    have hW13 : nP σ + 1 ≤ 13 := by omega
    have hvi : ∀ a b, a < nP σ → b < nP σ + 1 → vp_in (nI (13 * a + b)) 156 := fun a b ha hb => vp_in_nI (by omega) (by decide)
    refine ⟨fun z => absurd z (nI_ge he (by omega)), fun _ => ⟨vp_in_nI (by omega) (by decide), vp_in_nI (by omega) (by decide), hvi _ _ (by omega) (by omega), hvi _ _ (by omega) (by omega), fun M3 e3 => ⟨hvi _ _ (by omega) (by omega), hvi _ _ (by omega) (by omega), fun M4 e4 => ⟨hvi _ _ (by omega) (by omega), hvi _ _ (by omega) (by omega), fun M5 e5 => ⟨hvi _ _ (by omega) (by omega), hvi _ _ (by omega) (by omega), fun M6 e6 => ?_⟩⟩⟩⟩⟩
    have r3 := e3 ▸ r2.add hW13 (a := vB σ e) (b := vB σ e) (by omega) (by omega) (x := 1) (by rw [r2 _ (by omega) _ (by omega)])
    have r4 := e4 ▸ r3.add hW13 (a := vE σ e) (b := vE σ e) (by omega) (by omega) (x := 1) (by rw [r3 _ (by omega) _ (by omega)])
    have r5 := e5 ▸ r4.add hW13 (a := vB σ e) (b := vE σ e) (by omega) (by omega) (x := -1) (by rw [r4 _ (by omega) _ (by omega)]; grind)
    have r6 := e6 ▸ r5.add hW13 (a := vE σ e) (b := vB σ e) (by omega) (by omega) (x := -1) (by rw [r5 _ (by omega) _ (by omega)]; grind)
    have x3 : RX M0 M3 := by rw [e3]; exact x2.trans RX.j69
    have x4 : RX M0 M4 := by rw [e4]; exact x3.trans RX.j69
    have x5 : RX M0 M5 := by rw [e5]; exact x4.trans RX.j69
    have x6 : RX M0 M6 := by rw [e6]; exact x5.trans RX.j69
    have hm6 := x6.rm h
    rw [hm6.1.1, ix13, clm (show 13 * vE σ e + nP σ < 200 by omega), r6 (vE σ e) (by omega) (nP σ) (by omega)]
    refine ⟨hvi _ _ (by omega) (by omega), h_Mo_at hm6 rfl hf (by omega) ⟨hvi _ _ (by omega) (by omega), fun M7 e7 => ?_⟩⟩
    have r7 := e7 ▸ r6.add hW13 (a := vE σ e) (b := nP σ) (by omega) (by omega) (x := (fN σ f e).toInt64) rfl
    have x7 : RX M0 M7 := by rw [e7]; exact x6.trans RX.j69
    have hm7 := x7.rm h
    rw [hm7.1.1, ix13, clm (show 13 * vB σ e + nP σ < 200 by omega), r7 (vB σ e) (by omega) (nP σ) (by omega)]
    refine ⟨hvi _ _ (by omega) (by omega), h_Mo_at hm7 rfl hf (by omega) ⟨hvi _ _ (by omega) (by omega), fun M8 e8 => ?_⟩⟩
    have r8 := e8 ▸ r7.add hW13 (a := vB σ e) (b := nP σ) (by omega) (by omega) (x := -(fN σ f e).toInt64) (by grind)
    refine ih M8 ⟨by rw [e8]; exact x7.trans RX.j69, r8.congr (fun i j hi hj => ?_)⟩
    rw [up_comm (by omega), ← sl_step hW he hi (by omega), lI_neg, lI_32]
theorem h_splits2 (hW : WF σ) (h : RM σ M0) {f : Nat} (r : RT (nF σ) (nF σ + 1) (fun _ _ => 0) M) (hf : f < 12) (x0 : RX M0 M) {k : Mem → Prop} {post : Mem → Prop} (K : ∀ M', RX M0 M' → RT (nF σ) (nF σ + 1) (plT σ (fun e => (fN σ f e).toInt)) M' → k M') : ∃ n, q_Mo_splits_L213 k post n (nI f) (0 : Int32) M := by
  obtain ⟨⟨w1, w2, w3, w4⟩, we, -⟩ := id hW
  have hW13 : nF σ + 1 ≤ 13 := by omega
  have hvi : ∀ a b, a < nF σ → b < nF σ + 1 → vp_in (nI (13 * a + b)) 156 := fun a b ha hb => vp_in_nI (by omega) (by decide)
  generalize hw : (fun e => (fN σ f e).toInt) = w at K
  have hw' : ∀ e, (fN σ f e).toInt = w e := fun e => congrFun hw e
  refine pk_loop (fun m a (M' : Mem) => q_Mo_splits_L213 _ post m (nI f) (nI a) M') (fun a M' => RX M0 M' ∧ RT (nF σ) (nF σ + 1) (fun i j => if i < a then plT σ w i j else 0) M') (nF σ) 0 M (Nat.zero_le _) ⟨x0, r.congr (fun i j _ _ => by rw [if_neg (by omega)])⟩ ?_ ?_
  · rintro m M2 ⟨x2, r2⟩
    unfold q_Mo_splits_L213
    rw [(x2.rm h).1.2.2]
    exact ⟨fun _ => K M2 x2 (r2.congr (fun i j hi _ => by rw [if_pos hi])), fun z => absurd (nI_le (Nat.le_refl _) (by omega)) z⟩
  · rintro m a M2 ha ⟨x2, r2⟩ ih
    unfold q_Mo_splits_L213
    rw [(x2.rm h).1.2.2]
    refine ⟨fun z => absurd z (nI_ge ha (by omega)), fun _ => ?_⟩
    refine pk_loop (fun m b (M' : Mem) => q_Mo_splits_L223 _ post m (nI f) (nI a) (nI b) M') (fun b M' => RX M0 M' ∧ RT (nF σ) (nF σ + 1) (fun i j => if i < a ∨ (i = a ∧ j < b) then plT σ w i j else 0) M') (nF σ) 0 M2 (Nat.zero_le _) ⟨x2, r2.congr (fun i j _ _ => ?_)⟩ ?_ ?_
    · by_cases z : i < a
      · rw [if_pos z, if_pos (Or.inl z)]
      · rw [if_neg z, if_neg (by omega)]
    · rintro m2 M3 ⟨x3, r3⟩
      unfold q_Mo_splits_L223
      rw [(x3.rm h).1.2.2]
      refine ⟨fun _ => ?_, fun z => absurd (nI_le (Nat.le_refl _) (by omega)) z⟩
      refine pk_loop (fun m e (M' : Mem) => q_Mo_splits_L286 _ post m (nI f) (nI a) (nI e) M') (fun e M' => RX M0 M' ∧ RT (nF σ) (nF σ + 1) (fun i j => if i = a ∧ j = nF σ then lI (gA e (plv σ w) i j) else if i < a ∨ (i = a ∧ j < nF σ) then plT σ w i j else 0) M') (nE σ) 0 M3 (Nat.zero_le _) ⟨x3, r3.congr (fun i j _ _ => ?_)⟩ ?_ ?_
      · by_cases z : i = a ∧ j = nF σ
        · rw [if_pos z, if_neg (by omega)]; rfl
        · rw [if_neg z]
      · rintro m3 M4 ⟨x4, r4⟩
        unfold q_Mo_splits_L286
        rw [(x4.rm h).1.2.1, nI_1 (a := a)]
        refine ⟨fun _ => ih M4 ⟨x4, r4.congr (fun i j hi hj => ?_)⟩, fun z => absurd (nI_le (Nat.le_refl _) (by omega)) z⟩
        by_cases z : i = a ∧ j = nF σ
        · rw [if_pos z, if_pos (by omega)]; rfl
        · rw [if_neg z]
          by_cases y : i < a ∨ (i = a ∧ j < nF σ)
          · rw [if_pos y, if_pos (by omega)]
          · rw [if_neg y, if_neg (by omega)]
      · rintro m3 e M4 he ⟨x4, r4⟩ ih2
        have hm := x4.rm h
        unfold q_Mo_splits_L286
        rw [hm.1.2.1, hm.1.2.2, ix13, clm (show 13 * a + nF σ < 200 by omega), r4 a ha (nF σ) (by omega), nI_1 (a := e)]
        dsimp only
        rw [if_pos ⟨rfl, rfl⟩]
        refine ⟨fun z => absurd z (nI_ge he (by omega)), fun _ => ⟨hvi _ _ ha (by omega), h_sideOf hW hm ha he (h_Mo_at hm rfl hf (by omega) ⟨hvi _ _ ha (by omega), fun M5 e5 => ih2 M5 ⟨by rw [e5]; exact x4.trans RX.j69, ?_⟩⟩)⟩⟩
        rw [e5]
        refine (r4.put hW13 ha (by omega)).congr (fun i j hi hj => ?_)
        by_cases z : i = a ∧ j = nF σ
        · have e1 : plv σ w a e = sgn σ 2 a e := by unfold plv; rw [if_neg (by omega)]
          have e2 : plv σ w (nF σ) e = w e := by unfold plv; rw [if_pos rfl]
          rw [if_pos z, if_pos z, z.1, z.2, gA_s, lI_add, lI_32, hw', ← lI_mul, e1, e2]
        · rw [if_neg z, if_neg z, if_neg z]
    · rintro m2 b M3 hb ⟨x3, r3⟩ ih2
      unfold q_Mo_splits_L223
      rw [(x3.rm h).1.2.2]
      refine ⟨fun z => absurd z (nI_ge hb (by omega)), fun _ => ?_⟩
      refine pk_loop (fun m e (M' : Mem) => q_Mo_splits_L234 _ post m (nI f) (nI a) (nI b) (nI e) M') (fun e M' => RX M0 M' ∧ RT (nF σ) (nF σ + 1) (fun i j => if i = a ∧ j = b then lI (gA e (plv σ w) i j) else if i < a ∨ (i = a ∧ j < b) then plT σ w i j else 0) M') (nE σ) 0 M3 (Nat.zero_le _) ⟨x3, r3.congr (fun i j _ _ => ?_)⟩ ?_ ?_
      · by_cases z : i = a ∧ j = b
        · rw [if_pos z, if_neg (by omega)]; rfl
        · rw [if_neg z]
      · rintro m3 M4 ⟨x4, r4⟩
        unfold q_Mo_splits_L234
        rw [(x4.rm h).1.2.1, nI_1 (a := b)]
        refine ⟨fun _ => ih2 M4 ⟨x4, r4.congr (fun i j hi hj => ?_)⟩, fun z => absurd (nI_le (Nat.le_refl _) (by omega)) z⟩
        by_cases z : i = a ∧ j = b
        · rw [if_pos z, if_pos (by omega)]; rfl
        · rw [if_neg z]
          by_cases y : i < a ∨ (i = a ∧ j < b)
          · rw [if_pos y, if_pos (by omega)]
          · rw [if_neg y, if_neg (by omega)]
      · rintro m3 e M4 he ⟨x4, r4⟩ ih3
        have hm := x4.rm h
        unfold q_Mo_splits_L234
        rw [hm.1.2.1, ix13, clm (show 13 * a + b < 200 by omega), r4 a ha b (by omega), nI_1 (a := e)]
        dsimp only
        rw [if_pos ⟨rfl, rfl⟩]
        refine ⟨fun z => absurd z (nI_ge he (by omega)), fun _ => ⟨hvi _ _ ha (by omega), h_sideOf hW hm ha he (h_sideOf hW hm hb he ⟨hvi _ _ ha (by omega), fun M5 e5 => ih3 M5 ⟨by rw [e5]; exact x4.trans RX.j69, ?_⟩⟩)⟩⟩
        rw [e5]
        refine (r4.put hW13 ha (by omega)).congr (fun i j hi hj => ?_)
        by_cases z : i = a ∧ j = b
        · have e1 : plv σ w a e = sgn σ 2 a e := by unfold plv; rw [if_neg (by omega)]
          have e2 : plv σ w b e = sgn σ 2 b e := by unfold plv; rw [if_neg (by omega)]
          rw [if_pos z, if_pos z, z.1, z.2, gA_s, lI_add, ← lI_mul, e1, e2]
        · rw [if_neg z, if_neg z, if_neg z]
end MSPLIT
