/-! holes on both sides -/
section HOLES
variable {σ : Sg} {M M0 : Mem}
/-- the plates' rows -/
def rI (N E : Nat) (v : Nat → Nat → Int) (c q : Nat) (T : Nat → Nat → Int64) (d : Int64) : Prop :=
  ∃ (ks C : List Nat) (π : Nat → Nat), ks.length = q ∧ C.length = q ∧ q ≤ c ∧ (∀ k ∈ ks, k < N) ∧ d ≠ 0 ∧ d.toInt = dt (ks.map v) C ∧
    (∀ r, q ≤ r → r < N → π r < N ∧ ∀ j, j < E → (T r j).toInt = dt (v (π r) :: ks.map v) (j :: C) ∧ (j < c → T r j = 0)) ∧ ∀ i, i < N → i ∈ ks ∨ ∃ r, q ≤ r ∧ r < N ∧ π r = i
theorem pw_one : ∀ cs, pw (fun _ => 1) cs = 1
  | [] => rfl
  | c :: cs => by show (1 : Int) * pw _ cs = 1; rw [pw_one cs]; rfl
theorem fac_mono : ∀ {a b : Nat}, a ≤ b → fac a ≤ fac b := by
  intro a b
  induction b with
  | zero => intro h; have : a = 0 := by omega
            rw [this]; exact Int.le_refl _
  | succ b ih =>
    intro h
    rcases Nat.lt_or_ge a (b + 1) with z | z
    · have h1 := ih (by omega)
      have h2 := fac_pos b
      show fac a ≤ ((b : Int) + 1) * fac b
      have h3 : 1 * fac b ≤ ((b : Int) + 1) * fac b := Int.mul_le_mul_of_nonneg_right (by omega) h2
      omega
    · have : a = b + 1 := by omega
      rw [this]; exact Int.le_refl _
theorem dt_b1 {N : Nat} {v : Nat → Nat → Int} (hv : ∀ i c, -1 ≤ v i c ∧ v i c ≤ 1) {ks : List Nat} (hl : ks.length ≤ 11) (cs : List Nat) : -39916800 ≤ dt (ks.map v) cs ∧ dt (ks.map v) cs ≤ 39916800 := by
  have h := dt_bd (W := fun _ => 1) (fun _ => by decide) (ks.map v) (fun r hr c => by
    obtain ⟨i, -, rfl⟩ := List.mem_map.mp hr
    exact hv i c) cs
  rw [pw_one, List.length_map] at h
  have f := fac_mono hl
  have e : fac 11 = 39916800 := by decide
  omega
theorem rI_some {N E : Nat} (hN : N ≤ 10) {v : Nat → Nat → Int} (hv : ∀ i c, -1 ≤ v i c ∧ v i c ≤ 1) {c q : Nat} {T : Nat → Nat → Int64} {d : Int64} (h : rI N E v c q T d) (hc : c < E) (hq : q < N) {r : Nat} (hqr : q ≤ r) (hr : r < N) (hn : T r c ≠ 0) : rI N E v (c + 1) (q + 1) (el (sw T r q) q c d) (T r c) := by
  obtain ⟨ks, C, π, l1, l2, l3, hk, hd0, hd, ht, hcov⟩ := h
  have tr := ht r hqr hr
  refine ⟨π r :: ks, c :: C, fun p => if p = r then π q else π p, by simp [l1], by simp [l2], by omega, ?_, hn, (tr.2 c hc).1, fun p hp1 hp2 => ?_, fun i hi => ?_⟩
  · intro k hk2
    rcases List.mem_cons.mp hk2 with e | e
    · rw [e]; exact tr.1
    · exact hk k e
  · have sq : ∀ j, sw T r q q j = T r j := fun j => by
      unfold sw
      by_cases y : q = r
      · rw [if_pos y, y]
      · rw [if_neg y, if_pos rfl]
    have key : ∃ b, q ≤ b ∧ b < N ∧ (if p = r then π q else π p) = π b ∧ ∀ j, sw T r q p j = T b j := by
      by_cases y : p = r
      · exact ⟨q, Nat.le_refl _, hq, by rw [if_pos y], fun j => by unfold sw; rw [if_pos y]⟩
      · exact ⟨p, by omega, hp2, by rw [if_neg y], fun j => by unfold sw; rw [if_neg y, if_neg (by omega)]⟩
    obtain ⟨b, hb1, hb2, hb3, hb4⟩ := key
    have tb := ht b hb1 hb2
    dsimp only
    rw [hb3]
    refine ⟨tb.1, fun j hj => ?_⟩
    have e1 : el (sw T r q) q c d p j = (T b j * T r c - T b c * T r j) / d := by
      unfold el
      rw [if_neg (by omega), sq, sq, hb4, hb4]
    rw [e1]
    have a1 := (tb.2 j hj).1
    have a2 := (tr.2 c hc).1
    have a3 := (tb.2 c hc).1
    have a4 := (tr.2 j hj).1
    have b1 := dt_b1 (N := N) hv (ks := π b :: ks) (by simp; omega) (j :: C)
    have b2 := dt_b1 (N := N) hv (ks := π r :: ks) (by simp; omega) (c :: C)
    have b3 := dt_b1 (N := N) hv (ks := π b :: ks) (by simp; omega) (c :: C)
    have b4 := dt_b1 (N := N) hv (ks := π r :: ks) (by simp; omega) (j :: C)
    have b5 := dt_b1 (N := N) hv (ks := π b :: π r :: ks) (by simp; omega) (j :: c :: C)
    have st := bareiss (K := ks.map v) (C := C) (fun z => hd0 (Int64.toInt_inj.mp (by rw [hd, z]; rfl))) (v (π b)) (v (π r)) j c
    simp only [List.map_cons] at b1 b2 b3 b4 b5 ⊢
    have m1 := abs_mul b1 b2
    have m2 := abs_mul b3 b4
    have X := l_step (p := T b j) (t := T r c) (a := T b c) (u := T r j) (d := d) (X := dt (v (π b) :: v (π r) :: ks.map v) (j :: c :: C)) (fun z => hd0 (Int64.toInt_inj.mp z)) (by rw [hd, a1, a2, a3, a4, st]; grind) (by rw [a1, a2]; omega) (by rw [a1, a2]; omega) (by rw [a3, a4]; omega) (by rw [a3, a4]; omega) (by omega) (by omega)
    refine ⟨X, fun hj2 => ?_⟩
    rcases Nat.lt_or_ge j c with y | y
    · rw [(tb.2 j hj).2 y, (tr.2 j hj).2 y]
      have : (0 * T r c - T b c * 0 : Int64) = 0 := by grind
      rw [this, Int64.zero_div]
    · have : j = c := by omega
      rw [this] at X ⊢
      rw [dt_dup (by simp)] at X
      exact Int64.toInt_inj.mp X
  · rcases hcov i hi with y | ⟨r0, y1, y2, y3⟩
    · exact Or.inl (by simp [y])
    · by_cases z : r0 = r
      · exact Or.inl (by simp [← y3, z])
      · right
        by_cases w : r0 = q
        · exact ⟨r, by omega, hr, by dsimp only; rw [if_pos rfl, ← w]; exact y3⟩
        · exact ⟨r0, by omega, y2, by dsimp only; rw [if_neg z]; exact y3⟩
theorem rI_none {N E : Nat} {v : Nat → Nat → Int} {c q : Nat} {T : Nat → Nat → Int64} {d : Int64} (h : rI N E v c q T d) (hz : ∀ r, q ≤ r → r < N → T r c = 0) : rI N E v (c + 1) q T d := by
  obtain ⟨ks, C, π, l1, l2, l3, hk, hd0, hd, ht, hcov⟩ := h
  refine ⟨ks, C, π, l1, l2, by omega, hk, hd0, hd, fun r h1 h2 => ⟨(ht r h1 h2).1, fun j hj => ⟨((ht r h1 h2).2 j hj).1, fun hj2 => ?_⟩⟩, hcov⟩
  rcases Nat.lt_or_ge j c with y | y
  · exact ((ht r h1 h2).2 j hj).2 y
  · have : j = c := by omega
    rw [this]; exact hz r h1 h2
theorem sp_at0 {j : Nat} : ∀ {K : List (Nat → Int)} {x : Nat → Int}, (∀ r ∈ K, r j = 0) → Sp K x → x j = 0 := by
  intro K
  induction K with
  | nil => intro x _ h; exact h j
  | cons r K ih =>
    intro x h hs
    obtain ⟨a, ha⟩ := hs
    have h1 := ih (fun q hq => h q (by simp [hq])) ha
    have h2 := h r (by simp)
    simp only [h2] at h1
    omega
theorem rI_end {N E : Nat} {v : Nat → Nat → Int} (hv0 : ∀ i, i < N → ∀ e, E ≤ e → v i e = 0) {c q : Nat} {T : Nat → Nat → Int64} {d : Int64} (h : rI N E v c q T d) (he : c = E ∨ N ≤ q) : ∃ (ks C : List Nat), ks.length = q ∧ (∀ k ∈ ks, k < N) ∧ dt (ks.map v) C ≠ 0 ∧ ∀ i, i < N → ∃ D : Int, D ≠ 0 ∧ Sp (ks.map v) (fun e => D * v i e) := by
  obtain ⟨ks, C, π, l1, l2, l3, hk, hd0, hd, ht, hcov⟩ := h
  have hD : dt (ks.map v) C ≠ 0 := fun z => hd0 (Int64.toInt_inj.mp (by rw [hd, z]; rfl))
  refine ⟨ks, C, l1, hk, hD, fun i hi => ?_⟩
  rcases hcov i hi with y | ⟨r, y1, y2, y3⟩
  · exact ⟨1, by decide, (Sp.mem (K := ks.map v) (x := v i) (List.mem_map.mpr ⟨i, y, rfl⟩)).congr (fun e => by simp)⟩
  · have hc : c = E := by omega
    refine ⟨dt (ks.map v) C, hD, (al_span (ks.map v) C (v i)).congr (fun j => ?_)⟩
    have z : dt (v i :: ks.map v) (j :: C) = 0 := by
      rcases Nat.lt_or_ge j E with w | w
      · have := (ht r y1 y2).2 j w
        rw [y3] at this
        rw [← this.1, this.2 (by omega)]; rfl
      · exact sp_at0 (j := j) (K := v i :: ks.map v) (fun x hx => by
          rcases List.mem_cons.mp hx with e | e
          · rw [e]; exact hv0 i hi j w
          · obtain ⟨t, ht2, rfl⟩ := List.mem_map.mp e
            exact hv0 t (hk t ht2) j w) (sp_col (v i :: ks.map v) C)
    rw [z]; simp
def rk (σ : Sg) : Nat := cpv (nF σ) (plT σ (fun _ => 0), 1) (nF σ)
theorem plv0 (hW : WF σ) : (∀ i c, -1 ≤ plv σ (fun _ => 0) i c ∧ plv σ (fun _ => 0) i c ≤ 1) ∧ ∀ i, i < nF σ → ∀ e, nE σ ≤ e → plv σ (fun _ => 0) i e = 0 := by
  constructor
  · intro i c
    unfold plv
    split
    · show (-1 : Int) ≤ 0 ∧ (0 : Int) ≤ 1; decide
    · rcases sgn_cases σ 2 i c with h | h | h <;> rw [h] <;> decide
  · intro i hi e he
    have hf := hW.2.2.2.1 i hi
    unfold plv sgn
    rw [if_neg (by omega), if_neg (by decide), if_neg (by omega), if_neg (by omega)]
theorem h_turnRank (hW : WF σ) (h : RM σ M0) (y0 : RY M0 M) {post : Int32 → Mem → Prop} (K : ∀ M', RY M0 M' → post (nI (rk σ)) M') : q_Mo_turnRank M post := by
  obtain ⟨⟨w1, w2, w3, w4⟩, we, -, wf, -⟩ := id hW
  have hvi : ∀ a b, a < nF σ → b < nE σ → vp_in (nI (13 * a + b)) 156 := fun a b ha hb => vp_in_nI (by omega) (by decide)
  unfold q_Mo_turnRank
  have hM := y0.rm h
  refine h_empties (fun M1 x1 t1 => ?_)
  refine pk_loop (fun m k (M' : Mem) => q_Mo_turnRank_L6 _ post m (nI k) M') (fun k M' => RX M M' ∧ RT (nF σ) (nE σ) (fun i j => if i < k then lI (sgn σ 2 i j) else 0) M') (nF σ) 0 M1 (Nat.zero_le _) ⟨x1, t1 _ _ _ (by omega) (by omega) (fun i j => by rw [if_neg (by omega)])⟩ ?_ ?_
  · rintro m M2 ⟨x2, r2⟩
    have h2 := x2.rm hM
    unfold q_Mo_turnRank_L6
    rw [h2.1.2.2, h2.1.2.1]
    refine ⟨fun _ => ?_, fun z => absurd (nI_le (Nat.le_refl _) (by omega)) z⟩
    have pv := plv0 hW
    have r3 : RT (nF σ) (nE σ) (fun i j => lI (plv σ (fun _ => 0) i j)) M2 := r2.congr (fun i j hi _ => by rw [if_pos hi]; unfold plv; rw [if_neg (by omega)])
    refine h_turns (by omega) (by omega) (Nat.le_refl _) w3 (fun c q T d _ => rI (nF σ) (nE σ) (plv σ (fun _ => 0)) c q T d) (fun _ => 0) r3 x2 ?_ (fun c q T d pl hI => ?_) (fun c q T d pl hI hc hq hz => rI_none hI hz) (fun c q T d pl hI hc hq r h1 h2 _ hn => rI_some w4 pv.1 hI hc hq h1 h2 hn) (fun c q T d pl M' hI hc he x' _ _ _ => ?_)
    · refine ⟨[], [], fun r => r, rfl, rfl, Nat.le_refl _, by simp, by decide, rfl, fun r _ hr => ⟨hr, fun j hj => ⟨?_, fun hj2 => by omega⟩⟩, fun i hi => Or.inr ⟨i, Nat.zero_le _, hi, rfl⟩⟩
      have b := pv.1 r j
      rw [lI_t (by omega) (by omega)]
      show _ = dt [plv σ (fun _ => 0) r] [j]
      rw [dt_cons, wd_cons]
      show _ = _ * dt [] [] - wd _ _ []
      simp [dt, wd_nil]
    · obtain ⟨ks, C, π, l1, l2, l3, hk, hd0, -⟩ := hI
      exact ⟨hd0, l3⟩
    · obtain ⟨ks, C, l1, hk, hD, hs⟩ := rI_end pv.2 hI he
      have e := rank_eq (cS_pl hW (w := fun _ => 0) (fun e _ => by decide)) pv.2 hk hD hs
      rw [← l1, e]
      exact K M' (y0.trans x'.y)
  · rintro m k M2 hk ⟨x2, r2⟩ ih
    have h2 := x2.rm hM
    have hc := h2.2.2.1 k hk
    have hf := wf k hk
    have b1 := we (pF1 σ k) hf.1
    have b2 := we (pS1 σ k) hf.2.1
    unfold q_Mo_turnRank_L6
    rw [h2.1.2.2, clm (show k < 200 by omega), hc.1, hc.2.1, nI_1 (a := k)]
    refine ⟨fun z => absurd z (nI_ge hk (by omega)), fun _ => ⟨vp_in_nI (by omega) (by decide), vp_in_nI (by omega) (by decide), h_edgeIs hW h2 hf.1 rfl rfl ?_⟩⟩
    rw [ix13, clm (show 13 * k + pF1 σ k < 200 by omega)]
    refine ⟨hvi _ _ hk hf.1, fun M3 e3 => ⟨vp_in_nI (by omega) (by decide), vp_in_nI (by omega) (by decide), ?_⟩⟩
    have x3 : RX M M3 := by rw [e3]; exact x2.trans RX.j69
    have r3 := e3 ▸ r2.put (by omega) hk hf.1 (x := 1)
    have h3 := x3.rm hM
    have hc3 := h3.2.2.1 k hk
    rw [hc3.2.1, hc3.2.2]
    refine h_edgeIs hW h3 hf.2.1 (by omega) rfl ?_
    rw [ix13, clm (show 13 * k + pS1 σ k < 200 by omega)]
    refine ⟨hvi _ _ hk hf.2.1, fun M4 e4 => ⟨vp_in_nI (by omega) (by decide), vp_in_nI (by omega) (by decide), ?_⟩⟩
    have x4 : RX M M4 := by rw [e4]; exact x3.trans RX.j69
    have r4 := e4 ▸ r3.put (by omega) hk hf.2.1 (x := 1)
    have h4 := x4.rm hM
    have hc4 := h4.2.2.1 k hk
    rw [hc4.1, hc4.2.2]
    refine h_edgeIs hW h4 hf.2.2.1 (by omega) (by omega) ?_
    rw [ix13, clm (show 13 * k + pA1 σ k < 200 by omega)]
    refine ⟨hvi _ _ hk hf.2.2.1, fun M5 e5 => ih M5 ⟨by rw [e5]; exact x4.trans RX.j69, ?_⟩⟩
    have r5 := e5 ▸ r4.put (by omega) hk hf.2.2.1 (x := -1)
    have ne := plate_ne hW hk
    refine r5.congr (fun i j hi hj => ?_)
    by_cases z : i = k
    · rw [z, if_pos (show k < k + 1 by omega)]
      unfold sgn
      rw [if_neg (show ¬ (2 = 1) by decide)]
      by_cases y1 : pF1 σ k = j ∨ pS1 σ k = j
      · rw [if_pos y1, if_neg (by omega)]
        by_cases y2 : j = pS1 σ k
        · rw [if_pos ⟨rfl, y2⟩]; rfl
        · rw [if_neg (fun q => y2 q.2), if_pos ⟨rfl, by omega⟩]; rfl
      · rw [if_neg y1]
        by_cases y2 : pA1 σ k = j
        · rw [if_pos y2, if_pos ⟨rfl, y2.symm⟩]; rfl
        · rw [if_neg y2, if_neg (by omega), if_neg (by omega), if_neg (by omega), if_neg (by omega)]; rfl
    · rw [if_neg (fun q => z q.1), if_neg (fun q => z q.1), if_neg (fun q => z q.1)]
      by_cases y : i < k
      · rw [if_pos y, if_pos (by omega)]
      · rw [if_neg y, if_neg (by omega)]
def op_holes (σ : Sg) (d : Int32) : Int32 × Sg := (if d = 0 then nI (own (vL σ) (nP σ)) else if d = 1 then (nI (nE σ) - (nI (nP σ) - nI (own (vL σ) (nP σ)))) - nI (rk σ) else if d = 2 then nI (nF σ) - nI (rk σ) else -2, σ)
theorem h_Nf_holes (hW : WF σ) (h : RC σ M) {d : Int32} {post : Int32 → Mem → Prop} (K : ∀ M', RC (op_holes σ d).2 M' → Ag C56 C56 M M' → post (op_holes σ d).1 M') : q_Nf_holes d M post := by
  have K' : ∀ M', RC σ M' → Ag C56 C56 M M' → post (if d = 0 then nI (own (vL σ) (nP σ)) else if d = 1 then (nI (nE σ) - (nI (nP σ) - nI (own (vL σ) (nP σ)))) - nI (rk σ) else if d = 2 then nI (nF σ) - nI (rk σ) else -2) M' := K
  unfold q_Nf_holes
  have no : ¬ d = 0 → ¬ d = 1 → ¬ d = 2 → post (-2) M := fun a b c => by
    rw [if_neg a, if_neg b, if_neg c] at K'; exact K' M h Ag.rf
  refine ⟨fun c => no ?_ ?_ ?_, fun c => ⟨fun c2 => ?_, fun c2 => no ?_ ?_ ?_⟩⟩
  · rintro rfl; exact absurd c (by decide)
  · rintro rfl; exact absurd c (by decide)
  · rintro rfl; exact absurd c (by decide)
  · refine h_Net_countParts hW h ⟨fun d0 => h_countTurns hW h (fun M' h' g' => ⟨fun d2 => ?_, fun d2 => ?_⟩), fun d0 => ?_⟩
    · have d1 : d = 1 := by
        apply Int32.toInt_inj.mp
        have e0 : d.toInt ≠ 0 := fun q => d0 (Int32.toInt_inj.mp q)
        have e2 : d.toInt ≠ 2 := fun q => d2 (Int32.toInt_inj.mp q)
        rw [Int32.lt_iff_toInt_lt] at c
        rw [Int32.le_iff_toInt_le] at c2
        have z0 : (0 : Int32).toInt = 0 := rfl
        have z1 : (1 : Int32).toInt = 1 := rfl
        have z2 : (2 : Int32).toInt = 2 := rfl
        omega
      rw [if_neg d0, if_pos d1] at K'
      rw [h'.1.2.1, h'.1.1]
      exact K' M' h' g'
    · rw [if_neg d0, if_neg (by rw [d2]; decide), if_pos d2] at K'
      rw [h'.1.2.2]
      exact K' M' h' g'
    · rw [if_pos d0] at K'; exact K' M h Ag.rf
  · rintro rfl; exact absurd (by decide) c2
  · rintro rfl; exact absurd (by decide) c2
  · rintro rfl; exact absurd (by decide) c2
theorem h_Mo_holes (hW : WF σ) (h : RM σ M) {d : Int32} {post : Int32 → Mem → Prop} (K : ∀ M', RM (op_holes σ d).2 M' → Ag D56 D56 M M' → post (op_holes σ d).1 M') : q_Mo_holes d M post := by
  have K' : ∀ M', RM σ M' → Ag D56 D56 M M' → post (if d = 0 then nI (own (vL σ) (nP σ)) else if d = 1 then (nI (nE σ) - (nI (nP σ) - nI (own (vL σ) (nP σ)))) - nI (rk σ) else if d = 2 then nI (nF σ) - nI (rk σ) else -2) M' := K
  unfold q_Mo_holes
  refine ⟨fun c => ?_, fun c => ?_, fun c => ?_, fun c => ?_⟩
  · rw [if_pos (show d = 0 from c)] at K'
    exact h_parts hW h Ag.rf (fun M' r => K' M' (h.ag (r.1.mono (fun k hk => by unfold Sm; omega) (fun k hk => hk.elim))) (r.1.mono (fun k hk => by unfold D56; omega) (fun k hk => hk.elim)))
  · rw [if_neg (show ¬ d = 0 by rw [c]; decide), if_pos (show d = 1 from c)] at K'
    unfold q_Mo_slopeRank
    refine h_parts hW h Ag.rf (fun M1 r1 => ?_)
    have h1 : RM σ M1 := h.ag (r1.1.mono (fun k hk => by unfold Sm; omega) (fun k hk => hk.elim))
    refine h_turnRank hW h1 Ag.rf (fun M2 y2 => ?_)
    rw [h.1.2.1, h.1.1]
    exact K' M2 (y2.rm h1) ((r1.1.mono (fun k hk => by unfold D56; omega) (fun k hk => hk.elim)).trans y2.d)
  · rw [if_neg (show ¬ d = 0 by rw [c]; decide), if_neg (show ¬ d = 1 by rw [c]; decide), if_pos (show d = 2 from c)] at K'
    refine h_turnRank hW h Ag.rf (fun M2 y2 => ?_)
    rw [h.1.2.2]
    exact K' M2 (y2.rm h) y2.d
  · rw [if_neg (by rintro rfl; revert c; decide), if_neg (by rintro rfl; revert c; decide), if_neg (by rintro rfl; revert c; decide)] at K'
    exact K' M h Ag.rf
end HOLES
