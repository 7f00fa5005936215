/-! the reference's solving goes along with the class's -/
section MSOLVE
variable {σ : Sg} {M0 M : Mem} {n : Nat} {T : Nat → Nat → Int64}
def sI (n : Nat) (T : Nat → Nat → Int64) (c q : Nat) (T' : Nat → Nat → Int64) (d : Int64) (pl : Nat → Nat) : Prop :=
  c ≤ n ∧ q ≤ c ∧ d = (csq n (T, 1) c).2 ∧ d ≠ 0 ∧ (∀ p, p < q → pl p < c ∧ ∀ j, j ≤ n → T' p j = (csq n (T, 1) c).1 (pl p) j) ∧ (∀ p, q ≤ p → p < c → ∀ j, j ≤ n → T' p j = 0) ∧ (∀ p, c ≤ p → p < n → ∀ j, j ≤ n → T' p j = (csq n (T, 1) c).1 p j) ∧ (∀ i, i < c → (∃ p, p < q ∧ pl p = i) ∨ ∀ j, j ≤ n → (csq n (T, 1) c).1 i j = 0)
theorem sI_none (ok : cOK n (T, 1)) {c q : Nat} {T' : Nat → Nat → Int64} {d : Int64} {pl : Nat → Nat} (h : sI n T c q T' d pl) (hc : c < n) (hz : ∀ r, q ≤ r → r < n → T' r c = 0) : sI n T (c + 1) q T' d pl := by
  obtain ⟨h1, h2, h3, h4, h5, h6, h7, h8⟩ := h
  have z : (csq n (T, 1) c).1 c c = 0 := by rw [← h7 c (Nat.le_refl _) hc c (by omega)]; exact hz c h2 hc
  have o := (ok c hc).2 z
  have e : csq n (T, 1) (c + 1) = csq n (T, 1) c := by show cst n c _ = _; unfold cst; rw [if_pos z]
  unfold sI
  rw [e]
  refine ⟨by omega, by omega, h3, h4, fun p hp => ⟨by have := (h5 p hp).1; omega, (h5 p hp).2⟩, fun p a b j hj => ?_, fun p a b j hj => h7 p (by omega) b j hj, fun i hi => ?_⟩
  · rcases Nat.lt_or_ge p c with y | y
    · exact h6 p a y j hj
    · have : p = c := by omega
      rw [this, h7 c (Nat.le_refl _) hc j hj, o.1 j hj]
  · rcases Nat.lt_or_ge i c with y | y
    · exact h8 i y
    · have : i = c := by omega
      rw [this]; exact Or.inr o.1
theorem sI_some (ok : cOK n (T, 1)) {c q : Nat} {T' : Nat → Nat → Int64} {d : Int64} {pl : Nat → Nat} (h : sI n T c q T' d pl) (hc : c < n) {r : Nat} (hq : q ≤ r) (hr : r < n) (hz : ∀ l, q ≤ l → l < r → T' l c = 0) (hn : T' r c ≠ 0) : sI n T (c + 1) (q + 1) (el (sw T' r q) q c d) (T' r c) (fun x => if x = q then c else pl x) := by
  obtain ⟨h1, h2, h3, h4, h5, h6, h7, h8⟩ := h
  have rc : c ≤ r := by
    rcases Nat.lt_or_ge r c with y | y
    · exact absurd (h6 r hq y c (by omega)) hn
    · exact y
  have z : (csq n (T, 1) c).1 c c ≠ 0 := fun q2 => by
    have := ((ok c hc).2 q2).2 r rc hr
    rw [← h7 r rc hr c (by omega)] at this
    exact hn this
  have rc2 : r = c := by
    rcases Nat.lt_or_ge c r with y | y
    · have := hz c h2 y
      rw [h7 c (Nat.le_refl _) hc c (by omega)] at this
      exact absurd this z
    · omega
  subst rc2
  have e : csq n (T, 1) (r + 1) = (fun i j => if i < n ∧ i ≠ r ∧ j ≤ n then ((csq n (T, 1) r).1 r r * (csq n (T, 1) r).1 i j - (csq n (T, 1) r).1 i r * (csq n (T, 1) r).1 r j) / (csq n (T, 1) r).2 else (csq n (T, 1) r).1 i j, (csq n (T, 1) r).1 r r) := by show cst n r _ = _; unfold cst; rw [if_neg z]
  have tr : ∀ j, j ≤ n → T' r j = (csq n (T, 1) r).1 r j := fun j hj => h7 r (Nat.le_refl _) hr j hj
  unfold sI
  rw [e]
  dsimp only
  generalize csq n (T, 1) r = S at *
  have sq : ∀ j, sw T' r q q j = T' r j := fun j => by
    unfold sw
    by_cases y : q = r
    · rw [if_pos y, y]
    · rw [if_neg y, if_pos rfl]
  have so : ∀ p j, p ≠ q → p ≠ r → sw T' r q p j = T' p j := fun p j a b => by unfold sw; rw [if_neg b, if_neg a]
  have sr : ∀ j, q ≠ r → sw T' r q r j = T' q j := fun j a => by unfold sw; rw [if_pos rfl]
  have ne : ∀ p j, p ≠ q → el (sw T' r q) q r d p j = (sw T' r q p j * T' r r - sw T' r q p r * T' r j) / d := fun p j a => by unfold el; rw [if_neg a, sq, sq]
  have zz : ∀ x y : Int64, (0 * x - 0 * y) / d = 0 := fun x y => by
    have : (0 * x - 0 * y : Int64) = 0 := by grind
    rw [this, Int64.zero_div]
  refine ⟨by omega, by omega, tr r (by omega), hn, fun p hp => ?_, fun p a b j hj => ?_, fun p a b j hj => ?_, fun i hi => ?_⟩
  · by_cases y : p = q
    · rw [if_pos y]
      refine ⟨by omega, fun j hj => ?_⟩
      rw [y, if_neg (by omega)]
      show (if q = q then sw T' r q q j else _) = _
      rw [if_pos rfl, sq, tr j hj]
    · have h9 := h5 p (by omega)
      rw [if_neg y]
      refine ⟨by omega, fun j hj => ?_⟩
      rw [if_pos ⟨by omega, by omega, hj⟩, ne p j y, so p j y (by omega), so p r y (by omega), h9.2 j hj, h9.2 r (by omega), tr r (by omega), tr j hj, h3, Int64.mul_comm]
  · rw [ne p j (by omega)]
    by_cases y : p = r
    · rw [y, sr j (by omega), sr r (by omega), h6 q (Nat.le_refl _) (by omega) j hj, h6 q (Nat.le_refl _) (by omega) r (by omega), zz]
    · rw [so p j (by omega) y, so p r (by omega) y, h6 p (by omega) (by omega) j hj, h6 p (by omega) (by omega) r (by omega), zz]
  · rw [ne p j (by omega), so p j (by omega) (by omega), so p r (by omega) (by omega), h7 p (by omega) b j hj, h7 p (by omega) b r (by omega), tr r (by omega), tr j hj, if_pos ⟨b, by omega, hj⟩, h3, Int64.mul_comm]
  · by_cases y : i = r
    · exact Or.inl ⟨q, by omega, by rw [if_pos rfl, y]⟩
    · rcases h8 i (by omega) with ⟨p, hp, hpi⟩ | y2
      · exact Or.inl ⟨p, by omega, by rw [if_neg (by omega)]; exact hpi⟩
      · refine Or.inr (fun j hj => ?_)
        rw [if_pos ⟨by omega, y, hj⟩, y2 j hj, y2 r (by omega), ← h3]
        have : (S.1 r r * 0 - 0 * S.1 r j : Int64) = 0 := by grind
        rw [this, Int64.zero_div]
theorem h_solves (hn : n ≤ 10) (ok : cOK n (T, 1)) (r : RT n (n + 1) T M) (x0 : RX M0 M) {post : Mem → Prop} (K : ∀ M', RX M0 M' → (∀ k, k < n → M'.2 71 k = (csq n (T, 1) n).1 k n) → M'.2 56 18 = (csq n (T, 1) n).2 → post M') : q_Mo_solves (nI n) M post := by
  unfold q_Mo_solves
  rw [show nI n + (1 : Int32) = nI (n + 1) from nI_1 n]
  refine h_turns (by omega) (by omega) (by omega) (by omega) (sI n T) (fun _ => 0) r x0 ⟨by omega, by omega, rfl, by decide, fun p hp => by omega, fun p _ hp => by omega, fun p _ _ j _ => rfl, fun i hi => by omega⟩ (fun c q T' d pl h => ⟨h.2.2.2.1, h.2.1⟩) (fun c q T' d pl h hc _ hz => sI_none ok h hc hz) (fun c q T' d pl h hc _ r hq hr hz hn => sI_some ok h hc hq hr hz hn) ?_
  rintro c q T' d pl M1 hI hc hcq x1 r1 e1 p1
  have ec : c = n := by have := hI.2.1; omega
  subst ec
  obtain ⟨-, h2, h3, h4, h5, h6, h7, h8⟩ := hI
  refine pk_loop (fun m k (M' : Mem) => q_Mo_solves_L12 _ post m (nI c) (nI q) (nI k) M') (fun k M' => RX M0 M' ∧ RT c (c + 1) T' M' ∧ M'.2 56 18 = d ∧ M'.1 70 = M1.1 70 ∧ ∀ i, i < k → M'.2 71 i = 0) c 0 M1 (Nat.zero_le _) ⟨x1, r1, e1, rfl, fun i hi => by omega⟩ ?_ ?_
  · rintro m M2 ⟨x2, r2, e2, i2, z2⟩
    unfold q_Mo_solves_L12
    refine ⟨fun _ => ?_, fun z => absurd (nI_le (Nat.le_refl _) (by omega)) z⟩
    refine pk_loop (fun m k (M' : Mem) => q_Mo_solves_L32 _ post m (nI c) (nI q) (nI k) M') (fun k M' => RX M0 M' ∧ RT c (c + 1) T' M' ∧ M'.2 56 18 = d ∧ M'.1 70 = M1.1 70 ∧ (∀ i, i < c → (M'.2 71 i = 0 ∨ M'.2 71 i = (csq c (T, 1) c).1 i c)) ∧ ∀ p, p < k → M'.2 71 (pl p) = (csq c (T, 1) c).1 (pl p) c) q 0 M2 (Nat.zero_le _) ⟨x2, r2, e2, i2, fun i hi => Or.inl (z2 i hi), fun p hp => by omega⟩ ?_ ?_
    · rintro m M3 ⟨x3, r3, e3, i3, z3, y3⟩
      unfold q_Mo_solves_L32
      refine ⟨fun _ => K M3 x3 (fun k hk => ?_) (by rw [e3, h3]), fun z => absurd (nI_le (Nat.le_refl _) (by omega)) z⟩
      rcases h8 k hk with ⟨p, hp, hpk⟩ | y
      · rw [← hpk]; exact y3 p hp
      · rcases z3 k hk with z | z
        · rw [z, y c (Nat.le_refl _)]
        · exact z
    · rintro m k M3 hk ⟨x3, r3, e3, i3, z3, y3⟩ ih
      have hp := h5 k hk
      unfold q_Mo_solves_L32
      rw [ix13, clm (show k < 200 by omega), clm (show 13 * k + c < 200 by omega), i3, p1 k hk, clm (show pl k < 200 by omega), r3 k (by omega) c (by omega), nI_1 (a := k)]
      refine ⟨fun z => absurd z (nI_ge hk (by omega)), fun _ => ⟨vp_in_nI (by omega) (by decide), vp_in_nI (by omega) (by decide), vp_in_nI (by omega) (by decide), fun M4 e4 => ih M4 ⟨by rw [e4]; exact x3.trans RX.j71, fun i hi j hj => by rw [e4, wJ_2, if_neg (by decide)]; exact r3 i hi j hj, by rw [e4, wJ_2, if_neg (by decide)]; exact e3, by rw [e4]; exact i3, fun i hi => ?_, fun p hp2 => ?_⟩⟩⟩
      · rw [e4, wJ_2, if_pos rfl]
        by_cases y : i = pl k
        · rw [if_pos y, y]; exact Or.inr (hp.2 c (Nat.le_refl _))
        · rw [if_neg y]; exact z3 i hi
      · rw [e4, wJ_2, if_pos rfl]
        by_cases y : pl p = pl k
        · rw [if_pos y, y]; exact hp.2 c (Nat.le_refl _)
        · rw [if_neg y]
          refine y3 p ?_
          rcases Nat.lt_or_ge p k with w | w
          · exact w
          · have : p = k := by omega
            rw [this] at y; exact absurd rfl y
  · rintro m k M2 hk ⟨x2, r2, e2, i2, z2⟩ ih
    unfold q_Mo_solves_L12
    rw [clm (show k < 200 by omega), nI_1 (a := k)]
    refine ⟨fun z => absurd z (nI_ge hk (by omega)), fun _ => ⟨vp_in_nI (by omega) (by decide), fun M3 e3 => ih M3 ⟨by rw [e3]; exact x2.trans RX.j71, fun i hi j hj => by rw [e3, wJ_2, if_neg (by decide)]; exact r2 i hi j hj, by rw [e3, wJ_2, if_neg (by decide)]; exact e2, by rw [e3]; exact i2, fun i hi => ?_⟩⟩⟩
    rw [e3, wJ_2, if_pos rfl]
    by_cases y : i = k
    · rw [if_pos y]
    · rw [if_neg y]; exact z2 i (by omega)
end MSOLVE
