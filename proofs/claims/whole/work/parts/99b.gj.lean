/-! an elimination without a zero pivot, all rows exact -/
def dn : Nat → List Nat
  | 0 => []
  | c + 1 => c :: dn c
theorem dn_lt : ∀ {c x : Nat}, x ∈ dn c → x < c := by
  intro c
  induction c with
  | zero => intro x h; cases h
  | succ c ih =>
    intro x h
    rcases List.mem_cons.mp h with e | e
    · omega
    · have := ih e; omega
theorem dn_len : ∀ c, (dn c).length = c
  | 0 => rfl
  | c + 1 => by show (dn c).length + 1 = c + 1; rw [dn_len c]
def ep (i : Nat) : Nat → Int := fun c => if c = i then -1 else 0
def gjD (r : Nat → Nat → Int) (c : Nat) : Int := dt ((dn c).map r) (dn c)
def gju (r : Nat → Nat → Int) (c i j : Nat) : Int := dt ((if i < c then ep i else r i) :: (dn c).map r) (j :: dn c)
section GJ
variable {r : Nat → Nat → Int}
theorem gj_D (c : Nat) : gjD r (c + 1) = gju r c c c := by
  unfold gju; rw [if_neg (Nat.lt_irrefl c)]; rfl
theorem gj_row (c : Nat) {j : Nat} (hj : c < j) : gju r (c + 1) c j = gju r c c j := by
  unfold gju
  rw [if_pos (Nat.lt_succ_self c), if_neg (Nat.lt_irrefl c)]
  show dt (ep c :: r c :: (dn c).map r) (j :: c :: dn c) = _
  rw [dt_cons, wd_cons, wd_cons, wd_zero_v (v := ep c) (dn c) _ (fun x hx => by
    have := dn_lt hx
    unfold ep; rw [if_neg (by omega)])]
  unfold ep
  rw [if_neg (by omega), if_pos rfl]
  grind
theorem gj_step {c : Nat} (hD : gjD r c ≠ 0) {i j : Nat} (hi : i ≠ c) : gjD r c * gju r (c + 1) i j = gjD r (c + 1) * gju r c i j - gju r c i c * gju r c c j := by
  have e : (if i < c + 1 then ep i else r i) = (if i < c then ep i else r i) := by
    by_cases z : i < c
    · rw [if_pos z, if_pos (by omega)]
    · rw [if_neg z, if_neg (by omega)]
  have h := bareiss (K := (dn c).map r) (C := dn c) hD (if i < c then ep i else r i) (r c) j c
  have e2 : gju r c c j = dt (r c :: (dn c).map r) (j :: dn c) := by unfold gju; rw [if_neg (Nat.lt_irrefl c)]
  rw [e2]
  unfold gju
  rw [e]
  exact h
theorem gj_0 (i j : Nat) : gju r 0 i j = r i j := by
  unfold gju
  rw [if_neg (Nat.not_lt_zero _)]
  show dt [r i] [j] = _
  rw [dt_cons, wd_cons]
  show r i j * dt [] [] - wd _ _ [] = _
  simp [dt, wd_nil]
variable {n : Nat}
def gW (n : Nat) : Nat → Int := fun c => if c = n then 15000 else 6
theorem gW_dn : ∀ {c : Nat}, c ≤ n → pw (gW n) (dn c) = 6 ^ c := by
  intro c
  induction c with
  | zero => intro _; rfl
  | succ c ih =>
    intro h
    show gW n c * pw (gW n) (dn c) = _
    rw [ih (by omega), Int.pow_succ]
    unfold gW
    rw [if_neg (by omega)]
    grind
theorem gj_bd (hr : ∀ i, i < n → ∀ c, -(gW n c) ≤ r i c ∧ r i c ≤ gW n c) {c : Nat} (hc : c ≤ n) {i j : Nat} (hi : i < n) : -(fac (c + 1) * (gW n j * 6 ^ c)) ≤ gju r c i j ∧ gju r c i j ≤ fac (c + 1) * (gW n j * 6 ^ c) := by
  have hW : ∀ c, 0 ≤ gW n c := fun c => by unfold gW; split <;> decide
  have h := dt_bd (W := gW n) hW ((if i < c then ep i else r i) :: (dn c).map r) (fun x hx q => by
    rcases List.mem_cons.mp hx with e | e
    · rw [e]
      by_cases z : i < c
      · rw [if_pos z]; unfold ep gW; repeat' split
        all_goals decide
      · rw [if_neg z]; exact hr i hi q
    · obtain ⟨t, ht, rfl⟩ := List.mem_map.mp e
      have := dn_lt ht
      exact hr t (by omega) q) (j :: dn c)
  have e1 : ((if i < c then ep i else r i) :: (dn c).map r).length = c + 1 := by simp [dn_len]
  have e2 : pw (gW n) (j :: dn c) = gW n j * 6 ^ c := by show gW n j * _ = _; rw [gW_dn hc]
  rw [e1, e2] at h
  exact h
theorem gj_bn (hn : n ≤ 6) (hr : ∀ i, i < n → ∀ c, -(gW n c) ≤ r i c ∧ r i c ≤ gW n c) {c : Nat} (hc : c ≤ n) {i j : Nat} (hi : i < n) : (c < n → j < n → -33592320 ≤ gju r c i j ∧ gju r c i j ≤ 33592320) ∧ (c < n → -83980800000 ≤ gju r c i j ∧ gju r c i j ≤ 83980800000) ∧ (-3527193600000 ≤ gju r c i j ∧ gju r c i j ≤ 3527193600000) := by
  have h := gj_bd hr hc (j := j) hi
  have f0 := fac_pos (c + 1)
  have p0 : (0 : Int) ≤ 6 ^ c := Int.pow_nonneg (by decide)
  have w0 : gW n j ≤ 15000 ∧ 0 ≤ gW n j := by unfold gW; split <;> decide
  have f7 : fac 7 = 5040 := by decide
  have f6 : fac 6 = 720 := by decide
  have q6 : (6 : Int) ^ 6 = 46656 := by decide
  have q5 : (6 : Int) ^ 5 = 7776 := by decide
  have pp : ∀ {a b x y z w : Int}, 0 ≤ a → 0 ≤ x → 0 ≤ z → a ≤ b → x ≤ y → z ≤ w → a * (x * z) ≤ b * (y * w) := by
    intro a b x y z w ha hx hz hab hxy hzw
    have h1 : x * z ≤ y * w := (abs_mul (s := y) (t := w) ⟨by omega, hxy⟩ ⟨by omega, hzw⟩).2
    have h2 : 0 ≤ x * z := Int.mul_nonneg hx hz
    exact (abs_mul (s := b) (t := y * w) ⟨by omega, hab⟩ ⟨by omega, h1⟩).2
  refine ⟨fun c1 c2 => ?_, fun c1 => ?_, ?_⟩
  · have w1 : gW n j ≤ 6 := by unfold gW; rw [if_neg (by omega)]; decide
    have a1 := fac_mono (show c + 1 ≤ 6 by omega)
    have a2 := pow_mono (B := 6) (by decide) (show c ≤ 5 by omega)
    have := pp f0 w0.2 p0 a1 w1 a2
    rw [f6, q5] at this
    omega
  · have a1 := fac_mono (show c + 1 ≤ 6 by omega)
    have a2 := pow_mono (B := 6) (by decide) (show c ≤ 5 by omega)
    have := pp f0 w0.2 p0 a1 w0.1 a2
    rw [f6, q5] at this
    omega
  · have a1 := fac_mono (show c + 1 ≤ 7 by omega)
    have a2 := pow_mono (B := 6) (by decide) (show c ≤ 6 by omega)
    have := pp f0 w0.2 p0 a1 w0.1 a2
    rw [f7, q6] at this
    omega
theorem gj_csq (hn : n ≤ 6) (hr : ∀ i, i < n → ∀ c, -(gW n c) ≤ r i c ∧ r i c ≤ gW n c) {T : Nat → Nat → Int64} (hT : ∀ i j, i < n → j ≤ n → (T i j).toInt = r i j) (hD : ∀ c, c ≤ n → gjD r c ≠ 0) : ∀ c, c ≤ n → (csq n (T, 1) c).2.toInt = gjD r c ∧ ∀ i j, i < n → c ≤ j → j ≤ n → ((csq n (T, 1) c).1 i j).toInt = gju r c i j := by
  intro c
  induction c with
  | zero => intro _; exact ⟨rfl, fun i j hi _ hj => by rw [gj_0]; exact hT i j hi hj⟩
  | succ c ih =>
    intro hc
    obtain ⟨h1, h2⟩ := ih (by omega)
    have pv := h2 c c (by omega) (Nat.le_refl _) (by omega)
    have z : (csq n (T, 1) c).1 c c ≠ 0 := fun q => by
      rw [q] at pv
      exact hD (c + 1) hc (by rw [gj_D, ← pv]; rfl)
    have e : csq n (T, 1) (c + 1) = (fun i j => if i < n ∧ i ≠ c ∧ j ≤ n then ((csq n (T, 1) c).1 c c * (csq n (T, 1) c).1 i j - (csq n (T, 1) c).1 i c * (csq n (T, 1) c).1 c j) / (csq n (T, 1) c).2 else (csq n (T, 1) c).1 i j, (csq n (T, 1) c).1 c c) := by show cst n c _ = _; unfold cst; rw [if_neg z]
    rw [e]
    refine ⟨by rw [gj_D]; exact pv, fun i j hi hcj hj => ?_⟩
    dsimp only
    by_cases y : i = c
    · rw [if_neg (fun q => q.2.1 y), y, gj_row c (by omega)]
      exact h2 c j (by omega) (by omega) hj
    · rw [if_pos ⟨hi, y, hj⟩]
      have t1 := h2 i j hi (by omega) hj
      have t2 := h2 i c hi (by omega) (by omega)
      have t3 := h2 c j (by omega) (by omega) hj
      have b1 := (gj_bn hn hr (show c ≤ n by omega) (i := c) (j := c) (by omega)).1 (by omega) (by omega)
      have b2 := (gj_bn hn hr (show c ≤ n by omega) (i := i) (j := j) hi).2.1 (by omega)
      have b3 := (gj_bn hn hr (show c ≤ n by omega) (i := i) (j := c) hi).1 (by omega) (by omega)
      have b4 := (gj_bn hn hr (show c ≤ n by omega) (i := c) (j := j) (by omega)).2.1 (by omega)
      have b5 := (gj_bn hn hr hc (i := i) (j := j) hi).2.2
      have m1 := abs_mul b1 b2
      have m2 := abs_mul b3 b4
      have st := gj_step (hD c (by omega)) (i := i) (j := j) y
      refine l_step (by rw [h1]; exact hD c (by omega)) ?_ (by rw [pv, t1]; omega) (by rw [pv, t1]; omega) (by rw [t2, t3]; omega) (by rw [t2, t3]; omega) (by omega) (by omega)
      rw [h1, pv, t1, t2, t3, st, gj_D]
end GJ
/-- two tables, one with the walls' columns cleared -/
def fP (n : Nat) (wt : Nat → Nat) (wn : Nat → Int) (u u' : Nat → Nat → Nat → Int) (D D' : Nat → Int) (c : Nat) : Prop :=
  D' c = D c ∧
  (∀ w, w < n → wt w ≠ 0 → ∀ j, c ≤ j → j ≤ n → u c w j = D c * (if j = n then wn w else if j = w then 1 else 0) ∧ u' c w j = D c * (if j = n then wn w else if j = w then 1 else 0)) ∧
  (∀ i, i < n → wt i = 0 → (∀ j, c ≤ j → j < n → (wt j = 0 → u c i j = u' c i j) ∧ (wt j ≠ 0 → u c i j = 0)) ∧ u c i n = u' c i n - sm n (fun w => if c ≤ w ∧ wt w ≠ 0 then u' c i w * wn w else 0))
def fR (n : Nat) (u : Nat → Nat → Nat → Int) (D : Nat → Int) : Prop := ∀ c, c < n → D c ≠ 0 → D (c + 1) = u c c c ∧ (∀ j, c < j → u (c + 1) c j = u c c j) ∧ ∀ i j, i ≠ c → D c * u (c + 1) i j = D (c + 1) * u c i j - u c i c * u c c j
theorem sm_del (f : Nat → Int) (a : Nat) : ∀ m, sm m (fun i => if i = a then f i else 0) = if a < m then f a else 0 := by
  intro m
  induction m with
  | zero => rfl
  | succ m ih =>
    show sm m _ + (if m = a then f m else 0) = _
    rw [ih]
    by_cases z : m = a
    · rw [if_pos z, if_neg (by omega), if_pos (by omega), z]; omega
    · rw [if_neg z]
      by_cases y : a < m
      · rw [if_pos y, if_pos (by omega)]; omega
      · rw [if_neg y, if_neg (by omega)]; rfl
theorem fP_step {n : Nat} {wt : Nat → Nat} {wn : Nat → Int} {u u' : Nat → Nat → Nat → Int} {D D' : Nat → Int} (hu : fR n u D) (hu' : fR n u' D') (hD : ∀ c, c ≤ n → D c ≠ 0) {c : Nat} (hc : c < n) (h : fP n wt wn u u' D D' c) : fP n wt wn u u' D D' (c + 1) := by
  obtain ⟨h1, h2, h3⟩ := h
  have d0 := hD c (by omega)
  obtain ⟨a1, a2, a3⟩ := hu c hc d0
  obtain ⟨b1, b2, b3⟩ := hu' c hc (by rw [h1]; exact d0)
  rw [h1] at b3
  have can : ∀ {x y : Int}, D c * x = D c * y → x = y := fun q => Int.eq_of_mul_eq_mul_left d0 q
  by_cases wc : wt c = 0
  · obtain ⟨f1, f2⟩ := h3 c hc wc
    have e1 : D' (c + 1) = D (c + 1) := by rw [a1, b1]; exact ((f1 c (Nat.le_refl _) hc).1 wc).symm
    rw [e1] at b3
    have su : ∀ i, sm n (fun w => if c + 1 ≤ w ∧ wt w ≠ 0 then u' c i w * wn w else 0) = sm n (fun w => if c ≤ w ∧ wt w ≠ 0 then u' c i w * wn w else 0) := fun i => sm_congr (fun w _ => by
      by_cases z : c ≤ w ∧ wt w ≠ 0
      · rw [if_pos z, if_pos ⟨by
          rcases Nat.lt_or_ge c w with q | q
          · exact q
          · have : w = c := by omega
            rw [this] at z; exact absurd wc z.2, z.2⟩]
      · rw [if_neg z, if_neg (fun q => z ⟨by omega, q.2⟩)])
    refine ⟨e1, fun w hw hww j hj1 hj2 => ?_, fun i hi hwi => ⟨fun j hj1 hj2 => ⟨fun wj => ?_, fun wj => ?_⟩, ?_⟩⟩
    · have ne : w ≠ c := fun q => hww (by rw [q]; exact wc)
      have g := h2 w hw hww
      have gc := g c (Nat.le_refl _) (by omega)
      rw [if_neg (by omega), if_neg (fun q => ne q.symm)] at gc
      have gj := g j (by omega) hj2
      constructor
      · apply can; rw [a3 w j ne, gc.1, gj.1]; grind
      · apply can; rw [b3 w j ne, gc.2, gj.2]; grind
    · by_cases y : i = c
      · rw [y, a2 j (by omega), b2 j (by omega)]; exact (f1 j (by omega) hj2).1 wj
      · apply can
        rw [a3 i j y, b3 i j y, ((h3 i hi hwi).1 j (by omega) hj2).1 wj, ((h3 i hi hwi).1 c (Nat.le_refl _) hc).1 wc, (f1 j (by omega) hj2).1 wj]
    · by_cases y : i = c
      · rw [y, a2 j (by omega)]; exact (f1 j (by omega) hj2).2 wj
      · apply can
        rw [a3 i j y, ((h3 i hi hwi).1 j (by omega) hj2).2 wj, (f1 j (by omega) hj2).2 wj]; grind
    · by_cases y : i = c
      · have e2 : sm n (fun w => if c + 1 ≤ w ∧ wt w ≠ 0 then u' (c + 1) c w * wn w else 0) = sm n (fun w => if c + 1 ≤ w ∧ wt w ≠ 0 then u' c c w * wn w else 0) := sm_congr (fun w _ => by
          by_cases z : c + 1 ≤ w ∧ wt w ≠ 0
          · rw [if_pos z, if_pos z, b2 w (by omega)]
          · rw [if_neg z, if_neg z])
        rw [y, a2 n (by omega), b2 n (by omega), e2, su, f2]
      · apply can
        have e2 : D c * sm n (fun w => if c + 1 ≤ w ∧ wt w ≠ 0 then u' (c + 1) i w * wn w else 0) = D (c + 1) * sm n (fun w => if c + 1 ≤ w ∧ wt w ≠ 0 then u' c i w * wn w else 0) + -(u' c i c) * sm n (fun w => if c + 1 ≤ w ∧ wt w ≠ 0 then u' c c w * wn w else 0) := by
          rw [← sm_lin]
          have e3 := sm_lin (D c) 0 (fun w => if c + 1 ≤ w ∧ wt w ≠ 0 then u' (c + 1) i w * wn w else 0) (fun _ => 0) n
          have e4 : D c * sm n (fun w => if c + 1 ≤ w ∧ wt w ≠ 0 then u' (c + 1) i w * wn w else 0) = D c * sm n (fun w => if c + 1 ≤ w ∧ wt w ≠ 0 then u' (c + 1) i w * wn w else 0) + 0 * sm n (fun _ => 0) := by grind
          rw [e4, ← e3]
          refine sm_congr (fun w _ => ?_)
          by_cases z : c + 1 ≤ w ∧ wt w ≠ 0
          · rw [if_pos z, if_pos z, if_pos z]
            have := b3 i w y
            have e5 : D c * (u' (c + 1) i w * wn w) = (D c * u' (c + 1) i w) * wn w := by grind
            rw [e5, this]; grind
          · rw [if_neg z, if_neg z, if_neg z]; grind
        have e6 : D c * (u' (c + 1) i n - sm n (fun w => if c + 1 ≤ w ∧ wt w ≠ 0 then u' (c + 1) i w * wn w else 0)) = D c * u' (c + 1) i n - D c * sm n (fun w => if c + 1 ≤ w ∧ wt w ≠ 0 then u' (c + 1) i w * wn w else 0) := by grind
        rw [e6, e2, a3 i n y, b3 i n y, su, su, (h3 i hi hwi).2, f2, ((h3 i hi hwi).1 c (Nat.le_refl _) hc).1 wc]
        grind
  · have g := h2 c hc wc
    have gc := g c (Nat.le_refl _) (by omega)
    rw [if_neg (by omega), if_pos rfl] at gc
    have e0 : D (c + 1) = D c := by rw [a1, gc.1]; grind
    have e1 : D' (c + 1) = D (c + 1) := by rw [b1, gc.2, e0]; grind
    rw [e1] at b3
    rw [e0] at a3 b3
    unfold fP
    rw [e1, e0]
    refine ⟨rfl, fun w hw hww j hj1 hj2 => ?_, fun i hi hwi => ?_⟩
    · by_cases y : w = c
      · rw [y, a2 j (by omega), b2 j (by omega)]; exact g j (by omega) hj2
      · have gw := h2 w hw hww
        have gwc := gw c (Nat.le_refl _) (by omega)
        rw [if_neg (by omega), if_neg (fun q => y q.symm)] at gwc
        have gj := gw j (by omega) hj2
        constructor
        · apply can; rw [a3 w j y, gwc.1, gj.1]; grind
        · apply can; rw [b3 w j y, gwc.2, gj.2]; grind
    · have y : i ≠ c := fun q => wc (by rw [← q]; exact hwi)
      obtain ⟨f1, f2⟩ := h3 i hi hwi
      have uc : u c i c = 0 := (f1 c (Nat.le_refl _) hc).2 wc
      have ue : ∀ j, u (c + 1) i j = u c i j := fun j => by apply can; rw [a3 i j y, uc]; grind
      have ue' : ∀ j, c < j → j < n → u' (c + 1) i j = u' c i j := fun j hj1 hj2 => by
        apply can
        have := (g j (by omega) (by omega)).2
        rw [if_neg (by omega), if_neg (by omega)] at this
        rw [b3 i j y, this]; grind
      have un : u' (c + 1) i n = u' c i n - u' c i c * wn c := by
        apply can
        have := (g n (by omega) (Nat.le_refl _)).2
        rw [if_pos rfl] at this
        rw [b3 i n y, this]; grind
      refine ⟨fun j hj1 hj2 => ⟨fun wj => ?_, fun wj => ?_⟩, ?_⟩
      · rw [ue, ue' j (by omega) hj2]; exact (f1 j (by omega) hj2).1 wj
      · rw [ue]; exact (f1 j (by omega) hj2).2 wj
      · have e2 : sm n (fun w => if c ≤ w ∧ wt w ≠ 0 then u' c i w * wn w else 0) = sm n (fun w => (if w = c then u' c i w * wn w else 0) + (if c + 1 ≤ w ∧ wt w ≠ 0 then u' (c + 1) i w * wn w else 0)) := sm_congr (fun w hw => by
          by_cases z : w = c
          · rw [if_pos z, if_pos ⟨by omega, by rw [z]; exact wc⟩, if_neg (by omega)]; omega
          · rw [if_neg z]
            by_cases x : c + 1 ≤ w ∧ wt w ≠ 0
            · rw [if_pos x, if_pos ⟨by omega, x.2⟩, ue' w (by omega) hw]; omega
            · rw [if_neg x, if_neg (fun q => x ⟨by omega, q.2⟩)]; rfl)
        rw [sm_add, sm_del, if_pos hc] at e2
        rw [ue, un, f2, e2]
        omega
