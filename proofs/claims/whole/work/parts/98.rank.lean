/-! rows that lie in the span of fewer rows; bounds of determinants; the rank, both ways -/
theorem dt_front (x0 : Nat → Int) (m : List (Nat → Int)) : ∀ l : List (Nat → Int), ∃ s : Int, ∀ cs, dt (l ++ x0 :: m) cs = s * dt (x0 :: (l ++ m)) cs := by
  intro l
  induction l with
  | nil => exact ⟨1, fun cs => by simp⟩
  | cons y l ih =>
    obtain ⟨s, hs⟩ := ih
    refine ⟨-s, fun cs => ?_⟩
    have e : dt (l ++ x0 :: m) = (fun t => s * dt (x0 :: (l ++ m)) t + 0 * dt (x0 :: (l ++ m)) t) := by funext t; rw [hs t]; grind
    show dt (y :: (l ++ x0 :: m)) cs = -s * dt (x0 :: y :: (l ++ m)) cs
    rw [dt_cons, e, wd_lin_o, ← dt_cons, dt_swap y x0]
    grind
theorem dt_mix {V : List (Nat → Int)} {x0 : Nat → Int} : ∀ t : List (Nat → Int), (∀ x ∈ t, ∃ a b : Int, a ≠ 0 ∧ Sp V (fun c => a * x c + b * x0 c)) → ∃ t' : List (Nat → Int), t'.length = t.length ∧ (∀ y ∈ t', Sp V y) ∧ ∃ P : Int, P ≠ 0 ∧ ∀ cs, dt (x0 :: t') cs = P * dt (x0 :: t) cs := by
  intro t
  induction t with
  | nil => intro _; exact ⟨[], rfl, by simp, 1, by decide, fun cs => by simp⟩
  | cons y t ih =>
    intro h
    obtain ⟨t', h1, h2, P, h3, h4⟩ := ih (fun x hx => h x (by simp [hx]))
    obtain ⟨a, b, ha, hs⟩ := h y (by simp)
    refine ⟨(fun c => a * y c + b * x0 c) :: t', by simp [h1], fun z hz => ?_, P * a, Int.mul_ne_zero h3 ha, fun cs => ?_⟩
    · rcases List.mem_cons.mp hz with e | e
      · rw [e]; exact hs
      · exact h2 z e
    · have e : dt (x0 :: t') = (fun q => P * dt (x0 :: t) q + 0 * dt (x0 :: t) q) := by funext q; rw [h4 q]; grind
      rw [dt_swap, dt_cons, e, wd_lin_o, ← dt_cons, dt_lin, dt_swap y x0, dt_mem (x := x0) (x0 :: t) cs (by simp)]
      grind
theorem dt_dep : ∀ (V L : List (Nat → Int)) (cs : List Nat), V.length < L.length → (∀ x ∈ L, ∃ D : Int, D ≠ 0 ∧ Sp V (fun c => D * x c)) → dt L cs = 0 := by
  intro V
  induction V with
  | nil =>
    intro L cs hl h
    cases L with
    | nil => simp at hl
    | cons x L =>
      obtain ⟨D, hD, hs⟩ := h x (by simp)
      exact dt_zero (fun c _ => by
        have := hs c
        rcases Int.mul_eq_zero.mp this with q | q
        · exact absurd q hD
        · exact q)
  | cons v V ih =>
    intro L cs hl h
    simp only [List.length_cons] at hl
    by_cases all : ∀ x ∈ L, ∃ D : Int, D ≠ 0 ∧ Sp V (fun c => D * x c)
    · exact ih L cs (by omega) all
    · simp only [Classical.not_forall] at all
      obtain ⟨x0, hx0, hno⟩ := all
      obtain ⟨D0, hD0, a0, hs0⟩ := h x0 hx0
      have ha0 : a0 ≠ 0 := fun q => hno ⟨D0, hD0, hs0.congr (fun c => by rw [q]; grind)⟩
      obtain ⟨l, m, rfl⟩ := List.append_of_mem hx0
      obtain ⟨s, hs⟩ := dt_front x0 m l
      obtain ⟨t', h1, h2, P, h3, h4⟩ := dt_mix (V := V) (x0 := x0) (l ++ m) (fun x hx => by
        obtain ⟨D, hD, a, ha⟩ := h x (by
          rcases List.mem_append.mp hx with q | q
          · exact List.mem_append.mpr (Or.inl q)
          · exact List.mem_append.mpr (Or.inr (List.mem_cons_of_mem _ q)))
        refine ⟨a0 * D, -(a * D0), Int.mul_ne_zero ha0 hD, ?_⟩
        exact (Sp.lin a0 (-a) ha hs0).congr (fun c => by grind))
      have z : ∀ cs, dt t' cs = 0 := fun cs => ih t' cs (by
        rw [h1]
        simp only [List.length_append, List.length_cons] at hl ⊢
        omega) (fun y hy => ⟨1, by decide, (h2 y hy).congr (fun c => by grind)⟩)
      have h5 := h4 cs
      rw [dt_cons, wd_zero_o _ _ z] at h5
      rcases Int.mul_eq_zero.mp h5.symm with q | q
      · exact absurd q h3
      · rw [hs, q]; simp
/-- bounds -/
def pw (W : Nat → Int) : List Nat → Int
  | [] => 1
  | c :: cs => W c * pw W cs
def fac : Nat → Int
  | 0 => 1
  | n + 1 => (n + 1) * fac n
theorem wd_len {v : Nat → Int} : ∀ (cs : List Nat) (ω : List Nat → Int), (∀ t, t.length + 1 = cs.length → ω t = 0) → wd v ω cs = 0 := by
  intro cs
  induction cs with
  | nil => intro ω _; rfl
  | cons c cs ih =>
    intro ω h
    rw [wd_cons, h cs (by simp), ih _ (fun t ht => h (c :: t) (by simp; omega))]
    simp
theorem dt_len : ∀ (K : List (Nat → Int)) (cs : List Nat), K.length ≠ cs.length → dt K cs = 0 := by
  intro K
  induction K with
  | nil =>
    intro cs h
    cases cs with
    | nil => simp at h
    | cons c cs => rfl
  | cons r K ih =>
    intro cs h
    rw [dt_cons]
    exact wd_len cs _ (fun t ht => ih t (fun q => h (by simp; omega)))
theorem pw_pos {W : Nat → Int} (hW : ∀ c, 0 ≤ W c) : ∀ cs, 0 ≤ pw W cs
  | [] => by show (0 : Int) ≤ 1; decide
  | c :: cs => Int.mul_nonneg (hW c) (pw_pos hW cs)
theorem wd_bd {v W : Nat → Int} (hW : ∀ c, 0 ≤ W c) (hv : ∀ c, -(W c) ≤ v c ∧ v c ≤ W c) : ∀ (cs : List Nat) (B : Int) (ω : List Nat → Int), (∀ t, -(B * pw W t) ≤ ω t ∧ ω t ≤ B * pw W t) → -(cs.length * (B * pw W cs)) ≤ wd v ω cs ∧ wd v ω cs ≤ cs.length * (B * pw W cs) := by
  intro cs
  induction cs with
  | nil => intro B ω _; rw [wd_nil]; simp
  | cons c cs ih =>
    intro B ω h
    have h1 := abs_mul (hv c) (h cs)
    have h2 := ih (B * W c) (fun t => ω (c :: t)) (fun t => by
      have := h (c :: t)
      have e : B * pw W (c :: t) = B * W c * pw W t := by show B * (W c * pw W t) = _; grind
      rw [e] at this; exact this)
    have e1 : (↑(c :: cs).length : Int) * (B * pw W (c :: cs)) = W c * (B * pw W cs) + ↑cs.length * (B * W c * pw W cs) := by
      show ((cs.length + 1 : Nat) : Int) * (B * (W c * pw W cs)) = _
      rw [Int.natCast_add]
      grind
    rw [wd_cons, e1]
    omega
theorem fac_pos : ∀ n, 0 ≤ fac n
  | 0 => by decide
  | n + 1 => Int.mul_nonneg (by omega) (fac_pos n)
theorem dt_bd {W : Nat → Int} (hW : ∀ c, 0 ≤ W c) : ∀ (K : List (Nat → Int)), (∀ r ∈ K, ∀ c, -(W c) ≤ r c ∧ r c ≤ W c) → ∀ cs, -(fac K.length * pw W cs) ≤ dt K cs ∧ dt K cs ≤ fac K.length * pw W cs := by
  intro K
  induction K with
  | nil =>
    intro _ cs
    have := pw_pos hW cs
    cases cs with
    | nil => show -((1 : Int) * 1) ≤ (1 : Int) ∧ (1 : Int) ≤ 1 * 1; decide
    | cons c cs => show -(1 * _) ≤ (0 : Int) ∧ (0 : Int) ≤ 1 * _; omega
  | cons r K ih =>
    intro h cs
    have h1 := ih (fun q hq => h q (by simp [hq]))
    by_cases z : (r :: K).length = cs.length
    · have h2 := wd_bd hW (h r (by simp)) cs (fac K.length) (dt K) h1
      rw [dt_cons]
      have e : fac (r :: K).length * pw W cs = ↑cs.length * (fac K.length * pw W cs) := by
        rw [← z]
        show ((K.length : Int) + 1) * fac K.length * pw W cs = ((K.length + 1 : Nat) : Int) * (fac K.length * pw W cs)
        rw [Int.natCast_add]
        grind
      rw [e]; exact h2
    · rw [dt_len _ _ z]
      have a := fac_pos (r :: K).length
      have b := pw_pos hW cs
      have := Int.mul_nonneg a b
      omega
section RANK
variable {m n : Nat} {v : Nat → Nat → Int} {B : Int}
theorem Sp.proj {K : List (Nat → Int)} {x : Nat → Int} (m : Nat) (h : Sp K x) : Sp (K.map (fun r e => if e < m then r (1000 + e) else 0)) (fun e => if e < m then x (1000 + e) else 0) := by
  induction K generalizing x with
  | nil => intro e; dsimp only; split
           · exact h _
           · rfl
  | cons r K ih =>
    obtain ⟨a, ha⟩ := h
    refine ⟨a, (ih ha).congr (fun e => ?_)⟩
    dsimp only
    split
    · rfl
    · simp
theorem Sp.gram {ks : List Nat} {x : Nat → Int} (h : Sp (ks.map v) x) : Sp (ks.map (gR m v)) (fun c => if c < 1000 then sm m (fun e => x e * v c e) else x (c - 1000)) := by
  induction ks generalizing x with
  | nil =>
    intro c
    dsimp only
    split
    · exact sm_zero (fun e _ => by rw [h e]; simp)
    · exact h _
  | cons k ks ih =>
    obtain ⟨a, ha⟩ := h
    refine ⟨a, (ih ha).congr (fun c => ?_)⟩
    unfold gR gA
    dsimp only
    split
    · have := sm_lin 1 (-a) (fun e => x e * v c e) (fun e => v k e * v c e) m
      have e2 : sm m (fun e => (x e - a * v k e) * v c e) = sm m (fun e => 1 * (x e * v c e) + -a * (v k e * v c e)) := sm_congr (fun e _ => by grind)
      rw [e2, this]; grind
    · rfl
theorem csq_rank (hS : cS m v B n) (hv : ∀ i, i < n → ∀ e, m ≤ e → v i e = 0) : ∀ c, c ≤ n → ∃ is, cI m v B n c is (csq n (fun i j => lI (gA m v i j), 1) c) ∧ is.length = cpv n (fun i j => lI (gA m v i j), 1) c ∧ ∀ i, i < c → ∃ D : Int, D ≠ 0 ∧ Sp (is.map v) (fun e => D * v i e) := by
  intro c
  induction c with
  | zero =>
    intro _
    refine ⟨[], ⟨gB_nil B, by simp, by simp, ?_, fun i j _ h2 h3 => ?_, fun i j h => by omega⟩, rfl, fun i hi => by omega⟩
    · show (1 : Int64).toInt = _
      rw [gD_nil]; rfl
    · have := hS.1
      rw [gL_nil i (by omega)]
      exact gA_ok hS h2 h3
  | succ c ih =>
    intro hc
    obtain ⟨is, h, hl, hq⟩ := ih (by omega)
    have hn := hS.1
    have st := cI_step hS h (by omega)
    by_cases hz : (csq n (fun i j => lI (gA m v i j), 1) c).1 c c = 0
    · refine ⟨is, (st.1 hz).2.2, ?_, fun i hi => ?_⟩
      · rw [hl]; show _ = (if _ then _ else _); rw [if_pos hz]
      · rcases Nat.lt_or_ge i c with y | y
        · exact hq i y
        · have e : i = c := by omega
          subst e
          have hb := h.1
          refine ⟨gD m v is, by have := hb.2.1; omega, ?_⟩
          have g0 : gL m v is i i = 0 := by
            have := h.2.2.2.2.1 i i (Nat.le_refl _) (by omega) (by omega)
            rw [← this, hz]; rfl
          have u0 := sm_sq_zero (f := gU m v is i) (m := m) (by rw [gU_dot hb.1 i (by omega), g0]; simp)
          have s1 := (al_span (is.map (gR m v)) is (gR m v i)).proj m
          rw [List.map_map] at s1
          have e1 : is.map ((fun r e => if e < m then r (1000 + e) else 0) ∘ gR m v) = is.map v := by
            apply List.map_congr_left
            intro t ht
            funext e
            show (if e < m then gR m v t (1000 + e) else 0) = v t e
            have ht2 := h.2.2.1 t ht
            by_cases z : e < m
            · rw [if_pos z]; unfold gR; rw [if_neg (by omega), show 1000 + e - 1000 = e by omega]
            · rw [if_neg z, hv t (by omega) e (by omega)]
          rw [e1] at s1
          refine s1.congr (fun e => ?_)
          by_cases z : e < m
          · rw [if_pos z]
            have := u0 e z
            unfold gU at this
            rw [this]
            unfold gD
            have e2 : gR m v i (1000 + e) = v i e := by unfold gR; rw [if_neg (by omega), show 1000 + e - 1000 = e by omega]
            rw [e2]; grind
          · rw [if_neg z, hv i (by omega) e (by omega)]; simp
    · refine ⟨c :: is, st.2 hz, ?_, fun i hi => ?_⟩
      · rw [List.length_cons, hl]; show _ = (if _ then _ else _); rw [if_neg hz]
      · rcases Nat.lt_or_ge i c with y | y
        · obtain ⟨D, hD, hs⟩ := hq i y
          exact ⟨D, hD, hs.front⟩
        · have e : i = c := by omega
          subst e
          exact ⟨1, by decide, (Sp.mem (K := (i :: is).map v) (x := v i) (by simp)).congr (fun e => by simp)⟩
/-- as many pivots as any independent rows that span -/
theorem rank_eq (hS : cS m v B n) (hv : ∀ i, i < n → ∀ e, m ≤ e → v i e = 0) {ks C : List Nat} (hk : ∀ k ∈ ks, k < n) (hd : dt (ks.map v) C ≠ 0) (hs : ∀ i, i < n → ∃ D : Int, D ≠ 0 ∧ Sp (ks.map v) (fun e => D * v i e)) : ks.length = cpv n (fun i j => lI (gA m v i j), 1) n := by
  obtain ⟨is, h, hl, hq⟩ := csq_rank hS hv n (Nat.le_refl _)
  rw [← hl]
  rcases Nat.lt_trichotomy ks.length is.length with z | z | z
  · exfalso
    have := h.1.2.1
    have e : gD m v is = 0 := dt_dep (ks.map (gR m v)) (is.map (gR m v)) is (by simp; exact z) (fun x hx => by
      obtain ⟨i, hi, rfl⟩ := List.mem_map.mp hx
      obtain ⟨D, hD, s⟩ := hs i (h.2.2.1 i hi)
      refine ⟨D, hD, (Sp.gram (m := m) s).congr (fun c => ?_)⟩
      unfold gR gA
      split
      · have := sm_lin D 0 (fun e => v i e * v c e) (fun e => v i e * v c e) m
        have e2 : sm m (fun e => D * v i e * v c e) = sm m (fun e => D * (v i e * v c e) + 0 * (v i e * v c e)) := sm_congr (fun e _ => by grind)
        rw [e2, this]; grind
      · rfl)
    omega
  · exact z
  · exact absurd (dt_dep (is.map v) (ks.map v) C (by simp; exact z) (fun x hx => by
      obtain ⟨i, hi, rfl⟩ := List.mem_map.mp hx
      exact hq i (hk i hi))) hd
end RANK
