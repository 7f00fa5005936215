/-! longs that stay small; the class's elimination as a function -/
theorem bm64 {x : Int} (h1 : -9223372036854775808 < x) (h2 : x < 9223372036854775808) : x.bmod (2 ^ 64) = x := by
  have e : ((2 ^ 64 : Nat) : Int) = 18446744073709551616 := by decide
  exact Int.bmod_eq_of_le_mul_two (by omega) (by omega)
theorem l_mul {a b : Int64} {x : Int} (e : a.toInt * b.toInt = x) (h1 : -9223372036854775808 < x) (h2 : x < 9223372036854775808) : (a * b).toInt = x := by
  rw [Int64.toInt_mul, e, bm64 h1 h2]
theorem l_sub {a b : Int64} {x : Int} (e : a.toInt - b.toInt = x) (h1 : -9223372036854775808 < x) (h2 : x < 9223372036854775808) : (a - b).toInt = x := by
  rw [Int64.toInt_sub, e, bm64 h1 h2]
theorem l_add {a b : Int64} {x : Int} (e : a.toInt + b.toInt = x) (h1 : -9223372036854775808 < x) (h2 : x < 9223372036854775808) : (a + b).toInt = x := by
  rw [Int64.toInt_add, e, bm64 h1 h2]
/-- an exact step: no rest, no wrap -/
theorem l_step {p t a u d : Int64} {X : Int} (hd : d.toInt ≠ 0) (h : d.toInt * X = p.toInt * t.toInt - a.toInt * u.toInt) (b1 : -4000000000000000000 ≤ p.toInt * t.toInt) (b2 : p.toInt * t.toInt ≤ 4000000000000000000) (b3 : -4000000000000000000 ≤ a.toInt * u.toInt) (b4 : a.toInt * u.toInt ≤ 4000000000000000000) (c1 : -4000000000000000000 ≤ X) (c2 : X ≤ 4000000000000000000) : ((p * t - a * u) / d).toInt = X := by
  have e1 := l_mul (a := p) (b := t) rfl (by omega) (by omega)
  have e2 := l_mul (a := a) (b := u) rfl (by omega) (by omega)
  have e3 : (p * t - a * u).toInt = d.toInt * X := l_sub (by rw [e1, e2, h]) (by omega) (by omega)
  rw [Int64.toInt_div, e3, Int.mul_tdiv_cancel_left _ hd, bm64 (by omega) (by omega)]
/-- |x| is no more than s, from the squares -/
theorem le_of_sq {x s : Int} (hs : 0 ≤ s) (h : x * x ≤ s * s) : -s ≤ x ∧ x ≤ s := by
  constructor
  · rcases Int.lt_or_le x (-s) with q | q
    · have h1 : s * s < -x * -x := by
        have a1 : s * s ≤ s * -x := Int.mul_le_mul_of_nonneg_left (by omega) hs
        have a2 : s * -x < -x * -x := Int.mul_lt_mul_of_pos_right (by omega) (by omega)
        omega
      have e : -x * -x = x * x := by grind
      omega
    · exact q
  · rcases Int.lt_or_le s x with q | q
    · have a1 : s * s ≤ s * x := Int.mul_le_mul_of_nonneg_left (by omega) hs
      have a2 : s * x < x * x := Int.mul_lt_mul_of_pos_right q (by omega)
      omega
    · exact q
theorem abs_mul {x y s t : Int} (hx : -s ≤ x ∧ x ≤ s) (hy : -t ≤ y ∧ y ≤ t) : -(s * t) ≤ x * y ∧ x * y ≤ s * t := by
  have hs : 0 ≤ s := by omega
  have ht : 0 ≤ t := by omega
  rcases Int.le_total 0 x with h | h
  · have a1 : x * y ≤ x * t := Int.mul_le_mul_of_nonneg_left hy.2 h
    have a2 : x * t ≤ s * t := Int.mul_le_mul_of_nonneg_right hx.2 ht
    have a3 : x * -t ≤ x * y := Int.mul_le_mul_of_nonneg_left hy.1 h
    have a4 : x * -t = -(x * t) := by grind
    omega
  · have a1 : -x * y ≤ -x * t := Int.mul_le_mul_of_nonneg_left hy.2 (by omega)
    have a2 : -x * t ≤ s * t := Int.mul_le_mul_of_nonneg_right (by omega) ht
    have a3 : -x * -t ≤ -x * y := Int.mul_le_mul_of_nonneg_left hy.1 (by omega)
    have a4 : -x * -t = x * t := by grind
    have a5 : -x * y = -(x * y) := by grind
    have a6 : -x * t = -(x * t) := by grind
    omega
section EL
variable {m : Nat} {v : Nat → Nat → Int}
/-- the bound of an entry -/
theorem gL_bd {B : Int} {is : List Nat} (h : gB (m := m) (v := v) B is) {i j : Nat} (hi : i < 1000) (hj : j < 1000) {s t : Int} (hs : 0 ≤ s) (ht : 0 ≤ t) (hA : gA m v i i ≤ s * s) (hA2 : gA m v j j ≤ t * t) : -(gD m v is * (s * t)) ≤ gL m v is i j ∧ gL m v is i j ≤ gD m v is * (s * t) := by
  obtain ⟨h1, h2, h3, h4⟩ := h
  generalize hD : gD m v is = D at *
  have c := gL_cs (m := m) (v := v) h1 (by omega) hi hj
  have p1 := gL_pos (m := m) (v := v) h1 (by omega) hi
  have p2 := gL_pos (m := m) (v := v) h1 (by omega) hj
  have q1 := h3 i hi
  have q2 := h3 j hj
  have r1 : D * gA m v i i ≤ D * (s * s) := Int.mul_le_mul_of_nonneg_left hA (by omega)
  have r2 : D * gA m v j j ≤ D * (t * t) := Int.mul_le_mul_of_nonneg_left hA2 (by omega)
  have a1 : gL m v is i i * gL m v is j j ≤ D * (s * s) * gL m v is j j := Int.mul_le_mul_of_nonneg_right (by omega) p2
  have a2 : D * (s * s) * gL m v is j j ≤ D * (s * s) * (D * (t * t)) := Int.mul_le_mul_of_nonneg_left (by omega) (Int.mul_nonneg (by omega) (sq_nonneg s))
  have e : D * (s * s) * (D * (t * t)) = D * (s * t) * (D * (s * t)) := by grind
  exact le_of_sq (Int.mul_nonneg (by omega) (Int.mul_nonneg hs ht)) (by omega)
end EL
/-- one column of the class's elimination: n rows, n columns and the dues as the n-th -/
def cst (n k : Nat) (s : (Nat → Nat → Int64) × Int64) : (Nat → Nat → Int64) × Int64 :=
  if s.1 k k = 0 then s else (fun i j => if i < n ∧ i ≠ k ∧ j ≤ n then (s.1 k k * s.1 i j - s.1 i k * s.1 k j) / s.2 else s.1 i j, s.1 k k)
def csq (n : Nat) (s : (Nat → Nat → Int64) × Int64) : Nat → (Nat → Nat → Int64) × Int64
  | 0 => s
  | c + 1 => cst n c (csq n s c)
section EL2
variable {m : Nat} {v : Nat → Nat → Int}
/-- what holds before the column c, with the pivots is -/
def cI (m : Nat) (v : Nat → Nat → Int) (B : Int) (n c : Nat) (is : List Nat) (s : (Nat → Nat → Int64) × Int64) : Prop :=
  gB (m := m) (v := v) B is ∧ is.length ≤ c ∧ (∀ t ∈ is, t < c) ∧ s.2.toInt = gD m v is ∧ (∀ i j, c ≤ i → i < n → j ≤ n → (s.1 i j).toInt = gL m v is i j) ∧ ∀ i j, i < c → i ∉ is → j ≤ n → s.1 i j = 0
/-- the table is small enough -/
def cS (m : Nat) (v : Nat → Nat → Int) (B : Int) (n : Nat) : Prop := n ≤ 10 ∧ 1 ≤ B ∧ B ^ n ≤ 60000 ∧ (∀ i, i < n → gA m v i i ≤ B ∧ gA m v i i ≤ 9) ∧ gA m v n n ≤ 25000000
theorem pow_mono {B : Int} (hB : 1 ≤ B) : ∀ {a b : Nat}, a ≤ b → B ^ a ≤ B ^ b := by
  intro a b
  induction b with
  | zero => intro h; have : a = 0 := by omega
            subst this; exact Int.le_refl _
  | succ b ih =>
    intro h
    rcases Nat.lt_or_ge a (b + 1) with q | q
    · have h1 := ih (by omega)
      have h2 : 0 ≤ B ^ b := by
        have : 0 ≤ B ^ a := Int.pow_nonneg (by omega)
        omega
      rw [Int.pow_succ]
      have h3 : B ^ b * 1 ≤ B ^ b * B := Int.mul_le_mul_of_nonneg_left hB h2
      omega
    · have : a = b + 1 := by omega
      subst this; exact Int.le_refl _
theorem cI_bd {B : Int} {n c : Nat} {is : List Nat} {s : (Nat → Nat → Int64) × Int64} (hS : cS m v B n) (h : cI m v B n c is s) (hc : c ≤ n) : 0 < gD m v is ∧ gD m v is ≤ 60000 ∧ ∀ i j, i < n → (j < n → -540000 ≤ gL m v is i j ∧ gL m v is i j ≤ 540000) ∧ (j ≤ n → -900000000 ≤ gL m v is i j ∧ gL m v is i j ≤ 900000000) := by
  obtain ⟨hb, hl, -, -, -, -⟩ := h
  obtain ⟨s1, s2, s3, s4, s5⟩ := hS
  have hD : gD m v is ≤ 60000 := by
    have := pow_mono s2 (show is.length ≤ n by omega)
    have := hb.2.2.2
    omega
  have hD0 := hb.2.1
  refine ⟨hD0, hD, fun i j hi => ⟨fun hj => ?_, fun hj => ?_⟩⟩
  · have := gL_bd hb (i := i) (j := j) (by omega) (by omega) (s := 3) (t := 3) (by decide) (by decide) (by have := (s4 i hi).2; omega) (by have := (s4 j hj).2; omega)
    omega
  · rcases Nat.lt_or_ge j n with q | q
    · have := gL_bd hb (i := i) (j := j) (by omega) (by omega) (s := 3) (t := 3) (by decide) (by decide) (by have := (s4 i hi).2; omega) (by have := (s4 j q).2; omega)
      omega
    · have e : j = n := by omega
      subst e
      have := gL_bd hb (i := i) (j := j) (by omega) (by omega) (s := 3) (t := 5000) (by decide) (by decide) (by have := (s4 i hi).2; omega) (by omega)
      omega
/-- a column: either its diagonal is 0, and then the whole row and column are; or one more pivot -/
theorem cI_step {B : Int} {n c : Nat} {is : List Nat} {s : (Nat → Nat → Int64) × Int64} (hS : cS m v B n) (h : cI m v B n c is s) (hc : c < n) :
    (s.1 c c = 0 → (∀ j, j ≤ n → s.1 c j = 0) ∧ (∀ i, c ≤ i → i < n → s.1 i c = 0) ∧ cI m v B n (c + 1) is (cst n c s)) ∧ (s.1 c c ≠ 0 → cI m v B n (c + 1) (c :: is) (cst n c s)) := by
  obtain ⟨d0, d1, bd⟩ := cI_bd hS h (by omega)
  obtain ⟨hb, hl, hm, hs2, hT, hZ⟩ := h
  have hn : n ≤ 10 := hS.1
  have e0 := hT c c (Nat.le_refl _) hc (by omega)
  constructor
  · intro hz
    have g0 : gL m v is c c = 0 := by rw [← e0, hz]; rfl
    have r0 : ∀ j, j ≤ n → s.1 c j = 0 := fun j hj => by
      apply Int64.toInt_inj.mp
      rw [hT c j (Nat.le_refl _) hc hj, gL_row0 hb.1 (by omega) g0 (by omega)]; rfl
    refine ⟨r0, fun i h1 h2 => ?_, ?_⟩
    · apply Int64.toInt_inj.mp
      rw [hT i c h1 h2 (by omega), gL_sym hb.1 hb.2.1 (by omega) (by omega), gL_row0 hb.1 (by omega) g0 (by omega)]; rfl
    · have e : cst n c s = s := by unfold cst; rw [if_pos hz]
      rw [e]
      refine ⟨hb, by omega, fun t ht => by have := hm t ht; omega, hs2, fun i j h1 h2 h3 => hT i j (by omega) h2 h3, fun i j h1 h2 h3 => ?_⟩
      rcases Nat.lt_or_ge i c with q | q
      · exact hZ i j q h2 h3
      · have : i = c := by omega
        subst this; exact r0 j h3
  · intro hz
    have gp : gL m v is c c ≠ 0 := fun q => hz (by apply Int64.toInt_inj.mp; rw [e0, q]; rfl)
    have hb2 := gB_step hb (k := c) (by omega) gp ((hS.2.2.2.1 c hc).1) (by have := hS.2.1; omega)
    have hI2 : ∀ i j, c + 1 ≤ i → i < n → j ≤ n → (((s.1 c c * s.1 i j - s.1 i c * s.1 c j) / s.2).toInt) = gL m v (c :: is) i j := by
      intro i j h1 h2 h3
      have b1 := (bd c c hc).1 hc
      have b2 := (bd i j h2).2 h3
      have b3 := (bd i c h2).1 hc
      have b4 := (bd c j hc).2 h3
      have m1 := abs_mul b1 b2
      have m2 := abs_mul b3 b4
      have t1 := hT i j (by omega) h2 h3
      have t2 := hT i c (by omega) h2 (by omega)
      have t3 := hT c j (Nat.le_refl _) hc h3
      have st := gL_step (m := m) (v := v) hb.2.1 c i j
      have hl2 : (c :: is).length ≤ n := by simp; omega
      have d2 : gD m v (c :: is) ≤ 60000 := by
        have := pow_mono hS.2.1 hl2
        have := hb2.2.2.2
        have := hS.2.2.1
        omega
      have b5 : -900000000 ≤ gL m v (c :: is) i j ∧ gL m v (c :: is) i j ≤ 900000000 := by
        have d3 := hb2.2.1
        rcases Nat.lt_or_ge j n with q | q
        · have := gL_bd hb2 (i := i) (j := j) (by omega) (by omega) (s := 3) (t := 3) (by decide) (by decide) (by have := (hS.2.2.2.1 i h2).2; omega) (by have := (hS.2.2.2.1 j q).2; omega)
          omega
        · have e : j = n := by omega
          subst e
          have := gL_bd hb2 (i := i) (j := j) (by omega) (by omega) (s := 3) (t := 5000) (by decide) (by decide) (by have := (hS.2.2.2.1 i h2).2; omega) (by have := hS.2.2.2.2; omega)
          omega
      refine l_step (by rw [hs2]; omega) ?_ (by rw [e0, t1]; omega) (by rw [e0, t1]; omega) (by rw [t2, t3]; omega) (by rw [t2, t3]; omega) (by omega) (by omega)
      rw [hs2, e0, t1, t2, t3, st]
    have e : cst n c s = (fun i j => if i < n ∧ i ≠ c ∧ j ≤ n then (s.1 c c * s.1 i j - s.1 i c * s.1 c j) / s.2 else s.1 i j, s.1 c c) := by unfold cst; rw [if_neg hz]
    rw [e]
    refine ⟨hb2, by simp; omega, fun t ht => ?_, ?_, fun i j h1 h2 h3 => ?_, fun i j h1 h2 h3 => ?_⟩
    · rcases List.mem_cons.mp ht with q | q
      · omega
      · have := hm t q; omega
    · show (s.1 c c).toInt = _
      rw [gD_step]; exact e0
    · show (if i < n ∧ i ≠ c ∧ j ≤ n then (s.1 c c * s.1 i j - s.1 i c * s.1 c j) / s.2 else s.1 i j).toInt = _
      rw [if_pos ⟨h2, by omega, h3⟩]
      exact hI2 i j h1 h2 h3
    · have hne : i ≠ c := fun q => h2 (by rw [q]; simp)
      have h4 : i ∉ is := fun q => h2 (by simp [q])
      show (if i < n ∧ i ≠ c ∧ j ≤ n then (s.1 c c * s.1 i j - s.1 i c * s.1 c j) / s.2 else s.1 i j) = 0
      rw [if_pos ⟨by omega, hne, h3⟩, hZ i j (by omega) h4 h3, hZ i c (by omega) h4 (by omega)]
      have hs0 : s.2 ≠ 0 := fun q => by rw [q] at hs2; simp at hs2; omega
      simp
theorem csq_inv {B : Int} {n : Nat} {s : (Nat → Nat → Int64) × Int64} (hS : cS m v B n) (h0 : s.2 = 1) (hA : ∀ i j, i < n → j ≤ n → (s.1 i j).toInt = gA m v i j) : ∀ c, c ≤ n → ∃ is, cI m v B n c is (csq n s c) := by
  intro c
  induction c with
  | zero =>
    intro _
    refine ⟨[], gB_nil B, by simp, by simp, ?_, fun i j _ h2 h3 => ?_, fun i j h => by omega⟩
    · show s.2.toInt = _
      rw [h0, gD_nil]; rfl
    · have := hS.1
      rw [gL_nil i (by omega)]
      exact hA i j h2 h3
  | succ c ih =>
    intro hc
    obtain ⟨is, h⟩ := ih (by omega)
    have st := cI_step hS h (by omega)
    by_cases hz : (csq n s c).1 c c = 0
    · exact ⟨is, (st.1 hz).2.2⟩
    · exact ⟨c :: is, st.2 hz⟩
end EL2
