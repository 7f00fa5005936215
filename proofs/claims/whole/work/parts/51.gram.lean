/-! Gram tables: rows v i of m whole numbers, A i j their products; columns from 1000 on carry the rows themselves -/
def sm : Nat → (Nat → Int) → Int
  | 0, _ => 0
  | m + 1, f => sm m f + f m
theorem sm_lin (a b : Int) (f g : Nat → Int) : ∀ m, sm m (fun e => a * f e + b * g e) = a * sm m f + b * sm m g := by
  intro m
  induction m with
  | zero => simp [sm]
  | succ m ih => simp only [sm, ih]; grind
theorem sm_congr {f g : Nat → Int} : ∀ {m : Nat}, (∀ e, e < m → f e = g e) → sm m f = sm m g := by
  intro m
  induction m with
  | zero => intro _; rfl
  | succ m ih => intro h; simp only [sm]; rw [ih (fun e he => h e (by omega)), h m (by omega)]
theorem sm_zero {f : Nat → Int} {m : Nat} (h : ∀ e, e < m → f e = 0) : sm m f = 0 := by
  induction m with
  | zero => rfl
  | succ m ih => simp only [sm]; rw [ih (fun e he => h e (by omega)), h m (by omega)]; rfl
theorem sm_nonneg {f : Nat → Int} {m : Nat} (h : ∀ e, e < m → 0 ≤ f e) : 0 ≤ sm m f := by
  induction m with
  | zero => simp [sm]
  | succ m ih =>
    have := ih (fun e he => h e (by omega))
    have := h m (by omega)
    simp only [sm]; omega
theorem sm_le {f g : Nat → Int} {m : Nat} (h : ∀ e, e < m → f e ≤ g e) : sm m f ≤ sm m g := by
  induction m with
  | zero => simp [sm]
  | succ m ih =>
    have := ih (fun e he => h e (by omega))
    have := h m (by omega)
    simp only [sm]; omega
theorem sq_nonneg (x : Int) : 0 ≤ x * x := by
  rcases Int.le_total 0 x with h | h
  · exact Int.mul_nonneg h h
  · have := Int.mul_nonneg (show 0 ≤ -x by omega) (show 0 ≤ -x by omega)
    have e : -x * -x = x * x := by grind
    omega
theorem sm_sq_zero {f : Nat → Int} {m : Nat} (h : sm m (fun e => f e * f e) = 0) : ∀ e, e < m → f e = 0 := by
  induction m with
  | zero => intro e he; omega
  | succ m ih =>
    have h1 : 0 ≤ sm m (fun e => f e * f e) := sm_nonneg (fun e _ => sq_nonneg _)
    have h2 := sq_nonneg (f m)
    simp only [sm] at h
    intro e he
    rcases Nat.lt_or_ge e m with q | q
    · exact ih (by omega) e q
    · have e1 : e = m := by omega
      subst e1
      have h3 : f e * f e = 0 := by omega
      rcases Int.mul_eq_zero.mp h3 with z | z <;> exact z
/-- the square of a product is no more than the product of the squares -/
theorem sm_cs (x y : Nat → Int) (m : Nat) : sm m (fun e => x e * y e) * sm m (fun e => x e * y e) ≤ sm m (fun e => x e * x e) * sm m (fun e => y e * y e) := by
  generalize hZ : sm m (fun e => x e * y e) = Z
  generalize hX : sm m (fun e => x e * x e) = X
  generalize hY : sm m (fun e => y e * y e) = Y
  have hX0 : 0 ≤ X := by rw [← hX]; exact sm_nonneg (fun e _ => sq_nonneg _)
  have h1 : 0 ≤ sm m (fun e => (X * y e - Z * x e) * (X * y e - Z * x e)) := sm_nonneg (fun e _ => sq_nonneg _)
  have h2 : sm m (fun e => (X * y e - Z * x e) * (X * y e - Z * x e)) = X * (X * Y - Z * Z) := by
    have e1 : (fun e => (X * y e - Z * x e) * (X * y e - Z * x e)) = (fun e => 1 * (X * X * (y e * y e) + (-2 * X * Z) * (x e * y e)) + (Z * Z) * (x e * x e)) := by funext e; grind
    rw [e1, sm_lin, sm_lin, hX, hY, hZ]
    grind
  rcases Int.lt_or_le 0 X with h | h
  · rw [h2] at h1
    have h3 : 0 ≤ X * Y - Z * Z := by
      rcases Int.lt_or_le (X * Y - Z * Z) 0 with q | q
      · have := Int.mul_neg_of_pos_of_neg h q
        omega
      · exact q
    omega
  · have h0 : X = 0 := by omega
    have h3 := sm_sq_zero (f := x) (m := m) (by rw [hX]; exact h0)
    have h4 : Z = 0 := by rw [← hZ]; exact sm_zero (fun e he => by rw [h3 e he]; simp)
    rw [h0, h4]
    simp
section GRAM
variable (m : Nat) (v : Nat → Nat → Int)
def gA (i j : Nat) : Int := sm m (fun e => v i e * v j e)
def gR (i : Nat) : Nat → Int := fun c => if c < 1000 then gA m v i c else v i (c - 1000)
def gD (is : List Nat) : Int := dt (is.map (gR m v)) is
/-- what the table holds behind the pivots is, at i, j -/
def gL (is : List Nat) (i j : Nat) : Int := dt (gR m v i :: is.map (gR m v)) (j :: is)
def gU (is : List Nat) (i e : Nat) : Int := dt (gR m v i :: is.map (gR m v)) ((1000 + e) :: is)
variable {m v}
theorem gR_lin (i : Nat) {j : Nat} (hj : j < 1000) : gR m v i j = sm m (fun e => gR m v i (1000 + e) * v j e) := by
  simp only [gR, hj, if_true, gA]
  refine sm_congr (fun e _ => ?_)
  rw [if_neg (by omega), show 1000 + e - 1000 = e by omega]
theorem sp_lin {j : Nat} : ∀ {K : List (Nat → Int)} {x : Nat → Int}, (∀ r ∈ K, r j = sm m (fun e => r (1000 + e) * v j e)) → Sp K x → x j = sm m (fun e => x (1000 + e) * v j e) := by
  intro K
  induction K with
  | nil => intro x _ h; rw [h j, sm_zero (fun e _ => by rw [h]; simp)]
  | cons r K ih =>
    intro x hr h
    obtain ⟨a, ha⟩ := h
    have h1 := ih (fun q hq => hr q (by simp [hq])) ha
    have h2 := hr r (by simp)
    have h3 : sm m (fun e => x (1000 + e) * v j e) = 1 * sm m (fun e => (x (1000 + e) - a * r (1000 + e)) * v j e) + a * sm m (fun e => r (1000 + e) * v j e) := by
      rw [← sm_lin]; exact sm_congr (fun e _ => by grind)
    rw [h3, ← h2]
    have h4 : x j - a * r j = sm m (fun e => (x (1000 + e) - a * r (1000 + e)) * v j e) := h1
    rw [← h4]; grind
theorem sp_perp {u : Nat → Int} : ∀ {K : List (Nat → Int)} {x : Nat → Int}, (∀ r ∈ K, sm m (fun e => u e * r (1000 + e)) = 0) → Sp K x → sm m (fun e => u e * x (1000 + e)) = 0 := by
  intro K
  induction K with
  | nil => intro x _ h; exact sm_zero (fun e _ => by rw [h]; simp)
  | cons r K ih =>
    intro x hr h
    obtain ⟨a, ha⟩ := h
    have h1 := ih (fun q hq => hr q (by simp [hq])) ha
    have h2 := hr r (by simp)
    have h3 : sm m (fun e => u e * x (1000 + e)) = 1 * sm m (fun e => u e * (x (1000 + e) - a * r (1000 + e))) + a * sm m (fun e => u e * r (1000 + e)) := by
      rw [← sm_lin]; exact sm_congr (fun e _ => by grind)
    rw [h3, h2]
    have h4 : sm m (fun e => u e * (x (1000 + e) - a * r (1000 + e))) = 0 := h1
    rw [h4]; simp
theorem gL_u {is : List Nat} (i : Nat) {j : Nat} (hj : j < 1000) : gL m v is i j = sm m (fun e => gU m v is i e * v j e) := by
  have h := al_span (is.map (gR m v)) is (gR m v i)
  have h1 := sp_lin (m := m) (v := v) (j := j) (fun r hr => by
    obtain ⟨t, -, rfl⟩ := List.mem_map.mp hr
    exact gR_lin t hj) h
  have h2 := gR_lin (m := m) (v := v) i hj
  have h3 : sm m (fun e => (dt (is.map (gR m v)) is * gR m v i (1000 + e) - dt (gR m v i :: is.map (gR m v)) ((1000 + e) :: is)) * v j e) = gD m v is * sm m (fun e => gR m v i (1000 + e) * v j e) + (-1) * sm m (fun e => gU m v is i e * v j e) := by
    rw [← sm_lin]; exact sm_congr (fun e _ => by simp only [gD, gU]; grind)
  rw [h3, ← h2] at h1
  simp only [gL, gD] at h1 ⊢
  omega
theorem gL_in {is : List Nat} {i j : Nat} (h : j ∈ is) : gL m v is i j = 0 := al_in h
theorem gL_mem {is : List Nat} {i j : Nat} (h : i ∈ is) : gL m v is i j = 0 := al_mem (List.mem_map.mpr ⟨i, h, rfl⟩)
theorem gU_dot {is : List Nat} (hs : ∀ t ∈ is, t < 1000) (i : Nat) {j : Nat} (hj : j < 1000) : sm m (fun e => gU m v is i e * gU m v is j e) = gD m v is * gL m v is i j := by
  have h := al_span (is.map (gR m v)) is (gR m v j)
  have h1 := sp_perp (m := m) (u := gU m v is i) (fun r hr => by
    obtain ⟨t, ht, rfl⟩ := List.mem_map.mp hr
    have h2 := gL_u (m := m) (v := v) (is := is) i (hs t ht)
    rw [gL_in ht] at h2
    rw [h2]
    exact sm_congr (fun e _ => by simp only [gR]; rw [if_neg (by omega), show 1000 + e - 1000 = e by omega])) h
  have h3 : sm m (fun e => gU m v is i e * (dt (is.map (gR m v)) is * gR m v j (1000 + e) - dt (gR m v j :: is.map (gR m v)) ((1000 + e) :: is))) = gD m v is * sm m (fun e => gU m v is i e * v j e) + (-1) * sm m (fun e => gU m v is i e * gU m v is j e) := by
    rw [← sm_lin]
    refine sm_congr (fun e _ => ?_)
    have : gR m v j (1000 + e) = v j e := by simp only [gR]; rw [if_neg (by omega), show 1000 + e - 1000 = e by omega]
    rw [this]
    simp only [gD, gU]; grind
  rw [h3, ← gL_u i hj] at h1
  omega
theorem gL_sym {is : List Nat} (hs : ∀ t ∈ is, t < 1000) (hd : 0 < gD m v is) {i j : Nat} (hi : i < 1000) (hj : j < 1000) : gL m v is i j = gL m v is j i := by
  have h1 := gU_dot (m := m) (v := v) hs i hj
  have h2 := gU_dot (m := m) (v := v) hs j hi
  have h3 : sm m (fun e => gU m v is i e * gU m v is j e) = sm m (fun e => gU m v is j e * gU m v is i e) := sm_congr (fun e _ => by grind)
  rw [h3, h2] at h1
  exact (Int.eq_of_mul_eq_mul_left (by omega) h1).symm
theorem gL_pos {is : List Nat} (hs : ∀ t ∈ is, t < 1000) (hd : 0 < gD m v is) {i : Nat} (hi : i < 1000) : 0 ≤ gL m v is i i := by
  have h1 := gU_dot (m := m) (v := v) hs i hi
  have h2 : 0 ≤ sm m (fun e => gU m v is i e * gU m v is i e) := sm_nonneg (fun e _ => sq_nonneg _)
  rw [h1] at h2
  rcases Int.lt_or_le (gL m v is i i) 0 with q | q
  · have := Int.mul_neg_of_pos_of_neg hd q
    omega
  · exact q
theorem gL_row0 {is : List Nat} (hs : ∀ t ∈ is, t < 1000) {i : Nat} (hi : i < 1000) (h : gL m v is i i = 0) {j : Nat} (hj : j < 1000) : gL m v is i j = 0 := by
  have h1 := gU_dot (m := m) (v := v) hs i hi
  rw [h] at h1
  have h2 := sm_sq_zero (f := gU m v is i) (m := m) (by rw [h1]; simp)
  rw [gL_u i hj]
  exact sm_zero (fun e he => by rw [h2 e he]; simp)
theorem gL_cs {is : List Nat} (hs : ∀ t ∈ is, t < 1000) (hd : 0 < gD m v is) {i j : Nat} (hi : i < 1000) (hj : j < 1000) : gL m v is i j * gL m v is i j ≤ gL m v is i i * gL m v is j j := by
  have h := sm_cs (gU m v is i) (gU m v is j) m
  rw [gU_dot hs i hj, gU_dot hs i hi, gU_dot hs j hj] at h
  generalize gD m v is = D at h hd
  generalize gL m v is i j = a at h ⊢
  generalize gL m v is i i = b at h ⊢
  generalize gL m v is j j = c at h ⊢
  have e1 : D * a * (D * a) = D * D * (a * a) := by grind
  have e2 : D * b * (D * c) = D * D * (b * c) := by grind
  rw [e1, e2] at h
  exact Int.le_of_mul_le_mul_left h (Int.mul_pos hd hd)
theorem gL_step {is : List Nat} (hd : 0 < gD m v is) (k i j : Nat) : gD m v is * gL m v (k :: is) i j = gL m v is k k * gL m v is i j - gL m v is i k * gL m v is k j := by
  have h := bareiss (K := is.map (gR m v)) (C := is) (by unfold gD at hd; omega) (gR m v i) (gR m v k) j k
  exact h
theorem gD_step (is : List Nat) (k : Nat) : gD m v (k :: is) = gL m v is k k := rfl
theorem gL_nil (i : Nat) {j : Nat} (hj : j < 1000) : gL m v [] i j = gA m v i j := by
  show dt [gR m v i] [j] = _
  rw [dt_cons, wd_cons]
  show gR m v i j * dt [] [] - wd _ _ [] = _
  simp [dt, wd_nil, gR, hj]
theorem gD_nil : gD m v [] = 1 := rfl
/-- the bounds that go along: G is d -/
def gB (B : Int) (is : List Nat) : Prop := (∀ t ∈ is, t < 1000) ∧ 0 < gD m v is ∧ (∀ i, i < 1000 → gL m v is i i ≤ gD m v is * gA m v i i) ∧ gD m v is ≤ B ^ is.length
theorem gB_nil (B : Int) : gB (m := m) (v := v) B [] := ⟨by simp, by rw [gD_nil]; decide, fun i hi => by rw [gL_nil i hi, gD_nil]; omega, by rw [gD_nil]; simp⟩
theorem gB_step {B : Int} {is : List Nat} (h : gB (m := m) (v := v) B is) {k : Nat} (hk : k < 1000) (hp : gL m v is k k ≠ 0) (hB : gA m v k k ≤ B) (hB0 : 0 ≤ B) : gB (m := m) (v := v) B (k :: is) := by
  obtain ⟨h1, h2, h3, h4⟩ := h
  have hp0 : 0 < gL m v is k k := by have := gL_pos (m := m) (v := v) h1 h2 hk; omega
  refine ⟨fun t ht => ?_, by rw [gD_step]; exact hp0, fun i hi => ?_, ?_⟩
  · rcases List.mem_cons.mp ht with e | e
    · rw [e]; exact hk
    · exact h1 t e
  · have e := gL_step (m := m) (v := v) h2 k i i
    rw [gL_sym h1 h2 hi hk] at e
    have sq := sq_nonneg (gL m v is k i)
    have b1 : gL m v is k k * gL m v is i i ≤ gL m v is k k * (gD m v is * gA m v i i) := Int.mul_le_mul_of_nonneg_left (h3 i hi) (by omega)
    have b2 : gD m v is * gL m v (k :: is) i i ≤ gD m v is * (gL m v is k k * gA m v i i) := by
      have : gL m v is k k * (gD m v is * gA m v i i) = gD m v is * (gL m v is k k * gA m v i i) := by grind
      omega
    rw [gD_step]
    exact Int.le_of_mul_le_mul_left b2 h2
  · rw [gD_step, List.length_cons, Int.pow_succ]
    have b1 := h3 k hk
    have b2 : gD m v is * gA m v k k ≤ gD m v is * B := Int.mul_le_mul_of_nonneg_left hB (by omega)
    have b3 : gD m v is * B ≤ B ^ is.length * B := Int.mul_le_mul_of_nonneg_right h4 hB0
    omega
end GRAM
