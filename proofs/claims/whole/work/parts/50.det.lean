/-! determinants, by rows that are put in front one by one: dt (x :: K) (j :: C) is the minor of the rows x, K and the columns j, C -/
def wd (v : Nat → Int) : (List Nat → Int) → List Nat → Int
  | _, [] => 0
  | ω, c :: cs => v c * ω cs - wd v (fun t => ω (c :: t)) cs
def dt : List (Nat → Int) → List Nat → Int
  | [], [] => 1
  | [], _ :: _ => 0
  | r :: rs, cs => wd r (dt rs) cs
theorem wd_nil (v : Nat → Int) (ω : List Nat → Int) : wd v ω [] = 0 := rfl
theorem wd_cons (v : Nat → Int) (ω : List Nat → Int) (c : Nat) (cs : List Nat) : wd v ω (c :: cs) = v c * ω cs - wd v (fun t => ω (c :: t)) cs := rfl
theorem wd_lin_v (a b : Int) (v w : Nat → Int) : ∀ (cs : List Nat) (ω : List Nat → Int), wd (fun c => a * v c + b * w c) ω cs = a * wd v ω cs + b * wd w ω cs := by
  intro cs
  induction cs with
  | nil => intro ω; simp [wd_nil]
  | cons c cs ih => intro ω; simp only [wd_cons, ih]; grind
theorem wd_lin_o (a b : Int) (v : Nat → Int) : ∀ (cs : List Nat) (ω η : List Nat → Int), wd v (fun t => a * ω t + b * η t) cs = a * wd v ω cs + b * wd v η cs := by
  intro cs
  induction cs with
  | nil => intro ω η; simp [wd_nil]
  | cons c cs ih => intro ω η; simp only [wd_cons, ih]; grind
theorem wd_zero_v {v : Nat → Int} : ∀ (cs : List Nat) (ω : List Nat → Int), (∀ c ∈ cs, v c = 0) → wd v ω cs = 0 := by
  intro cs
  induction cs with
  | nil => intro ω _; rfl
  | cons c cs ih =>
    intro ω h
    rw [wd_cons, h c (by simp), ih _ (fun q hq => h q (by simp [hq]))]
    simp
theorem wd_zero_o {v : Nat → Int} : ∀ (cs : List Nat) (ω : List Nat → Int), (∀ t, ω t = 0) → wd v ω cs = 0 := by
  intro cs
  induction cs with
  | nil => intro ω _; rfl
  | cons c cs ih =>
    intro ω h
    rw [wd_cons, h, ih _ (fun q => h _)]
    simp
theorem wd_anti (v w : Nat → Int) : ∀ (cs : List Nat) (ω : List Nat → Int), wd v (wd w ω) cs = - wd w (wd v ω) cs := by
  intro cs
  induction cs with
  | nil => intro ω; rfl
  | cons c cs ih =>
    intro ω
    rw [wd_cons, wd_cons]
    have e1 : (fun t => wd w ω (c :: t)) = (fun t => w c * ω t + (-1) * wd w (fun t => ω (c :: t)) t) := by
      funext t; rw [wd_cons]; grind
    have e2 : (fun t => wd v ω (c :: t)) = (fun t => v c * ω t + (-1) * wd v (fun t => ω (c :: t)) t) := by
      funext t; rw [wd_cons]; grind
    rw [e1, e2, wd_lin_o, wd_lin_o]
    have h : wd v (fun t => wd w (fun t => ω (c :: t)) t) cs = - wd w (fun t => wd v (fun t => ω (c :: t)) t) cs := ih _
    rw [h]
    grind
theorem dt_cons (r : Nat → Int) (rs : List (Nat → Int)) (cs : List Nat) : dt (r :: rs) cs = wd r (dt rs) cs := by cases cs <;> rfl
theorem dt_cons_fun (r : Nat → Int) (rs : List (Nat → Int)) : dt (r :: rs) = wd r (dt rs) := funext (dt_cons r rs)
theorem dt_lin (a b : Int) (x y : Nat → Int) (K : List (Nat → Int)) (cs : List Nat) : dt ((fun c => a * x c + b * y c) :: K) cs = a * dt (x :: K) cs + b * dt (y :: K) cs := by
  rw [dt_cons, dt_cons, dt_cons, wd_lin_v]
theorem dt_swap (x y : Nat → Int) (K : List (Nat → Int)) (cs : List Nat) : dt (x :: y :: K) cs = - dt (y :: x :: K) cs := by
  rw [dt_cons, dt_cons, dt_cons_fun y, dt_cons_fun x, wd_anti]
theorem dt_zero {x : Nat → Int} {K : List (Nat → Int)} {cs : List Nat} (h : ∀ c ∈ cs, x c = 0) : dt (x :: K) cs = 0 := by
  rw [dt_cons, wd_zero_v _ _ h]
theorem dt_mem {x : Nat → Int} : ∀ (K : List (Nat → Int)) (cs : List Nat), x ∈ K → dt (x :: K) cs = 0 := by
  intro K
  induction K with
  | nil => intro cs h; simp at h
  | cons y K ih =>
    intro cs h
    rcases List.mem_cons.mp h with e | e
    · subst e
      have := dt_swap x x K cs
      omega
    · rw [dt_swap, dt_cons, wd_zero_o _ _ (fun t => ih t e)]
      rfl
/-- x is a sum of multiples of the rows K -/
def Sp : List (Nat → Int) → (Nat → Int) → Prop
  | [], x => ∀ c, x c = 0
  | r :: rs, x => ∃ a : Int, Sp rs (fun c => x c - a * r c)
theorem Sp.congr {K : List (Nat → Int)} {x y : Nat → Int} (h : Sp K x) (e : ∀ c, x c = y c) : Sp K y := by
  have : x = y := funext e
  rw [← this]; exact h
theorem Sp.zero : ∀ (K : List (Nat → Int)), Sp K (fun _ => 0)
  | [] => fun _ => rfl
  | r :: rs => ⟨0, (Sp.zero rs).congr (fun c => by simp)⟩
theorem Sp.lin (a b : Int) : ∀ {K : List (Nat → Int)} {x y : Nat → Int}, Sp K x → Sp K y → Sp K (fun c => a * x c + b * y c) := by
  intro K
  induction K with
  | nil => intro x y hx hy c; simp [hx c, hy c]
  | cons r K ih =>
    intro x y hx hy
    obtain ⟨p, hp⟩ := hx
    obtain ⟨q, hq⟩ := hy
    exact ⟨a * p + b * q, (ih hp hq).congr (fun c => by grind)⟩
theorem Sp.mem : ∀ {K : List (Nat → Int)} {x : Nat → Int}, x ∈ K → Sp K x := by
  intro K
  induction K with
  | nil => intro x h; simp at h
  | cons r K ih =>
    intro x h
    rcases List.mem_cons.mp h with e | e
    · subst e; exact ⟨1, (Sp.zero K).congr (fun c => by grind)⟩
    · exact ⟨0, (ih e).congr (fun c => by grind)⟩
theorem Sp.front {K : List (Nat → Int)} {x r : Nat → Int} (h : Sp K x) : Sp (r :: K) x := ⟨0, h.congr (fun c => by grind)⟩
theorem dt_span0 {K0 : List (Nat → Int)} : ∀ {K : List (Nat → Int)} {x : Nat → Int} (cs : List Nat), (∀ r ∈ K, r ∈ K0) → Sp K x → dt (x :: K0) cs = 0 := by
  intro K
  induction K with
  | nil => intro x cs _ h; exact dt_zero (fun c _ => h c)
  | cons r K ih =>
    intro x cs hm h
    obtain ⟨a, ha⟩ := h
    have h1 := ih cs (fun q hq => hm q (by simp [hq])) ha
    have h2 := dt_mem K0 cs (hm r (by simp))
    have e : x = (fun c => 1 * (x c - a * r c) + a * r c) := by funext c; grind
    rw [e, dt_lin, h1, h2]
    simp
theorem dt_span {K : List (Nat → Int)} {x : Nat → Int} (cs : List Nat) (h : Sp K x) : dt (x :: K) cs = 0 := dt_span0 cs (fun _ h => h) h
theorem dt_shift {K : List (Nat → Int)} {x y : Nat → Int} (cs : List Nat) (h : Sp K (fun c => x c - y c)) : dt (x :: K) cs = dt (y :: K) cs := by
  have e : x = (fun c => 1 * (x c - y c) + 1 * y c) := by funext c; grind
  rw [e, dt_lin, dt_span cs h]
  grind
/-! columns -/
def Alt (ω : List Nat → Int) : Prop := ∀ (l : List Nat) (a b : Nat) (m : List Nat), ω (l ++ a :: b :: m) = - ω (l ++ b :: a :: m)
theorem Alt.cons {ω : List Nat → Int} (h : Alt ω) (c : Nat) : Alt (fun t => ω (c :: t)) := fun l a b m => h (c :: l) a b m
theorem wd_alt (v : Nat → Int) : ∀ (l : List Nat) (ω : List Nat → Int), Alt ω → ∀ (a b : Nat) (m : List Nat), wd v ω (l ++ a :: b :: m) = - wd v ω (l ++ b :: a :: m) := by
  intro l
  induction l with
  | nil =>
    intro ω h a b m
    simp only [List.nil_append, wd_cons]
    have e : (fun t => ω (a :: b :: t)) = (fun t => (-1) * ω (b :: a :: t) + 0 * ω t) := by
      funext t
      have := h [] a b t
      simp only [List.nil_append] at this
      rw [this]; grind
    rw [e, wd_lin_o]
    grind
  | cons c l ih =>
    intro ω h a b m
    simp only [List.cons_append, wd_cons]
    rw [ih _ (h.cons c) a b m, h l a b m]
    grind
theorem dt_alt : ∀ (K : List (Nat → Int)), Alt (dt K) := by
  intro K
  induction K with
  | nil =>
    intro l a b m
    cases l <;> simp [dt]
  | cons r K ih =>
    intro l a b m
    rw [dt_cons, dt_cons, wd_alt r l _ ih a b m]
theorem alt_dup {ω : List Nat → Int} (h : Alt ω) (a : Nat) : ∀ (l m : List Nat), ω (a :: (l ++ a :: m)) = 0 := by
  intro l
  induction l generalizing ω with
  | nil =>
    intro m
    have := h [] a a m
    simp only [List.nil_append] at this ⊢
    omega
  | cons c l ih =>
    intro m
    have h1 := h [] a c (l ++ a :: m)
    simp only [List.nil_append] at h1
    have h2 := ih (h.cons c) m
    simp only [List.cons_append]
    rw [h1, h2]; rfl
theorem dt_dup {K : List (Nat → Int)} {a : Nat} {C : List Nat} (h : a ∈ C) : dt K (a :: C) = 0 := by
  obtain ⟨l, m, rfl⟩ := List.append_of_mem h
  exact alt_dup (dt_alt K) a l m
theorem sp_wd {K : List (Nat → Int)} (r : Nat → Int) : ∀ (cs : List Nat) (F : Nat → List Nat → Int), (∀ t, Sp K (fun j => F j t)) → Sp K (fun j => wd r (F j) cs) := by
  intro cs
  induction cs with
  | nil => intro F _; exact Sp.zero K
  | cons c cs ih =>
    intro F h
    have h1 := ih (fun j t => F j (c :: t)) (fun t => h (c :: t))
    exact (Sp.lin (r c) (-1) (h cs) h1).congr (fun j => by rw [wd_cons]; grind)
theorem sp_col : ∀ (K : List (Nat → Int)) (cs : List Nat), Sp K (fun j => dt K (j :: cs)) := by
  intro K
  induction K with
  | nil => intro cs j; rfl
  | cons r K ih =>
    intro cs
    refine ⟨dt K cs, ?_⟩
    have h1 := sp_wd r cs (fun j t => dt K (j :: t)) (fun t => ih t)
    exact (Sp.lin (-1) 0 h1 h1).congr (fun j => by
      show _ = dt (r :: K) (j :: cs) - _
      rw [dt_cons, wd_cons]; grind)
theorem al_span (K : List (Nat → Int)) (C : List Nat) (x : Nat → Int) : Sp K (fun j => dt K C * x j - dt (x :: K) (j :: C)) := by
  have h1 := sp_wd (K := K) x C (fun j t => dt K (j :: t)) (fun t => sp_col K t)
  exact h1.congr (fun j => by rw [dt_cons, wd_cons]; grind)
theorem al_in {K : List (Nat → Int)} {C : List Nat} {x : Nat → Int} {j : Nat} (h : j ∈ C) : dt (x :: K) (j :: C) = 0 := dt_dup h
theorem al_mem {K : List (Nat → Int)} {C : List Nat} {x : Nat → Int} {j : Nat} (h : x ∈ K) : dt (x :: K) (j :: C) = 0 := dt_mem K _ h
theorem al_zero {K : List (Nat → Int)} {C : List Nat} {x : Nat → Int} {j : Nat} (h : ∀ c ∈ C, x c = 0) : dt (x :: K) (j :: C) = x j * dt K C := by
  rw [dt_cons, wd_cons, wd_zero_v _ _ h]; grind
/-- one step of the elimination without fractions: what is divided by d = dt K C leaves no rest -/
theorem bareiss {K : List (Nat → Int)} {C : List Nat} (hd : dt K C ≠ 0) (x y : Nat → Int) (j c : Nat) :
    dt K C * dt (x :: y :: K) (j :: c :: C) = dt (y :: K) (c :: C) * dt (x :: K) (j :: C) - dt (x :: K) (c :: C) * dt (y :: K) (j :: C) := by
  have hx := al_span K C x
  have hy := al_span K C y
  generalize hX : (fun j => dt (x :: K) (j :: C)) = X at hx
  generalize hY : (fun j => dt (y :: K) (j :: C)) = Y at hy
  have eX : ∀ j, dt (x :: K) (j :: C) = X j := fun j => congrFun hX j
  have eY : ∀ j, dt (y :: K) (j :: C) = Y j := fun j => congrFun hY j
  have zX : ∀ q ∈ C, X q = 0 := fun q hq => by rw [← eX]; exact al_in hq
  have zY : ∀ q ∈ C, Y q = 0 := fun q hq => by rw [← eY]; exact al_in hq
  simp only [eX, eY] at hx hy ⊢
  generalize hD : dt K C = D at *
  have s1 : ∀ cs, D * (D * dt (x :: y :: K) cs) = dt (X :: Y :: K) cs := by
    intro cs
    have a1 : dt ((fun q => D * x q + 0 * x q) :: y :: K) cs = D * dt (x :: y :: K) cs := by rw [dt_lin]; grind
    have a2 : dt ((fun q => D * x q + 0 * x q) :: y :: K) cs = dt (X :: y :: K) cs := dt_shift cs (hx.front.congr (fun q => by grind))
    have a3 : dt ((fun q => D * y q + 0 * y q) :: X :: K) cs = D * dt (y :: X :: K) cs := by rw [dt_lin]; grind
    have a4 : dt ((fun q => D * y q + 0 * y q) :: X :: K) cs = dt (Y :: X :: K) cs := dt_shift cs (hy.front.congr (fun q => by grind))
    rw [← a1, a2, dt_swap X y, dt_swap X Y, ← a4, a3]
    grind
  have s2 : dt (X :: Y :: K) (j :: c :: C) = (X j * Y c - X c * Y j) * D := by
    rw [dt_cons, wd_cons, wd_cons, wd_zero_v (v := X) C _ zX, al_zero zY, al_zero zY, hD]
    grind
  have s3 := s1 (j :: c :: C)
  rw [s2] at s3
  have s4 : D * (D * dt (x :: y :: K) (j :: c :: C)) = D * (Y c * X j - X c * Y j) := by rw [s3]; grind
  exact Int.eq_of_mul_eq_mul_left hd s4
