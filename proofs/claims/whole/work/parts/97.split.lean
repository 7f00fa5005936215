/-! lowest terms, and split on both sides -/
def eu : Nat → Int64 → Int64 → Int64
  | 0, x, _ => x
  | k + 1, x, y => if y = 0 then x else eu k y (x - x / y * y)
def Te : Nat → Int64 → Int64 → Prop
  | 0, _, y => y = 0
  | k + 1, x, y => y = 0 ∨ Te k y (x - x / y * y)
theorem rem_t {x y : Int64} (hy : y ≠ 0) : (x - x / y * y).toInt = x.toInt.tmod y.toInt := by
  have hy0 : y.toInt ≠ 0 := fun q => hy (Int64.toInt_inj.mp q)
  rw [Int64.toInt_sub, Int64.toInt_mul, Int64.toInt_div, Int.bmod_mul_bmod, Int.sub_bmod_bmod]
  have e : x.toInt - x.toInt.tdiv y.toInt * y.toInt = x.toInt.tmod y.toInt := by rw [Int.tmod_def, Int.mul_comm]
  rw [e]
  have h1 := Int.natAbs_tmod x.toInt y.toInt
  have h2 : x.toInt.natAbs % y.toInt.natAbs < y.toInt.natAbs := Nat.mod_lt _ (by omega)
  have h3 := Int64.le_toInt y
  have h4 := Int64.toInt_lt y
  exact bm64 (by omega) (by omega)
theorem half_mod {a b : Nat} (hb : 0 < b) (h : b < a) : 2 * (a % b) < a := by
  have h1 := Nat.div_add_mod a b
  have h2 := Nat.mod_lt a hb
  have h3 : 1 ≤ a / b := (Nat.one_le_div_iff hb).mpr (by omega)
  have h4 : b * 1 ≤ b * (a / b) := Nat.mul_le_mul_left b h3
  omega
theorem Te_of : ∀ (k : Nat) (x y : Int64), y.toInt.natAbs < 2 ^ k → Te (2 * k) x y := by
  intro k
  induction k with
  | zero =>
    intro x y h
    show y = 0
    apply Int64.toInt_inj.mp
    show y.toInt = 0
    have : (2 : Nat) ^ 0 = 1 := rfl
    omega
  | succ k ih =>
    intro x y h
    show y = 0 ∨ (x - x / y * y = 0 ∨ Te (2 * k) (x - x / y * y) (y - y / (x - x / y * y) * (x - x / y * y)))
    by_cases z : y = 0
    · exact Or.inl z
    · right
      by_cases w : x - x / y * y = 0
      · exact Or.inl w
      · right
        apply ih
        have hy0 : y.toInt ≠ 0 := fun q => z (Int64.toInt_inj.mp q)
        have hw0 : (x - x / y * y).toInt ≠ 0 := fun q => w (Int64.toInt_inj.mp q)
        rw [rem_t w, Int.natAbs_tmod]
        have h1 : (x - x / y * y).toInt.natAbs < y.toInt.natAbs := by
          rw [rem_t z, Int.natAbs_tmod]; exact Nat.mod_lt _ (by omega)
        have := half_mod (a := y.toInt.natAbs) (b := (x - x / y * y).toInt.natAbs) (by omega) h1
        rw [Nat.pow_succ] at h
        omega
theorem eu_ne : ∀ (k : Nat) (x y : Int64), Te k x y → (y ≠ 0 ∨ x ≠ 0) → eu k x y ≠ 0 := by
  intro k
  induction k with
  | zero => intro x y h1 h2; have h1 : y = 0 := h1; exact h2.elim (fun q => absurd h1 q) id
  | succ k ih =>
    intro x y h1 h2
    unfold eu
    by_cases z : y = 0
    · rw [if_pos z]; exact h2.elim (fun q => absurd z q) id
    · rw [if_neg z]
      exact ih _ _ (h1.elim (fun q => absurd q z) id) (Or.inr z)
def ab (a : Int64) : Int64 := if 0 < a then a else -a
def low (a b : Int64) (w : Int32) : Int64 := if w = 0 then a / eu 100 (ab a) b else b / eu 100 (ab a) b
section LOW
variable {σ : Sg} {M : Mem} {a b : Int64} {w : Int32}
theorem h_cdiv (kx : Int64 → Mem → Prop) (post : Int64 → Mem → Prop) : ∀ (k i : Nat) (x y : Int64), i + k = 100 → kx (eu k x y) M → q_Nf_sharedDivisor_L15 kx post (k + 1) x y (nI i) M := by
  intro k
  induction k with
  | zero =>
    intro i x y h hk
    unfold q_Nf_sharedDivisor_L15
    have : i = 100 := by omega
    subst this
    exact ⟨fun _ => hk, fun c => absurd (by decide) c⟩
  | succ k ih =>
    intro i x y h hk
    unfold q_Nf_sharedDivisor_L15
    rw [nI_1]
    unfold eu at hk
    refine ⟨fun c => absurd c (show ¬ nI 100 ≤ nI i from nI_ge (by omega) (by decide)), fun _ => ⟨fun z => ?_, fun z => ⟨z, ?_⟩⟩⟩
    · rw [if_pos z] at hk; exact hk
    · rw [if_neg z] at hk; exact ih (i + 1) _ _ (by omega) hk
theorem h_mdiv (kx : Int64 → Mem → Prop) (post : Int64 → Mem → Prop) : ∀ (k : Nat) (x y : Int64), Te k x y → kx (eu k x y) M → q_Mo_divisor_L28 kx post (k + 1) x y M := by
  intro k
  induction k with
  | zero =>
    intro x y h hk
    unfold q_Mo_divisor_L28
    exact ⟨fun _ => hk, fun z => absurd h z⟩
  | succ k ih =>
    intro x y h hk
    unfold q_Mo_divisor_L28
    unfold eu at hk
    refine ⟨fun z => ?_, fun z => ⟨z, ?_⟩⟩
    · rw [if_pos z] at hk; exact hk
    · rw [if_neg z] at hk; exact ih _ _ (h.elim (fun q => absurd q z) id) hk
theorem h_lowestTerms (hb : 0 < b.toInt) {post : Int64 → Mem → Prop} (hp : post (low a b w) M) : q_Nf_lowestTerms a b w M post := by
  have hb2 : (0 : Int64) < b := Int64.lt_iff_toInt_lt.mpr hb
  unfold q_Nf_lowestTerms q_Nf_sharedDivisor
  rw [if_pos hb2]
  refine ⟨101, h_cdiv _ _ 100 0 _ _ rfl ?_⟩
  unfold low ab at hp
  refine ⟨fun z => h_quotient ?_, fun z => h_quotient ?_⟩
  · rw [if_neg z] at hp; exact hp
  · rw [if_pos z] at hp; exact hp
theorem h_lowest (hb : 0 < b.toInt) (hb3 : b.toInt < 1000000000000) {post : Int64 → Mem → Prop} (hp : post (low a b w) M) : q_Mo_lowest a b w M post := by
  have hb2 : (0 : Int64) ≤ b := Int64.le_iff_toInt_le.mpr (by show (0 : Int) ≤ _; omega)
  have te : Te 100 (ab a) b := Te_of 50 _ _ (by have : (2 : Nat) ^ 50 = 1125899906842624 := by decide
                                                omega)
  have hb0 : b ≠ 0 := fun q => by rw [q] at hb; exact absurd hb (by decide)
  have ne := eu_ne 100 _ _ te (Or.inl hb0)
  have fin : ∀ M', M' = M → (fun (r2 : Int64) (M1 : Mem) => ((0 : Int64) ≤ b → (¬ w = 0 → ¬ r2 = 0 ∧ (post (b / r2) M1)) ∧ (w = 0 → ¬ r2 = 0 ∧ (post (a / r2) M1))) ∧ (¬ (0 : Int64) ≤ b → (¬ w = 0 → ¬ (-r2) = 0 ∧ (post (b / (-r2)) M1)) ∧ (w = 0 → ¬ (-r2) = 0 ∧ (post (a / (-r2)) M1)))) (eu 100 (ab a) b) M' := by
    rintro M' rfl
    unfold low at hp
    refine ⟨fun _ => ⟨fun z => ⟨ne, ?_⟩, fun z => ⟨ne, ?_⟩⟩, fun c => absurd hb2 c⟩
    · rw [if_neg z] at hp; exact hp
    · rw [if_pos z] at hp; exact hp
  unfold q_Mo_lowest q_Mo_divisor
  refine ⟨fun z => ⟨fun _ => ⟨101, ?_⟩, fun c => absurd hb2 c⟩, fun z => ⟨fun _ => ⟨101, ?_⟩, fun c => absurd hb2 c⟩⟩
  · have e : a = ab a := by
      unfold ab
      by_cases y : 0 < a
      · rw [if_pos y]
      · rw [if_neg y]
        have : a = 0 := by
          apply Int64.toInt_inj.mp
          rw [Int64.le_iff_toInt_le] at z
          rw [Int64.lt_iff_toInt_lt] at y
          have e0 : (0 : Int64).toInt = 0 := rfl
          omega
        rw [this]; rfl
    have h1 := h_mdiv (fun r2 M1 => ((0 : Int64) ≤ b → (¬ w = 0 → ¬ r2 = 0 ∧ (post (b / r2) M1)) ∧ (w = 0 → ¬ r2 = 0 ∧ (post (a / r2) M1))) ∧ (¬ (0 : Int64) ≤ b → (¬ w = 0 → ¬ (-r2) = 0 ∧ (post (b / (-r2)) M1)) ∧ (w = 0 → ¬ (-r2) = 0 ∧ (post (a / (-r2)) M1)))) (fun r2 M1 => ((0 : Int64) ≤ b → (¬ w = 0 → ¬ r2 = 0 ∧ (post (b / r2) M1)) ∧ (w = 0 → ¬ r2 = 0 ∧ (post (a / r2) M1))) ∧ (¬ (0 : Int64) ≤ b → (¬ w = 0 → ¬ (-r2) = 0 ∧ (post (b / (-r2)) M1)) ∧ (w = 0 → ¬ (-r2) = 0 ∧ (post (a / (-r2)) M1)))) 100 (ab a) b te (fin M rfl)
    rw [← e] at h1; exact h1
  · have e : -a = ab a := by
      unfold ab
      rw [if_neg (fun y => z ?_)]
      rw [Int64.le_iff_toInt_le]
      rw [Int64.lt_iff_toInt_lt] at y
      omega
    rw [e]
    exact h_mdiv _ _ 100 (ab a) b te (fin M rfl)
end LOW
/-- a form's slope and turn -/
def slS (σ : Sg) (f : Nat) : (Nat → Nat → Int64) × Int64 := csq (nP σ) (fun i j => lI (gA (nE σ) (slv σ f) i j), 1) (nP σ)
def tuS (σ : Sg) (f : Nat) : (Nat → Nat → Int64) × Int64 := csq (nF σ) (plT σ (fun e => (fN σ f e).toInt), 1) (nF σ)
def slA (σ : Sg) (f e : Nat) : Int64 := (slS σ f).1 (vE σ e) (nP σ) - (slS σ f).1 (vB σ e) (nP σ)
def tuA (σ : Sg) (f e : Nat) : Int64 := smJ (fun i => lI (sgn σ 2 i e) * (tuS σ f).1 i (nF σ)) (nF σ)
def spl (σ : Sg) (f : Nat) (p : Int32) (e : Nat) (w : Int32) : Int64 :=
  if p = 0 then low (slA σ f e) (slS σ f).2 w else if p = 1 then low (tuA σ f e) (tuS σ f).2 w
  else low ((fN σ f e).toInt64 * ((slS σ f).2 * (tuS σ f).2) - slA σ f e * (tuS σ f).2 - tuA σ f e * (slS σ f).2) ((slS σ f).2 * (tuS σ f).2) w
noncomputable def op_split (σ : Sg) (f p e w : Int32) : Int64 × Sg := cif (vp_in f 12 ∧ vp_in p 3 ∧ vp_in e (nE σ) ∧ vp_in w 2 ∧ fD σ (tn f) = 1) (cif (∀ k, k < 12 → i32le (fN σ (tn f) k) 1000) (spl σ (tn f) p (tn e) w, σ) (-5, σ)) (0, σ)
section SPL
variable {σ : Sg} {M M0 : Mem}
theorem spl_d (hW : WF σ) {f : Nat} (hf : ∀ k, k < 12 → i32le (fN σ f k) 1000) : (0 < (slS σ f).2.toInt ∧ (slS σ f).2.toInt ≤ 60000) ∧ (0 < (tuS σ f).2.toInt ∧ (tuS σ f).2.toInt ≤ 60000) := by
  have w3 := hW.1.2.2.1
  exact ⟨csq_d (cS_sl hW (fun e he => hf e (by omega))), csq_d (cS_pl hW (fun e he => hf e (by omega)))⟩
theorem spl_dd (hW : WF σ) {f : Nat} (hf : ∀ k, k < 12 → i32le (fN σ f k) 1000) : 0 < ((slS σ f).2 * (tuS σ f).2).toInt ∧ ((slS σ f).2 * (tuS σ f).2).toInt ≤ 3600000000 := by
  obtain ⟨⟨a1, a2⟩, ⟨b1, b2⟩⟩ := spl_d hW hf
  have h1 := Int.mul_pos a1 b1
  have h2 : (slS σ f).2.toInt * (tuS σ f).2.toInt ≤ 60000 * 60000 := (abs_mul (s := 60000) (t := 60000) ⟨by omega, a2⟩ ⟨by omega, b2⟩).2
  rw [l_mul rfl (by omega) (by omega)]
  omega
theorem h_Nf_split (hW : WF σ) (h : RC σ M) {f p e w : Int32} {post : Int64 → Mem → Prop} (K : ∀ M', RC (op_split σ f p e w).2 M' → Ag C56 C56 M M' → post (op_split σ f p e w).1 M') : q_Nf_split f p e w M post := by
  have w3 := hW.1.2.2.1
  unfold q_Nf_split
  have no : ¬ (vp_in f 12 ∧ vp_in p 3 ∧ vp_in e (nE σ) ∧ vp_in w 2 ∧ fD σ (tn f) = 1) → post 0 M := fun c => by
    have e : op_split σ f p e w = (0, σ) := cif_neg c _ _
    rw [e] at K; exact K M h Ag.rf
  refine h_formAt (fun i hi ei => ⟨(fun c => nomatch c), fun i3 c => ?_⟩) (fun c => ⟨fun _ => no (fun q => c q.1), fun i3 c => nomatch c⟩)
  cases c
  subst ei
  rw [tnI (by omega)] at no
  have hfr := h.2.2.2.2.1 i hi
  have hd := (hW.2.2.2.2.2.2.1 i hi).1
  have gt2 : 2 < p → nI 3 ≤ p := fun c => by
    have h1 := Int32.lt_iff_toInt_lt.mp c
    refine Int32.le_iff_toInt_le.mpr ?_
    have e2 : (2 : Int32).toInt = 2 := rfl
    have e3 : (nI 3).toInt = 3 := rfl
    omega
  refine ⟨hi, fun c => no (fun q => nvin_neg c q.2.1), fun c1 => ⟨fun c => no (fun q => nvin_le (n := 3) (by decide) (gt2 c) q.2.1), fun c2 => ?_⟩⟩
  have vp : vp_in p 3 := nle_vin (by decide) c1 (fun q => c2 (by
    have := Int32.le_iff_toInt_le.mp q
    refine Int32.lt_iff_toInt_lt.mpr ?_
    have e2 : (2 : Int32).toInt = 2 := rfl
    have e3 : (nI 3).toInt = 3 := rfl
    omega))
  refine h_Net_has hW h (d := 1) (by decide) (fun c => ⟨fun q => absurd q (by decide), fun _ => ?_⟩) (fun c => ⟨fun _ => no (fun q => c q.2.2.1), fun q => absurd rfl q⟩)
  have c' : vp_in e (nE σ) := c
  obtain ⟨j, hj, rfl⟩ := vp_in_of c' (by omega)
  refine ⟨fun c => no (fun q => nvin_neg c q.2.2.2.1), fun c3 => ⟨fun c4 => ?_, fun c4 => no (fun q => c4 ?_)⟩⟩
  · have vw : vp_in w 2 := nle_vin (by decide) c3 (fun q => by
      have h1 := Int32.le_iff_toInt_le.mp q
      have h2 := Int32.le_iff_toInt_le.mp c4
      have e2 : (1 : Int32).toInt = 1 := rfl
      have e3 : (nI 2).toInt = 2 := rfl
      omega)
    rw [hfr.1]
    refine ⟨fun c5 => ?_, fun c5 => no (fun q => c5 (by rw [q.2.2.2.2]; rfl))⟩
    have d1 : fD σ i = 1 := (nI_eq (a := fD σ i) (b := 1) (by omega) (by omega)).mp c5
    have all : vp_in (nI i) 12 ∧ vp_in p 3 ∧ vp_in (nI j) (nE σ) ∧ vp_in w 2 ∧ fD σ i = 1 := ⟨vp_in_nI hi (by decide), vp, c', vw, d1⟩
    refine h_fitsIn h hi 1000 (by decide) rfl (fun (fit : ∀ k, k < 12 → i32le (fN σ i k) 1000) => ⟨fun _ => ?_, fun q => absurd q (by decide)⟩) (fun (fit : ¬ ∀ k, k < 12 → i32le (fN σ i k) 1000) => ⟨fun q => absurd rfl q, fun _ => ?_⟩)
    · have e : op_split σ (nI i) p (nI j) w = (spl σ i p j w, σ) := by
        unfold op_split
        rw [tnI (by omega), tnI (by omega), cif_pos all, cif_pos fit]
      rw [e] at K
      obtain ⟨⟨a1, a2⟩, ⟨b1, b2⟩⟩ := spl_d hW fit
      refine ⟨fun p0 => ⟨fun p1 => ?_, fun p1 => ?_⟩, fun p0 => ?_⟩
      · unfold q_Nf_stillPart
        refine h_slopePart hW h hi hj (fun M1 r1 d1 => h_turnPart hW (r1.rc h) hi hj (fun M2 r2 d2 => ?_))
        have hc2 := r2.rc (r1.rc h)
        rw [clm (by omega), (hc2.2.2.2.2.1 i hi).2 j (by omega)]
        refine ⟨vp_in_nI (by omega) (by decide), fun v5 e5 => ?_⟩
        rw [d1, d2] at e5 ⊢
        refine h_lowestTerms (spl_dd hW fit).1 ?_
        have e6 : spl σ i p j w = low v5 ((slS σ i).2 * (tuS σ i).2) w := by
          unfold spl; rw [if_neg p0, if_neg p1, e5]; rfl
        rw [e6] at K
        exact K M2 hc2 (r1.c56.trans r2.c56)
      · refine h_turnPart hW h hi hj (fun M2 r2 d2 => ?_)
        rw [d2]
        refine h_lowestTerms b1 ?_
        have e6 : spl σ i p j w = low (tuA σ i j) (tuS σ i).2 w := by
          unfold spl; rw [if_neg p0, if_pos p1]
        rw [e6] at K
        exact K M2 (r2.rc h) r2.c56
      · refine h_slopePart hW h hi hj (fun M2 r2 d2 => ?_)
        rw [d2]
        refine h_lowestTerms a1 ?_
        have e6 : spl σ i p j w = low (slA σ i j) (slS σ i).2 w := by
          unfold spl; rw [if_pos p0]
        rw [e6] at K
        exact K M2 (r2.rc h) r2.c56
    · have e : op_split σ (nI i) p (nI j) w = (-5, σ) := by
        unfold op_split
        rw [tnI (by omega), tnI (by omega), cif_pos all, cif_neg fit]
      rw [e] at K; exact K M h Ag.rf
  · have h2 := (vin_i.mp q.2.2.2.1).2
    refine Int32.le_iff_toInt_le.mpr ?_
    have e2 : (1 : Int32).toInt = 1 := rfl
    omega
theorem h_splits (hW : WF σ) (h : RM σ M) {f : Nat} (hf : f < 12) (fit : ∀ k, k < 12 → i32le (fN σ f k) 1000) {post : Mem → Prop} (K : ∀ M', RY M M' → (∀ e, e < nE σ → M'.2 74 e = slA σ f e ∧ M'.2 75 e = tuA σ f e) → M'.2 56 24 = (slS σ f).2 → M'.2 56 25 = (tuS σ f).2 → post M') : q_Mo_splits (nI f) M post := by
  obtain ⟨⟨w1, w2, w3, w4⟩, we, -⟩ := id hW
  have c1 := cS_sl hW (f := f) (fun e he => fit e (by omega))
  have c2 := cS_pl hW (w := fun e => (fN σ f e).toInt) (fun e he => fit e (by omega))
  unfold q_Mo_splits
  refine h_empties (fun M1 x1 t1 => h_splits1 hW h hf (t1 (nP σ) (nP σ + 1) _ (by omega) (by omega) (fun _ _ => rfl)) x1 (fun M2 x2 r2 => ?_))
  rw [(x2.rm h).1.1]
  refine h_solves (by omega) (csq_ok c1) r2 x2 (fun M3 x3 s3 d3 M4 e4 => ?_)
  have y4 : RY M M4 := by rw [e4]; exact x3.y.trans (RY.j (Or.inl rfl))
  have d4 : M4.2 56 24 = (slS σ f).2 := by rw [e4, wJ_2, if_pos rfl, if_pos rfl]; exact d3
  have s4 : ∀ k, k < nP σ → M4.2 71 k = (slS σ f).1 k (nP σ) := fun k hk => by rw [e4, wJ_2, if_neg (by decide)]; exact s3 k hk
  refine pk_loop (fun m e (M' : Mem) => q_Mo_splits_L164 _ post m (nI f) (nI e) M') (fun e M' => RY M M' ∧ M'.2 56 = M4.2 56 ∧ M'.2 71 = M4.2 71 ∧ ∀ k, k < e → M'.2 74 k = slA σ f k) (nE σ) 0 M4 (Nat.zero_le _) ⟨y4, rfl, rfl, fun k hk => by omega⟩ ?_ ?_
  · rintro m M5 ⟨y5, e5, e71, s5⟩
    unfold q_Mo_splits_L164
    rw [(y5.rm h).1.2.1]
    refine ⟨fun _ => ?_, fun z => absurd (nI_le (Nat.le_refl _) (by omega)) z⟩
    have h5 := y5.rm h
    refine h_empties (fun M6 x6 t6 => h_splits2 hW h5 (t6 (nF σ) (nF σ + 1) _ (by omega) (by omega) (fun _ _ => rfl)) hf x6 (fun M7 x7 r7 => ?_))
    rw [(x7.rm h5).1.2.2]
    refine h_solves (by omega) (csq_ok c2) r7 x7 (fun M8 x8 s8 d8 M9 e9 => ?_)
    have y9 : RY M M9 := by rw [e9]; exact (y5.trans x8.y).trans (RY.j (Or.inl rfl))
    have d9 : M9.2 56 25 = (tuS σ f).2 := by rw [e9, wJ_2, if_pos rfl, if_pos rfl]; exact d8
    have d9' : M9.2 56 24 = (slS σ f).2 := by rw [e9, wJ_2, if_pos rfl, if_neg (by decide), x8.2 24 (by decide), e5]; exact d4
    have s9 : ∀ k, k < nF σ → M9.2 71 k = (tuS σ f).1 k (nF σ) := fun k hk => by rw [e9, wJ_2, if_neg (by decide)]; exact s8 k hk
    have s9' : ∀ k, k < nE σ → M9.2 74 k = slA σ f k := fun k hk => by rw [e9, wJ_2, if_neg (by decide), x8.1.2 74 (by decide)]; exact s5 k hk
    refine pk_loop (fun m e (M' : Mem) => q_Mo_splits_L354 _ post m (nI e) M') (fun e M' => RY M M' ∧ M'.2 56 = M9.2 56 ∧ M'.2 71 = M9.2 71 ∧ M'.2 74 = M9.2 74 ∧ ∀ k, k < e → M'.2 75 k = tuA σ f k) (nE σ) 0 M9 (Nat.zero_le _) ⟨y9, rfl, rfl, rfl, fun k hk => by omega⟩ ?_ ?_
    · rintro m2 M10 ⟨y10, e10, a10, b10, c10⟩
      unfold q_Mo_splits_L354
      rw [(y10.rm h).1.2.1]
      exact ⟨fun _ => K M10 y10 (fun e he => ⟨by rw [b10]; exact s9' e he, c10 e he⟩) (by rw [e10]; exact d9') (by rw [e10]; exact d9), fun z => absurd (nI_le (Nat.le_refl _) (by omega)) z⟩
    · rintro m2 e M10 he ⟨y10, e10, a10, b10, c10⟩ ih
      unfold q_Mo_splits_L354
      rw [(y10.rm h).1.2.1, clm (show e < 200 by omega)]
      refine ⟨fun z => absurd z (nI_ge he (by omega)), fun _ => ⟨vp_in_nI (by omega) (by decide), fun M11 e11 => ?_⟩⟩
      refine pk_loop (fun m k (M' : Mem) => q_Mo_splits_L371 _ post m (nI e) (nI k) M') (fun k M' => RY M M' ∧ M'.2 56 = M9.2 56 ∧ M'.2 71 = M9.2 71 ∧ M'.2 74 = M9.2 74 ∧ (∀ l, l < e → M'.2 75 l = tuA σ f l) ∧ M'.2 75 e = smJ (fun i => lI (sgn σ 2 i e) * (tuS σ f).1 i (nF σ)) k) (nF σ) 0 M11 (Nat.zero_le _) ⟨by rw [e11]; exact y10.trans (RY.j (Or.inr (by decide))), ?_, ?_, ?_, fun l hl => ?_, ?_⟩ ?_ ?_
      · rw [e11]; funext q; rw [wJ_2, if_neg (by decide), e10]
      · rw [e11]; funext q; rw [wJ_2, if_neg (by decide), a10]
      · rw [e11]; funext q; rw [wJ_2, if_neg (by decide), b10]
      · rw [e11, wJ_2, if_pos rfl, if_neg (by omega)]; exact c10 l hl
      · rw [e11, wJ_2, if_pos rfl, if_pos rfl]; rfl
      · rintro m3 M12 ⟨y12, e12, a12, b12, c12, t12⟩
        unfold q_Mo_splits_L371
        rw [(y12.rm h).1.2.2, nI_1 (a := e)]
        refine ⟨fun _ => ih M12 ⟨y12, e12, a12, b12, fun l hl => ?_⟩, fun z => absurd (nI_le (Nat.le_refl _) (by omega)) z⟩
        rcases Nat.lt_or_ge l e with z | z
        · exact c12 l z
        · have : l = e := by omega
          rw [this]; exact t12
      · rintro m3 k M12 hk ⟨y12, e12, a12, b12, c12, t12⟩ ih2
        have h12 := y12.rm h
        unfold q_Mo_splits_L371
        rw [h12.1.2.2, clm (show e < 200 by omega), clm (show k < 200 by omega), nI_1 (a := k)]
        refine ⟨fun z => absurd z (nI_ge hk (by omega)), fun _ => ⟨vp_in_nI (by omega) (by decide), h_sideOf hW h12 hk he ⟨vp_in_nI (by omega) (by decide), vp_in_nI (by omega) (by decide), fun M13 e13 => ih2 M13 ⟨by rw [e13]; exact y12.trans (RY.j (Or.inr (by decide))), ?_, ?_, ?_, fun l hl => ?_, ?_⟩⟩⟩⟩
        · rw [e13]; funext q; rw [wJ_2, if_neg (by decide), e12]
        · rw [e13]; funext q; rw [wJ_2, if_neg (by decide), a12]
        · rw [e13]; funext q; rw [wJ_2, if_neg (by decide), b12]
        · rw [e13, wJ_2, if_pos rfl, if_neg (by omega)]; exact c12 l hl
        · rw [e13, wJ_2, if_pos rfl, if_pos rfl, t12, a12, s9 k hk]; rfl
  · rintro m e M5 he ⟨y5, e5, e71, s5⟩ ih
    have h5 := y5.rm h
    have hb := h5.2.1 e he
    have hv := we e he
    unfold q_Mo_splits_L164
    rw [h5.1.2.1, clm (show e < 200 by omega), hb.1, hb.2, clm (show vB σ e < 200 by omega), clm (show vE σ e < 200 by omega), e71, s4 _ (by omega), s4 _ (by omega), nI_1 (a := e)]
    refine ⟨fun z => absurd z (nI_ge he (by omega)), fun _ => ⟨vp_in_nI (by omega) (by decide), vp_in_nI (by omega) (by decide), vp_in_nI (by omega) (by decide), vp_in_nI (by omega) (by decide), vp_in_nI (by omega) (by decide), fun M6 e6 => ih M6 ⟨by rw [e6]; exact y5.trans (RY.j (Or.inr (by decide))), ?_, ?_, fun k hk => ?_⟩⟩⟩
    · rw [e6]; funext q; rw [wJ_2, if_neg (by decide), e5]
    · rw [e6]; funext q; rw [wJ_2, if_neg (by decide), e71]
    · rw [e6, wJ_2, if_pos rfl]
      by_cases z : k = e
      · rw [if_pos z, z]; rfl
      · rw [if_neg z]; exact s5 k (by omega)
theorem h_Mo_split (hW : WF σ) (h : RM σ M) {f p e w : Int32} {post : Int64 → Mem → Prop} (K : ∀ M', RM (op_split σ f p e w).2 M' → Ag D56 D56 M M' → post (op_split σ f p e w).1 M') : q_Mo_split f p e w M post := by
  have w3 := hW.1.2.2.1
  unfold q_Mo_split
  have no : ¬ (vp_in f 12 ∧ vp_in p 3 ∧ vp_in e (nE σ) ∧ vp_in w 2 ∧ fD σ (tn f) = 1) → post 0 M := fun c => by
    have e : op_split σ f p e w = (0, σ) := cif_neg c _ _
    rw [e] at K; exact K M h Ag.rf
  refine h_isForm (fun i hi ei => ⟨fun q => absurd q (by decide), fun _ => ?_⟩) (fun c => ⟨fun _ => no (fun q => c q.1), fun q => absurd rfl q⟩)
  subst ei
  rw [tnI (by omega)] at no
  refine h_in32 3 rfl (fun vp => ⟨fun q => absurd q (by decide), fun _ => ?_⟩) (fun c => ⟨fun _ => no (fun q => c q.2.1), fun q => absurd rfl q⟩)
  rw [h.1.2.1]
  refine h_in32 (nE σ) (by rw [toI64]; exact nI_m1 (by omega)) (fun ve => ⟨fun q => absurd q (by decide), fun _ => ?_⟩) (fun c => ⟨fun _ => no (fun q => c q.2.2.1), fun q => absurd rfl q⟩)
  obtain ⟨j, hj, rfl⟩ := vp_in_of ve (by omega)
  refine h_in32 2 rfl (fun vw => ⟨fun q => absurd q (by decide), fun _ => ?_⟩) (fun c => ⟨fun _ => no (fun q => c q.2.2.2.1), fun q => absurd rfl q⟩)
  have hfr := h.2.2.2.2.1 i hi
  have hd := (hW.2.2.2.2.2.2.1 i hi)
  rw [clm (by omega), hfr.1]
  refine ⟨vp_in_nI (by omega) (by decide), fun c5 => ?_, fun c5 => no (fun q => c5 (by rw [q.2.2.2.2]; rfl))⟩
  have d1 : fD σ i = 1 := (nI_eq (a := fD σ i) (b := 1) (by omega) (by omega)).mp c5
  have all : vp_in (nI i) 12 ∧ vp_in p 3 ∧ vp_in (nI j) (nE σ) ∧ vp_in w 2 ∧ fD σ i = 1 := ⟨vp_in_nI hi (by decide), vp, ve, vw, d1⟩
  refine pk_loop (fun m x (M' : Mem) => q_Mo_split_L61 _ _ post m (nI i) p (nI j) w (nI x) M') (fun x M' => M' = M ∧ ∀ k, k < x → i32le (fN σ i k) 1000) (nE σ) 0 M (Nat.zero_le _) ⟨rfl, fun k hk => by omega⟩ ?_ ?_
  · rintro m M1 ⟨rfl, hk⟩
    unfold q_Mo_split_L61
    rw [h.1.2.1]
    refine ⟨fun _ => ?_, fun z => absurd (nI_le (Nat.le_refl _) (by omega)) z⟩
    have fit : ∀ k, k < 12 → i32le (fN σ i k) 1000 := fun k h12 => by
      rcases Nat.lt_or_ge k (nE σ) with z | z
      · exact hk k z
      · have := (hd.2 k h12).2 (by rw [d1]; exact z)
        rw [this]; exact ⟨by decide, by decide⟩
    have e : op_split σ (nI i) p (nI j) w = (spl σ i p j w, σ) := by
      unfold op_split
      rw [tnI (by omega), tnI (by omega), cif_pos all, cif_pos fit]
    rw [e] at K
    obtain ⟨⟨a1, a2⟩, ⟨b1, b2⟩⟩ := spl_d hW fit
    have dd := spl_dd hW fit
    refine h_splits hW h hi fit (fun M2 y2 s2 e24 e25 => ?_)
    have h2 := y2.rm h
    have hv : vp_in (nI j) 12 := vp_in_nI (by omega) (by decide)
    have s2j := s2 j hj
    rw [clm (show j < 200 by omega), s2j.1, s2j.2, e24, e25]
    have pc : p = 0 ∨ p = 1 ∨ p = 2 := by
      have h3 := vin_i.mp vp
      have : p.toInt = 0 ∨ p.toInt = 1 ∨ p.toInt = 2 := by omega
      rcases this with z | z | z
      · exact Or.inl (Int32.toInt_inj.mp z)
      · exact Or.inr (Or.inl (Int32.toInt_inj.mp z))
      · exact Or.inr (Or.inr (Int32.toInt_inj.mp z))
    refine ⟨fun c2 => ?_, fun c2 => ⟨fun p0 => ⟨hv, ?_⟩, fun p0 => ⟨hv, ?_⟩⟩⟩
    · have p2 : p = 2 := by
        rcases pc with z | z | z
        · rw [z] at c2; exact absurd c2 (by decide)
        · rw [z] at c2; exact absurd c2 (by decide)
        · exact z
      refine h_Mo_at h2 rfl hi (by omega) ⟨hv, hv, ?_⟩
      rw [s2j.1, s2j.2, e24, e25]
      refine h_lowest dd.1 (by omega) ?_
      have e6 : spl σ i p j w = low ((fN σ i j).toInt64 * ((slS σ i).2 * (tuS σ i).2) - slA σ i j * (tuS σ i).2 - tuA σ i j * (slS σ i).2) ((slS σ i).2 * (tuS σ i).2) w := by
        unfold spl; rw [p2, if_neg (by decide), if_neg (by decide)]
      rw [e6] at K
      exact K M2 h2 y2.d
    · have p1 : p = 1 := by
        rcases pc with z | z | z
        · exact absurd z p0
        · exact z
        · rw [z] at c2; exact absurd (by decide) c2
      refine h_lowest b1 (by omega) ?_
      have e6 : spl σ i p j w = low (tuA σ i j) (tuS σ i).2 w := by
        unfold spl; rw [if_neg p0, if_pos p1]
      rw [e6] at K
      exact K M2 h2 y2.d
    · refine h_lowest a1 (by omega) ?_
      have e6 : spl σ i p j w = low (slA σ i j) (slS σ i).2 w := by
        unfold spl; rw [if_pos p0]
      rw [e6] at K
      exact K M2 h2 y2.d
  · rintro m x M1 hx ⟨rfl, hk⟩ ih
    unfold q_Mo_split_L61
    rw [h.1.2.1, nI_1 (a := x)]
    refine ⟨fun z => absurd z (nI_ge hx (by omega)), fun _ => h_Mo_at h rfl hi (by omega) (h_in (-1000) 1000 rfl rfl (fun l1 l2 => ⟨fun _ => ih _ ⟨rfl, fun k hk2 => ?_⟩, fun q => absurd q (by decide)⟩) (fun c => ⟨fun q => absurd rfl q, fun _ => ?_⟩))⟩
    · rcases Nat.lt_or_ge k x with z | z
      · exact hk k z
      · have : k = x := by omega
        rw [this]
        rw [toI64] at l1 l2
        exact ⟨l1, l2⟩
    · have e : op_split σ (nI i) p (nI j) w = (-5, σ) := by
        unfold op_split
        rw [tnI (by omega), tnI (by omega), cif_pos all, cif_neg (fun q => c (by rw [toI64]; exact q x (by omega)))]
      rw [e] at K; exact K _ h Ag.rf
end SPL
