/-! the class's calls: face, corner, net, sum, count, raise, wave -/
def fE (B E : Nat → Nat) (i j : Nat) : Nat → Option Nat
  | 0 => none
  | n + 1 => if B n = i ∧ E n = j then some n else fE B E i j n
theorem fE_none {B E : Nat → Nat} {i j : Nat} : ∀ {n : Nat}, (∀ k, k < n → ¬ (B k = i ∧ E k = j)) → fE B E i j n = none := by
  intro n
  induction n with
  | zero => intro _; rfl
  | succ n ih => intro h; unfold fE; rw [if_neg (h n (by omega))]; exact ih (fun k hk => h k (by omega))
theorem fE_some {B E : Nat → Nat} {i j k : Nat} : ∀ {n : Nat}, (∀ a b, a < n → b < n → B a = B b → E a = E b → a = b) → k < n → B k = i → E k = j → fE B E i j n = some k := by
  intro n
  induction n with
  | zero => intro _ h; omega
  | succ n ih =>
    intro hu hk h1 h2
    unfold fE
    by_cases q : B n = i ∧ E n = j
    · rw [if_pos q, hu n k (by omega) hk (by rw [q.1, h1]) (by rw [q.2, h2])]
    · rw [if_neg q]
      have : k ≠ n := fun e => q (by subst e; exact ⟨h1, h2⟩)
      exact ih (fun a b ha hb => hu a b (by omega) (by omega)) (by omega) h1 h2
noncomputable def op_face (σ : Sg) (a b c : Int32) : Int32 × Sg := cif (vp_in a (nP σ) ∧ vp_in b (nP σ) ∧ vp_in c (nP σ) ∧ a < b ∧ b < c)
  (match fE (vB σ) (vE σ) (tn a) (tn b) (nE σ), fE (vB σ) (vE σ) (tn b) (tn c) (nE σ), fE (vB σ) (vE σ) (tn a) (tn c) (nE σ) with
    | some x, some y, some z => cif (∃ k, k < nF σ ∧ pF1 σ k = x ∧ pS1 σ k = y) (-3, σ) (cif (nF σ < 10) (nI (nF σ), uPlate σ x y z) (-4, σ))
    | _, _, _ => (-3, σ)) (-2, σ)
theorem m1_ne {n : Nat} (h : n < 200) : ¬ nI n = -1 := fun q => by
  have := congrArg Int32.toInt q
  rw [nI_toInt (by omega)] at this
  have e : (-1 : Int32).toInt = -1 := rfl
  omega
section COPS3
variable {σ : Sg} {M : Mem}
/-- the edge between two points as the class looks it up: its number, or -1 -/
theorem h_eb (hW : WF σ) (h : RC σ M) {i j : Nat} (hi : i < 6) (hj : j < 6) {post : Int32 → Mem → Prop} (h1 : ∀ k, fE (vB σ) (vE σ) i j (nE σ) = some k → k < nE σ → vB σ k = i → vE σ k = j → post (nI k) M) (h0 : fE (vB σ) (vE σ) i j (nE σ) = none → post (-1) M) : q_Net_edgeBetween (nI i) (nI j) M post :=
  h_Net_edgeBetween hW h hi hj (fun k hk e1 e2 => h1 k (fE_some (fun a b ha hb => hW.2.2.1 a b ha hb) hk e1 e2) hk e1 e2) (fun hn => h0 (fE_none hn))
theorem h_Nf_face (hW : WF σ) (h : RC σ M) {a b c : Int32} {post : Int32 → Mem → Prop} (K : ∀ M', RC (op_face σ a b c).2 M' → Ag C56 C56 M M' → post (op_face σ a b c).1 M') : q_Nf_face a b c M post := by
  have hP := hW.1
  unfold q_Nf_face
  refine h_Net_has hW h (d := 0) (by decide) (fun c1 => ⟨fun c => absurd c (by decide), fun _ => h_Net_has hW h (d := 0) (by decide) (fun c2 => ⟨fun c => absurd c (by decide), fun _ => h_Net_has hW h (d := 0) (by decide) (fun c3 => ⟨fun c => absurd c (by decide), fun _ => ⟨fun c4 => ?_, fun c4 => ⟨fun c5 => ?_, fun c5 => ?_⟩⟩⟩) (fun c3 => ⟨fun _ => ?_, fun c => absurd rfl c⟩)⟩) (fun c2 => ⟨fun _ => ?_, fun c => absurd rfl c⟩)⟩) (fun c1 => ⟨fun _ => ?_, fun c => absurd rfl c⟩)
  · have e : op_face σ a b c = (-2, σ) := cif_neg (fun q => by
      have h1 := q.2.2.2.1
      rw [Int32.lt_iff_toInt_lt] at h1; rw [Int32.le_iff_toInt_le] at c4; omega) _ _
    rw [e] at K; exact K M h Ag.rf
  · have c1 : vp_in a (nP σ) := c1
    have c2 : vp_in b (nP σ) := c2
    have c3 : vp_in c (nP σ) := c3
    obtain ⟨i, hi, rfl⟩ := vp_in_of c1 (by omega)
    obtain ⟨j, hj, rfl⟩ := vp_in_of c2 (by omega)
    obtain ⟨l, hl, rfl⟩ := vp_in_of c3 (by omega)
    have hij : nI i < nI j := by
      rw [Int32.le_iff_toInt_le] at c4; rw [Int32.lt_iff_toInt_lt]; omega
    have e0 : op_face σ (nI i) (nI j) (nI l) = (match fE (vB σ) (vE σ) i j (nE σ), fE (vB σ) (vE σ) j l (nE σ), fE (vB σ) (vE σ) i l (nE σ) with
        | some x, some y, some z => cif (∃ k, k < nF σ ∧ pF1 σ k = x ∧ pS1 σ k = y) (-3, σ) (cif (nF σ < 10) (nI (nF σ), uPlate σ x y z) (-4, σ))
        | _, _, _ => (-3, σ)) := by
      unfold op_face; rw [cif_pos ⟨c1, c2, c3, hij, c5⟩, tnI (by omega), tnI (by omega), tnI (by omega)]
    refine h_eb hW h (by omega) (by omega) (fun x ex hx x1 x2 => ?_) (fun ex => ?_)
    · refine h_eb hW h (by omega) (by omega) (fun y ey hy y1 y2 => ?_) (fun ey => ?_)
      · refine h_eb hW h (by omega) (by omega) (fun z ez hz z1 z2 => ?_) (fun ez => ?_)
        · rw [ex, ey, ez] at e0
          refine ⟨fun c => absurd c (m1_ne (by omega)), fun _ => ⟨fun c => absurd c (m1_ne (by omega)), fun _ => ⟨fun c => absurd c (m1_ne (by omega)), fun _ => ?_⟩⟩⟩
          refine h_Net_hasPlateOf hW h (by omega) (by omega) (fun k hk k1 k2 => ⟨fun c => absurd c (by decide), fun _ => ?_⟩) (fun hn => ⟨fun _ => ⟨fun c6 => ?_, fun c6 => ?_⟩, fun c => absurd rfl c⟩)
          · have e : op_face σ (nI i) (nI j) (nI l) = (-3, σ) := e0.trans (cif_pos ⟨k, hk, k1, k2⟩ _ _)
            rw [e] at K; exact K M h Ag.rf
          · have he : nF σ < 10 := by
              rw [h.1.2.2] at c6
              exact (nI_ltI (by omega) (by decide)).mp (show nI (nF σ) < nI 10 from c6)
            have e : op_face σ (nI i) (nI j) (nI l) = (nI (nF σ), uPlate σ x y z) := e0.trans ((cif_neg (fun ⟨k, hk, q⟩ => hn k hk q) _ _).trans (cif_pos he _ _))
            rw [e] at K
            exact h_Net_addPlate hW h he K
          · have he : ¬ nF σ < 10 := fun q => c6 (by rw [h.1.2.2]; exact nI_lt q (by decide))
            have e : op_face σ (nI i) (nI j) (nI l) = (-4, σ) := e0.trans ((cif_neg (fun ⟨k, hk, q⟩ => hn k hk q) _ _).trans (cif_neg he _ _))
            rw [e] at K; exact K M h Ag.rf
        · rw [ex, ey, ez] at e0
          rw [e0] at K
          exact ⟨fun c => absurd c (m1_ne (by omega)), fun _ => ⟨fun c => absurd c (m1_ne (by omega)), fun _ => ⟨fun _ => K M h Ag.rf, fun c => absurd rfl c⟩⟩⟩
      · refine h_eb hW h (by omega) (by omega) (fun z ez hz z1 z2 => ?_) (fun ez => ?_)
        · rw [ex, ey, ez] at e0
          rw [e0] at K
          exact ⟨fun c => absurd c (m1_ne (by omega)), fun _ => ⟨fun _ => K M h Ag.rf, fun c => absurd rfl c⟩⟩
        · rw [ex, ey, ez] at e0
          rw [e0] at K
          exact ⟨fun c => absurd c (m1_ne (by omega)), fun _ => ⟨fun _ => K M h Ag.rf, fun c => absurd rfl c⟩⟩
    · have e : op_face σ (nI i) (nI j) (nI l) = (-3, σ) := by rw [e0, ex]
      rw [e] at K
      have fin : ∀ r10 r12 : Int32, ((-1 : Int32) = -1 → post (-3) M) := fun _ _ _ => K M h Ag.rf
      refine h_eb hW h (by omega) (by omega) (fun y ey hy y1 y2 => ?_) (fun ey => ?_)
      · refine h_eb hW h (by omega) (by omega) (fun z ez hz z1 z2 => ?_) (fun ez => ?_)
        · exact ⟨fun _ => K M h Ag.rf, fun c => absurd rfl c⟩
        · exact ⟨fun _ => K M h Ag.rf, fun c => absurd rfl c⟩
      · refine h_eb hW h (by omega) (by omega) (fun z ez hz z1 z2 => ?_) (fun ez => ?_)
        · exact ⟨fun _ => K M h Ag.rf, fun c => absurd rfl c⟩
        · exact ⟨fun _ => K M h Ag.rf, fun c => absurd rfl c⟩
  · have e : op_face σ a b c = (-2, σ) := cif_neg (fun q => c5 q.2.2.2.2) _ _
    rw [e] at K; exact K M h Ag.rf
  · have e : op_face σ a b c = (-2, σ) := cif_neg (fun q => c3 q.2.2.1) _ _
    rw [e] at K; exact K M h Ag.rf
  · have e : op_face σ a b c = (-2, σ) := cif_neg (fun q => c2 q.2.1) _ _
    rw [e] at K; exact K M h Ag.rf
  · have e : op_face σ a b c = (-2, σ) := cif_neg (fun q => c1 q.1) _ _
    rw [e] at K; exact K M h Ag.rf
theorem h_Nf_corner (hW : WF σ) (h : RC σ M) {d k i : Int32} {post : Int32 → Mem → Prop} (K : ∀ M', RC (op_corner σ d k i).2 M' → Ag C56 C56 M M' → post (op_corner σ d k i).1 M') : q_Nf_corner d k i M post := by
  have hP := hW.1
  have bad : (¬ ((d = 1 ∧ vp_in k (nE σ)) ∨ (d = 2 ∧ vp_in k (nF σ)))) → post (-2) M := fun q => by
    have e : op_corner σ d k i = (-2, σ) := cif_neg q _ _
    rw [e] at K; exact K M h Ag.rf
  unfold q_Nf_corner
  refine ⟨fun c => bad (fun q => ?_), fun c => ⟨fun c2 => bad (fun q => ?_), fun c2 => ?_⟩⟩
  · rcases q with q | q <;> (rw [q.1] at c; exact absurd c (by decide))
  · rcases q with q | q <;> (rw [q.1] at c2; exact absurd c2 (by decide))
  · have hd : d = nI 1 ∨ d = nI 2 := by
      rw [Int32.lt_iff_toInt_lt] at c c2
      have e1 : (1 : Int32).toInt = 1 := rfl
      have e2 : (2 : Int32).toInt = 2 := rfl
      have e3 : (nI 1).toInt = 1 := rfl
      have e4 : (nI 2).toInt = 2 := rfl
      rcases (show d.toInt = 1 ∨ d.toInt = 2 by omega) with q | q
      · exact Or.inl (Int32.toInt_inj.mp (by omega))
      · exact Or.inr (Int32.toInt_inj.mp (by omega))
    obtain ⟨dd, hdd, rfl⟩ : ∃ dd, (dd = 1 ∨ dd = 2) ∧ d = nI dd := by
      rcases hd with q | q
      · exact ⟨1, Or.inl rfl, q⟩
      · exact ⟨2, Or.inr rfl, q⟩
    have hz := hW.sz dd
    refine h_Net_has hW h (d := dd) (by omega) (fun c3 => ⟨fun _ => ?_, fun c => absurd c (by decide)⟩) (fun c3 => ⟨fun c => absurd rfl c, fun _ => bad (fun q => ?_)⟩)
    · have good : ((nI dd = 1 ∧ vp_in k (nE σ)) ∨ (nI dd = 2 ∧ vp_in k (nF σ))) := by
        rcases hdd with rfl | rfl
        · exact Or.inl ⟨rfl, c3⟩
        · exact Or.inr ⟨rfl, c3⟩
      have e0 : op_corner σ (nI dd) k i = cif (vp_in i (dd + 1)) (nI (cor σ dd (tn k) (tn i)), σ) (-1, σ) := by
        unfold op_corner; rw [cif_pos good, tnI (by omega)]
      obtain ⟨kk, hk, rfl⟩ := vp_in_of c3 (by omega)
      refine ⟨fun c4 => ?_, fun c4 => ⟨fun c5 => ?_, fun c5 => ?_⟩⟩
      · rw [e0, cif_neg (nvin_neg c4)] at K; exact K M h Ag.rf
      · have hv : vp_in i (dd + 1) := nle_vin (by omega) c4 (fun q => by
          rw [Int32.le_iff_toInt_le] at c5 q
          rw [nI_toInt (by omega)] at c5 q
          omega)
        obtain ⟨ii, hi, rfl⟩ := vp_in_of hv (by omega)
        rw [e0, cif_pos hv, tnI (by omega), tnI (by omega)] at K
        exact h_Net_pointOf hW h hdd hk (by omega) (K M h Ag.rf)
      · rw [e0, cif_neg (fun q => by
          obtain ⟨ii, hi, rfl⟩ := vp_in_of q (by omega)
          exact c5 (nI_le (by omega) (by omega)))] at K
        exact K M h Ag.rf
    · rcases hdd with rfl | rfl
      · rcases q with q | q
        · exact c3 q.2
        · exact absurd q.1 (by decide)
      · rcases q with q | q
        · exact absurd q.1 (by decide)
        · exact c3 q.2
end COPS3
