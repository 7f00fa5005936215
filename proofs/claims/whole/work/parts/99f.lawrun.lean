/-! the law's loop, call by call -/
section LAWRUN
variable {σ : Sg}
theorem cif_2 {α : Type} {P : Prop} {a b : α × Sg} (ha : WF a.2) (hb : WF b.2) : WF (cif P a b).2 := by
  by_cases z : P
  · rw [cif_pos z]; exact ha
  · rw [cif_neg z]; exact hb
theorem k_about (hW : WF σ) (f w : Int32) : WF (op_about σ f w).2 := by
  unfold op_about
  exact cif_2 (cif_2 hW (cif_2 (cif_2 hW hW) (cif_2 (cif_2 hW hW) (cif_2 hW hW)))) hW
theorem law_run {L : Nat} {xs : Nat → Int32} (hL : L < 2 ^ 31) : ∀ (m p : Nat) (σ : Sg) (M : Mem), p ≤ L → L < p + m → WF σ → RC σ M → RM σ M → q_Law_L18 L xs m (nI p) M := by
  intro m
  induction m with
  | zero => intro p σ M h1 h2; omega
  | succ m ih =>
    intro p σ M hp hm hW hc hr
    unfold q_Law_L18
    refine ⟨fun _ => trivial, fun c => ?_⟩
    have e6 : (nI L - (6 : Int32)).toInt = (L : Int) - 6 := by
      rw [Int32.toInt_sub, nI_toInt hL, show (6 : Int32).toInt = 6 from rfl]
      exact Int.bmod_eq_of_le_mul_two (by omega) (by omega)
    have hp6 : p + 6 ≤ L := by
      rw [Int32.lt_iff_toInt_lt, e6, nI_toInt (by omega)] at c
      omega
    have v0 : vp_in (nI p) L := vp_in_nI (by omega) hL
    have vv : ∀ k, k < 6 → vp_in (nI p + nI k) L := fun k hk => by rw [nI_add]; exact vp_in_nI (by omega) hL
    have v1 : vp_in (nI p + (1 : Int32)) L := vv 1 (by decide)
    have v2 : vp_in (nI p + (2 : Int32)) L := vv 2 (by decide)
    have v3 : vp_in (nI p + (3 : Int32)) L := vv 3 (by decide)
    have v4 : vp_in (nI p + (4 : Int32)) L := vv 4 (by decide)
    have v5 : vp_in (nI p + (5 : Int32)) L := vv 5 (by decide)
    have nx : ∀ (τ : Sg) (M' : Mem), WF τ → RC τ M' → RM τ M' → q_Law_L18 L xs m (nI p + 6) M' := fun τ M' a b d => by
      rw [show nI p + (6 : Int32) = nI (p + 6) from nI_add p 6]
      exact ih (p + 6) τ M' hp6 (by omega) a b d
    have mid : ∀ {M1 : Mem}, Ag C56 C56 M M1 → RM σ M1 := fun g => hr.ag (g.mono (fun k hk => by unfold C56 at hk; unfold Sm; omega) (fun k hk => by unfold C56 at hk; unfold Tm; omega))
    have fin : ∀ {τ : Sg} {M1 M2 : Mem}, RC τ M1 → Ag D56 D56 M1 M2 → RC τ M2 := fun r g => r.ag (g.mono (fun k hk => by unfold D56 at hk; unfold Sc; omega) (fun k hk => by unfold D56 at hk; unfold Sc; omega))
    refine ⟨v0, fun _ => ⟨v1, h_Nf_net hW hc (fun M1 c1 g1 => ⟨v1, h_Mo_net hW (mid g1) (fun M2 m2 g2 => ⟨fun _ => nx _ M2 (k_net hW _) (fin c1 g2) m2, fun q => absurd rfl q⟩)⟩)⟩,
      fun _ => ⟨v1, v2, h_Nf_edge hW hc (fun M1 c1 g1 => ⟨v1, v2, h_Mo_edge hW (mid g1) (fun M2 m2 g2 => ⟨fun _ => nx _ M2 (k_edge hW _ _) (fin c1 g2) m2, fun q => absurd rfl q⟩)⟩)⟩,
      fun _ => ⟨v1, v2, v3, h_Nf_face hW hc (fun M1 c1 g1 => ⟨v1, v2, v3, h_Mo_face hW (mid g1) (fun M2 m2 g2 => ⟨fun _ => nx _ M2 (k_face hW _ _ _) (fin c1 g2) m2, fun q => absurd rfl q⟩)⟩)⟩,
      fun _ => ⟨v1, v2, v3, h_Nf_corner hW hc (fun M1 c1 g1 => ⟨v1, v2, v3, h_Mo_corner hW (mid g1) (fun M2 m2 g2 => ⟨fun _ => nx _ M2 (k_corner hW _ _ _) (fin c1 g2) m2, fun q => absurd rfl q⟩)⟩)⟩,
      fun _ => ⟨v1, v2, h_Nf_form hW hc (fun M1 c1 g1 => ⟨v1, v2, h_Mo_form hW (mid g1) (fun M2 m2 g2 => ⟨fun _ => nx _ M2 (k_form hW _ _) (fin c1 g2) m2, fun q => absurd rfl q⟩)⟩)⟩,
      fun _ => ⟨v1, v2, v3, h_Nf_set hW hc (fun M1 c1 g1 => ⟨v1, v2, v3, h_Mo_set hW (mid g1) (fun M2 m2 g2 => ⟨fun _ => nx _ M2 (k_set hW _ _ _) (fin c1 g2) m2, fun q => absurd rfl q⟩)⟩)⟩,
      fun _ => ⟨v1, v2, h_Nf_get hW hc (fun M1 c1 g1 => ⟨v1, v2, h_Mo_get hW (mid g1) (fun M2 m2 g2 => ⟨fun _ => nx _ M2 (k_get hW _ _) (fin c1 g2) m2, fun q => absurd rfl q⟩)⟩)⟩,
      fun _ => ⟨v1, v2, h_Nf_slope hW hc (fun M1 c1 g1 => ⟨v1, v2, h_Mo_slope hW (mid g1) (fun M2 m2 g2 => ⟨fun _ => nx _ M2 (k_slope hW _ _) (fin c1 g2) m2, fun q => absurd rfl q⟩)⟩)⟩,
      fun _ => ⟨v1, v2, h_Nf_rim hW hc (fun M1 c1 g1 => ⟨v1, v2, h_Mo_rim hW (mid g1) (fun M2 m2 g2 => ⟨fun _ => nx _ M2 (k_rim hW _ _) (fin c1 g2) m2, fun q => absurd rfl q⟩)⟩)⟩,
      fun _ => ⟨v1, v2, v3, h_Nf_cup hW hc (fun M1 c1 g1 => ⟨v1, v2, v3, h_Mo_cup hW (mid g1) (fun M2 m2 g2 => ⟨fun _ => nx _ M2 (k_cup hW _ _ _) (fin c1 g2) m2, fun q => absurd rfl q⟩)⟩)⟩,
      fun _ => ⟨v1, v2, v3, v4, v5, h_Nf_mix hW hc (fun M1 c1 g1 => ⟨v1, v2, v3, v4, v5, h_Mo_mix hW (mid g1) (fun M2 m2 g2 => ⟨fun _ => nx _ M2 (k_mix hW _ _ _ _ _) (fin c1 g2) m2, fun q => absurd rfl q⟩)⟩)⟩,
      fun _ => ⟨v1, v2, h_Nf_about hW hc (fun M1 c1 g1 => ⟨v1, v2, h_Mo_about hW (mid g1) (fun M2 m2 g2 => ⟨fun _ => nx _ M2 (k_about hW _ _) (fin c1 g2) m2, fun q => absurd rfl q⟩)⟩)⟩,
      fun _ => ⟨v1, h_Nf_holes hW hc (fun M1 c1 g1 => ⟨v1, h_Mo_holes hW (mid g1) (fun M2 m2 g2 => ⟨fun _ => nx _ M2 hW (fin c1 g2) m2, fun q => absurd rfl q⟩)⟩)⟩,
      fun _ => ⟨v1, v2, h_Nf_potential hW hc (fun M1 c1 g1 => ⟨v1, v2, h_Mo_potential hW (mid g1) (fun M2 m2 g2 => ⟨fun _ => nx _ M2 (k_potential hW _ _) (fin c1 g2) m2, fun q => absurd rfl q⟩)⟩)⟩,
      fun _ => ⟨v1, v2, v3, v4, h_Nf_split hW hc (fun M1 c1 g1 => ⟨v1, v2, v3, v4, h_Mo_split hW (mid g1) (fun M2 m2 g2 => ⟨fun _ => nx _ M2 (k_split hW _ _ _ _) (fin c1 g2) m2, fun q => absurd rfl q⟩)⟩)⟩,
      fun _ => ⟨v1, v2, h_Nf_wall hW hc (fun M1 c1 g1 => ⟨v1, v2, h_Mo_wall hW (mid g1) (fun M2 m2 g2 => ⟨fun _ => nx _ M2 (k_wall hW _ _) (fin c1 g2) m2, fun q => absurd rfl q⟩)⟩)⟩,
      fun _ => ⟨v1, h_Nf_open hW hc (fun M1 c1 g1 => ⟨v1, h_Mo_open hW (mid g1) (fun M2 m2 g2 => ⟨fun _ => nx _ M2 (k_open hW _) (fin c1 g2) m2, fun q => absurd rfl q⟩)⟩)⟩,
      fun _ => h_Nf_field hW hc (fun M1 c1 g1 => h_Mo_field hW (mid g1) (fun M2 m2 g2 => ⟨fun _ => nx _ M2 hW (fin c1 g2) m2, fun q => absurd rfl q⟩)),
      fun _ => ⟨v1, v2, h_Nf_fieldAt hW hc (fun M1 c1 g1 => ⟨v1, v2, h_Mo_fieldAt hW (mid g1) (fun M2 m2 g2 => ⟨fun _ => nx _ M2 hW (fin c1 g2) m2, fun q => absurd rfl q⟩)⟩)⟩,
      fun _ => ⟨v1, h_Nf_wave hW hc (fun M1 c1 g1 => ⟨v1, h_Mo_wave hW (mid g1) (fun M2 m2 g2 => ⟨fun _ => nx _ M2 (k_wave hW _) (fin c1 g2) m2, fun q => absurd rfl q⟩)⟩)⟩,
      fun _ => ⟨v1, h_Nf_raise hW hc (fun M1 c1 g1 => ⟨v1, h_Mo_raise hW (mid g1) (fun M2 m2 g2 => ⟨fun _ => nx _ M2 (k_raise hW _) (fin c1 g2) m2, fun q => absurd rfl q⟩)⟩)⟩,
      fun _ => ⟨v1, h_Nf_height hW hc (fun M1 c1 g1 => ⟨v1, h_Mo_height hW (mid g1) (fun M2 m2 g2 => ⟨fun _ => nx _ M2 (k_height hW _) (fin c1 g2) m2, fun q => absurd rfl q⟩)⟩)⟩,
      fun _ => ⟨v1, h_Nf_flow hW hc (fun M1 c1 g1 => ⟨v1, h_Mo_flow hW (mid g1) (fun M2 m2 g2 => ⟨fun _ => nx _ M2 (k_flow hW _) (fin c1 g2) m2, fun q => absurd rfl q⟩)⟩)⟩,
      fun _ => h_Nf_sum hW hc (fun M1 c1 g1 => h_Mo_sum hW (mid g1) (fun M2 m2 g2 => ⟨fun _ => nx _ M2 hW (fin c1 g2) m2, fun q => absurd rfl q⟩)),
      fun _ => ⟨v1, h_Nf_count hW hc (fun M1 c1 g1 => ⟨v1, h_Mo_count hW (mid g1) (fun M2 m2 g2 => ⟨fun _ => nx _ M2 (k_count hW _) (fin c1 g2) m2, fun q => absurd rfl q⟩)⟩)⟩,
      fun _ => h_Nf_digest hW hc (fun M1 c1 g1 => h_Mo_digest hW (mid g1) (fun M2 m2 g2 => ⟨fun _ => nx _ M2 hW (fin c1 g2) m2, fun q => absurd rfl q⟩)),
      fun _ => nx σ M hW hc hr⟩
end LAWRUN
