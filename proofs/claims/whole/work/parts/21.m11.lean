theorem d_Nf_about_0 : decode b_Nf_about 0 = .ok (.aload_n 0, 1) := by decide +kernel
theorem d_Nf_about_1 : decode b_Nf_about 1 = .ok (.iload_n 1, 1) := by decide +kernel
theorem d_Nf_about_2 : decode b_Nf_about 2 = .ok (.invokevirtual 91, 3) := by decide +kernel
theorem d_Nf_about_5 : decode b_Nf_about 5 = .ok (.astore_n 3, 1) := by decide +kernel
theorem d_Nf_about_6 : decode b_Nf_about 6 = .ok (.aload_n 3, 1) := by decide +kernel
theorem d_Nf_about_7 : decode b_Nf_about 7 = .ok (.ifnull 12, 3) := by decide +kernel
theorem d_Nf_about_10 : decode b_Nf_about 10 = .ok (.iload_n 2, 1) := by decide +kernel
theorem d_Nf_about_11 : decode b_Nf_about 11 = .ok (.ifCond .lt 8, 3) := by decide +kernel
theorem d_Nf_about_14 : decode b_Nf_about 14 = .ok (.iload_n 2, 1) := by decide +kernel
theorem d_Nf_about_15 : decode b_Nf_about 15 = .ok (.iconst 3, 1) := by decide +kernel
theorem d_Nf_about_16 : decode b_Nf_about 16 = .ok (.if_icmp .le 6, 3) := by decide +kernel
theorem d_Nf_about_19 : decode b_Nf_about 19 = .ok (.bipush (-2), 2) := by decide +kernel
theorem d_Nf_about_21 : decode b_Nf_about 21 = .ok (.ireturn, 1) := by decide +kernel
theorem d_Nf_about_22 : decode b_Nf_about 22 = .ok (.iload_n 2, 1) := by decide +kernel
theorem d_Nf_about_23 : decode b_Nf_about 23 = .ok (.ifCond .ne 8, 3) := by decide +kernel
theorem d_Nf_about_26 : decode b_Nf_about 26 = .ok (.aload_n 3, 1) := by decide +kernel
theorem d_Nf_about_27 : decode b_Nf_about 27 = .ok (.getfield 95, 3) := by decide +kernel
theorem d_Nf_about_30 : decode b_Nf_about 30 = .ok (.ireturn, 1) := by decide +kernel
theorem d_Nf_about_31 : decode b_Nf_about 31 = .ok (.iload_n 2, 1) := by decide +kernel
theorem d_Nf_about_32 : decode b_Nf_about 32 = .ok (.iconst 1, 1) := by decide +kernel
theorem d_Nf_about_33 : decode b_Nf_about 33 = .ok (.if_icmp .ne 17, 3) := by decide +kernel
theorem d_Nf_about_36 : decode b_Nf_about 36 = .ok (.aload_n 3, 1) := by decide +kernel
theorem d_Nf_about_37 : decode b_Nf_about 37 = .ok (.iconst 0, 1) := by decide +kernel
theorem d_Nf_about_38 : decode b_Nf_about 38 = .ok (.invokevirtual 129, 3) := by decide +kernel
theorem d_Nf_about_41 : decode b_Nf_about 41 = .ok (.ifCond .eq 7, 3) := by decide +kernel
theorem d_Nf_about_44 : decode b_Nf_about 44 = .ok (.iconst 1, 1) := by decide +kernel
theorem d_Nf_about_45 : decode b_Nf_about 45 = .ok (.goto 4, 3) := by decide +kernel
theorem d_Nf_about_48 : decode b_Nf_about 48 = .ok (.iconst 0, 1) := by decide +kernel
theorem d_Nf_about_49 : decode b_Nf_about 49 = .ok (.ireturn, 1) := by decide +kernel
theorem d_Nf_about_50 : decode b_Nf_about 50 = .ok (.iload_n 2, 1) := by decide +kernel
theorem d_Nf_about_51 : decode b_Nf_about 51 = .ok (.iconst 2, 1) := by decide +kernel
theorem d_Nf_about_52 : decode b_Nf_about 52 = .ok (.if_icmp .ne 17, 3) := by decide +kernel
theorem d_Nf_about_55 : decode b_Nf_about 55 = .ok (.aload_n 0, 1) := by decide +kernel
theorem d_Nf_about_56 : decode b_Nf_about 56 = .ok (.aload_n 3, 1) := by decide +kernel
theorem d_Nf_about_57 : decode b_Nf_about 57 = .ok (.invokevirtual 133, 3) := by decide +kernel
theorem d_Nf_about_60 : decode b_Nf_about 60 = .ok (.ifCond .eq 7, 3) := by decide +kernel
theorem d_Nf_about_63 : decode b_Nf_about 63 = .ok (.iconst 1, 1) := by decide +kernel
theorem d_Nf_about_64 : decode b_Nf_about 64 = .ok (.goto 4, 3) := by decide +kernel
theorem d_Nf_about_67 : decode b_Nf_about 67 = .ok (.iconst 0, 1) := by decide +kernel
theorem d_Nf_about_68 : decode b_Nf_about 68 = .ok (.ireturn, 1) := by decide +kernel
theorem d_Nf_about_69 : decode b_Nf_about 69 = .ok (.aload_n 0, 1) := by decide +kernel
theorem d_Nf_about_70 : decode b_Nf_about 70 = .ok (.aload_n 3, 1) := by decide +kernel
theorem d_Nf_about_71 : decode b_Nf_about 71 = .ok (.invokevirtual 137, 3) := by decide +kernel
theorem d_Nf_about_74 : decode b_Nf_about 74 = .ok (.ifCond .eq 7, 3) := by decide +kernel
theorem d_Nf_about_77 : decode b_Nf_about 77 = .ok (.iconst 1, 1) := by decide +kernel
theorem d_Nf_about_78 : decode b_Nf_about 78 = .ok (.goto 4, 3) := by decide +kernel
theorem d_Nf_about_81 : decode b_Nf_about 81 = .ok (.iconst 0, 1) := by decide +kernel
theorem d_Nf_about_82 : decode b_Nf_about 82 = .ok (.ireturn, 1) := by decide +kernel
def q_Nf_about (a1 : Int32) (a2 : Int32) (M : Mem) (post : Int32 → Mem → Prop) : Prop := q_Nf_formAt a1 M (fun r2 M1 => (r2 = none → post (-2 : Int32) M1) ∧ (∀ i3, r2 = some i3 → i3 < 12 ∧ ((a2 < 0 → post (-2 : Int32) M1) ∧ (¬ a2 < 0 → (a2 ≤ (3 : Int32) → (¬ a2 = 0 → (¬ a2 = (1 : Int32) → (¬ a2 = (2 : Int32) → q_Nf_hasNoRim i3 M1 (fun r5 M4 => (r5 = 0 → post (0 : Int32) M4) ∧ (¬ r5 = 0 → post (1 : Int32) M4))) ∧ (a2 = (2 : Int32) → q_Nf_hasNoSlope i3 M1 (fun r7 M6 => (r7 = 0 → post (0 : Int32) M6) ∧ (¬ r7 = 0 → post (1 : Int32) M6)))) ∧ (a2 = (1 : Int32) → q_Frm_fitsIn i3 (0 : Int32) M1 (fun r9 M8 => (r9 = 0 → post (0 : Int32) M8) ∧ (¬ r9 = 0 → post (1 : Int32) M8)))) ∧ (a2 = 0 → post (M1.1 (32 + 2 * i3) 0) M1)) ∧ (¬ a2 ≤ (3 : Int32) → post (-2 : Int32) M1)))))
set_option maxHeartbeats 4000000 in
theorem s_Nf_about {l : Launch} {κ : Kp} {a1 : Int32} {a2 : Int32} {M : Mem} {post : Int32 → Mem → Prop} (hq : q_Nf_about a1 a2 M post) : Ct l κ y_Nf_about b_Nf_about 4 (some .int) 3 [.ref (κ.1 + 0), .int a1, .int a2] M (pI post) := by
  refine Ct_of (by decide) (Nat.le_of_ble_eq_true rfl) (fun γ hγ C R => ?_)
  subst hγ
  unfold q_Nf_about at hq
  show G γ κ 4 (0, 0) (Gq γ κ (pI post)) 0 [(0, .ref (κ.1 + 0)), (1, .int a1), (2, .int a2)] [] M
  refine G_aload_n C 0 d_Nf_about_0 rfl rfl ?_
  refine G_iload_n C 1 d_Nf_about_1 rfl rfl ?_
  refine G_callV C (s_Nf_formAt hq) v_Nf_formAt i_Nf_formAt z_Nf_formAt wd_257 (by decide) rfl (k := 0) (ci := 6) (by decide) rfl rfl rfl (rest := []) (by rfl) (Nat.le_of_ble_eq_true rfl) d_Nf_about_2 (kf_ (fun r2 M1 hq => ?_))
  refine G_astore_nq C (lv' := [(3, _), (0, _), (1, _), (2, _)]) d_Nf_about_5 rfl (by decide) rfl ?_
  refine G_aload_nq C 0 d_Nf_about_6 rfl rfl ?_
  refine G_ifnullq C (tgt := 19) d_Nf_about_7 (by decide) (fun c => ?_) (fun i3 c => ?_)
  · replace hq := hq.1 c
    refine G_bipush C (v := -2) d_Nf_about_19 (by decide) ?_
    exact G_iret C R d_Nf_about_21 ⟨_, rfl, hq⟩
  · have hz := hq.2 i3 c
    clear hq
    subst c
    obtain ⟨h_i3, hq⟩ := hz
    refine G_iload_n C 3 d_Nf_about_10 rfl rfl ?_
    refine G_if_lt C (tgt := 19) d_Nf_about_11 (by decide) (fun c => ?_) (fun c => ?_)
    · replace hq := hq.1 c
      refine G_bipush C (v := -2) d_Nf_about_19 (by decide) ?_
      exact G_iret C R d_Nf_about_21 ⟨_, rfl, hq⟩
    · replace hq := hq.2 c
      refine G_iload_n C 3 d_Nf_about_14 rfl rfl ?_
      refine G_iconst C (v := 3) d_Nf_about_15 (by decide) ?_
      refine G_icmp_le C (tgt := 22) d_Nf_about_16 (by decide) (fun c => ?_) (fun c => ?_)
      · replace hq := hq.1 c
        refine G_iload_n C 3 d_Nf_about_22 rfl rfl ?_
        refine G_if_ne C (tgt := 31) d_Nf_about_23 (by decide) (fun c => ?_) (fun c => ?_)
        · replace hq := hq.1 c
          refine G_iload_n C 3 d_Nf_about_31 rfl rfl ?_
          refine G_iconst C (v := 1) d_Nf_about_32 (by decide) ?_
          refine G_icmp_ne C (tgt := 50) d_Nf_about_33 (by decide) (fun c => ?_) (fun c => ?_)
          · replace hq := hq.1 c
            refine G_iload_n C 3 d_Nf_about_50 rfl rfl ?_
            refine G_iconst C (v := 2) d_Nf_about_51 (by decide) ?_
            refine G_icmp_ne C (tgt := 69) d_Nf_about_52 (by decide) (fun c => ?_) (fun c => ?_)
            · replace hq := hq.1 c
              refine G_aload_n C 1 d_Nf_about_69 rfl rfl ?_
              refine G_aload_n C 0 d_Nf_about_70 rfl rfl ?_
              refine G_callV C (s_Nf_hasNoRim h_i3 hq) v_Nf_hasNoRim i_Nf_hasNoRim z_Nf_hasNoRim wd_333 (by decide) rfl (k := 0) (ci := 6) (by decide) rfl rfl rfl (rest := []) (by rfl) (Nat.le_of_ble_eq_true rfl) d_Nf_about_71 (ki_ (fun r5 M4 hq => ?_))
              refine G_if_eq C (tgt := 81) d_Nf_about_74 (by decide) (fun c => ?_) (fun c => ?_)
              · replace hq := hq.1 c
                refine G_iconst C (v := 0) d_Nf_about_81 (by decide) ?_
                exact G_iret C R d_Nf_about_82 ⟨_, rfl, hq⟩
              · replace hq := hq.2 c
                refine G_iconst C (v := 1) d_Nf_about_77 (by decide) ?_
                refine G_goto C (tgt := 82) d_Nf_about_78 (by decide) ?_
                exact G_iret C R d_Nf_about_82 ⟨_, rfl, hq⟩
            · replace hq := hq.2 c
              refine G_aload_n C 1 d_Nf_about_55 rfl rfl ?_
              refine G_aload_n C 0 d_Nf_about_56 rfl rfl ?_
              refine G_callV C (s_Nf_hasNoSlope h_i3 hq) v_Nf_hasNoSlope i_Nf_hasNoSlope z_Nf_hasNoSlope wd_325 (by decide) rfl (k := 0) (ci := 6) (by decide) rfl rfl rfl (rest := []) (by rfl) (Nat.le_of_ble_eq_true rfl) d_Nf_about_57 (ki_ (fun r7 M6 hq => ?_))
              refine G_if_eq C (tgt := 67) d_Nf_about_60 (by decide) (fun c => ?_) (fun c => ?_)
              · replace hq := hq.1 c
                refine G_iconst C (v := 0) d_Nf_about_67 (by decide) ?_
                exact G_iret C R d_Nf_about_68 ⟨_, rfl, hq⟩
              · replace hq := hq.2 c
                refine G_iconst C (v := 1) d_Nf_about_63 (by decide) ?_
                refine G_goto C (tgt := 68) d_Nf_about_64 (by decide) ?_
                exact G_iret C R d_Nf_about_68 ⟨_, rfl, hq⟩
          · replace hq := hq.2 c
            refine G_aload_n C 0 d_Nf_about_36 rfl rfl ?_
            refine G_iconst C (v := 0) d_Nf_about_37 (by decide) ?_
            refine G_callV C (s_Frm_fitsIn h_i3 hq) v_Frm_fitsIn i_Frm_fitsIn z_Frm_fitsIn wd_320 (by decide) rfl (k := (32 + 2 * i3)) (ci := 2) (by have := h_i3; omega) (sh_formO κ h_i3 _ _) rfl rfl (rest := []) (by rfl) (Nat.le_of_ble_eq_true rfl) d_Nf_about_38 (ki_ (fun r9 M8 hq => ?_))
            refine G_if_eq C (tgt := 48) d_Nf_about_41 (by decide) (fun c => ?_) (fun c => ?_)
            · replace hq := hq.1 c
              refine G_iconst C (v := 0) d_Nf_about_48 (by decide) ?_
              exact G_iret C R d_Nf_about_49 ⟨_, rfl, hq⟩
            · replace hq := hq.2 c
              refine G_iconst C (v := 1) d_Nf_about_44 (by decide) ?_
              refine G_goto C (tgt := 49) d_Nf_about_45 (by decide) ?_
              exact G_iret C R d_Nf_about_49 ⟨_, rfl, hq⟩
        · replace hq := hq.2 c
          refine G_aload_n C 0 d_Nf_about_26 rfl rfl ?_
          refine Gg_Frm_degree C h_i3 wd_150 d_Nf_about_27 ?_
          exact G_iret C R d_Nf_about_30 ⟨_, rfl, hq⟩
      · replace hq := hq.2 c
        refine G_bipush C (v := -2) d_Nf_about_19 (by decide) ?_
        exact G_iret C R d_Nf_about_21 ⟨_, rfl, hq⟩
theorem d_Nf_countTurns_0 : decode b_Nf_countTurns 0 = .ok (.aload_n 0, 1) := by decide +kernel
theorem d_Nf_countTurns_1 : decode b_Nf_countTurns 1 = .ok (.getfield 39, 3) := by decide +kernel
theorem d_Nf_countTurns_4 : decode b_Nf_countTurns 4 = .ok (.aload_n 0, 1) := by decide +kernel
theorem d_Nf_countTurns_5 : decode b_Nf_countTurns 5 = .ok (.getfield 10, 3) := by decide +kernel
theorem d_Nf_countTurns_8 : decode b_Nf_countTurns 8 = .ok (.getfield 81, 3) := by decide +kernel
theorem d_Nf_countTurns_11 : decode b_Nf_countTurns 11 = .ok (.invokevirtual 238, 3) := by decide +kernel
theorem d_Nf_countTurns_14 : decode b_Nf_countTurns 14 = .ok (.aload_n 0, 1) := by decide +kernel
theorem d_Nf_countTurns_15 : decode b_Nf_countTurns 15 = .ok (.invokevirtual 239, 3) := by decide +kernel
theorem d_Nf_countTurns_18 : decode b_Nf_countTurns 18 = .ok (.aload_n 0, 1) := by decide +kernel
theorem d_Nf_countTurns_19 : decode b_Nf_countTurns 19 = .ok (.getfield 39, 3) := by decide +kernel
theorem d_Nf_countTurns_22 : decode b_Nf_countTurns 22 = .ok (.invokevirtual 242, 3) := by decide +kernel
theorem d_Nf_countTurns_25 : decode b_Nf_countTurns 25 = .ok (.aload_n 0, 1) := by decide +kernel
theorem d_Nf_countTurns_26 : decode b_Nf_countTurns 26 = .ok (.getfield 39, 3) := by decide +kernel
theorem d_Nf_countTurns_29 : decode b_Nf_countTurns 29 = .ok (.getfield 245, 3) := by decide +kernel
theorem d_Nf_countTurns_32 : decode b_Nf_countTurns 32 = .ok (.ireturn, 1) := by decide +kernel
def q_Nf_countTurns (M : Mem) (post : Int32 → Mem → Prop) : Prop := q_Bal_begin (M.1 1 2) M (fun M1 => q_Nf_addPlateProducts M1 (fun M2 => q_Bal_solve M2 (fun M3 => post (M3.1 15 3) M3)))
set_option maxHeartbeats 4000000 in
theorem s_Nf_countTurns {l : Launch} {κ : Kp} {M : Mem} {post : Int32 → Mem → Prop} (hq : q_Nf_countTurns M post) : Ct l κ y_Nf_countTurns b_Nf_countTurns 1 (some .int) 3 [.ref (κ.1 + 0)] M (pI post) := by
  refine Ct_of (by decide) (Nat.le_of_ble_eq_true rfl) (fun γ hγ C R => ?_)
  subst hγ
  unfold q_Nf_countTurns at hq
  show G γ κ 1 (0, 0) (Gq γ κ (pI post)) 0 [(0, .ref (κ.1 + 0))] [] M
  refine G_aload_n C 0 d_Nf_countTurns_0 rfl rfl ?_
  refine Gg_Nf_balance C wd_167 d_Nf_countTurns_1 ?_
  refine G_aload_n C 0 d_Nf_countTurns_4 rfl rfl ?_
  refine Gg_Nf_shape C wd_163 d_Nf_countTurns_5 ?_
  refine Gg_Net_plates C wd_33 d_Nf_countTurns_8 ?_
  refine G_callV C (s_Bal_begin hq) v_Bal_begin i_Bal_begin z_Bal_begin wd_349 (by decide) rfl (k := 15) (ci := 0) (by decide) rfl rfl rfl (rest := []) (by rfl) (Nat.le_of_ble_eq_true rfl) d_Nf_countTurns_11 (kv_ (fun M1 hq => ?_))
  refine G_aload_n C 0 d_Nf_countTurns_14 rfl rfl ?_
  refine G_callV C (s_Nf_addPlateProducts hq) v_Nf_addPlateProducts i_Nf_addPlateProducts z_Nf_addPlateProducts wd_355 (by decide) rfl (k := 0) (ci := 6) (by decide) rfl rfl rfl (rest := []) (by rfl) (Nat.le_of_ble_eq_true rfl) d_Nf_countTurns_15 (kv_ (fun M2 hq => ?_))
  refine G_aload_n C 0 d_Nf_countTurns_18 rfl rfl ?_
  refine Gg_Nf_balance C wd_167 d_Nf_countTurns_19 ?_
  refine G_callV C (s_Bal_solve hq) v_Bal_solve i_Bal_solve z_Bal_solve wd_363 (by decide) rfl (k := 15) (ci := 0) (by decide) rfl rfl rfl (rest := []) (by rfl) (Nat.le_of_ble_eq_true rfl) d_Nf_countTurns_22 (kv_ (fun M3 hq => ?_))
  refine G_aload_n C 0 d_Nf_countTurns_25 rfl rfl ?_
  refine Gg_Nf_balance C wd_167 d_Nf_countTurns_26 ?_
  refine Gg_Bal_rank C wd_117 d_Nf_countTurns_29 ?_
  exact G_iret C R d_Nf_countTurns_32 ⟨_, rfl, hq⟩
theorem d_Nf_potential_0 : decode b_Nf_potential 0 = .ok (.aload_n 0, 1) := by decide +kernel
theorem d_Nf_potential_1 : decode b_Nf_potential 1 = .ok (.iload_n 1, 1) := by decide +kernel
theorem d_Nf_potential_2 : decode b_Nf_potential 2 = .ok (.invokevirtual 91, 3) := by decide +kernel
theorem d_Nf_potential_5 : decode b_Nf_potential 5 = .ok (.astore_n 3, 1) := by decide +kernel
theorem d_Nf_potential_6 : decode b_Nf_potential 6 = .ok (.aload_n 0, 1) := by decide +kernel
theorem d_Nf_potential_7 : decode b_Nf_potential 7 = .ok (.iload_n 2, 1) := by decide +kernel
theorem d_Nf_potential_8 : decode b_Nf_potential 8 = .ok (.invokevirtual 91, 3) := by decide +kernel
theorem d_Nf_potential_11 : decode b_Nf_potential 11 = .ok (.astore 4, 2) := by decide +kernel
theorem d_Nf_potential_13 : decode b_Nf_potential 13 = .ok (.aload_n 3, 1) := by decide +kernel
theorem d_Nf_potential_14 : decode b_Nf_potential 14 = .ok (.ifnull 8, 3) := by decide +kernel
theorem d_Nf_potential_17 : decode b_Nf_potential 17 = .ok (.aload 4, 2) := by decide +kernel
theorem d_Nf_potential_19 : decode b_Nf_potential 19 = .ok (.ifnonnull 6, 3) := by decide +kernel
theorem d_Nf_potential_22 : decode b_Nf_potential 22 = .ok (.bipush (-2), 2) := by decide +kernel
theorem d_Nf_potential_24 : decode b_Nf_potential 24 = .ok (.ireturn, 1) := by decide +kernel
theorem d_Nf_potential_25 : decode b_Nf_potential 25 = .ok (.aload_n 3, 1) := by decide +kernel
theorem d_Nf_potential_26 : decode b_Nf_potential 26 = .ok (.getfield 95, 3) := by decide +kernel
theorem d_Nf_potential_29 : decode b_Nf_potential 29 = .ok (.iconst 1, 1) := by decide +kernel
theorem d_Nf_potential_30 : decode b_Nf_potential 30 = .ok (.if_icmp .eq 6, 3) := by decide +kernel
theorem d_Nf_potential_33 : decode b_Nf_potential 33 = .ok (.bipush (-3), 2) := by decide +kernel
theorem d_Nf_potential_35 : decode b_Nf_potential 35 = .ok (.ireturn, 1) := by decide +kernel
theorem d_Nf_potential_36 : decode b_Nf_potential 36 = .ok (.aload_n 0, 1) := by decide +kernel
theorem d_Nf_potential_37 : decode b_Nf_potential 37 = .ok (.getfield 46, 3) := by decide +kernel
theorem d_Nf_potential_40 : decode b_Nf_potential 40 = .ok (.aload_n 0, 1) := by decide +kernel
theorem d_Nf_potential_41 : decode b_Nf_potential 41 = .ok (.getfield 10, 3) := by decide +kernel
theorem d_Nf_potential_44 : decode b_Nf_potential 44 = .ok (.aload_n 3, 1) := by decide +kernel
theorem d_Nf_potential_45 : decode b_Nf_potential 45 = .ok (.invokevirtual 150, 3) := by decide +kernel
theorem d_Nf_potential_48 : decode b_Nf_potential 48 = .ok (.istore 5, 2) := by decide +kernel
theorem d_Nf_potential_50 : decode b_Nf_potential 50 = .ok (.iload 5, 2) := by decide +kernel
theorem d_Nf_potential_52 : decode b_Nf_potential 52 = .ok (.iconst (-1), 1) := by decide +kernel
theorem d_Nf_potential_53 : decode b_Nf_potential 53 = .ok (.if_icmp .eq 6, 3) := by decide +kernel
theorem d_Nf_potential_56 : decode b_Nf_potential 56 = .ok (.iload 5, 2) := by decide +kernel
theorem d_Nf_potential_58 : decode b_Nf_potential 58 = .ok (.ireturn, 1) := by decide +kernel
theorem d_Nf_potential_59 : decode b_Nf_potential 59 = .ok (.iconst 0, 1) := by decide +kernel
theorem d_Nf_potential_60 : decode b_Nf_potential 60 = .ok (.istore 6, 2) := by decide +kernel
theorem d_Nf_potential_62 : decode b_Nf_potential 62 = .ok (.iload 6, 2) := by decide +kernel
theorem d_Nf_potential_64 : decode b_Nf_potential 64 = .ok (.aload_n 0, 1) := by decide +kernel
theorem d_Nf_potential_65 : decode b_Nf_potential 65 = .ok (.getfield 10, 3) := by decide +kernel
theorem d_Nf_potential_68 : decode b_Nf_potential 68 = .ok (.getfield 147, 3) := by decide +kernel
theorem d_Nf_potential_71 : decode b_Nf_potential 71 = .ok (.if_icmp .ge 25, 3) := by decide +kernel
theorem d_Nf_potential_74 : decode b_Nf_potential 74 = .ok (.aload_n 0, 1) := by decide +kernel
theorem d_Nf_potential_75 : decode b_Nf_potential 75 = .ok (.getfield 50, 3) := by decide +kernel
theorem d_Nf_potential_78 : decode b_Nf_potential 78 = .ok (.iload 6, 2) := by decide +kernel
theorem d_Nf_potential_80 : decode b_Nf_potential 80 = .ok (.aload_n 0, 1) := by decide +kernel
theorem d_Nf_potential_81 : decode b_Nf_potential 81 = .ok (.getfield 46, 3) := by decide +kernel
theorem d_Nf_potential_84 : decode b_Nf_potential 84 = .ok (.iload 6, 2) := by decide +kernel
theorem d_Nf_potential_86 : decode b_Nf_potential 86 = .ok (.invokevirtual 154, 3) := by decide +kernel
theorem d_Nf_potential_89 : decode b_Nf_potential 89 = .ok (.lastore, 1) := by decide +kernel
theorem d_Nf_potential_90 : decode b_Nf_potential 90 = .ok (.iinc 6 1, 3) := by decide +kernel
theorem d_Nf_potential_93 : decode b_Nf_potential 93 = .ok (.goto (-31), 3) := by decide +kernel
theorem d_Nf_potential_96 : decode b_Nf_potential 96 = .ok (.aload_n 0, 1) := by decide +kernel
theorem d_Nf_potential_97 : decode b_Nf_potential 97 = .ok (.aload 4, 2) := by decide +kernel
theorem d_Nf_potential_99 : decode b_Nf_potential 99 = .ok (.iconst 0, 1) := by decide +kernel
theorem d_Nf_potential_100 : decode b_Nf_potential 100 = .ok (.invokevirtual 112, 3) := by decide +kernel
theorem d_Nf_potential_103 : decode b_Nf_potential 103 = .ok (.bipush (-5), 2) := by decide +kernel
theorem d_Nf_potential_105 : decode b_Nf_potential 105 = .ok (.if_icmp .ne 8, 3) := by decide +kernel
theorem d_Nf_potential_108 : decode b_Nf_potential 108 = .ok (.bipush (-5), 2) := by decide +kernel
theorem d_Nf_potential_110 : decode b_Nf_potential 110 = .ok (.goto 4, 3) := by decide +kernel
theorem d_Nf_potential_113 : decode b_Nf_potential 113 = .ok (.iconst (-1), 1) := by decide +kernel
theorem d_Nf_potential_114 : decode b_Nf_potential 114 = .ok (.ireturn, 1) := by decide +kernel
def q_Nf_potential_L62 (g4 : Nat) (kx96 : Mem → Prop) (post : Int32 → Mem → Prop) : Nat → Int32 → Mem → Prop
  | 0, _, _ => False
  | n + 1, x6, M => ((M.1 1 0) ≤ x6 → kx96 M) ∧ (¬ (M.1 1 0) ≤ x6 → q_Cli_aboveLeast x6 M (fun r10 M9 => vp_in x6 12 ∧ (∀ M11, M11 = wJ M9 31 x6.toNatClampNeg r10 → q_Nf_potential_L62 g4 kx96 post n (x6 + 1) M11)))
set_option maxHeartbeats 4000000 in
theorem s_Nf_potential_L62 {γ : Gm} {κ : Kp} {post : Int32 → Mem → Prop} {g4 : Nat} {kx96 : Mem → Prop} (C : Cx γ κ "NetForms" b_Nf_potential 7 3 (0, 0)) (R : Rt γ (some .int)) (h_g4 : g4 < 12) (hx96 : ∀ M', kx96 M' → G γ κ 7 (0, 0) (Gq γ κ (pI post)) 96 [(0, .ref (κ.1 + 0)), (4, .ref (κ.1 + (32 + 2 * g4)))] [] M') : ∀ (n : Nat) (x6 : Int32) (M : Mem), q_Nf_potential_L62 g4 kx96 post n x6 M → G γ κ 7 (0, 0) (Gq γ κ (pI post)) 62 [(0, .ref (κ.1 + 0)), (4, .ref (κ.1 + (32 + 2 * g4))), (6, .int x6)] [] M := by
  intro n
  induction n with
  | zero => intro x6 M hq; exact hq.elim
  | succ n ih =>
    intro x6 M hq
    unfold q_Nf_potential_L62 at hq
    refine G_iload C 2 d_Nf_potential_62 rfl ?_
    refine G_aload_n C 0 d_Nf_potential_64 rfl rfl ?_
    refine Gg_Nf_shape C wd_163 d_Nf_potential_65 ?_
    refine Gg_Net_points C wd_27 d_Nf_potential_68 ?_
    refine G_icmp_ge C (tgt := 96) d_Nf_potential_71 (by decide) (fun c => ?_) (fun c => ?_)
    · replace hq := hq.1 c
      exact G_sub [0, 1] (by rfl) (hx96 _ hq)
    · replace hq := hq.2 c
      refine G_aload_n C 0 d_Nf_potential_74 rfl rfl ?_
      refine Gg_Nf_made C wd_169 d_Nf_potential_75 ?_
      refine G_iload C 2 d_Nf_potential_78 rfl ?_
      refine G_aload_n C 0 d_Nf_potential_80 rfl rfl ?_
      refine Gg_Nf_climb C wd_168 d_Nf_potential_81 ?_
      refine G_iload C 2 d_Nf_potential_84 rfl ?_
      refine G_callV C (s_Cli_aboveLeast hq) v_Cli_aboveLeast i_Cli_aboveLeast z_Cli_aboveLeast wd_387 (by decide) rfl (k := 28) (ci := 1) (by decide) rfl rfl rfl (rest := [_, _]) (by rfl) (Nat.le_of_ble_eq_true rfl) d_Nf_potential_86 (kj_ (fun r10 M9 hq => ?_))
      refine G_lastore C (k := 31) (by decide) (fun _ _ => rfl) hq.1 d_Nf_potential_89 ?_
      replace hq := hq.2 _ rfl
      refine G_iinc C (v := _ + 1) (lv' := [(6, _), (0, _), (4, _)]) 2 d_Nf_potential_90 rfl rfl (by decide) rfl ?_
      refine G_goto C (tgt := 62) d_Nf_potential_93 (by decide) ?_
      exact G_sub [1, 2, 0] (by rfl) (ih _ _ hq)
def q_Nf_potential (a1 : Int32) (a2 : Int32) (M : Mem) (post : Int32 → Mem → Prop) : Prop := q_Nf_formAt a1 M (fun r2 M1 => q_Nf_formAt a2 M1 (fun r4 M3 => (r2 = none → post (-2 : Int32) M3) ∧ (∀ i5, r2 = some i5 → i5 < 12 ∧ ((r4 = none → post (-2 : Int32) M3) ∧ (∀ i6, r4 = some i6 → i6 < 12 ∧ (((M3.1 (32 + 2 * i5) 0) = (1 : Int32) → q_Cli_along i5 M3 (fun r8 M7 => (r8 = (-1 : Int32) → ∃ n12, q_Nf_potential_L62 i6 (fun M13 => q_Nf_giveMade i6 (0 : Int32) M13 (fun r15 M14 => (¬ r15 = (-5 : Int32) → post (-1 : Int32) M14) ∧ (r15 = (-5 : Int32) → post (-5 : Int32) M14))) post n12 (0 : Int32) M7) ∧ (¬ r8 = (-1 : Int32) → post r8 M7))) ∧ (¬ (M3.1 (32 + 2 * i5) 0) = (1 : Int32) → post (-3 : Int32) M3)))))))
set_option maxHeartbeats 4000000 in
theorem s_Nf_potential {l : Launch} {κ : Kp} {a1 : Int32} {a2 : Int32} {M : Mem} {post : Int32 → Mem → Prop} (hq : q_Nf_potential a1 a2 M post) : Ct l κ y_Nf_potential b_Nf_potential 7 (some .int) 3 [.ref (κ.1 + 0), .int a1, .int a2] M (pI post) := by
  refine Ct_of (by decide) (Nat.le_of_ble_eq_true rfl) (fun γ hγ C R => ?_)
  subst hγ
  unfold q_Nf_potential at hq
  show G γ κ 7 (0, 0) (Gq γ κ (pI post)) 0 [(0, .ref (κ.1 + 0)), (1, .int a1), (2, .int a2)] [] M
  refine G_aload_n C 0 d_Nf_potential_0 rfl rfl ?_
  refine G_iload_n C 1 d_Nf_potential_1 rfl rfl ?_
  refine G_callV C (s_Nf_formAt hq) v_Nf_formAt i_Nf_formAt z_Nf_formAt wd_257 (by decide) rfl (k := 0) (ci := 6) (by decide) rfl rfl rfl (rest := []) (by rfl) (Nat.le_of_ble_eq_true rfl) d_Nf_potential_2 (kf_ (fun r2 M1 hq => ?_))
  refine G_astore_nq C (lv' := [(3, _), (0, _), (1, _), (2, _)]) d_Nf_potential_5 rfl (by decide) rfl ?_
  refine G_aload_n C 1 d_Nf_potential_6 rfl rfl ?_
  refine G_iload_n C 3 d_Nf_potential_7 rfl rfl ?_
  refine G_callV C (s_Nf_formAt hq) v_Nf_formAt i_Nf_formAt z_Nf_formAt wd_257 (by decide) rfl (k := 0) (ci := 6) (by decide) rfl rfl rfl (rest := []) (by rfl) (Nat.le_of_ble_eq_true rfl) d_Nf_potential_8 (kf_ (fun r4 M3 hq => ?_))
  refine G_astoreq2 C (lv' := [(4, _), (3, _), (0, _), (1, _), (2, _)]) d_Nf_potential_11 (by decide) rfl ?_
  refine G_aload_nq C 1 d_Nf_potential_13 rfl rfl ?_
  refine G_ifnullq C (tgt := 22) d_Nf_potential_14 (by decide) (fun c => ?_) (fun i5 c => ?_)
  · replace hq := hq.1 c
    refine G_bipush C (v := -2) d_Nf_potential_22 (by decide) ?_
    exact G_iret C R d_Nf_potential_24 ⟨_, rfl, hq⟩
  · have hz := hq.2 i5 c
    clear hq
    subst c
    obtain ⟨h_i5, hq⟩ := hz
    refine G_aloadq C 0 d_Nf_potential_17 rfl ?_
    refine G_ifnonnullq C (tgt := 25) d_Nf_potential_19 (by decide) (fun i6 c => ?_) (fun c => ?_)
    · have hz := hq.2 i6 c
      clear hq
      subst c
      obtain ⟨h_i6, hq⟩ := hz
      refine G_aload_n C 1 d_Nf_potential_25 rfl rfl ?_
      refine Gg_Frm_degree C h_i5 wd_150 d_Nf_potential_26 ?_
      refine G_iconst C (v := 1) d_Nf_potential_29 (by decide) ?_
      refine G_icmp_eq C (tgt := 36) d_Nf_potential_30 (by decide) (fun c => ?_) (fun c => ?_)
      · replace hq := hq.1 c
        refine G_aload_n C 2 d_Nf_potential_36 rfl rfl ?_
        refine Gg_Nf_climb C wd_168 d_Nf_potential_37 ?_
        refine G_aload_n C 2 d_Nf_potential_40 rfl rfl ?_
        refine Gg_Nf_shape C wd_163 d_Nf_potential_41 ?_
        refine G_aload_n C 1 d_Nf_potential_44 rfl rfl ?_
        refine G_callV C (s_Cli_along h_i5 hq) v_Cli_along i_Cli_along z_Cli_along wd_378 (by decide) rfl (k := 28) (ci := 1) (by decide) rfl rfl rfl (rest := []) (by rfl) (Nat.le_of_ble_eq_true rfl) d_Nf_potential_45 (ki_ (fun r8 M7 hq => ?_))
        refine G_istore C (lv' := [(5, _), (4, _), (3, _), (0, _), (1, _), (2, _)]) d_Nf_potential_48 (by decide) rfl ?_
        refine G_iload C 0 d_Nf_potential_50 rfl ?_
        refine G_iconst C (v := -1) d_Nf_potential_52 (by decide) ?_
        refine G_icmp_eq C (tgt := 59) d_Nf_potential_53 (by decide) (fun c => ?_) (fun c => ?_)
        · replace hq := hq.1 c
          refine G_iconst C (v := 0) d_Nf_potential_59 (by decide) ?_
          refine G_istore C (lv' := [(6, _), (5, _), (4, _), (3, _), (0, _), (1, _), (2, _)]) d_Nf_potential_60 (by decide) rfl ?_
          obtain ⟨n12, hq⟩ := hq
          refine G_sub [4, 2, 0] (by rfl) (s_Nf_potential_L62 C R h_i6 ?_ n12 _ _ hq)
          · intro M13 hq
            refine G_aload_n C 0 d_Nf_potential_96 rfl rfl ?_
            refine G_aload C 1 d_Nf_potential_97 rfl ?_
            refine G_iconst C (v := 0) d_Nf_potential_99 (by decide) ?_
            refine G_callV C (s_Nf_giveMade h_i6 hq) v_Nf_giveMade i_Nf_giveMade z_Nf_giveMade wd_287 (by decide) rfl (k := 0) (ci := 6) (by decide) rfl rfl rfl (rest := []) (by rfl) (Nat.le_of_ble_eq_true rfl) d_Nf_potential_100 (ki_ (fun r15 M14 hq => ?_))
            refine G_bipush C (v := -5) d_Nf_potential_103 (by decide) ?_
            refine G_icmp_ne C (tgt := 113) d_Nf_potential_105 (by decide) (fun c => ?_) (fun c => ?_)
            · replace hq := hq.1 c
              refine G_iconst C (v := -1) d_Nf_potential_113 (by decide) ?_
              exact G_iret C R d_Nf_potential_114 ⟨_, rfl, hq⟩
            · replace hq := hq.2 c
              refine G_bipush C (v := -5) d_Nf_potential_108 (by decide) ?_
              refine G_goto C (tgt := 114) d_Nf_potential_110 (by decide) ?_
              exact G_iret C R d_Nf_potential_114 ⟨_, rfl, hq⟩
        · replace hq := hq.2 c
          refine G_iload C 0 d_Nf_potential_56 rfl ?_
          exact G_iret C R d_Nf_potential_58 ⟨_, rfl, hq⟩
      · replace hq := hq.2 c
        refine G_bipush C (v := -3) d_Nf_potential_33 (by decide) ?_
        exact G_iret C R d_Nf_potential_35 ⟨_, rfl, hq⟩
    · replace hq := hq.1 c
      refine G_bipush C (v := -2) d_Nf_potential_22 (by decide) ?_
      exact G_iret C R d_Nf_potential_24 ⟨_, rfl, hq⟩
theorem d_Nf_slopePart_0 : decode b_Nf_slopePart 0 = .ok (.aload_n 0, 1) := by decide +kernel
theorem d_Nf_slopePart_1 : decode b_Nf_slopePart 1 = .ok (.getfield 39, 3) := by decide +kernel
theorem d_Nf_slopePart_4 : decode b_Nf_slopePart 4 = .ok (.aload_n 0, 1) := by decide +kernel
theorem d_Nf_slopePart_5 : decode b_Nf_slopePart 5 = .ok (.getfield 10, 3) := by decide +kernel
theorem d_Nf_slopePart_8 : decode b_Nf_slopePart 8 = .ok (.getfield 147, 3) := by decide +kernel
theorem d_Nf_slopePart_11 : decode b_Nf_slopePart 11 = .ok (.invokevirtual 238, 3) := by decide +kernel
theorem d_Nf_slopePart_14 : decode b_Nf_slopePart 14 = .ok (.iconst 0, 1) := by decide +kernel
theorem d_Nf_slopePart_15 : decode b_Nf_slopePart 15 = .ok (.istore_n 3, 1) := by decide +kernel
theorem d_Nf_slopePart_16 : decode b_Nf_slopePart 16 = .ok (.iload_n 3, 1) := by decide +kernel
theorem d_Nf_slopePart_17 : decode b_Nf_slopePart 17 = .ok (.aload_n 0, 1) := by decide +kernel
theorem d_Nf_slopePart_18 : decode b_Nf_slopePart 18 = .ok (.getfield 10, 3) := by decide +kernel
theorem d_Nf_slopePart_21 : decode b_Nf_slopePart 21 = .ok (.getfield 71, 3) := by decide +kernel
theorem d_Nf_slopePart_24 : decode b_Nf_slopePart 24 = .ok (.if_icmp .ge 116, 3) := by decide +kernel
theorem d_Nf_slopePart_27 : decode b_Nf_slopePart 27 = .ok (.aload_n 0, 1) := by decide +kernel
theorem d_Nf_slopePart_28 : decode b_Nf_slopePart 28 = .ok (.getfield 10, 3) := by decide +kernel
theorem d_Nf_slopePart_31 : decode b_Nf_slopePart 31 = .ok (.getfield 252, 3) := by decide +kernel
theorem d_Nf_slopePart_34 : decode b_Nf_slopePart 34 = .ok (.iload_n 3, 1) := by decide +kernel
theorem d_Nf_slopePart_35 : decode b_Nf_slopePart 35 = .ok (.iaload, 1) := by decide +kernel
theorem d_Nf_slopePart_36 : decode b_Nf_slopePart 36 = .ok (.istore 4, 2) := by decide +kernel
theorem d_Nf_slopePart_38 : decode b_Nf_slopePart 38 = .ok (.aload_n 0, 1) := by decide +kernel
theorem d_Nf_slopePart_39 : decode b_Nf_slopePart 39 = .ok (.getfield 10, 3) := by decide +kernel
theorem d_Nf_slopePart_42 : decode b_Nf_slopePart 42 = .ok (.getfield 255, 3) := by decide +kernel
theorem d_Nf_slopePart_45 : decode b_Nf_slopePart 45 = .ok (.iload_n 3, 1) := by decide +kernel
theorem d_Nf_slopePart_46 : decode b_Nf_slopePart 46 = .ok (.iaload, 1) := by decide +kernel
theorem d_Nf_slopePart_47 : decode b_Nf_slopePart 47 = .ok (.istore 5, 2) := by decide +kernel
theorem d_Nf_slopePart_49 : decode b_Nf_slopePart 49 = .ok (.aload_n 0, 1) := by decide +kernel
theorem d_Nf_slopePart_50 : decode b_Nf_slopePart 50 = .ok (.getfield 39, 3) := by decide +kernel
theorem d_Nf_slopePart_53 : decode b_Nf_slopePart 53 = .ok (.iload 4, 2) := by decide +kernel
theorem d_Nf_slopePart_55 : decode b_Nf_slopePart 55 = .ok (.iload 4, 2) := by decide +kernel
theorem d_Nf_slopePart_57 : decode b_Nf_slopePart 57 = .ok (.lconst 1, 1) := by decide +kernel
theorem d_Nf_slopePart_58 : decode b_Nf_slopePart 58 = .ok (.invokevirtual 248, 3) := by decide +kernel
theorem d_Nf_slopePart_61 : decode b_Nf_slopePart 61 = .ok (.aload_n 0, 1) := by decide +kernel
theorem d_Nf_slopePart_62 : decode b_Nf_slopePart 62 = .ok (.getfield 39, 3) := by decide +kernel
theorem d_Nf_slopePart_65 : decode b_Nf_slopePart 65 = .ok (.iload 5, 2) := by decide +kernel
theorem d_Nf_slopePart_67 : decode b_Nf_slopePart 67 = .ok (.iload 5, 2) := by decide +kernel
theorem d_Nf_slopePart_69 : decode b_Nf_slopePart 69 = .ok (.lconst 1, 1) := by decide +kernel
theorem d_Nf_slopePart_70 : decode b_Nf_slopePart 70 = .ok (.invokevirtual 248, 3) := by decide +kernel
theorem d_Nf_slopePart_73 : decode b_Nf_slopePart 73 = .ok (.aload_n 0, 1) := by decide +kernel
theorem d_Nf_slopePart_74 : decode b_Nf_slopePart 74 = .ok (.getfield 39, 3) := by decide +kernel
theorem d_Nf_slopePart_77 : decode b_Nf_slopePart 77 = .ok (.iload 4, 2) := by decide +kernel
theorem d_Nf_slopePart_79 : decode b_Nf_slopePart 79 = .ok (.iload 5, 2) := by decide +kernel
theorem d_Nf_slopePart_81 : decode b_Nf_slopePart 81 = .ok (.ldc2_w 258, 3) := by decide +kernel
theorem d_Nf_slopePart_84 : decode b_Nf_slopePart 84 = .ok (.invokevirtual 248, 3) := by decide +kernel
theorem d_Nf_slopePart_87 : decode b_Nf_slopePart 87 = .ok (.aload_n 0, 1) := by decide +kernel
theorem d_Nf_slopePart_88 : decode b_Nf_slopePart 88 = .ok (.getfield 39, 3) := by decide +kernel
theorem d_Nf_slopePart_91 : decode b_Nf_slopePart 91 = .ok (.iload 5, 2) := by decide +kernel
theorem d_Nf_slopePart_93 : decode b_Nf_slopePart 93 = .ok (.iload 4, 2) := by decide +kernel
theorem d_Nf_slopePart_95 : decode b_Nf_slopePart 95 = .ok (.ldc2_w 258, 3) := by decide +kernel
theorem d_Nf_slopePart_98 : decode b_Nf_slopePart 98 = .ok (.invokevirtual 248, 3) := by decide +kernel
theorem d_Nf_slopePart_101 : decode b_Nf_slopePart 101 = .ok (.aload_n 0, 1) := by decide +kernel
theorem d_Nf_slopePart_102 : decode b_Nf_slopePart 102 = .ok (.getfield 39, 3) := by decide +kernel
theorem d_Nf_slopePart_105 : decode b_Nf_slopePart 105 = .ok (.iload 4, 2) := by decide +kernel
theorem d_Nf_slopePart_107 : decode b_Nf_slopePart 107 = .ok (.aload_n 1, 1) := by decide +kernel
theorem d_Nf_slopePart_108 : decode b_Nf_slopePart 108 = .ok (.getfield 104, 3) := by decide +kernel
theorem d_Nf_slopePart_111 : decode b_Nf_slopePart 111 = .ok (.iload_n 3, 1) := by decide +kernel
theorem d_Nf_slopePart_112 : decode b_Nf_slopePart 112 = .ok (.iaload, 1) := by decide +kernel
theorem d_Nf_slopePart_113 : decode b_Nf_slopePart 113 = .ok (.ineg, 1) := by decide +kernel
theorem d_Nf_slopePart_114 : decode b_Nf_slopePart 114 = .ok (.i2l, 1) := by decide +kernel
theorem d_Nf_slopePart_115 : decode b_Nf_slopePart 115 = .ok (.invokevirtual 260, 3) := by decide +kernel
theorem d_Nf_slopePart_118 : decode b_Nf_slopePart 118 = .ok (.aload_n 0, 1) := by decide +kernel
theorem d_Nf_slopePart_119 : decode b_Nf_slopePart 119 = .ok (.getfield 39, 3) := by decide +kernel
theorem d_Nf_slopePart_122 : decode b_Nf_slopePart 122 = .ok (.iload 5, 2) := by decide +kernel
theorem d_Nf_slopePart_124 : decode b_Nf_slopePart 124 = .ok (.aload_n 1, 1) := by decide +kernel
theorem d_Nf_slopePart_125 : decode b_Nf_slopePart 125 = .ok (.getfield 104, 3) := by decide +kernel
theorem d_Nf_slopePart_128 : decode b_Nf_slopePart 128 = .ok (.iload_n 3, 1) := by decide +kernel
theorem d_Nf_slopePart_129 : decode b_Nf_slopePart 129 = .ok (.iaload, 1) := by decide +kernel
theorem d_Nf_slopePart_130 : decode b_Nf_slopePart 130 = .ok (.i2l, 1) := by decide +kernel
theorem d_Nf_slopePart_131 : decode b_Nf_slopePart 131 = .ok (.invokevirtual 260, 3) := by decide +kernel
theorem d_Nf_slopePart_134 : decode b_Nf_slopePart 134 = .ok (.iinc 3 1, 3) := by decide +kernel
theorem d_Nf_slopePart_137 : decode b_Nf_slopePart 137 = .ok (.goto (-121), 3) := by decide +kernel
theorem d_Nf_slopePart_140 : decode b_Nf_slopePart 140 = .ok (.aload_n 0, 1) := by decide +kernel
theorem d_Nf_slopePart_141 : decode b_Nf_slopePart 141 = .ok (.getfield 39, 3) := by decide +kernel
theorem d_Nf_slopePart_144 : decode b_Nf_slopePart 144 = .ok (.invokevirtual 242, 3) := by decide +kernel
theorem d_Nf_slopePart_147 : decode b_Nf_slopePart 147 = .ok (.aload_n 0, 1) := by decide +kernel
theorem d_Nf_slopePart_148 : decode b_Nf_slopePart 148 = .ok (.getfield 39, 3) := by decide +kernel
theorem d_Nf_slopePart_151 : decode b_Nf_slopePart 151 = .ok (.aload_n 0, 1) := by decide +kernel
theorem d_Nf_slopePart_152 : decode b_Nf_slopePart 152 = .ok (.getfield 10, 3) := by decide +kernel
theorem d_Nf_slopePart_155 : decode b_Nf_slopePart 155 = .ok (.getfield 255, 3) := by decide +kernel
theorem d_Nf_slopePart_158 : decode b_Nf_slopePart 158 = .ok (.iload_n 2, 1) := by decide +kernel
theorem d_Nf_slopePart_159 : decode b_Nf_slopePart 159 = .ok (.iaload, 1) := by decide +kernel
theorem d_Nf_slopePart_160 : decode b_Nf_slopePart 160 = .ok (.invokevirtual 192, 3) := by decide +kernel
theorem d_Nf_slopePart_163 : decode b_Nf_slopePart 163 = .ok (.aload_n 0, 1) := by decide +kernel
theorem d_Nf_slopePart_164 : decode b_Nf_slopePart 164 = .ok (.getfield 39, 3) := by decide +kernel
theorem d_Nf_slopePart_167 : decode b_Nf_slopePart 167 = .ok (.aload_n 0, 1) := by decide +kernel
theorem d_Nf_slopePart_168 : decode b_Nf_slopePart 168 = .ok (.getfield 10, 3) := by decide +kernel
theorem d_Nf_slopePart_171 : decode b_Nf_slopePart 171 = .ok (.getfield 252, 3) := by decide +kernel
theorem d_Nf_slopePart_174 : decode b_Nf_slopePart 174 = .ok (.iload_n 2, 1) := by decide +kernel
theorem d_Nf_slopePart_175 : decode b_Nf_slopePart 175 = .ok (.iaload, 1) := by decide +kernel
theorem d_Nf_slopePart_176 : decode b_Nf_slopePart 176 = .ok (.invokevirtual 192, 3) := by decide +kernel
theorem d_Nf_slopePart_179 : decode b_Nf_slopePart 179 = .ok (.lsub, 1) := by decide +kernel
theorem d_Nf_slopePart_180 : decode b_Nf_slopePart 180 = .ok (.lreturn, 1) := by decide +kernel
def q_Nf_slopePart_L16 (g1 : Nat) (kx140 : Int32 → Mem → Prop) (post : Int64 → Mem → Prop) : Nat → Int32 → Int32 → Mem → Prop
  | 0, _, _, _ => False
  | n + 1, x2, x3, M => ((M.1 1 1) ≤ x3 → kx140 x2 M) ∧ (¬ (M.1 1 1) ≤ x3 → vp_in x3 12 ∧ (vp_in x3 12 ∧ (q_Bal_add (M.1 2 x3.toNatClampNeg) (M.1 2 x3.toNatClampNeg) (1 : Int64) M (fun M2 => q_Bal_add (M.1 3 x3.toNatClampNeg) (M.1 3 x3.toNatClampNeg) (1 : Int64) M2 (fun M3 => q_Bal_add (M.1 2 x3.toNatClampNeg) (M.1 3 x3.toNatClampNeg) (-1 : Int64) M3 (fun M4 => q_Bal_add (M.1 3 x3.toNatClampNeg) (M.1 2 x3.toNatClampNeg) (-1 : Int64) M4 (fun M5 => vp_in x3 12 ∧ (q_Bal_addDue (M.1 2 x3.toNatClampNeg) ((-(M5.1 (33 + 2 * g1) x3.toNatClampNeg)).toInt64) M5 (fun M6 => vp_in x3 12 ∧ (q_Bal_addDue (M.1 3 x3.toNatClampNeg) ((M6.1 (33 + 2 * g1) x3.toNatClampNeg).toInt64) M6 (fun M7 => q_Nf_slopePart_L16 g1 kx140 post n x2 (x3 + 1) M7)))))))))))
set_option maxHeartbeats 4000000 in
theorem s_Nf_slopePart_L16 {γ : Gm} {κ : Kp} {post : Int64 → Mem → Prop} {g1 : Nat} {kx140 : Int32 → Mem → Prop} (C : Cx γ κ "NetForms" b_Nf_slopePart 6 3 (0, 0)) (R : Rt γ (some .long)) (h_g1 : g1 < 12) (hx140 : ∀ y1 M', kx140 y1 M' → G γ κ 6 (0, 0) (Gq γ κ (pJ post)) 140 [(0, .ref (κ.1 + 0)), (2, .int y1)] [] M') : ∀ (n : Nat) (x2 : Int32) (x3 : Int32) (M : Mem), q_Nf_slopePart_L16 g1 kx140 post n x2 x3 M → G γ κ 6 (0, 0) (Gq γ κ (pJ post)) 16 [(0, .ref (κ.1 + 0)), (1, .ref (κ.1 + (32 + 2 * g1))), (2, .int x2), (3, .int x3)] [] M := by
  intro n
  induction n with
  | zero => intro x2 x3 M hq; exact hq.elim
  | succ n ih =>
    intro x2 x3 M hq
    unfold q_Nf_slopePart_L16 at hq
    refine G_iload_n C 3 d_Nf_slopePart_16 rfl rfl ?_
    refine G_aload_n C 0 d_Nf_slopePart_17 rfl rfl ?_
    refine Gg_Nf_shape C wd_163 d_Nf_slopePart_18 ?_
    refine Gg_Net_edges C wd_31 d_Nf_slopePart_21 ?_
    refine G_icmp_ge C (tgt := 140) d_Nf_slopePart_24 (by decide) (fun c => ?_) (fun c => ?_)
    · replace hq := hq.1 c
      exact G_sub [0, 2] (by rfl) (hx140 _ _ hq)
    · replace hq := hq.2 c
      refine G_aload_n C 0 d_Nf_slopePart_27 rfl rfl ?_
      refine Gg_Nf_shape C wd_163 d_Nf_slopePart_28 ?_
      refine Gg_Net_begins C wd_37 d_Nf_slopePart_31 ?_
      refine G_iload_n C 3 d_Nf_slopePart_34 rfl rfl ?_
      refine G_iaload C (k := 2) (by decide) (fun _ _ => rfl) hq.1 d_Nf_slopePart_35 ?_
      replace hq := hq.2
      refine G_istore C (lv' := [(4, _), (0, _), (1, _), (2, _), (3, _)]) d_Nf_slopePart_36 (by decide) rfl ?_
      refine G_aload_n C 1 d_Nf_slopePart_38 rfl rfl ?_
      refine Gg_Nf_shape C wd_163 d_Nf_slopePart_39 ?_
      refine Gg_Net_ends C wd_41 d_Nf_slopePart_42 ?_
      refine G_iload_n C 4 d_Nf_slopePart_45 rfl rfl ?_
      refine G_iaload C (k := 3) (by decide) (fun _ _ => rfl) hq.1 d_Nf_slopePart_46 ?_
      replace hq := hq.2
      refine G_istore C (lv' := [(5, _), (4, _), (0, _), (1, _), (2, _), (3, _)]) d_Nf_slopePart_47 (by decide) rfl ?_
      refine G_aload_n C 2 d_Nf_slopePart_49 rfl rfl ?_
      refine Gg_Nf_balance C wd_167 d_Nf_slopePart_50 ?_
      refine G_iload C 1 d_Nf_slopePart_53 rfl ?_
      refine G_iload C 1 d_Nf_slopePart_55 rfl ?_
      refine G_lconst C (v := 1) d_Nf_slopePart_57 (by decide) ?_
      refine G_callV C (s_Bal_add hq) v_Bal_add i_Bal_add z_Bal_add wd_359 (by decide) rfl (k := 15) (ci := 0) (by decide) rfl rfl rfl (rest := []) (by rfl) (Nat.le_of_ble_eq_true rfl) d_Nf_slopePart_58 (kv_ (fun M2 hq => ?_))
      refine G_aload_n C 2 d_Nf_slopePart_61 rfl rfl ?_
      refine Gg_Nf_balance C wd_167 d_Nf_slopePart_62 ?_
      refine G_iload C 0 d_Nf_slopePart_65 rfl ?_
      refine G_iload C 0 d_Nf_slopePart_67 rfl ?_
      refine G_lconst C (v := 1) d_Nf_slopePart_69 (by decide) ?_
      refine G_callV C (s_Bal_add hq) v_Bal_add i_Bal_add z_Bal_add wd_359 (by decide) rfl (k := 15) (ci := 0) (by decide) rfl rfl rfl (rest := []) (by rfl) (Nat.le_of_ble_eq_true rfl) d_Nf_slopePart_70 (kv_ (fun M3 hq => ?_))
      refine G_aload_n C 2 d_Nf_slopePart_73 rfl rfl ?_
      refine Gg_Nf_balance C wd_167 d_Nf_slopePart_74 ?_
      refine G_iload C 1 d_Nf_slopePart_77 rfl ?_
      refine G_iload C 0 d_Nf_slopePart_79 rfl ?_
      refine G_ldc2 C (v := -1) wd_400 d_Nf_slopePart_81 ?_
      refine G_callV C (s_Bal_add hq) v_Bal_add i_Bal_add z_Bal_add wd_359 (by decide) rfl (k := 15) (ci := 0) (by decide) rfl rfl rfl (rest := []) (by rfl) (Nat.le_of_ble_eq_true rfl) d_Nf_slopePart_84 (kv_ (fun M4 hq => ?_))
      refine G_aload_n C 2 d_Nf_slopePart_87 rfl rfl ?_
      refine Gg_Nf_balance C wd_167 d_Nf_slopePart_88 ?_
      refine G_iload C 0 d_Nf_slopePart_91 rfl ?_
      refine G_iload C 1 d_Nf_slopePart_93 rfl ?_
      refine G_ldc2 C (v := -1) wd_400 d_Nf_slopePart_95 ?_
      refine G_callV C (s_Bal_add hq) v_Bal_add i_Bal_add z_Bal_add wd_359 (by decide) rfl (k := 15) (ci := 0) (by decide) rfl rfl rfl (rest := []) (by rfl) (Nat.le_of_ble_eq_true rfl) d_Nf_slopePart_98 (kv_ (fun M5 hq => ?_))
      refine G_aload_n C 2 d_Nf_slopePart_101 rfl rfl ?_
      refine Gg_Nf_balance C wd_167 d_Nf_slopePart_102 ?_
      refine G_iload C 1 d_Nf_slopePart_105 rfl ?_
      refine G_aload_n C 3 d_Nf_slopePart_107 rfl rfl ?_
      refine Gg_Frm_numbers C h_g1 wd_153 d_Nf_slopePart_108 ?_
      refine G_iload_n C 5 d_Nf_slopePart_111 rfl rfl ?_
      refine G_iaload C (by have := h_g1; omega) (sh_formA κ h_g1) hq.1 d_Nf_slopePart_112 ?_
      replace hq := hq.2
      refine G_ineg C d_Nf_slopePart_113 ?_
      refine G_i2l C d_Nf_slopePart_114 ?_
      refine G_callV C (s_Bal_addDue hq) v_Bal_addDue i_Bal_addDue z_Bal_addDue wd_401 (by decide) rfl (k := 15) (ci := 0) (by decide) rfl rfl rfl (rest := []) (by rfl) (Nat.le_of_ble_eq_true rfl) d_Nf_slopePart_115 (kv_ (fun M6 hq => ?_))
      refine G_aload_n C 2 d_Nf_slopePart_118 rfl rfl ?_
      refine Gg_Nf_balance C wd_167 d_Nf_slopePart_119 ?_
      refine G_iload C 0 d_Nf_slopePart_122 rfl ?_
      refine G_aload_n C 3 d_Nf_slopePart_124 rfl rfl ?_
      refine Gg_Frm_numbers C h_g1 wd_153 d_Nf_slopePart_125 ?_
      refine G_iload_n C 5 d_Nf_slopePart_128 rfl rfl ?_
      refine G_iaload C (by have := h_g1; omega) (sh_formA κ h_g1) hq.1 d_Nf_slopePart_129 ?_
      replace hq := hq.2
      refine G_i2l C d_Nf_slopePart_130 ?_
      refine G_callV C (s_Bal_addDue hq) v_Bal_addDue i_Bal_addDue z_Bal_addDue wd_401 (by decide) rfl (k := 15) (ci := 0) (by decide) rfl rfl rfl (rest := []) (by rfl) (Nat.le_of_ble_eq_true rfl) d_Nf_slopePart_131 (kv_ (fun M7 hq => ?_))
      refine G_iinc C (v := _ + 1) (lv' := [(3, _), (5, _), (4, _), (0, _), (1, _), (2, _)]) 5 d_Nf_slopePart_134 rfl rfl (by decide) rfl ?_
      refine G_goto C (tgt := 16) d_Nf_slopePart_137 (by decide) ?_
      exact G_sub [3, 4, 5, 0] (by rfl) (ih _ _ _ hq)
def q_Nf_slopePart (f1 : Nat) (a2 : Int32) (M : Mem) (post : Int64 → Mem → Prop) : Prop := q_Bal_begin (M.1 1 0) M (fun M1 => ∃ n8, q_Nf_slopePart_L16 f1 (fun x9 M10 => q_Bal_solve M10 (fun M11 => vp_in x9 12 ∧ (q_Bal_above (M11.1 3 x9.toNatClampNeg) M11 (fun r13 M12 => vp_in x9 12 ∧ (q_Bal_above (M12.1 2 x9.toNatClampNeg) M12 (fun r15 M14 => post (r13 - r15) M14)))))) post n8 a2 (0 : Int32) M1)
set_option maxHeartbeats 4000000 in
theorem s_Nf_slopePart {l : Launch} {κ : Kp} {f1 : Nat} {a2 : Int32} {M : Mem} {post : Int64 → Mem → Prop} (h_f1 : f1 < 12) (hq : q_Nf_slopePart f1 a2 M post) : Ct l κ y_Nf_slopePart b_Nf_slopePart 6 (some .long) 3 [.ref (κ.1 + 0), .ref (κ.1 + (32 + 2 * f1)), .int a2] M (pJ post) := by
  refine Ct_of (by decide) (Nat.le_of_ble_eq_true rfl) (fun γ hγ C R => ?_)
  subst hγ
  unfold q_Nf_slopePart at hq
  show G γ κ 6 (0, 0) (Gq γ κ (pJ post)) 0 [(0, .ref (κ.1 + 0)), (1, .ref (κ.1 + (32 + 2 * f1))), (2, .int a2)] [] M
  refine G_aload_n C 0 d_Nf_slopePart_0 rfl rfl ?_
  refine Gg_Nf_balance C wd_167 d_Nf_slopePart_1 ?_
  refine G_aload_n C 0 d_Nf_slopePart_4 rfl rfl ?_
  refine Gg_Nf_shape C wd_163 d_Nf_slopePart_5 ?_
  refine Gg_Net_points C wd_27 d_Nf_slopePart_8 ?_
  refine G_callV C (s_Bal_begin hq) v_Bal_begin i_Bal_begin z_Bal_begin wd_349 (by decide) rfl (k := 15) (ci := 0) (by decide) rfl rfl rfl (rest := []) (by rfl) (Nat.le_of_ble_eq_true rfl) d_Nf_slopePart_11 (kv_ (fun M1 hq => ?_))
  refine G_iconst C (v := 0) d_Nf_slopePart_14 (by decide) ?_
  refine G_istore_n C (lv' := [(3, _), (0, _), (1, _), (2, _)]) d_Nf_slopePart_15 rfl (by decide) rfl ?_
  obtain ⟨n8, hq⟩ := hq
  refine G_sub [1, 2, 3, 0] (by rfl) (s_Nf_slopePart_L16 C R h_f1 ?_ n8 _ _ _ hq)
  · intro x9 M10 hq
    refine G_aload_n C 0 d_Nf_slopePart_140 rfl rfl ?_
    refine Gg_Nf_balance C wd_167 d_Nf_slopePart_141 ?_
    refine G_callV C (s_Bal_solve hq) v_Bal_solve i_Bal_solve z_Bal_solve wd_363 (by decide) rfl (k := 15) (ci := 0) (by decide) rfl rfl rfl (rest := []) (by rfl) (Nat.le_of_ble_eq_true rfl) d_Nf_slopePart_144 (kv_ (fun M11 hq => ?_))
    refine G_aload_n C 0 d_Nf_slopePart_147 rfl rfl ?_
    refine Gg_Nf_balance C wd_167 d_Nf_slopePart_148 ?_
    refine G_aload_n C 0 d_Nf_slopePart_151 rfl rfl ?_
    refine Gg_Nf_shape C wd_163 d_Nf_slopePart_152 ?_
    refine Gg_Net_ends C wd_41 d_Nf_slopePart_155 ?_
    refine G_iload_n C 1 d_Nf_slopePart_158 rfl rfl ?_
    refine G_iaload C (k := 3) (by decide) (fun _ _ => rfl) hq.1 d_Nf_slopePart_159 ?_
    replace hq := hq.2
    refine G_callV C (s_Bal_above hq) v_Bal_above i_Bal_above z_Bal_above wd_405 (by decide) rfl (k := 15) (ci := 0) (by decide) rfl rfl rfl (rest := []) (by rfl) (Nat.le_of_ble_eq_true rfl) d_Nf_slopePart_160 (kj_ (fun r13 M12 hq => ?_))
    refine G_aload_n C 0 d_Nf_slopePart_163 rfl rfl ?_
    refine Gg_Nf_balance C wd_167 d_Nf_slopePart_164 ?_
    refine G_aload_n C 0 d_Nf_slopePart_167 rfl rfl ?_
    refine Gg_Nf_shape C wd_163 d_Nf_slopePart_168 ?_
    refine Gg_Net_begins C wd_37 d_Nf_slopePart_171 ?_
    refine G_iload_n C 1 d_Nf_slopePart_174 rfl rfl ?_
    refine G_iaload C (k := 2) (by decide) (fun _ _ => rfl) hq.1 d_Nf_slopePart_175 ?_
    replace hq := hq.2
    refine G_callV C (s_Bal_above hq) v_Bal_above i_Bal_above z_Bal_above wd_405 (by decide) rfl (k := 15) (ci := 0) (by decide) rfl rfl rfl (rest := [_]) (by rfl) (Nat.le_of_ble_eq_true rfl) d_Nf_slopePart_176 (kj_ (fun r15 M14 hq => ?_))
    refine G_lsub C d_Nf_slopePart_179 ?_
    exact G_lret C R d_Nf_slopePart_180 ⟨_, rfl, hq⟩
theorem d_Nf_turnPart_0 : decode b_Nf_turnPart 0 = .ok (.aload_n 0, 1) := by decide +kernel
theorem d_Nf_turnPart_1 : decode b_Nf_turnPart 1 = .ok (.getfield 39, 3) := by decide +kernel
theorem d_Nf_turnPart_4 : decode b_Nf_turnPart 4 = .ok (.aload_n 0, 1) := by decide +kernel
theorem d_Nf_turnPart_5 : decode b_Nf_turnPart 5 = .ok (.getfield 10, 3) := by decide +kernel
theorem d_Nf_turnPart_8 : decode b_Nf_turnPart 8 = .ok (.getfield 81, 3) := by decide +kernel
theorem d_Nf_turnPart_11 : decode b_Nf_turnPart 11 = .ok (.invokevirtual 238, 3) := by decide +kernel
theorem d_Nf_turnPart_14 : decode b_Nf_turnPart 14 = .ok (.aload_n 0, 1) := by decide +kernel
theorem d_Nf_turnPart_15 : decode b_Nf_turnPart 15 = .ok (.invokevirtual 239, 3) := by decide +kernel
theorem d_Nf_turnPart_18 : decode b_Nf_turnPart 18 = .ok (.iconst 0, 1) := by decide +kernel
theorem d_Nf_turnPart_19 : decode b_Nf_turnPart 19 = .ok (.istore_n 3, 1) := by decide +kernel
theorem d_Nf_turnPart_20 : decode b_Nf_turnPart 20 = .ok (.iload_n 3, 1) := by decide +kernel
theorem d_Nf_turnPart_21 : decode b_Nf_turnPart 21 = .ok (.aload_n 0, 1) := by decide +kernel
theorem d_Nf_turnPart_22 : decode b_Nf_turnPart 22 = .ok (.getfield 10, 3) := by decide +kernel
theorem d_Nf_turnPart_25 : decode b_Nf_turnPart 25 = .ok (.getfield 81, 3) := by decide +kernel
theorem d_Nf_turnPart_28 : decode b_Nf_turnPart 28 = .ok (.if_icmp .ge 59, 3) := by decide +kernel
theorem d_Nf_turnPart_31 : decode b_Nf_turnPart 31 = .ok (.iconst 0, 1) := by decide +kernel
theorem d_Nf_turnPart_32 : decode b_Nf_turnPart 32 = .ok (.istore 4, 2) := by decide +kernel
theorem d_Nf_turnPart_34 : decode b_Nf_turnPart 34 = .ok (.iload 4, 2) := by decide +kernel
theorem d_Nf_turnPart_36 : decode b_Nf_turnPart 36 = .ok (.aload_n 0, 1) := by decide +kernel
theorem d_Nf_turnPart_37 : decode b_Nf_turnPart 37 = .ok (.getfield 10, 3) := by decide +kernel
theorem d_Nf_turnPart_40 : decode b_Nf_turnPart 40 = .ok (.getfield 71, 3) := by decide +kernel
theorem d_Nf_turnPart_43 : decode b_Nf_turnPart 43 = .ok (.if_icmp .ge 38, 3) := by decide +kernel
theorem d_Nf_turnPart_46 : decode b_Nf_turnPart 46 = .ok (.aload_n 0, 1) := by decide +kernel
theorem d_Nf_turnPart_47 : decode b_Nf_turnPart 47 = .ok (.getfield 39, 3) := by decide +kernel
theorem d_Nf_turnPart_50 : decode b_Nf_turnPart 50 = .ok (.iload_n 3, 1) := by decide +kernel
theorem d_Nf_turnPart_51 : decode b_Nf_turnPart 51 = .ok (.aload_n 0, 1) := by decide +kernel
theorem d_Nf_turnPart_52 : decode b_Nf_turnPart 52 = .ok (.getfield 10, 3) := by decide +kernel
theorem d_Nf_turnPart_55 : decode b_Nf_turnPart 55 = .ok (.iconst 2, 1) := by decide +kernel
theorem d_Nf_turnPart_56 : decode b_Nf_turnPart 56 = .ok (.iload_n 3, 1) := by decide +kernel
theorem d_Nf_turnPart_57 : decode b_Nf_turnPart 57 = .ok (.iload 4, 2) := by decide +kernel
theorem d_Nf_turnPart_59 : decode b_Nf_turnPart 59 = .ok (.invokevirtual 232, 3) := by decide +kernel
theorem d_Nf_turnPart_62 : decode b_Nf_turnPart 62 = .ok (.i2l, 1) := by decide +kernel
theorem d_Nf_turnPart_63 : decode b_Nf_turnPart 63 = .ok (.aload_n 1, 1) := by decide +kernel
theorem d_Nf_turnPart_64 : decode b_Nf_turnPart 64 = .ok (.getfield 104, 3) := by decide +kernel
theorem d_Nf_turnPart_67 : decode b_Nf_turnPart 67 = .ok (.iload 4, 2) := by decide +kernel
theorem d_Nf_turnPart_69 : decode b_Nf_turnPart 69 = .ok (.iaload, 1) := by decide +kernel
theorem d_Nf_turnPart_70 : decode b_Nf_turnPart 70 = .ok (.i2l, 1) := by decide +kernel
theorem d_Nf_turnPart_71 : decode b_Nf_turnPart 71 = .ok (.lmul, 1) := by decide +kernel
theorem d_Nf_turnPart_72 : decode b_Nf_turnPart 72 = .ok (.invokevirtual 260, 3) := by decide +kernel
theorem d_Nf_turnPart_75 : decode b_Nf_turnPart 75 = .ok (.iinc 4 1, 3) := by decide +kernel
theorem d_Nf_turnPart_78 : decode b_Nf_turnPart 78 = .ok (.goto (-44), 3) := by decide +kernel
theorem d_Nf_turnPart_81 : decode b_Nf_turnPart 81 = .ok (.iinc 3 1, 3) := by decide +kernel
theorem d_Nf_turnPart_84 : decode b_Nf_turnPart 84 = .ok (.goto (-64), 3) := by decide +kernel
theorem d_Nf_turnPart_87 : decode b_Nf_turnPart 87 = .ok (.aload_n 0, 1) := by decide +kernel
theorem d_Nf_turnPart_88 : decode b_Nf_turnPart 88 = .ok (.getfield 39, 3) := by decide +kernel
theorem d_Nf_turnPart_91 : decode b_Nf_turnPart 91 = .ok (.invokevirtual 242, 3) := by decide +kernel
theorem d_Nf_turnPart_94 : decode b_Nf_turnPart 94 = .ok (.lconst 0, 1) := by decide +kernel
theorem d_Nf_turnPart_95 : decode b_Nf_turnPart 95 = .ok (.lstore_n 3, 1) := by decide +kernel
theorem d_Nf_turnPart_96 : decode b_Nf_turnPart 96 = .ok (.iconst 0, 1) := by decide +kernel
theorem d_Nf_turnPart_97 : decode b_Nf_turnPart 97 = .ok (.istore 5, 2) := by decide +kernel
theorem d_Nf_turnPart_99 : decode b_Nf_turnPart 99 = .ok (.iload 5, 2) := by decide +kernel
theorem d_Nf_turnPart_101 : decode b_Nf_turnPart 101 = .ok (.aload_n 0, 1) := by decide +kernel
theorem d_Nf_turnPart_102 : decode b_Nf_turnPart 102 = .ok (.getfield 10, 3) := by decide +kernel
theorem d_Nf_turnPart_105 : decode b_Nf_turnPart 105 = .ok (.getfield 81, 3) := by decide +kernel
theorem d_Nf_turnPart_108 : decode b_Nf_turnPart 108 = .ok (.if_icmp .ge 34, 3) := by decide +kernel
theorem d_Nf_turnPart_111 : decode b_Nf_turnPart 111 = .ok (.lload_n 3, 1) := by decide +kernel
theorem d_Nf_turnPart_112 : decode b_Nf_turnPart 112 = .ok (.aload_n 0, 1) := by decide +kernel
theorem d_Nf_turnPart_113 : decode b_Nf_turnPart 113 = .ok (.getfield 10, 3) := by decide +kernel
theorem d_Nf_turnPart_116 : decode b_Nf_turnPart 116 = .ok (.iconst 2, 1) := by decide +kernel
theorem d_Nf_turnPart_117 : decode b_Nf_turnPart 117 = .ok (.iload 5, 2) := by decide +kernel
theorem d_Nf_turnPart_119 : decode b_Nf_turnPart 119 = .ok (.iload_n 2, 1) := by decide +kernel
theorem d_Nf_turnPart_120 : decode b_Nf_turnPart 120 = .ok (.invokevirtual 232, 3) := by decide +kernel
theorem d_Nf_turnPart_123 : decode b_Nf_turnPart 123 = .ok (.i2l, 1) := by decide +kernel
theorem d_Nf_turnPart_124 : decode b_Nf_turnPart 124 = .ok (.aload_n 0, 1) := by decide +kernel
theorem d_Nf_turnPart_125 : decode b_Nf_turnPart 125 = .ok (.getfield 39, 3) := by decide +kernel
theorem d_Nf_turnPart_128 : decode b_Nf_turnPart 128 = .ok (.iload 5, 2) := by decide +kernel
theorem d_Nf_turnPart_130 : decode b_Nf_turnPart 130 = .ok (.invokevirtual 192, 3) := by decide +kernel
theorem d_Nf_turnPart_133 : decode b_Nf_turnPart 133 = .ok (.lmul, 1) := by decide +kernel
theorem d_Nf_turnPart_134 : decode b_Nf_turnPart 134 = .ok (.ladd, 1) := by decide +kernel
theorem d_Nf_turnPart_135 : decode b_Nf_turnPart 135 = .ok (.lstore_n 3, 1) := by decide +kernel
theorem d_Nf_turnPart_136 : decode b_Nf_turnPart 136 = .ok (.iinc 5 1, 3) := by decide +kernel
theorem d_Nf_turnPart_139 : decode b_Nf_turnPart 139 = .ok (.goto (-40), 3) := by decide +kernel
theorem d_Nf_turnPart_142 : decode b_Nf_turnPart 142 = .ok (.lload_n 3, 1) := by decide +kernel
theorem d_Nf_turnPart_143 : decode b_Nf_turnPart 143 = .ok (.lreturn, 1) := by decide +kernel
def q_Nf_turnPart_L34 (g1 : Nat) (kx81 : Int32 → Int32 → Mem → Prop) (post : Int64 → Mem → Prop) : Nat → Int32 → Int32 → Int32 → Mem → Prop
  | 0, _, _, _, _ => False
  | n + 1, x2, x3, x4, M => ((M.1 1 1) ≤ x4 → kx81 x2 x3 M) ∧ (¬ (M.1 1 1) ≤ x4 → q_Net_signOf (2 : Int32) x3 x4 M (fun r4 M3 => vp_in x4 12 ∧ (q_Bal_addDue x3 (r4.toInt64 * ((M3.1 (33 + 2 * g1) x4.toNatClampNeg).toInt64)) M3 (fun M5 => q_Nf_turnPart_L34 g1 kx81 post n x2 x3 (x4 + 1) M5))))
set_option maxHeartbeats 4000000 in
theorem s_Nf_turnPart_L34 {γ : Gm} {κ : Kp} {post : Int64 → Mem → Prop} {g1 : Nat} {kx81 : Int32 → Int32 → Mem → Prop} (C : Cx γ κ "NetForms" b_Nf_turnPart 6 3 (0, 0)) (R : Rt γ (some .long)) (h_g1 : g1 < 12) (hx81 : ∀ y2 y3 M', kx81 y2 y3 M' → G γ κ 6 (0, 0) (Gq γ κ (pJ post)) 81 [(0, .ref (κ.1 + 0)), (1, .ref (κ.1 + (32 + 2 * g1))), (2, .int y2), (3, .int y3)] [] M') : ∀ (n : Nat) (x2 : Int32) (x3 : Int32) (x4 : Int32) (M : Mem), q_Nf_turnPart_L34 g1 kx81 post n x2 x3 x4 M → G γ κ 6 (0, 0) (Gq γ κ (pJ post)) 34 [(0, .ref (κ.1 + 0)), (1, .ref (κ.1 + (32 + 2 * g1))), (2, .int x2), (3, .int x3), (4, .int x4)] [] M := by
  intro n
  induction n with
  | zero => intro x2 x3 x4 M hq; exact hq.elim
  | succ n ih =>
    intro x2 x3 x4 M hq
    unfold q_Nf_turnPart_L34 at hq
    refine G_iload C 4 d_Nf_turnPart_34 rfl ?_
    refine G_aload_n C 0 d_Nf_turnPart_36 rfl rfl ?_
    refine Gg_Nf_shape C wd_163 d_Nf_turnPart_37 ?_
    refine Gg_Net_edges C wd_31 d_Nf_turnPart_40 ?_
    refine G_icmp_ge C (tgt := 81) d_Nf_turnPart_43 (by decide) (fun c => ?_) (fun c => ?_)
    · replace hq := hq.1 c
      exact G_sub [0, 1, 2, 3] (by rfl) (hx81 _ _ _ hq)
    · replace hq := hq.2 c
      refine G_aload_n C 0 d_Nf_turnPart_46 rfl rfl ?_
      refine Gg_Nf_balance C wd_167 d_Nf_turnPart_47 ?_
      refine G_iload_n C 3 d_Nf_turnPart_50 rfl rfl ?_
      refine G_aload_n C 0 d_Nf_turnPart_51 rfl rfl ?_
      refine Gg_Nf_shape C wd_163 d_Nf_turnPart_52 ?_
      refine G_iconst C (v := 2) d_Nf_turnPart_55 (by decide) ?_
      refine G_iload_n C 3 d_Nf_turnPart_56 rfl rfl ?_
      refine G_iload C 4 d_Nf_turnPart_57 rfl ?_
      refine G_callV C (s_Net_signOf hq) v_Net_signOf i_Net_signOf z_Net_signOf wd_283 (by decide) rfl (k := 1) (ci := 3) (by decide) rfl rfl rfl (rest := [_, _]) (by rfl) (Nat.le_of_ble_eq_true rfl) d_Nf_turnPart_59 (ki_ (fun r4 M3 hq => ?_))
      refine G_i2l C d_Nf_turnPart_62 ?_
      refine G_aload_n C 1 d_Nf_turnPart_63 rfl rfl ?_
      refine Gg_Frm_numbers C h_g1 wd_153 d_Nf_turnPart_64 ?_
      refine G_iload C 4 d_Nf_turnPart_67 rfl ?_
      refine G_iaload C (by have := h_g1; omega) (sh_formA κ h_g1) hq.1 d_Nf_turnPart_69 ?_
      replace hq := hq.2
      refine G_i2l C d_Nf_turnPart_70 ?_
      refine G_lmul C d_Nf_turnPart_71 ?_
      refine G_callV C (s_Bal_addDue hq) v_Bal_addDue i_Bal_addDue z_Bal_addDue wd_401 (by decide) rfl (k := 15) (ci := 0) (by decide) rfl rfl rfl (rest := []) (by rfl) (Nat.le_of_ble_eq_true rfl) d_Nf_turnPart_72 (kv_ (fun M5 hq => ?_))
      refine G_iinc C (v := _ + 1) (lv' := [(4, _), (0, _), (1, _), (2, _), (3, _)]) 4 d_Nf_turnPart_75 rfl rfl (by decide) rfl ?_
      refine G_goto C (tgt := 34) d_Nf_turnPart_78 (by decide) ?_
      exact G_sub [1, 2, 3, 4, 0] (by rfl) (ih _ _ _ _ hq)
def q_Nf_turnPart_L20 (g1 : Nat) (kx87 : Int32 → Mem → Prop) (post : Int64 → Mem → Prop) : Nat → Int32 → Int32 → Mem → Prop
  | 0, _, _, _ => False
  | n + 1, x2, x3, M => ((M.1 1 2) ≤ x3 → kx87 x2 M) ∧ (¬ (M.1 1 2) ≤ x3 → ∃ n6, q_Nf_turnPart_L34 g1 (fun x7 x8 M9 => q_Nf_turnPart_L20 g1 kx87 post n x7 (x8 + 1) M9) post n6 x2 x3 (0 : Int32) M)
set_option maxHeartbeats 4000000 in
theorem s_Nf_turnPart_L20 {γ : Gm} {κ : Kp} {post : Int64 → Mem → Prop} {g1 : Nat} {kx87 : Int32 → Mem → Prop} (C : Cx γ κ "NetForms" b_Nf_turnPart 6 3 (0, 0)) (R : Rt γ (some .long)) (h_g1 : g1 < 12) (hx87 : ∀ y1 M', kx87 y1 M' → G γ κ 6 (0, 0) (Gq γ κ (pJ post)) 87 [(0, .ref (κ.1 + 0)), (2, .int y1)] [] M') : ∀ (n : Nat) (x2 : Int32) (x3 : Int32) (M : Mem), q_Nf_turnPart_L20 g1 kx87 post n x2 x3 M → G γ κ 6 (0, 0) (Gq γ κ (pJ post)) 20 [(0, .ref (κ.1 + 0)), (1, .ref (κ.1 + (32 + 2 * g1))), (2, .int x2), (3, .int x3)] [] M := by
  intro n
  induction n with
  | zero => intro x2 x3 M hq; exact hq.elim
  | succ n ih =>
    intro x2 x3 M hq
    unfold q_Nf_turnPart_L20 at hq
    refine G_iload_n C 3 d_Nf_turnPart_20 rfl rfl ?_
    refine G_aload_n C 0 d_Nf_turnPart_21 rfl rfl ?_
    refine Gg_Nf_shape C wd_163 d_Nf_turnPart_22 ?_
    refine Gg_Net_plates C wd_33 d_Nf_turnPart_25 ?_
    refine G_icmp_ge C (tgt := 87) d_Nf_turnPart_28 (by decide) (fun c => ?_) (fun c => ?_)
    · replace hq := hq.1 c
      exact G_sub [0, 2] (by rfl) (hx87 _ _ hq)
    · replace hq := hq.2 c
      refine G_iconst C (v := 0) d_Nf_turnPart_31 (by decide) ?_
      refine G_istore C (lv' := [(4, _), (0, _), (1, _), (2, _), (3, _)]) d_Nf_turnPart_32 (by decide) rfl ?_
      obtain ⟨n6, hq⟩ := hq
      refine G_sub [1, 2, 3, 4, 0] (by rfl) (s_Nf_turnPart_L34 C R h_g1 ?_ n6 _ _ _ _ hq)
      · intro x7 x8 M9 hq
        refine G_iinc C (v := _ + 1) (lv' := [(3, _), (0, _), (1, _), (2, _)]) 3 d_Nf_turnPart_81 rfl rfl (by decide) rfl ?_
        refine G_goto C (tgt := 20) d_Nf_turnPart_84 (by decide) ?_
        exact G_sub [1, 2, 3, 0] (by rfl) (ih _ _ _ hq)
def q_Nf_turnPart_L99 (kx142 : Int64 → Mem → Prop) (post : Int64 → Mem → Prop) : Nat → Int32 → Int64 → Int32 → Mem → Prop
  | 0, _, _, _, _ => False
  | n + 1, x2, x3, x5, M => ((M.1 1 2) ≤ x5 → kx142 x3 M) ∧ (¬ (M.1 1 2) ≤ x5 → q_Net_signOf (2 : Int32) x5 x2 M (fun r15 M14 => q_Bal_above x5 M14 (fun r17 M16 => q_Nf_turnPart_L99 kx142 post n x2 (x3 + (r15.toInt64 * r17)) (x5 + 1) M16)))
set_option maxHeartbeats 4000000 in
theorem s_Nf_turnPart_L99 {γ : Gm} {κ : Kp} {post : Int64 → Mem → Prop} {kx142 : Int64 → Mem → Prop} (C : Cx γ κ "NetForms" b_Nf_turnPart 6 3 (0, 0)) (R : Rt γ (some .long)) (hx142 : ∀ y0 M', kx142 y0 M' → G γ κ 6 (0, 0) (Gq γ κ (pJ post)) 142 [(3, .long y0)] [] M') : ∀ (n : Nat) (x2 : Int32) (x3 : Int64) (x5 : Int32) (M : Mem), q_Nf_turnPart_L99 kx142 post n x2 x3 x5 M → G γ κ 6 (0, 0) (Gq γ κ (pJ post)) 99 [(0, .ref (κ.1 + 0)), (2, .int x2), (3, .long x3), (5, .int x5)] [] M := by
  intro n
  induction n with
  | zero => intro x2 x3 x5 M hq; exact hq.elim
  | succ n ih =>
    intro x2 x3 x5 M hq
    unfold q_Nf_turnPart_L99 at hq
    refine G_iload C 3 d_Nf_turnPart_99 rfl ?_
    refine G_aload_n C 0 d_Nf_turnPart_101 rfl rfl ?_
    refine Gg_Nf_shape C wd_163 d_Nf_turnPart_102 ?_
    refine Gg_Net_plates C wd_33 d_Nf_turnPart_105 ?_
    refine G_icmp_ge C (tgt := 142) d_Nf_turnPart_108 (by decide) (fun c => ?_) (fun c => ?_)
    · replace hq := hq.1 c
      exact G_sub [2] (by rfl) (hx142 _ _ hq)
    · replace hq := hq.2 c
      refine G_lload_n C 2 d_Nf_turnPart_111 rfl rfl ?_
      refine G_aload_n C 0 d_Nf_turnPart_112 rfl rfl ?_
      refine Gg_Nf_shape C wd_163 d_Nf_turnPart_113 ?_
      refine G_iconst C (v := 2) d_Nf_turnPart_116 (by decide) ?_
      refine G_iload C 3 d_Nf_turnPart_117 rfl ?_
      refine G_iload_n C 1 d_Nf_turnPart_119 rfl rfl ?_
      refine G_callV C (s_Net_signOf hq) v_Net_signOf i_Net_signOf z_Net_signOf wd_283 (by decide) rfl (k := 1) (ci := 3) (by decide) rfl rfl rfl (rest := [_]) (by rfl) (Nat.le_of_ble_eq_true rfl) d_Nf_turnPart_120 (ki_ (fun r15 M14 hq => ?_))
      refine G_i2l C d_Nf_turnPart_123 ?_
      refine G_aload_n C 0 d_Nf_turnPart_124 rfl rfl ?_
      refine Gg_Nf_balance C wd_167 d_Nf_turnPart_125 ?_
      refine G_iload C 3 d_Nf_turnPart_128 rfl ?_
      refine G_callV C (s_Bal_above hq) v_Bal_above i_Bal_above z_Bal_above wd_405 (by decide) rfl (k := 15) (ci := 0) (by decide) rfl rfl rfl (rest := [_, _]) (by rfl) (Nat.le_of_ble_eq_true rfl) d_Nf_turnPart_130 (kj_ (fun r17 M16 hq => ?_))
      refine G_lmul C d_Nf_turnPart_133 ?_
      refine G_ladd C d_Nf_turnPart_134 ?_
      refine G_lstore_n C (lv' := [(3, _), (0, _), (2, _), (5, _)]) d_Nf_turnPart_135 rfl (by decide) rfl ?_
      refine G_iinc C (v := _ + 1) (lv' := [(5, _), (3, _), (0, _), (2, _)]) 3 d_Nf_turnPart_136 rfl rfl (by decide) rfl ?_
      refine G_goto C (tgt := 99) d_Nf_turnPart_139 (by decide) ?_
      exact G_sub [2, 3, 1, 0] (by rfl) (ih _ _ _ _ hq)
def q_Nf_turnPart (f1 : Nat) (a2 : Int32) (M : Mem) (post : Int64 → Mem → Prop) : Prop := q_Bal_begin (M.1 1 2) M (fun M1 => q_Nf_addPlateProducts M1 (fun M2 => ∃ n10, q_Nf_turnPart_L20 f1 (fun x11 M12 => q_Bal_solve M12 (fun M13 => ∃ n18, q_Nf_turnPart_L99 (fun x19 M20 => post x19 M20) post n18 x11 (0 : Int64) (0 : Int32) M13)) post n10 a2 (0 : Int32) M2))
set_option maxHeartbeats 4000000 in
theorem s_Nf_turnPart {l : Launch} {κ : Kp} {f1 : Nat} {a2 : Int32} {M : Mem} {post : Int64 → Mem → Prop} (h_f1 : f1 < 12) (hq : q_Nf_turnPart f1 a2 M post) : Ct l κ y_Nf_turnPart b_Nf_turnPart 6 (some .long) 3 [.ref (κ.1 + 0), .ref (κ.1 + (32 + 2 * f1)), .int a2] M (pJ post) := by
  refine Ct_of (by decide) (Nat.le_of_ble_eq_true rfl) (fun γ hγ C R => ?_)
  subst hγ
  unfold q_Nf_turnPart at hq
  show G γ κ 6 (0, 0) (Gq γ κ (pJ post)) 0 [(0, .ref (κ.1 + 0)), (1, .ref (κ.1 + (32 + 2 * f1))), (2, .int a2)] [] M
  refine G_aload_n C 0 d_Nf_turnPart_0 rfl rfl ?_
  refine Gg_Nf_balance C wd_167 d_Nf_turnPart_1 ?_
  refine G_aload_n C 0 d_Nf_turnPart_4 rfl rfl ?_
  refine Gg_Nf_shape C wd_163 d_Nf_turnPart_5 ?_
  refine Gg_Net_plates C wd_33 d_Nf_turnPart_8 ?_
  refine G_callV C (s_Bal_begin hq) v_Bal_begin i_Bal_begin z_Bal_begin wd_349 (by decide) rfl (k := 15) (ci := 0) (by decide) rfl rfl rfl (rest := []) (by rfl) (Nat.le_of_ble_eq_true rfl) d_Nf_turnPart_11 (kv_ (fun M1 hq => ?_))
  refine G_aload_n C 0 d_Nf_turnPart_14 rfl rfl ?_
  refine G_callV C (s_Nf_addPlateProducts hq) v_Nf_addPlateProducts i_Nf_addPlateProducts z_Nf_addPlateProducts wd_355 (by decide) rfl (k := 0) (ci := 6) (by decide) rfl rfl rfl (rest := []) (by rfl) (Nat.le_of_ble_eq_true rfl) d_Nf_turnPart_15 (kv_ (fun M2 hq => ?_))
  refine G_iconst C (v := 0) d_Nf_turnPart_18 (by decide) ?_
  refine G_istore_n C (lv' := [(3, _), (0, _), (1, _), (2, _)]) d_Nf_turnPart_19 rfl (by decide) rfl ?_
  obtain ⟨n10, hq⟩ := hq
  refine G_sub [1, 2, 3, 0] (by rfl) (s_Nf_turnPart_L20 C R h_f1 ?_ n10 _ _ _ hq)
  · intro x11 M12 hq
    refine G_aload_n C 0 d_Nf_turnPart_87 rfl rfl ?_
    refine Gg_Nf_balance C wd_167 d_Nf_turnPart_88 ?_
    refine G_callV C (s_Bal_solve hq) v_Bal_solve i_Bal_solve z_Bal_solve wd_363 (by decide) rfl (k := 15) (ci := 0) (by decide) rfl rfl rfl (rest := []) (by rfl) (Nat.le_of_ble_eq_true rfl) d_Nf_turnPart_91 (kv_ (fun M13 hq => ?_))
    refine G_lconst C (v := 0) d_Nf_turnPart_94 (by decide) ?_
    refine G_lstore_n C (lv' := [(3, _), (0, _), (2, _)]) d_Nf_turnPart_95 rfl (by decide) rfl ?_
    refine G_iconst C (v := 0) d_Nf_turnPart_96 (by decide) ?_
    refine G_istore C (lv' := [(5, _), (3, _), (0, _), (2, _)]) d_Nf_turnPart_97 (by decide) rfl ?_
    obtain ⟨n18, hq⟩ := hq
    refine G_sub [2, 3, 1, 0] (by rfl) (s_Nf_turnPart_L99 C R ?_ n18 _ _ _ _ hq)
    · intro x19 M20 hq
      refine G_lload_n C 0 d_Nf_turnPart_142 rfl rfl ?_
      exact G_lret C R d_Nf_turnPart_143 ⟨_, rfl, hq⟩
theorem d_Nf_balanceField_0 : decode b_Nf_balanceField 0 = .ok (.aload_n 0, 1) := by decide +kernel
theorem d_Nf_balanceField_1 : decode b_Nf_balanceField 1 = .ok (.getfield 39, 3) := by decide +kernel
theorem d_Nf_balanceField_4 : decode b_Nf_balanceField 4 = .ok (.aload_n 0, 1) := by decide +kernel
theorem d_Nf_balanceField_5 : decode b_Nf_balanceField 5 = .ok (.getfield 10, 3) := by decide +kernel
theorem d_Nf_balanceField_8 : decode b_Nf_balanceField 8 = .ok (.getfield 147, 3) := by decide +kernel
theorem d_Nf_balanceField_11 : decode b_Nf_balanceField 11 = .ok (.invokevirtual 238, 3) := by decide +kernel
theorem d_Nf_balanceField_14 : decode b_Nf_balanceField 14 = .ok (.iconst 0, 1) := by decide +kernel
theorem d_Nf_balanceField_15 : decode b_Nf_balanceField 15 = .ok (.istore_n 1, 1) := by decide +kernel
theorem d_Nf_balanceField_16 : decode b_Nf_balanceField 16 = .ok (.iload_n 1, 1) := by decide +kernel
theorem d_Nf_balanceField_17 : decode b_Nf_balanceField 17 = .ok (.aload_n 0, 1) := by decide +kernel
theorem d_Nf_balanceField_18 : decode b_Nf_balanceField 18 = .ok (.getfield 10, 3) := by decide +kernel
theorem d_Nf_balanceField_21 : decode b_Nf_balanceField 21 = .ok (.getfield 147, 3) := by decide +kernel
theorem d_Nf_balanceField_24 : decode b_Nf_balanceField 24 = .ok (.if_icmp .ge 49, 3) := by decide +kernel
theorem d_Nf_balanceField_27 : decode b_Nf_balanceField 27 = .ok (.aload_n 0, 1) := by decide +kernel
theorem d_Nf_balanceField_28 : decode b_Nf_balanceField 28 = .ok (.getfield 25, 3) := by decide +kernel
theorem d_Nf_balanceField_31 : decode b_Nf_balanceField 31 = .ok (.getfield 179, 3) := by decide +kernel
theorem d_Nf_balanceField_34 : decode b_Nf_balanceField 34 = .ok (.iload_n 1, 1) := by decide +kernel
theorem d_Nf_balanceField_35 : decode b_Nf_balanceField 35 = .ok (.baload, 1) := by decide +kernel
theorem d_Nf_balanceField_36 : decode b_Nf_balanceField 36 = .ok (.ifCond .eq 31, 3) := by decide +kernel
theorem d_Nf_balanceField_39 : decode b_Nf_balanceField 39 = .ok (.aload_n 0, 1) := by decide +kernel
theorem d_Nf_balanceField_40 : decode b_Nf_balanceField 40 = .ok (.getfield 39, 3) := by decide +kernel
theorem d_Nf_balanceField_43 : decode b_Nf_balanceField 43 = .ok (.iload_n 1, 1) := by decide +kernel
theorem d_Nf_balanceField_44 : decode b_Nf_balanceField 44 = .ok (.iload_n 1, 1) := by decide +kernel
theorem d_Nf_balanceField_45 : decode b_Nf_balanceField 45 = .ok (.lconst 1, 1) := by decide +kernel
theorem d_Nf_balanceField_46 : decode b_Nf_balanceField 46 = .ok (.invokevirtual 248, 3) := by decide +kernel
theorem d_Nf_balanceField_49 : decode b_Nf_balanceField 49 = .ok (.aload_n 0, 1) := by decide +kernel
theorem d_Nf_balanceField_50 : decode b_Nf_balanceField 50 = .ok (.getfield 39, 3) := by decide +kernel
theorem d_Nf_balanceField_53 : decode b_Nf_balanceField 53 = .ok (.iload_n 1, 1) := by decide +kernel
theorem d_Nf_balanceField_54 : decode b_Nf_balanceField 54 = .ok (.aload_n 0, 1) := by decide +kernel
theorem d_Nf_balanceField_55 : decode b_Nf_balanceField 55 = .ok (.getfield 25, 3) := by decide +kernel
theorem d_Nf_balanceField_58 : decode b_Nf_balanceField 58 = .ok (.getfield 183, 3) := by decide +kernel
theorem d_Nf_balanceField_61 : decode b_Nf_balanceField 61 = .ok (.iload_n 1, 1) := by decide +kernel
theorem d_Nf_balanceField_62 : decode b_Nf_balanceField 62 = .ok (.iaload, 1) := by decide +kernel
theorem d_Nf_balanceField_63 : decode b_Nf_balanceField 63 = .ok (.i2l, 1) := by decide +kernel
theorem d_Nf_balanceField_64 : decode b_Nf_balanceField 64 = .ok (.invokevirtual 260, 3) := by decide +kernel
theorem d_Nf_balanceField_67 : decode b_Nf_balanceField 67 = .ok (.iinc 1 1, 3) := by decide +kernel
theorem d_Nf_balanceField_70 : decode b_Nf_balanceField 70 = .ok (.goto (-54), 3) := by decide +kernel
theorem d_Nf_balanceField_73 : decode b_Nf_balanceField 73 = .ok (.iconst 0, 1) := by decide +kernel
theorem d_Nf_balanceField_74 : decode b_Nf_balanceField 74 = .ok (.istore_n 1, 1) := by decide +kernel
theorem d_Nf_balanceField_75 : decode b_Nf_balanceField 75 = .ok (.iload_n 1, 1) := by decide +kernel
theorem d_Nf_balanceField_76 : decode b_Nf_balanceField 76 = .ok (.aload_n 0, 1) := by decide +kernel
theorem d_Nf_balanceField_77 : decode b_Nf_balanceField 77 = .ok (.getfield 10, 3) := by decide +kernel
theorem d_Nf_balanceField_80 : decode b_Nf_balanceField 80 = .ok (.getfield 71, 3) := by decide +kernel
theorem d_Nf_balanceField_83 : decode b_Nf_balanceField 83 = .ok (.if_icmp .ge 53, 3) := by decide +kernel
theorem d_Nf_balanceField_86 : decode b_Nf_balanceField 86 = .ok (.aload_n 0, 1) := by decide +kernel
theorem d_Nf_balanceField_87 : decode b_Nf_balanceField 87 = .ok (.aload_n 0, 1) := by decide +kernel
theorem d_Nf_balanceField_88 : decode b_Nf_balanceField 88 = .ok (.getfield 10, 3) := by decide +kernel
theorem d_Nf_balanceField_91 : decode b_Nf_balanceField 91 = .ok (.getfield 252, 3) := by decide +kernel
theorem d_Nf_balanceField_94 : decode b_Nf_balanceField 94 = .ok (.iload_n 1, 1) := by decide +kernel
theorem d_Nf_balanceField_95 : decode b_Nf_balanceField 95 = .ok (.iaload, 1) := by decide +kernel
theorem d_Nf_balanceField_96 : decode b_Nf_balanceField 96 = .ok (.aload_n 0, 1) := by decide +kernel
theorem d_Nf_balanceField_97 : decode b_Nf_balanceField 97 = .ok (.getfield 10, 3) := by decide +kernel
theorem d_Nf_balanceField_100 : decode b_Nf_balanceField 100 = .ok (.getfield 255, 3) := by decide +kernel
theorem d_Nf_balanceField_103 : decode b_Nf_balanceField 103 = .ok (.iload_n 1, 1) := by decide +kernel
theorem d_Nf_balanceField_104 : decode b_Nf_balanceField 104 = .ok (.iaload, 1) := by decide +kernel
theorem d_Nf_balanceField_105 : decode b_Nf_balanceField 105 = .ok (.invokevirtual 264, 3) := by decide +kernel
theorem d_Nf_balanceField_108 : decode b_Nf_balanceField 108 = .ok (.aload_n 0, 1) := by decide +kernel
theorem d_Nf_balanceField_109 : decode b_Nf_balanceField 109 = .ok (.aload_n 0, 1) := by decide +kernel
theorem d_Nf_balanceField_110 : decode b_Nf_balanceField 110 = .ok (.getfield 10, 3) := by decide +kernel
theorem d_Nf_balanceField_113 : decode b_Nf_balanceField 113 = .ok (.getfield 255, 3) := by decide +kernel
theorem d_Nf_balanceField_116 : decode b_Nf_balanceField 116 = .ok (.iload_n 1, 1) := by decide +kernel
theorem d_Nf_balanceField_117 : decode b_Nf_balanceField 117 = .ok (.iaload, 1) := by decide +kernel
theorem d_Nf_balanceField_118 : decode b_Nf_balanceField 118 = .ok (.aload_n 0, 1) := by decide +kernel
theorem d_Nf_balanceField_119 : decode b_Nf_balanceField 119 = .ok (.getfield 10, 3) := by decide +kernel
theorem d_Nf_balanceField_122 : decode b_Nf_balanceField 122 = .ok (.getfield 252, 3) := by decide +kernel
theorem d_Nf_balanceField_125 : decode b_Nf_balanceField 125 = .ok (.iload_n 1, 1) := by decide +kernel
theorem d_Nf_balanceField_126 : decode b_Nf_balanceField 126 = .ok (.iaload, 1) := by decide +kernel
theorem d_Nf_balanceField_127 : decode b_Nf_balanceField 127 = .ok (.invokevirtual 264, 3) := by decide +kernel
theorem d_Nf_balanceField_130 : decode b_Nf_balanceField 130 = .ok (.iinc 1 1, 3) := by decide +kernel
theorem d_Nf_balanceField_133 : decode b_Nf_balanceField 133 = .ok (.goto (-58), 3) := by decide +kernel
theorem d_Nf_balanceField_136 : decode b_Nf_balanceField 136 = .ok (.aload_n 0, 1) := by decide +kernel
theorem d_Nf_balanceField_137 : decode b_Nf_balanceField 137 = .ok (.getfield 39, 3) := by decide +kernel
theorem d_Nf_balanceField_140 : decode b_Nf_balanceField 140 = .ok (.invokevirtual 242, 3) := by decide +kernel
theorem d_Nf_balanceField_143 : decode b_Nf_balanceField 143 = .ok (.return_, 1) := by decide +kernel
def q_Nf_balanceField_L16 (kx73 : Mem → Prop) (post : Mem → Prop) : Nat → Int32 → Mem → Prop
  | 0, _, _ => False
  | n + 1, x1, M => ((M.1 1 0) ≤ x1 → kx73 M) ∧ (¬ (M.1 1 0) ≤ x1 → vp_in x1 6 ∧ (((M.1 10 x1.toNatClampNeg) = 0 → q_Nf_balanceField_L16 kx73 post n (x1 + 1) M) ∧ (¬ (M.1 10 x1.toNatClampNeg) = 0 → q_Bal_add x1 x1 (1 : Int64) M (fun M2 => vp_in x1 6 ∧ (q_Bal_addDue x1 ((M2.1 11 x1.toNatClampNeg).toInt64) M2 (fun M3 => q_Nf_balanceField_L16 kx73 post n (x1 + 1) M3))))))
set_option maxHeartbeats 4000000 in
theorem s_Nf_balanceField_L16 {γ : Gm} {κ : Kp} {post : Mem → Prop} {kx73 : Mem → Prop} (C : Cx γ κ "NetForms" b_Nf_balanceField 2 3 (0, 0)) (R : Rt γ (none)) (hx73 : ∀ M', kx73 M' → G γ κ 2 (0, 0) (Gq γ κ (pV post)) 73 [(0, .ref (κ.1 + 0))] [] M') : ∀ (n : Nat) (x1 : Int32) (M : Mem), q_Nf_balanceField_L16 kx73 post n x1 M → G γ κ 2 (0, 0) (Gq γ κ (pV post)) 16 [(0, .ref (κ.1 + 0)), (1, .int x1)] [] M := by
  intro n
  induction n with
  | zero => intro x1 M hq; exact hq.elim
  | succ n ih =>
    intro x1 M hq
    unfold q_Nf_balanceField_L16 at hq
    refine G_iload_n C 1 d_Nf_balanceField_16 rfl rfl ?_
    refine G_aload_n C 0 d_Nf_balanceField_17 rfl rfl ?_
    refine Gg_Nf_shape C wd_163 d_Nf_balanceField_18 ?_
    refine Gg_Net_points C wd_27 d_Nf_balanceField_21 ?_
    refine G_icmp_ge C (tgt := 73) d_Nf_balanceField_24 (by decide) (fun c => ?_) (fun c => ?_)
    · replace hq := hq.1 c
      exact G_sub [0] (by rfl) (hx73 _ hq)
    · replace hq := hq.2 c
      refine G_aload_n C 0 d_Nf_balanceField_27 rfl rfl ?_
      refine Gg_Nf_walls C wd_165 d_Nf_balanceField_28 ?_
      refine Gg_Wal_there C wd_76 d_Nf_balanceField_31 ?_
      refine G_iload_n C 1 d_Nf_balanceField_34 rfl rfl ?_
      refine G_baload C (k := 10) (by decide) (fun _ _ => rfl) hq.1 d_Nf_balanceField_35 ?_
      replace hq := hq.2
      refine G_if_eq C (tgt := 67) d_Nf_balanceField_36 (by decide) (fun c => ?_) (fun c => ?_)
      · replace hq := hq.1 c
        refine G_iinc C (v := _ + 1) (lv' := [(1, _), (0, _)]) 1 d_Nf_balanceField_67 rfl rfl (by decide) rfl ?_
        refine G_goto C (tgt := 16) d_Nf_balanceField_70 (by decide) ?_
        exact G_sub [1, 0] (by rfl) (ih _ _ hq)
      · replace hq := hq.2 c
        refine G_aload_n C 0 d_Nf_balanceField_39 rfl rfl ?_
        refine Gg_Nf_balance C wd_167 d_Nf_balanceField_40 ?_
        refine G_iload_n C 1 d_Nf_balanceField_43 rfl rfl ?_
        refine G_iload_n C 1 d_Nf_balanceField_44 rfl rfl ?_
        refine G_lconst C (v := 1) d_Nf_balanceField_45 (by decide) ?_
        refine G_callV C (s_Bal_add hq) v_Bal_add i_Bal_add z_Bal_add wd_359 (by decide) rfl (k := 15) (ci := 0) (by decide) rfl rfl rfl (rest := []) (by rfl) (Nat.le_of_ble_eq_true rfl) d_Nf_balanceField_46 (kv_ (fun M2 hq => ?_))
        refine G_aload_n C 0 d_Nf_balanceField_49 rfl rfl ?_
        refine Gg_Nf_balance C wd_167 d_Nf_balanceField_50 ?_
        refine G_iload_n C 1 d_Nf_balanceField_53 rfl rfl ?_
        refine G_aload_n C 0 d_Nf_balanceField_54 rfl rfl ?_
        refine Gg_Nf_walls C wd_165 d_Nf_balanceField_55 ?_
        refine Gg_Wal_numbers C wd_78 d_Nf_balanceField_58 ?_
        refine G_iload_n C 1 d_Nf_balanceField_61 rfl rfl ?_
        refine G_iaload C (k := 11) (by decide) (fun _ _ => rfl) hq.1 d_Nf_balanceField_62 ?_
        replace hq := hq.2
        refine G_i2l C d_Nf_balanceField_63 ?_
        refine G_callV C (s_Bal_addDue hq) v_Bal_addDue i_Bal_addDue z_Bal_addDue wd_401 (by decide) rfl (k := 15) (ci := 0) (by decide) rfl rfl rfl (rest := []) (by rfl) (Nat.le_of_ble_eq_true rfl) d_Nf_balanceField_64 (kv_ (fun M3 hq => ?_))
        refine G_iinc C (v := _ + 1) (lv' := [(1, _), (0, _)]) 1 d_Nf_balanceField_67 rfl rfl (by decide) rfl ?_
        refine G_goto C (tgt := 16) d_Nf_balanceField_70 (by decide) ?_
        exact G_sub [1, 0] (by rfl) (ih _ _ hq)
def q_Nf_balanceField_L75 (kx136 : Mem → Prop) (post : Mem → Prop) : Nat → Int32 → Mem → Prop
  | 0, _, _ => False
  | n + 1, x1, M => ((M.1 1 1) ≤ x1 → kx136 M) ∧ (¬ (M.1 1 1) ≤ x1 → vp_in x1 12 ∧ (vp_in x1 12 ∧ (q_Nf_balanceAt (M.1 2 x1.toNatClampNeg) (M.1 3 x1.toNatClampNeg) M (fun M6 => vp_in x1 12 ∧ (vp_in x1 12 ∧ (q_Nf_balanceAt (M6.1 3 x1.toNatClampNeg) (M6.1 2 x1.toNatClampNeg) M6 (fun M7 => q_Nf_balanceField_L75 kx136 post n (x1 + 1) M7)))))))
set_option maxHeartbeats 4000000 in
theorem s_Nf_balanceField_L75 {γ : Gm} {κ : Kp} {post : Mem → Prop} {kx136 : Mem → Prop} (C : Cx γ κ "NetForms" b_Nf_balanceField 2 3 (0, 0)) (R : Rt γ (none)) (hx136 : ∀ M', kx136 M' → G γ κ 2 (0, 0) (Gq γ κ (pV post)) 136 [(0, .ref (κ.1 + 0))] [] M') : ∀ (n : Nat) (x1 : Int32) (M : Mem), q_Nf_balanceField_L75 kx136 post n x1 M → G γ κ 2 (0, 0) (Gq γ κ (pV post)) 75 [(0, .ref (κ.1 + 0)), (1, .int x1)] [] M := by
  intro n
  induction n with
  | zero => intro x1 M hq; exact hq.elim
  | succ n ih =>
    intro x1 M hq
    unfold q_Nf_balanceField_L75 at hq
    refine G_iload_n C 1 d_Nf_balanceField_75 rfl rfl ?_
    refine G_aload_n C 0 d_Nf_balanceField_76 rfl rfl ?_
    refine Gg_Nf_shape C wd_163 d_Nf_balanceField_77 ?_
    refine Gg_Net_edges C wd_31 d_Nf_balanceField_80 ?_
    refine G_icmp_ge C (tgt := 136) d_Nf_balanceField_83 (by decide) (fun c => ?_) (fun c => ?_)
    · replace hq := hq.1 c
      exact G_sub [0] (by rfl) (hx136 _ hq)
    · replace hq := hq.2 c
      refine G_aload_n C 0 d_Nf_balanceField_86 rfl rfl ?_
      refine G_aload_n C 0 d_Nf_balanceField_87 rfl rfl ?_
      refine Gg_Nf_shape C wd_163 d_Nf_balanceField_88 ?_
      refine Gg_Net_begins C wd_37 d_Nf_balanceField_91 ?_
      refine G_iload_n C 1 d_Nf_balanceField_94 rfl rfl ?_
      refine G_iaload C (k := 2) (by decide) (fun _ _ => rfl) hq.1 d_Nf_balanceField_95 ?_
      replace hq := hq.2
      refine G_aload_n C 0 d_Nf_balanceField_96 rfl rfl ?_
      refine Gg_Nf_shape C wd_163 d_Nf_balanceField_97 ?_
      refine Gg_Net_ends C wd_41 d_Nf_balanceField_100 ?_
      refine G_iload_n C 1 d_Nf_balanceField_103 rfl rfl ?_
      refine G_iaload C (k := 3) (by decide) (fun _ _ => rfl) hq.1 d_Nf_balanceField_104 ?_
      replace hq := hq.2
      refine G_callV C (s_Nf_balanceAt hq) v_Nf_balanceAt i_Nf_balanceAt z_Nf_balanceAt wd_456 (by decide) rfl (k := 0) (ci := 6) (by decide) rfl rfl rfl (rest := []) (by rfl) (Nat.le_of_ble_eq_true rfl) d_Nf_balanceField_105 (kv_ (fun M6 hq => ?_))
      refine G_aload_n C 0 d_Nf_balanceField_108 rfl rfl ?_
      refine G_aload_n C 0 d_Nf_balanceField_109 rfl rfl ?_
      refine Gg_Nf_shape C wd_163 d_Nf_balanceField_110 ?_
      refine Gg_Net_ends C wd_41 d_Nf_balanceField_113 ?_
      refine G_iload_n C 1 d_Nf_balanceField_116 rfl rfl ?_
      refine G_iaload C (k := 3) (by decide) (fun _ _ => rfl) hq.1 d_Nf_balanceField_117 ?_
      replace hq := hq.2
      refine G_aload_n C 0 d_Nf_balanceField_118 rfl rfl ?_
      refine Gg_Nf_shape C wd_163 d_Nf_balanceField_119 ?_
      refine Gg_Net_begins C wd_37 d_Nf_balanceField_122 ?_
      refine G_iload_n C 1 d_Nf_balanceField_125 rfl rfl ?_
      refine G_iaload C (k := 2) (by decide) (fun _ _ => rfl) hq.1 d_Nf_balanceField_126 ?_
      replace hq := hq.2
      refine G_callV C (s_Nf_balanceAt hq) v_Nf_balanceAt i_Nf_balanceAt z_Nf_balanceAt wd_456 (by decide) rfl (k := 0) (ci := 6) (by decide) rfl rfl rfl (rest := []) (by rfl) (Nat.le_of_ble_eq_true rfl) d_Nf_balanceField_127 (kv_ (fun M7 hq => ?_))
      refine G_iinc C (v := _ + 1) (lv' := [(1, _), (0, _)]) 1 d_Nf_balanceField_130 rfl rfl (by decide) rfl ?_
      refine G_goto C (tgt := 75) d_Nf_balanceField_133 (by decide) ?_
      exact G_sub [1, 0] (by rfl) (ih _ _ hq)
def q_Nf_balanceField (M : Mem) (post : Mem → Prop) : Prop := q_Bal_begin (M.1 1 0) M (fun M1 => ∃ n4, q_Nf_balanceField_L16 (fun M5 => ∃ n8, q_Nf_balanceField_L75 (fun M9 => q_Bal_solve M9 (fun M10 => post M10)) post n8 (0 : Int32) M5) post n4 (0 : Int32) M1)
set_option maxHeartbeats 4000000 in
theorem s_Nf_balanceField {l : Launch} {κ : Kp} {M : Mem} {post : Mem → Prop} (hq : q_Nf_balanceField M post) : Ct l κ y_Nf_balanceField b_Nf_balanceField 2 (none) 3 [.ref (κ.1 + 0)] M (pV post) := by
  refine Ct_of (by decide) (Nat.le_of_ble_eq_true rfl) (fun γ hγ C R => ?_)
  subst hγ
  unfold q_Nf_balanceField at hq
  show G γ κ 2 (0, 0) (Gq γ κ (pV post)) 0 [(0, .ref (κ.1 + 0))] [] M
  refine G_aload_n C 0 d_Nf_balanceField_0 rfl rfl ?_
  refine Gg_Nf_balance C wd_167 d_Nf_balanceField_1 ?_
  refine G_aload_n C 0 d_Nf_balanceField_4 rfl rfl ?_
  refine Gg_Nf_shape C wd_163 d_Nf_balanceField_5 ?_
  refine Gg_Net_points C wd_27 d_Nf_balanceField_8 ?_
  refine G_callV C (s_Bal_begin hq) v_Bal_begin i_Bal_begin z_Bal_begin wd_349 (by decide) rfl (k := 15) (ci := 0) (by decide) rfl rfl rfl (rest := []) (by rfl) (Nat.le_of_ble_eq_true rfl) d_Nf_balanceField_11 (kv_ (fun M1 hq => ?_))
  refine G_iconst C (v := 0) d_Nf_balanceField_14 (by decide) ?_
  refine G_istore_n C (lv' := [(1, _), (0, _)]) d_Nf_balanceField_15 rfl (by decide) rfl ?_
  obtain ⟨n4, hq⟩ := hq
  refine G_sub [1, 0] (by rfl) (s_Nf_balanceField_L16 C R ?_ n4 _ _ hq)
  · intro M5 hq
    refine G_iconst C (v := 0) d_Nf_balanceField_73 (by decide) ?_
    refine G_istore_n C (lv' := [(1, _), (0, _)]) d_Nf_balanceField_74 rfl (by decide) rfl ?_
    obtain ⟨n8, hq⟩ := hq
    refine G_sub [1, 0] (by rfl) (s_Nf_balanceField_L75 C R ?_ n8 _ _ hq)
    · intro M9 hq
      refine G_aload_n C 0 d_Nf_balanceField_136 rfl rfl ?_
      refine Gg_Nf_balance C wd_167 d_Nf_balanceField_137 ?_
      refine G_callV C (s_Bal_solve hq) v_Bal_solve i_Bal_solve z_Bal_solve wd_363 (by decide) rfl (k := 15) (ci := 0) (by decide) rfl rfl rfl (rest := []) (by rfl) (Nat.le_of_ble_eq_true rfl) d_Nf_balanceField_140 (kv_ (fun M10 hq => ?_))
      exact G_vret C R d_Nf_balanceField_143 ⟨rfl, hq⟩
theorem d_Mo_set_0 : decode b_Mo_set 0 = .ok (.aload_n 0, 1) := by decide +kernel
theorem d_Mo_set_1 : decode b_Mo_set 1 = .ok (.iload_n 1, 1) := by decide +kernel
theorem d_Mo_set_2 : decode b_Mo_set 2 = .ok (.iload_n 2, 1) := by decide +kernel
theorem d_Mo_set_3 : decode b_Mo_set 3 = .ok (.invokevirtual 111, 3) := by decide +kernel
theorem d_Mo_set_6 : decode b_Mo_set 6 = .ok (.ifCond .eq 17, 3) := by decide +kernel
theorem d_Mo_set_9 : decode b_Mo_set 9 = .ok (.iload_n 3, 1) := by decide +kernel
theorem d_Mo_set_10 : decode b_Mo_set 10 = .ok (.i2l, 1) := by decide +kernel
theorem d_Mo_set_11 : decode b_Mo_set 11 = .ok (.ldc2_w 115, 3) := by decide +kernel
theorem d_Mo_set_14 : decode b_Mo_set 14 = .ok (.ldc2_w 117, 3) := by decide +kernel
theorem d_Mo_set_17 : decode b_Mo_set 17 = .ok (.invokestatic 75, 3) := by decide +kernel
theorem d_Mo_set_20 : decode b_Mo_set 20 = .ok (.ifCond .ne 6, 3) := by decide +kernel
theorem d_Mo_set_23 : decode b_Mo_set 23 = .ok (.ldc 119, 2) := by decide +kernel
theorem d_Mo_set_25 : decode b_Mo_set 25 = .ok (.ireturn, 1) := by decide +kernel
theorem d_Mo_set_26 : decode b_Mo_set 26 = .ok (.aload_n 0, 1) := by decide +kernel
theorem d_Mo_set_27 : decode b_Mo_set 27 = .ok (.getfield 32, 3) := by decide +kernel
theorem d_Mo_set_30 : decode b_Mo_set 30 = .ok (.bipush 12, 2) := by decide +kernel
theorem d_Mo_set_32 : decode b_Mo_set 32 = .ok (.iload_n 1, 1) := by decide +kernel
theorem d_Mo_set_33 : decode b_Mo_set 33 = .ok (.imul, 1) := by decide +kernel
theorem d_Mo_set_34 : decode b_Mo_set 34 = .ok (.iload_n 2, 1) := by decide +kernel
theorem d_Mo_set_35 : decode b_Mo_set 35 = .ok (.iadd, 1) := by decide +kernel
theorem d_Mo_set_36 : decode b_Mo_set 36 = .ok (.iaload, 1) := by decide +kernel
theorem d_Mo_set_37 : decode b_Mo_set 37 = .ok (.istore 4, 2) := by decide +kernel
theorem d_Mo_set_39 : decode b_Mo_set 39 = .ok (.aload_n 0, 1) := by decide +kernel
theorem d_Mo_set_40 : decode b_Mo_set 40 = .ok (.getfield 32, 3) := by decide +kernel
theorem d_Mo_set_43 : decode b_Mo_set 43 = .ok (.bipush 12, 2) := by decide +kernel
theorem d_Mo_set_45 : decode b_Mo_set 45 = .ok (.iload_n 1, 1) := by decide +kernel
theorem d_Mo_set_46 : decode b_Mo_set 46 = .ok (.imul, 1) := by decide +kernel
theorem d_Mo_set_47 : decode b_Mo_set 47 = .ok (.iload_n 2, 1) := by decide +kernel
theorem d_Mo_set_48 : decode b_Mo_set 48 = .ok (.iadd, 1) := by decide +kernel
theorem d_Mo_set_49 : decode b_Mo_set 49 = .ok (.iload_n 3, 1) := by decide +kernel
theorem d_Mo_set_50 : decode b_Mo_set 50 = .ok (.iastore, 1) := by decide +kernel
theorem d_Mo_set_51 : decode b_Mo_set 51 = .ok (.iload 4, 2) := by decide +kernel
theorem d_Mo_set_53 : decode b_Mo_set 53 = .ok (.ireturn, 1) := by decide +kernel
def q_Mo_set (a1 : Int32) (a2 : Int32) (a3 : Int32) (M : Mem) (post : Int32 → Mem → Prop) : Prop := q_Mo_isThere a1 a2 M (fun r2 M1 => (r2 = 0 → post (-2000000 : Int32) M1) ∧ (¬ r2 = 0 → q_Mo_in a3.toInt64 (-1000000 : Int64) (1000000 : Int64) M1 (fun r4 M3 => (¬ r4 = 0 → vp_in (((12 : Int32) * a1) + a2) 144 ∧ (vp_in (((12 : Int32) * a1) + a2) 144 ∧ (∀ M5, M5 = wI M3 63 (((12 : Int32) * a1) + a2).toNatClampNeg a3 → post (M3.1 63 (((12 : Int32) * a1) + a2).toNatClampNeg) M5))) ∧ (r4 = 0 → post (-2000000 : Int32) M3))))
set_option maxHeartbeats 4000000 in
theorem s_Mo_set {l : Launch} {κ : Kp} {a1 : Int32} {a2 : Int32} {a3 : Int32} {M : Mem} {post : Int32 → Mem → Prop} (hq : q_Mo_set a1 a2 a3 M post) : Ct l κ y_Mo_set b_Mo_set 5 (some .int) 3 [.ref (κ.1 + 56), .int a1, .int a2, .int a3] M (pI post) := by
  refine Ct_of (by decide) (Nat.le_of_ble_eq_true rfl) (fun γ hγ C R => ?_)
  subst hγ
  unfold q_Mo_set at hq
  show G γ κ 5 (0, 0) (Gq γ κ (pI post)) 0 [(0, .ref (κ.1 + 56)), (1, .int a1), (2, .int a2), (3, .int a3)] [] M
  refine G_aload_n C 0 d_Mo_set_0 rfl rfl ?_
  refine G_iload_n C 1 d_Mo_set_1 rfl rfl ?_
  refine G_iload_n C 2 d_Mo_set_2 rfl rfl ?_
  refine G_callV C (s_Mo_isThere hq) v_Mo_isThere i_Mo_isThere z_Mo_isThere wd_645 (by decide) rfl (k := 56) (ci := 7) (by decide) rfl rfl rfl (rest := []) (by rfl) (Nat.le_of_ble_eq_true rfl) d_Mo_set_3 (ki_ (fun r2 M1 hq => ?_))
  refine G_if_eq C (tgt := 23) d_Mo_set_6 (by decide) (fun c => ?_) (fun c => ?_)
  · replace hq := hq.1 c
    refine G_ldc C (v := -2000000) wd_655 d_Mo_set_23 ?_
    exact G_iret C R d_Mo_set_25 ⟨_, rfl, hq⟩
  · replace hq := hq.2 c
    refine G_iload_n C 3 d_Mo_set_9 rfl rfl ?_
    refine G_i2l C d_Mo_set_10 ?_
    refine G_ldc2 C (v := -1000000) wd_653 d_Mo_set_11 ?_
    refine G_ldc2 C (v := 1000000) wd_654 d_Mo_set_14 ?_
    refine G_callS C (s_Mo_in hq) v_Mo_in z_Mo_in wd_605 (by decide) rfl (rest := []) (by rfl) (Nat.le_of_ble_eq_true rfl) d_Mo_set_17 (ki_ (fun r4 M3 hq => ?_))
    refine G_if_ne C (tgt := 26) d_Mo_set_20 (by decide) (fun c => ?_) (fun c => ?_)
    · replace hq := hq.1 c
      refine G_aload_n C 0 d_Mo_set_26 rfl rfl ?_
      refine Gg_Mo_number C wd_530 d_Mo_set_27 ?_
      refine G_bipush C (v := 12) d_Mo_set_30 (by decide) ?_
      refine G_iload_n C 1 d_Mo_set_32 rfl rfl ?_
      refine G_imul C d_Mo_set_33 ?_
      refine G_iload_n C 2 d_Mo_set_34 rfl rfl ?_
      refine G_iadd C d_Mo_set_35 ?_
      refine G_iaload C (k := 63) (by decide) (fun _ _ => rfl) hq.1 d_Mo_set_36 ?_
      replace hq := hq.2
      refine G_istore C (lv' := [(4, _), (0, _), (1, _), (2, _), (3, _)]) d_Mo_set_37 (by decide) rfl ?_
      refine G_aload_n C 1 d_Mo_set_39 rfl rfl ?_
      refine Gg_Mo_number C wd_530 d_Mo_set_40 ?_
      refine G_bipush C (v := 12) d_Mo_set_43 (by decide) ?_
      refine G_iload_n C 2 d_Mo_set_45 rfl rfl ?_
      refine G_imul C d_Mo_set_46 ?_
      refine G_iload_n C 3 d_Mo_set_47 rfl rfl ?_
      refine G_iadd C d_Mo_set_48 ?_
      refine G_iload_n C 4 d_Mo_set_49 rfl rfl ?_
      refine G_iastore C (k := 63) (by decide) (fun _ _ => rfl) hq.1 d_Mo_set_50 ?_
      replace hq := hq.2 _ rfl
      refine G_iload C 0 d_Mo_set_51 rfl ?_
      exact G_iret C R d_Mo_set_53 ⟨_, rfl, hq⟩
    · replace hq := hq.2 c
      refine G_ldc C (v := -2000000) wd_655 d_Mo_set_23 ?_
      exact G_iret C R d_Mo_set_25 ⟨_, rfl, hq⟩
