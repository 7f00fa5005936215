theorem d_Nf_stillPart_0 : decode b_Nf_stillPart 0 = .ok (.aload_n 0, 1) := by decide +kernel
theorem d_Nf_stillPart_1 : decode b_Nf_stillPart 1 = .ok (.aload_n 1, 1) := by decide +kernel
theorem d_Nf_stillPart_2 : decode b_Nf_stillPart 2 = .ok (.iload_n 2, 1) := by decide +kernel
theorem d_Nf_stillPart_3 : decode b_Nf_stillPart 3 = .ok (.invokevirtual 160, 3) := by decide +kernel
theorem d_Nf_stillPart_6 : decode b_Nf_stillPart 6 = .ok (.lstore 4, 2) := by decide +kernel
theorem d_Nf_stillPart_8 : decode b_Nf_stillPart 8 = .ok (.aload_n 0, 1) := by decide +kernel
theorem d_Nf_stillPart_9 : decode b_Nf_stillPart 9 = .ok (.getfield 39, 3) := by decide +kernel
theorem d_Nf_stillPart_12 : decode b_Nf_stillPart 12 = .ok (.getfield 164, 3) := by decide +kernel
theorem d_Nf_stillPart_15 : decode b_Nf_stillPart 15 = .ok (.lstore 6, 2) := by decide +kernel
theorem d_Nf_stillPart_17 : decode b_Nf_stillPart 17 = .ok (.aload_n 0, 1) := by decide +kernel
theorem d_Nf_stillPart_18 : decode b_Nf_stillPart 18 = .ok (.aload_n 1, 1) := by decide +kernel
theorem d_Nf_stillPart_19 : decode b_Nf_stillPart 19 = .ok (.iload_n 2, 1) := by decide +kernel
theorem d_Nf_stillPart_20 : decode b_Nf_stillPart 20 = .ok (.invokevirtual 172, 3) := by decide +kernel
theorem d_Nf_stillPart_23 : decode b_Nf_stillPart 23 = .ok (.lstore 8, 2) := by decide +kernel
theorem d_Nf_stillPart_25 : decode b_Nf_stillPart 25 = .ok (.aload_n 0, 1) := by decide +kernel
theorem d_Nf_stillPart_26 : decode b_Nf_stillPart 26 = .ok (.getfield 39, 3) := by decide +kernel
theorem d_Nf_stillPart_29 : decode b_Nf_stillPart 29 = .ok (.getfield 164, 3) := by decide +kernel
theorem d_Nf_stillPart_32 : decode b_Nf_stillPart 32 = .ok (.lstore 10, 2) := by decide +kernel
theorem d_Nf_stillPart_34 : decode b_Nf_stillPart 34 = .ok (.lload 6, 2) := by decide +kernel
theorem d_Nf_stillPart_36 : decode b_Nf_stillPart 36 = .ok (.lload 10, 2) := by decide +kernel
theorem d_Nf_stillPart_38 : decode b_Nf_stillPart 38 = .ok (.lmul, 1) := by decide +kernel
theorem d_Nf_stillPart_39 : decode b_Nf_stillPart 39 = .ok (.lstore 12, 2) := by decide +kernel
theorem d_Nf_stillPart_41 : decode b_Nf_stillPart 41 = .ok (.aload_n 1, 1) := by decide +kernel
theorem d_Nf_stillPart_42 : decode b_Nf_stillPart 42 = .ok (.getfield 104, 3) := by decide +kernel
theorem d_Nf_stillPart_45 : decode b_Nf_stillPart 45 = .ok (.iload_n 2, 1) := by decide +kernel
theorem d_Nf_stillPart_46 : decode b_Nf_stillPart 46 = .ok (.iaload, 1) := by decide +kernel
theorem d_Nf_stillPart_47 : decode b_Nf_stillPart 47 = .ok (.i2l, 1) := by decide +kernel
theorem d_Nf_stillPart_48 : decode b_Nf_stillPart 48 = .ok (.lload 12, 2) := by decide +kernel
theorem d_Nf_stillPart_50 : decode b_Nf_stillPart 50 = .ok (.lmul, 1) := by decide +kernel
theorem d_Nf_stillPart_51 : decode b_Nf_stillPart 51 = .ok (.lload 4, 2) := by decide +kernel
theorem d_Nf_stillPart_53 : decode b_Nf_stillPart 53 = .ok (.lload 10, 2) := by decide +kernel
theorem d_Nf_stillPart_55 : decode b_Nf_stillPart 55 = .ok (.lmul, 1) := by decide +kernel
theorem d_Nf_stillPart_56 : decode b_Nf_stillPart 56 = .ok (.lsub, 1) := by decide +kernel
theorem d_Nf_stillPart_57 : decode b_Nf_stillPart 57 = .ok (.lload 8, 2) := by decide +kernel
theorem d_Nf_stillPart_59 : decode b_Nf_stillPart 59 = .ok (.lload 6, 2) := by decide +kernel
theorem d_Nf_stillPart_61 : decode b_Nf_stillPart 61 = .ok (.lmul, 1) := by decide +kernel
theorem d_Nf_stillPart_62 : decode b_Nf_stillPart 62 = .ok (.lsub, 1) := by decide +kernel
theorem d_Nf_stillPart_63 : decode b_Nf_stillPart 63 = .ok (.lstore 14, 2) := by decide +kernel
theorem d_Nf_stillPart_65 : decode b_Nf_stillPart 65 = .ok (.lload 14, 2) := by decide +kernel
theorem d_Nf_stillPart_67 : decode b_Nf_stillPart 67 = .ok (.lload 12, 2) := by decide +kernel
theorem d_Nf_stillPart_69 : decode b_Nf_stillPart 69 = .ok (.iload_n 3, 1) := by decide +kernel
theorem d_Nf_stillPart_70 : decode b_Nf_stillPart 70 = .ok (.invokestatic 168, 3) := by decide +kernel
theorem d_Nf_stillPart_73 : decode b_Nf_stillPart 73 = .ok (.lreturn, 1) := by decide +kernel
def q_Nf_stillPart (f1 : Nat) (a2 : Int32) (a3 : Int32) (M : Mem) (post : Int64 → Mem → Prop) : Prop := q_Nf_slopePart f1 a2 M (fun r2 M1 => q_Nf_turnPart f1 a2 M1 (fun r4 M3 => vp_in a2 12 ∧ (∀ v5, v5 = (((((M3.1 (33 + 2 * f1) a2.toNatClampNeg).toInt64) * ((M1.2 15 4) * (M3.2 15 4))) - (r2 * (M3.2 15 4))) - (r4 * (M1.2 15 4))) → q_Nf_lowestTerms v5 ((M1.2 15 4) * (M3.2 15 4)) a3 M3 (fun r7 M6 => post r7 M6))))
set_option maxHeartbeats 4000000 in
theorem s_Nf_stillPart {l : Launch} {κ : Kp} {f1 : Nat} {a2 : Int32} {a3 : Int32} {M : Mem} {post : Int64 → Mem → Prop} (h_f1 : f1 < 12) (hq : q_Nf_stillPart f1 a2 a3 M post) : Ct l κ y_Nf_stillPart b_Nf_stillPart 16 (some .long) 4 [.ref (κ.1 + 0), .ref (κ.1 + (32 + 2 * f1)), .int a2, .int a3] M (pJ post) := by
  refine Ct_of (by decide) (Nat.le_of_ble_eq_true rfl) (fun γ hγ C R => ?_)
  subst hγ
  unfold q_Nf_stillPart at hq
  show G γ κ 16 (0, 0) (Gq γ κ (pJ post)) 0 [(0, .ref (κ.1 + 0)), (1, .ref (κ.1 + (32 + 2 * f1))), (2, .int a2), (3, .int a3)] [] M
  refine G_aload_n C 0 d_Nf_stillPart_0 rfl rfl ?_
  refine G_aload_n C 1 d_Nf_stillPart_1 rfl rfl ?_
  refine G_iload_n C 2 d_Nf_stillPart_2 rfl rfl ?_
  refine G_callV C (s_Nf_slopePart h_f1 hq) v_Nf_slopePart i_Nf_slopePart z_Nf_slopePart wd_396 (by decide) rfl (k := 0) (ci := 6) (by decide) rfl rfl rfl (rest := []) (by rfl) (Nat.le_of_ble_eq_true rfl) d_Nf_stillPart_3 (kj_ (fun r2 M1 hq => ?_))
  refine G_lstore C (lv' := [(4, _), (0, _), (1, _), (2, _), (3, _)]) d_Nf_stillPart_6 (by decide) rfl ?_
  refine G_aload_n C 1 d_Nf_stillPart_8 rfl rfl ?_
  refine Gg_Nf_balance C wd_167 d_Nf_stillPart_9 ?_
  refine Gg_Bal_below C wd_119 d_Nf_stillPart_12 ?_
  refine G_lstore C (lv' := [(6, _), (4, _), (0, _), (1, _), (2, _), (3, _)]) d_Nf_stillPart_15 (by decide) rfl ?_
  refine G_aload_n C 2 d_Nf_stillPart_17 rfl rfl ?_
  refine G_aload_n C 3 d_Nf_stillPart_18 rfl rfl ?_
  refine G_iload_n C 4 d_Nf_stillPart_19 rfl rfl ?_
  refine G_callV C (s_Nf_turnPart h_f1 hq) v_Nf_turnPart i_Nf_turnPart z_Nf_turnPart wd_419 (by decide) rfl (k := 0) (ci := 6) (by decide) rfl rfl rfl (rest := []) (by rfl) (Nat.le_of_ble_eq_true rfl) d_Nf_stillPart_20 (kj_ (fun r4 M3 hq => ?_))
  refine G_lstore C (lv' := [(8, _), (6, _), (4, _), (0, _), (1, _), (2, _), (3, _)]) d_Nf_stillPart_23 (by decide) rfl ?_
  refine G_aload_n C 3 d_Nf_stillPart_25 rfl rfl ?_
  refine Gg_Nf_balance C wd_167 d_Nf_stillPart_26 ?_
  refine Gg_Bal_below C wd_119 d_Nf_stillPart_29 ?_
  refine G_lstore C (lv' := [(10, _), (8, _), (6, _), (4, _), (0, _), (1, _), (2, _), (3, _)]) d_Nf_stillPart_32 (by decide) rfl ?_
  refine G_lload C 2 d_Nf_stillPart_34 rfl ?_
  refine G_lload C 0 d_Nf_stillPart_36 rfl ?_
  refine G_lmul C d_Nf_stillPart_38 ?_
  refine G_lstore C (lv' := [(12, _), (10, _), (8, _), (6, _), (4, _), (0, _), (1, _), (2, _), (3, _)]) d_Nf_stillPart_39 (by decide) rfl ?_
  refine G_aload_n C 6 d_Nf_stillPart_41 rfl rfl ?_
  refine Gg_Frm_numbers C h_f1 wd_153 d_Nf_stillPart_42 ?_
  refine G_iload_n C 7 d_Nf_stillPart_45 rfl rfl ?_
  refine G_iaload C (by have := h_f1; omega) (sh_formA κ h_f1) hq.1 d_Nf_stillPart_46 ?_
  replace hq := hq.2
  refine G_i2l C d_Nf_stillPart_47 ?_
  refine G_lload C 0 d_Nf_stillPart_48 rfl ?_
  refine G_lmul C d_Nf_stillPart_50 ?_
  refine G_lload C 4 d_Nf_stillPart_51 rfl ?_
  refine G_lload C 1 d_Nf_stillPart_53 rfl ?_
  refine G_lmul C d_Nf_stillPart_55 ?_
  refine G_lsub C d_Nf_stillPart_56 ?_
  refine G_lload C 2 d_Nf_stillPart_57 rfl ?_
  refine G_lload C 3 d_Nf_stillPart_59 rfl ?_
  refine G_lmul C d_Nf_stillPart_61 ?_
  refine G_lsub C d_Nf_stillPart_62 ?_
  replace hq := hq _ rfl
  refine G_lstore C (lv' := [(14, _), (12, _), (10, _), (8, _), (6, _), (4, _), (0, _), (1, _), (2, _), (3, _)]) d_Nf_stillPart_63 (by decide) rfl ?_
  refine G_lload C 0 d_Nf_stillPart_65 rfl ?_
  refine G_lload C 1 d_Nf_stillPart_67 rfl ?_
  refine G_iload_n C 9 d_Nf_stillPart_69 rfl rfl ?_
  refine G_callS C (s_Nf_lowestTerms hq) v_Nf_lowestTerms z_Nf_lowestTerms wd_409 (by decide) rfl (rest := []) (by rfl) (Nat.le_of_ble_eq_true rfl) d_Nf_stillPart_70 (kj_ (fun r7 M6 hq => ?_))
  exact G_lret C R d_Nf_stillPart_73 ⟨_, rfl, hq⟩
theorem d_Nf_fieldAt_0 : decode b_Nf_fieldAt 0 = .ok (.aload_n 0, 1) := by decide +kernel
theorem d_Nf_fieldAt_1 : decode b_Nf_fieldAt 1 = .ok (.getfield 10, 3) := by decide +kernel
theorem d_Nf_fieldAt_4 : decode b_Nf_fieldAt 4 = .ok (.iconst 0, 1) := by decide +kernel
theorem d_Nf_fieldAt_5 : decode b_Nf_fieldAt 5 = .ok (.iload_n 1, 1) := by decide +kernel
theorem d_Nf_fieldAt_6 : decode b_Nf_fieldAt 6 = .ok (.invokevirtual 63, 3) := by decide +kernel
theorem d_Nf_fieldAt_9 : decode b_Nf_fieldAt 9 = .ok (.ifCond .eq 12, 3) := by decide +kernel
theorem d_Nf_fieldAt_12 : decode b_Nf_fieldAt 12 = .ok (.iload_n 2, 1) := by decide +kernel
theorem d_Nf_fieldAt_13 : decode b_Nf_fieldAt 13 = .ok (.ifCond .lt 8, 3) := by decide +kernel
theorem d_Nf_fieldAt_16 : decode b_Nf_fieldAt 16 = .ok (.iload_n 2, 1) := by decide +kernel
theorem d_Nf_fieldAt_17 : decode b_Nf_fieldAt 17 = .ok (.iconst 1, 1) := by decide +kernel
theorem d_Nf_fieldAt_18 : decode b_Nf_fieldAt 18 = .ok (.if_icmp .le 5, 3) := by decide +kernel
theorem d_Nf_fieldAt_21 : decode b_Nf_fieldAt 21 = .ok (.lconst 0, 1) := by decide +kernel
theorem d_Nf_fieldAt_22 : decode b_Nf_fieldAt 22 = .ok (.lreturn, 1) := by decide +kernel
theorem d_Nf_fieldAt_23 : decode b_Nf_fieldAt 23 = .ok (.aload_n 0, 1) := by decide +kernel
theorem d_Nf_fieldAt_24 : decode b_Nf_fieldAt 24 = .ok (.getfield 25, 3) := by decide +kernel
theorem d_Nf_fieldAt_27 : decode b_Nf_fieldAt 27 = .ok (.aload_n 0, 1) := by decide +kernel
theorem d_Nf_fieldAt_28 : decode b_Nf_fieldAt 28 = .ok (.getfield 10, 3) := by decide +kernel
theorem d_Nf_fieldAt_31 : decode b_Nf_fieldAt 31 = .ok (.invokevirtual 185, 3) := by decide +kernel
theorem d_Nf_fieldAt_34 : decode b_Nf_fieldAt 34 = .ok (.iconst (-1), 1) := by decide +kernel
theorem d_Nf_fieldAt_35 : decode b_Nf_fieldAt 35 = .ok (.if_icmp .eq 5, 3) := by decide +kernel
theorem d_Nf_fieldAt_38 : decode b_Nf_fieldAt 38 = .ok (.lconst 0, 1) := by decide +kernel
theorem d_Nf_fieldAt_39 : decode b_Nf_fieldAt 39 = .ok (.lreturn, 1) := by decide +kernel
theorem d_Nf_fieldAt_40 : decode b_Nf_fieldAt 40 = .ok (.aload_n 0, 1) := by decide +kernel
theorem d_Nf_fieldAt_41 : decode b_Nf_fieldAt 41 = .ok (.invokevirtual 189, 3) := by decide +kernel
theorem d_Nf_fieldAt_44 : decode b_Nf_fieldAt 44 = .ok (.aload_n 0, 1) := by decide +kernel
theorem d_Nf_fieldAt_45 : decode b_Nf_fieldAt 45 = .ok (.getfield 39, 3) := by decide +kernel
theorem d_Nf_fieldAt_48 : decode b_Nf_fieldAt 48 = .ok (.iload_n 1, 1) := by decide +kernel
theorem d_Nf_fieldAt_49 : decode b_Nf_fieldAt 49 = .ok (.invokevirtual 192, 3) := by decide +kernel
theorem d_Nf_fieldAt_52 : decode b_Nf_fieldAt 52 = .ok (.aload_n 0, 1) := by decide +kernel
theorem d_Nf_fieldAt_53 : decode b_Nf_fieldAt 53 = .ok (.getfield 39, 3) := by decide +kernel
theorem d_Nf_fieldAt_56 : decode b_Nf_fieldAt 56 = .ok (.getfield 164, 3) := by decide +kernel
theorem d_Nf_fieldAt_59 : decode b_Nf_fieldAt 59 = .ok (.iload_n 2, 1) := by decide +kernel
theorem d_Nf_fieldAt_60 : decode b_Nf_fieldAt 60 = .ok (.invokestatic 168, 3) := by decide +kernel
theorem d_Nf_fieldAt_63 : decode b_Nf_fieldAt 63 = .ok (.lreturn, 1) := by decide +kernel
def q_Nf_fieldAt (a1 : Int32) (a2 : Int32) (M : Mem) (post : Int64 → Mem → Prop) : Prop := q_Net_has (0 : Int32) a1 M (fun r2 M1 => (r2 = 0 → post (0 : Int64) M1) ∧ (¬ r2 = 0 → (a2 < 0 → post (0 : Int64) M1) ∧ (¬ a2 < 0 → (a2 ≤ (1 : Int32) → q_Wal_leastWithout M1 (fun r4 M3 => (r4 = (-1 : Int32) → q_Nf_balanceField M3 (fun M5 => q_Bal_above a1 M5 (fun r7 M6 => q_Nf_lowestTerms r7 (M6.2 15 4) a2 M6 (fun r9 M8 => post r9 M8)))) ∧ (¬ r4 = (-1 : Int32) → post (0 : Int64) M3))) ∧ (¬ a2 ≤ (1 : Int32) → post (0 : Int64) M1))))
set_option maxHeartbeats 4000000 in
theorem s_Nf_fieldAt {l : Launch} {κ : Kp} {a1 : Int32} {a2 : Int32} {M : Mem} {post : Int64 → Mem → Prop} (hq : q_Nf_fieldAt a1 a2 M post) : Ct l κ y_Nf_fieldAt b_Nf_fieldAt 3 (some .long) 4 [.ref (κ.1 + 0), .int a1, .int a2] M (pJ post) := by
  refine Ct_of (by decide) (Nat.le_of_ble_eq_true rfl) (fun γ hγ C R => ?_)
  subst hγ
  unfold q_Nf_fieldAt at hq
  show G γ κ 3 (0, 0) (Gq γ κ (pJ post)) 0 [(0, .ref (κ.1 + 0)), (1, .int a1), (2, .int a2)] [] M
  refine G_aload_n C 0 d_Nf_fieldAt_0 rfl rfl ?_
  refine Gg_Nf_shape C wd_163 d_Nf_fieldAt_1 ?_
  refine G_iconst C (v := 0) d_Nf_fieldAt_4 (by decide) ?_
  refine G_iload_n C 1 d_Nf_fieldAt_5 rfl rfl ?_
  refine G_callV C (s_Net_has hq) v_Net_has i_Net_has z_Net_has wd_211 (by decide) rfl (k := 1) (ci := 3) (by decide) rfl rfl rfl (rest := []) (by rfl) (Nat.le_of_ble_eq_true rfl) d_Nf_fieldAt_6 (ki_ (fun r2 M1 hq => ?_))
  refine G_if_eq C (tgt := 21) d_Nf_fieldAt_9 (by decide) (fun c => ?_) (fun c => ?_)
  · replace hq := hq.1 c
    refine G_lconst C (v := 0) d_Nf_fieldAt_21 (by decide) ?_
    exact G_lret C R d_Nf_fieldAt_22 ⟨_, rfl, hq⟩
  · replace hq := hq.2 c
    refine G_iload_n C 2 d_Nf_fieldAt_12 rfl rfl ?_
    refine G_if_lt C (tgt := 21) d_Nf_fieldAt_13 (by decide) (fun c => ?_) (fun c => ?_)
    · replace hq := hq.1 c
      refine G_lconst C (v := 0) d_Nf_fieldAt_21 (by decide) ?_
      exact G_lret C R d_Nf_fieldAt_22 ⟨_, rfl, hq⟩
    · replace hq := hq.2 c
      refine G_iload_n C 2 d_Nf_fieldAt_16 rfl rfl ?_
      refine G_iconst C (v := 1) d_Nf_fieldAt_17 (by decide) ?_
      refine G_icmp_le C (tgt := 23) d_Nf_fieldAt_18 (by decide) (fun c => ?_) (fun c => ?_)
      · replace hq := hq.1 c
        refine G_aload_n C 0 d_Nf_fieldAt_23 rfl rfl ?_
        refine Gg_Nf_walls C wd_165 d_Nf_fieldAt_24 ?_
        refine G_aload_n C 0 d_Nf_fieldAt_27 rfl rfl ?_
        refine Gg_Nf_shape C wd_163 d_Nf_fieldAt_28 ?_
        refine G_callV C (s_Wal_leastWithout hq) v_Wal_leastWithout i_Wal_leastWithout z_Wal_leastWithout wd_440 (by decide) rfl (k := 9) (ci := 4) (by decide) rfl rfl rfl (rest := []) (by rfl) (Nat.le_of_ble_eq_true rfl) d_Nf_fieldAt_31 (ki_ (fun r4 M3 hq => ?_))
        refine G_iconst C (v := -1) d_Nf_fieldAt_34 (by decide) ?_
        refine G_icmp_eq C (tgt := 40) d_Nf_fieldAt_35 (by decide) (fun c => ?_) (fun c => ?_)
        · replace hq := hq.1 c
          refine G_aload_n C 0 d_Nf_fieldAt_40 rfl rfl ?_
          refine G_callV C (s_Nf_balanceField hq) v_Nf_balanceField i_Nf_balanceField z_Nf_balanceField wd_452 (by decide) rfl (k := 0) (ci := 6) (by decide) rfl rfl rfl (rest := []) (by rfl) (Nat.le_of_ble_eq_true rfl) d_Nf_fieldAt_41 (kv_ (fun M5 hq => ?_))
          refine G_aload_n C 0 d_Nf_fieldAt_44 rfl rfl ?_
          refine Gg_Nf_balance C wd_167 d_Nf_fieldAt_45 ?_
          refine G_iload_n C 1 d_Nf_fieldAt_48 rfl rfl ?_
          refine G_callV C (s_Bal_above hq) v_Bal_above i_Bal_above z_Bal_above wd_405 (by decide) rfl (k := 15) (ci := 0) (by decide) rfl rfl rfl (rest := []) (by rfl) (Nat.le_of_ble_eq_true rfl) d_Nf_fieldAt_49 (kj_ (fun r7 M6 hq => ?_))
          refine G_aload_n C 0 d_Nf_fieldAt_52 rfl rfl ?_
          refine Gg_Nf_balance C wd_167 d_Nf_fieldAt_53 ?_
          refine Gg_Bal_below C wd_119 d_Nf_fieldAt_56 ?_
          refine G_iload_n C 2 d_Nf_fieldAt_59 rfl rfl ?_
          refine G_callS C (s_Nf_lowestTerms hq) v_Nf_lowestTerms z_Nf_lowestTerms wd_409 (by decide) rfl (rest := []) (by rfl) (Nat.le_of_ble_eq_true rfl) d_Nf_fieldAt_60 (kj_ (fun r9 M8 hq => ?_))
          exact G_lret C R d_Nf_fieldAt_63 ⟨_, rfl, hq⟩
        · replace hq := hq.2 c
          refine G_lconst C (v := 0) d_Nf_fieldAt_38 (by decide) ?_
          exact G_lret C R d_Nf_fieldAt_39 ⟨_, rfl, hq⟩
      · replace hq := hq.2 c
        refine G_lconst C (v := 0) d_Nf_fieldAt_21 (by decide) ?_
        exact G_lret C R d_Nf_fieldAt_22 ⟨_, rfl, hq⟩
theorem d_Mo_split_0 : decode b_Mo_split 0 = .ok (.iload_n 1, 1) := by decide +kernel
theorem d_Mo_split_1 : decode b_Mo_split 1 = .ok (.invokestatic 102, 3) := by decide +kernel
theorem d_Mo_split_4 : decode b_Mo_split 4 = .ok (.ifCond .eq 52, 3) := by decide +kernel
theorem d_Mo_split_7 : decode b_Mo_split 7 = .ok (.iload_n 2, 1) := by decide +kernel
theorem d_Mo_split_8 : decode b_Mo_split 8 = .ok (.i2l, 1) := by decide +kernel
theorem d_Mo_split_9 : decode b_Mo_split 9 = .ok (.lconst 0, 1) := by decide +kernel
theorem d_Mo_split_10 : decode b_Mo_split 10 = .ok (.ldc2_w 105, 3) := by decide +kernel
theorem d_Mo_split_13 : decode b_Mo_split 13 = .ok (.invokestatic 75, 3) := by decide +kernel
theorem d_Mo_split_16 : decode b_Mo_split 16 = .ok (.ifCond .eq 40, 3) := by decide +kernel
theorem d_Mo_split_19 : decode b_Mo_split 19 = .ok (.iload_n 3, 1) := by decide +kernel
theorem d_Mo_split_20 : decode b_Mo_split 20 = .ok (.i2l, 1) := by decide +kernel
theorem d_Mo_split_21 : decode b_Mo_split 21 = .ok (.lconst 0, 1) := by decide +kernel
theorem d_Mo_split_22 : decode b_Mo_split 22 = .ok (.aload_n 0, 1) := by decide +kernel
theorem d_Mo_split_23 : decode b_Mo_split 23 = .ok (.getfield 79, 3) := by decide +kernel
theorem d_Mo_split_26 : decode b_Mo_split 26 = .ok (.iconst 1, 1) := by decide +kernel
theorem d_Mo_split_27 : decode b_Mo_split 27 = .ok (.isub, 1) := by decide +kernel
theorem d_Mo_split_28 : decode b_Mo_split 28 = .ok (.i2l, 1) := by decide +kernel
theorem d_Mo_split_29 : decode b_Mo_split 29 = .ok (.invokestatic 75, 3) := by decide +kernel
theorem d_Mo_split_32 : decode b_Mo_split 32 = .ok (.ifCond .eq 24, 3) := by decide +kernel
theorem d_Mo_split_35 : decode b_Mo_split 35 = .ok (.iload 4, 2) := by decide +kernel
theorem d_Mo_split_37 : decode b_Mo_split 37 = .ok (.i2l, 1) := by decide +kernel
theorem d_Mo_split_38 : decode b_Mo_split 38 = .ok (.lconst 0, 1) := by decide +kernel
theorem d_Mo_split_39 : decode b_Mo_split 39 = .ok (.lconst 1, 1) := by decide +kernel
theorem d_Mo_split_40 : decode b_Mo_split 40 = .ok (.invokestatic 75, 3) := by decide +kernel
theorem d_Mo_split_43 : decode b_Mo_split 43 = .ok (.ifCond .eq 13, 3) := by decide +kernel
theorem d_Mo_split_46 : decode b_Mo_split 46 = .ok (.aload_n 0, 1) := by decide +kernel
theorem d_Mo_split_47 : decode b_Mo_split 47 = .ok (.getfield 29, 3) := by decide +kernel
theorem d_Mo_split_50 : decode b_Mo_split 50 = .ok (.iload_n 1, 1) := by decide +kernel
theorem d_Mo_split_51 : decode b_Mo_split 51 = .ok (.iaload, 1) := by decide +kernel
theorem d_Mo_split_52 : decode b_Mo_split 52 = .ok (.iconst 1, 1) := by decide +kernel
theorem d_Mo_split_53 : decode b_Mo_split 53 = .ok (.if_icmp .eq 5, 3) := by decide +kernel
theorem d_Mo_split_56 : decode b_Mo_split 56 = .ok (.lconst 0, 1) := by decide +kernel
theorem d_Mo_split_57 : decode b_Mo_split 57 = .ok (.lreturn, 1) := by decide +kernel
theorem d_Mo_split_58 : decode b_Mo_split 58 = .ok (.iconst 0, 1) := by decide +kernel
theorem d_Mo_split_59 : decode b_Mo_split 59 = .ok (.istore 5, 2) := by decide +kernel
theorem d_Mo_split_61 : decode b_Mo_split 61 = .ok (.iload 5, 2) := by decide +kernel
theorem d_Mo_split_63 : decode b_Mo_split 63 = .ok (.aload_n 0, 1) := by decide +kernel
theorem d_Mo_split_64 : decode b_Mo_split 64 = .ok (.getfield 79, 3) := by decide +kernel
theorem d_Mo_split_67 : decode b_Mo_split 67 = .ok (.if_icmp .ge 32, 3) := by decide +kernel
theorem d_Mo_split_70 : decode b_Mo_split 70 = .ok (.aload_n 0, 1) := by decide +kernel
theorem d_Mo_split_71 : decode b_Mo_split 71 = .ok (.iload_n 1, 1) := by decide +kernel
theorem d_Mo_split_72 : decode b_Mo_split 72 = .ok (.iload 5, 2) := by decide +kernel
theorem d_Mo_split_74 : decode b_Mo_split 74 = .ok (.invokevirtual 120, 3) := by decide +kernel
theorem d_Mo_split_77 : decode b_Mo_split 77 = .ok (.ldc2_w 141, 3) := by decide +kernel
theorem d_Mo_split_80 : decode b_Mo_split 80 = .ok (.ldc2_w 143, 3) := by decide +kernel
theorem d_Mo_split_83 : decode b_Mo_split 83 = .ok (.invokestatic 75, 3) := by decide +kernel
theorem d_Mo_split_86 : decode b_Mo_split 86 = .ok (.ifCond .ne 7, 3) := by decide +kernel
theorem d_Mo_split_89 : decode b_Mo_split 89 = .ok (.ldc2_w 196, 3) := by decide +kernel
theorem d_Mo_split_92 : decode b_Mo_split 92 = .ok (.lreturn, 1) := by decide +kernel
theorem d_Mo_split_93 : decode b_Mo_split 93 = .ok (.iinc 5 1, 3) := by decide +kernel
theorem d_Mo_split_96 : decode b_Mo_split 96 = .ok (.goto (-35), 3) := by decide +kernel
theorem d_Mo_split_99 : decode b_Mo_split 99 = .ok (.aload_n 0, 1) := by decide +kernel
theorem d_Mo_split_100 : decode b_Mo_split 100 = .ok (.iload_n 1, 1) := by decide +kernel
theorem d_Mo_split_101 : decode b_Mo_split 101 = .ok (.invokevirtual 198, 3) := by decide +kernel
theorem d_Mo_split_104 : decode b_Mo_split 104 = .ok (.iload_n 2, 1) := by decide +kernel
theorem d_Mo_split_105 : decode b_Mo_split 105 = .ok (.iconst 2, 1) := by decide +kernel
theorem d_Mo_split_106 : decode b_Mo_split 106 = .ok (.if_icmp .ge 41, 3) := by decide +kernel
theorem d_Mo_split_109 : decode b_Mo_split 109 = .ok (.iload_n 2, 1) := by decide +kernel
theorem d_Mo_split_110 : decode b_Mo_split 110 = .ok (.ifCond .ne 21, 3) := by decide +kernel
theorem d_Mo_split_113 : decode b_Mo_split 113 = .ok (.aload_n 0, 1) := by decide +kernel
theorem d_Mo_split_114 : decode b_Mo_split 114 = .ok (.getfield 67, 3) := by decide +kernel
theorem d_Mo_split_117 : decode b_Mo_split 117 = .ok (.iload_n 3, 1) := by decide +kernel
theorem d_Mo_split_118 : decode b_Mo_split 118 = .ok (.laload, 1) := by decide +kernel
theorem d_Mo_split_119 : decode b_Mo_split 119 = .ok (.aload_n 0, 1) := by decide +kernel
theorem d_Mo_split_120 : decode b_Mo_split 120 = .ok (.getfield 183, 3) := by decide +kernel
theorem d_Mo_split_123 : decode b_Mo_split 123 = .ok (.iload 4, 2) := by decide +kernel
theorem d_Mo_split_125 : decode b_Mo_split 125 = .ok (.invokestatic 201, 3) := by decide +kernel
theorem d_Mo_split_128 : decode b_Mo_split 128 = .ok (.goto 18, 3) := by decide +kernel
theorem d_Mo_split_131 : decode b_Mo_split 131 = .ok (.aload_n 0, 1) := by decide +kernel
theorem d_Mo_split_132 : decode b_Mo_split 132 = .ok (.getfield 70, 3) := by decide +kernel
theorem d_Mo_split_135 : decode b_Mo_split 135 = .ok (.iload_n 3, 1) := by decide +kernel
theorem d_Mo_split_136 : decode b_Mo_split 136 = .ok (.laload, 1) := by decide +kernel
theorem d_Mo_split_137 : decode b_Mo_split 137 = .ok (.aload_n 0, 1) := by decide +kernel
theorem d_Mo_split_138 : decode b_Mo_split 138 = .ok (.getfield 189, 3) := by decide +kernel
theorem d_Mo_split_141 : decode b_Mo_split 141 = .ok (.iload 4, 2) := by decide +kernel
theorem d_Mo_split_143 : decode b_Mo_split 143 = .ok (.invokestatic 201, 3) := by decide +kernel
theorem d_Mo_split_146 : decode b_Mo_split 146 = .ok (.lreturn, 1) := by decide +kernel
theorem d_Mo_split_147 : decode b_Mo_split 147 = .ok (.aload_n 0, 1) := by decide +kernel
theorem d_Mo_split_148 : decode b_Mo_split 148 = .ok (.getfield 183, 3) := by decide +kernel
theorem d_Mo_split_151 : decode b_Mo_split 151 = .ok (.aload_n 0, 1) := by decide +kernel
theorem d_Mo_split_152 : decode b_Mo_split 152 = .ok (.getfield 189, 3) := by decide +kernel
theorem d_Mo_split_155 : decode b_Mo_split 155 = .ok (.lmul, 1) := by decide +kernel
theorem d_Mo_split_156 : decode b_Mo_split 156 = .ok (.lstore 5, 2) := by decide +kernel
theorem d_Mo_split_158 : decode b_Mo_split 158 = .ok (.aload_n 0, 1) := by decide +kernel
theorem d_Mo_split_159 : decode b_Mo_split 159 = .ok (.iload_n 1, 1) := by decide +kernel
theorem d_Mo_split_160 : decode b_Mo_split 160 = .ok (.iload_n 3, 1) := by decide +kernel
theorem d_Mo_split_161 : decode b_Mo_split 161 = .ok (.invokevirtual 120, 3) := by decide +kernel
theorem d_Mo_split_164 : decode b_Mo_split 164 = .ok (.lload 5, 2) := by decide +kernel
theorem d_Mo_split_166 : decode b_Mo_split 166 = .ok (.lmul, 1) := by decide +kernel
theorem d_Mo_split_167 : decode b_Mo_split 167 = .ok (.aload_n 0, 1) := by decide +kernel
theorem d_Mo_split_168 : decode b_Mo_split 168 = .ok (.getfield 67, 3) := by decide +kernel
theorem d_Mo_split_171 : decode b_Mo_split 171 = .ok (.iload_n 3, 1) := by decide +kernel
theorem d_Mo_split_172 : decode b_Mo_split 172 = .ok (.laload, 1) := by decide +kernel
theorem d_Mo_split_173 : decode b_Mo_split 173 = .ok (.aload_n 0, 1) := by decide +kernel
theorem d_Mo_split_174 : decode b_Mo_split 174 = .ok (.getfield 189, 3) := by decide +kernel
theorem d_Mo_split_177 : decode b_Mo_split 177 = .ok (.lmul, 1) := by decide +kernel
theorem d_Mo_split_178 : decode b_Mo_split 178 = .ok (.lsub, 1) := by decide +kernel
theorem d_Mo_split_179 : decode b_Mo_split 179 = .ok (.aload_n 0, 1) := by decide +kernel
theorem d_Mo_split_180 : decode b_Mo_split 180 = .ok (.getfield 70, 3) := by decide +kernel
theorem d_Mo_split_183 : decode b_Mo_split 183 = .ok (.iload_n 3, 1) := by decide +kernel
theorem d_Mo_split_184 : decode b_Mo_split 184 = .ok (.laload, 1) := by decide +kernel
theorem d_Mo_split_185 : decode b_Mo_split 185 = .ok (.aload_n 0, 1) := by decide +kernel
theorem d_Mo_split_186 : decode b_Mo_split 186 = .ok (.getfield 183, 3) := by decide +kernel
theorem d_Mo_split_189 : decode b_Mo_split 189 = .ok (.lmul, 1) := by decide +kernel
theorem d_Mo_split_190 : decode b_Mo_split 190 = .ok (.lsub, 1) := by decide +kernel
theorem d_Mo_split_191 : decode b_Mo_split 191 = .ok (.lload 5, 2) := by decide +kernel
theorem d_Mo_split_193 : decode b_Mo_split 193 = .ok (.iload 4, 2) := by decide +kernel
theorem d_Mo_split_195 : decode b_Mo_split 195 = .ok (.invokestatic 201, 3) := by decide +kernel
theorem d_Mo_split_198 : decode b_Mo_split 198 = .ok (.lreturn, 1) := by decide +kernel
def q_Mo_split_L61 (kx89 : Mem → Prop) (kx99 : Int32 → Int32 → Int32 → Int32 → Mem → Prop) (post : Int64 → Mem → Prop) : Nat → Int32 → Int32 → Int32 → Int32 → Int32 → Mem → Prop
  | 0, _, _, _, _, _, _ => False
  | n + 1, x1, x2, x3, x4, x5, M => ((M.1 56 1) ≤ x5 → kx99 x1 x2 x3 x4 M) ∧ (¬ (M.1 56 1) ≤ x5 → q_Mo_at x1 x5 M (fun r10 M9 => q_Mo_in r10 (-1000 : Int64) (1000 : Int64) M9 (fun r12 M11 => (¬ r12 = 0 → q_Mo_split_L61 kx89 kx99 post n x1 x2 x3 x4 (x5 + 1) M11) ∧ (r12 = 0 → kx89 M11))))
set_option maxHeartbeats 4000000 in
theorem s_Mo_split_L61 {γ : Gm} {κ : Kp} {post : Int64 → Mem → Prop} {kx89 : Mem → Prop} {kx99 : Int32 → Int32 → Int32 → Int32 → Mem → Prop} (C : Cx γ κ "NetFormsModel" b_Mo_split 7 4 (0, 0)) (R : Rt γ (some .long)) (hx89 : ∀ M', kx89 M' → G γ κ 7 (0, 0) (Gq γ κ (pJ post)) 89 [] [] M') (hx99 : ∀ y1 y2 y3 y4 M', kx99 y1 y2 y3 y4 M' → G γ κ 7 (0, 0) (Gq γ κ (pJ post)) 99 [(0, .ref (κ.1 + 56)), (1, .int y1), (2, .int y2), (3, .int y3), (4, .int y4)] [] M') : ∀ (n : Nat) (x1 : Int32) (x2 : Int32) (x3 : Int32) (x4 : Int32) (x5 : Int32) (M : Mem), q_Mo_split_L61 kx89 kx99 post n x1 x2 x3 x4 x5 M → G γ κ 7 (0, 0) (Gq γ κ (pJ post)) 61 [(0, .ref (κ.1 + 56)), (1, .int x1), (2, .int x2), (3, .int x3), (4, .int x4), (5, .int x5)] [] M := by
  intro n
  induction n with
  | zero => intro x1 x2 x3 x4 x5 M hq; exact hq.elim
  | succ n ih =>
    intro x1 x2 x3 x4 x5 M hq
    unfold q_Mo_split_L61 at hq
    refine G_iload C 5 d_Mo_split_61 rfl ?_
    refine G_aload_n C 0 d_Mo_split_63 rfl rfl ?_
    refine Gg_Mo_edges C wd_522 d_Mo_split_64 ?_
    refine G_icmp_ge C (tgt := 99) d_Mo_split_67 (by decide) (fun c => ?_) (fun c => ?_)
    · replace hq := hq.1 c
      exact G_sub [0, 1, 2, 3, 4] (by rfl) (hx99 _ _ _ _ _ hq)
    · replace hq := hq.2 c
      refine G_aload_n C 0 d_Mo_split_70 rfl rfl ?_
      refine G_iload_n C 1 d_Mo_split_71 rfl rfl ?_
      refine G_iload C 5 d_Mo_split_72 rfl ?_
      refine G_callV C (s_Mo_at hq) v_Mo_at i_Mo_at z_Mo_at wd_668 (by decide) rfl (k := 56) (ci := 7) (by decide) rfl rfl rfl (rest := []) (by rfl) (Nat.le_of_ble_eq_true rfl) d_Mo_split_74 (kj_ (fun r10 M9 hq => ?_))
      refine G_ldc2 C (v := -1000) wd_700 d_Mo_split_77 ?_
      refine G_ldc2 C (v := 1000) wd_701 d_Mo_split_80 ?_
      refine G_callS C (s_Mo_in hq) v_Mo_in z_Mo_in wd_605 (by decide) rfl (rest := []) (by rfl) (Nat.le_of_ble_eq_true rfl) d_Mo_split_83 (ki_ (fun r12 M11 hq => ?_))
      refine G_if_ne C (tgt := 93) d_Mo_split_86 (by decide) (fun c => ?_) (fun c => ?_)
      · replace hq := hq.1 c
        refine G_iinc C (v := _ + 1) (lv' := [(5, _), (0, _), (1, _), (2, _), (3, _), (4, _)]) 5 d_Mo_split_93 rfl rfl (by decide) rfl ?_
        refine G_goto C (tgt := 61) d_Mo_split_96 (by decide) ?_
        exact G_sub [1, 2, 3, 4, 5, 0] (by rfl) (ih _ _ _ _ _ _ hq)
      · replace hq := hq.2 c
        exact G_sub [] (by rfl) (hx89 _ hq)
def q_Mo_split (a1 : Int32) (a2 : Int32) (a3 : Int32) (a4 : Int32) (M : Mem) (post : Int64 → Mem → Prop) : Prop := q_Mo_isForm a1 M (fun r2 M1 => (r2 = 0 → post (0 : Int64) M1) ∧ (¬ r2 = 0 → q_Mo_in a2.toInt64 (0 : Int64) (2 : Int64) M1 (fun r4 M3 => (r4 = 0 → post (0 : Int64) M3) ∧ (¬ r4 = 0 → q_Mo_in a3.toInt64 (0 : Int64) (((M3.1 56 1) - (1 : Int32)).toInt64) M3 (fun r6 M5 => (r6 = 0 → post (0 : Int64) M5) ∧ (¬ r6 = 0 → q_Mo_in a4.toInt64 (0 : Int64) (1 : Int64) M5 (fun r8 M7 => (r8 = 0 → post (0 : Int64) M7) ∧ (¬ r8 = 0 → vp_in a1 12 ∧ (((M7.1 62 a1.toNatClampNeg) = (1 : Int32) → ∃ n13, q_Mo_split_L61 (fun M14 => post (-5 : Int64) M14) (fun x15 x16 x17 x18 M19 => q_Mo_splits x15 M19 (fun M20 => ((2 : Int32) ≤ x16 → q_Mo_at x15 x17 M20 (fun r22 M21 => vp_in x17 12 ∧ (vp_in x17 12 ∧ (q_Mo_lowest (((r22 * ((M20.2 56 24) * (M20.2 56 25))) - ((M21.2 74 x17.toNatClampNeg) * (M21.2 56 25))) - ((M21.2 75 x17.toNatClampNeg) * (M21.2 56 24))) ((M20.2 56 24) * (M20.2 56 25)) x18 M21 (fun r24 M23 => post r24 M23))))) ∧ (¬ (2 : Int32) ≤ x16 → (¬ x16 = 0 → vp_in x17 12 ∧ (q_Mo_lowest (M20.2 75 x17.toNatClampNeg) (M20.2 56 25) x18 M20 (fun r26 M25 => post r26 M25))) ∧ (x16 = 0 → vp_in x17 12 ∧ (q_Mo_lowest (M20.2 74 x17.toNatClampNeg) (M20.2 56 24) x18 M20 (fun r28 M27 => post r28 M27)))))) post n13 a1 a2 a3 a4 (0 : Int32) M7) ∧ (¬ (M7.1 62 a1.toNatClampNeg) = (1 : Int32) → post (0 : Int64) M7))))))))))
set_option maxHeartbeats 4000000 in
theorem s_Mo_split {l : Launch} {κ : Kp} {a1 : Int32} {a2 : Int32} {a3 : Int32} {a4 : Int32} {M : Mem} {post : Int64 → Mem → Prop} (hq : q_Mo_split a1 a2 a3 a4 M post) : Ct l κ y_Mo_split b_Mo_split 7 (some .long) 4 [.ref (κ.1 + 56), .int a1, .int a2, .int a3, .int a4] M (pJ post) := by
  refine Ct_of (by decide) (Nat.le_of_ble_eq_true rfl) (fun γ hγ C R => ?_)
  subst hγ
  unfold q_Mo_split at hq
  show G γ κ 7 (0, 0) (Gq γ κ (pJ post)) 0 [(0, .ref (κ.1 + 56)), (1, .int a1), (2, .int a2), (3, .int a3), (4, .int a4)] [] M
  refine G_iload_n C 1 d_Mo_split_0 rfl rfl ?_
  refine G_callS C (s_Mo_isForm hq) v_Mo_isForm z_Mo_isForm wd_636 (by decide) rfl (rest := []) (by rfl) (Nat.le_of_ble_eq_true rfl) d_Mo_split_1 (ki_ (fun r2 M1 hq => ?_))
  refine G_if_eq C (tgt := 56) d_Mo_split_4 (by decide) (fun c => ?_) (fun c => ?_)
  · replace hq := hq.1 c
    refine G_lconst C (v := 0) d_Mo_split_56 (by decide) ?_
    exact G_lret C R d_Mo_split_57 ⟨_, rfl, hq⟩
  · replace hq := hq.2 c
    refine G_iload_n C 2 d_Mo_split_7 rfl rfl ?_
    refine G_i2l C d_Mo_split_8 ?_
    refine G_lconst C (v := 0) d_Mo_split_9 (by decide) ?_
    refine G_ldc2 C (v := 2) wd_640 d_Mo_split_10 ?_
    refine G_callS C (s_Mo_in hq) v_Mo_in z_Mo_in wd_605 (by decide) rfl (rest := []) (by rfl) (Nat.le_of_ble_eq_true rfl) d_Mo_split_13 (ki_ (fun r4 M3 hq => ?_))
    refine G_if_eq C (tgt := 56) d_Mo_split_16 (by decide) (fun c => ?_) (fun c => ?_)
    · replace hq := hq.1 c
      refine G_lconst C (v := 0) d_Mo_split_56 (by decide) ?_
      exact G_lret C R d_Mo_split_57 ⟨_, rfl, hq⟩
    · replace hq := hq.2 c
      refine G_iload_n C 3 d_Mo_split_19 rfl rfl ?_
      refine G_i2l C d_Mo_split_20 ?_
      refine G_lconst C (v := 0) d_Mo_split_21 (by decide) ?_
      refine G_aload_n C 0 d_Mo_split_22 rfl rfl ?_
      refine Gg_Mo_edges C wd_522 d_Mo_split_23 ?_
      refine G_iconst C (v := 1) d_Mo_split_26 (by decide) ?_
      refine G_isub C d_Mo_split_27 ?_
      refine G_i2l C d_Mo_split_28 ?_
      refine G_callS C (s_Mo_in hq) v_Mo_in z_Mo_in wd_605 (by decide) rfl (rest := []) (by rfl) (Nat.le_of_ble_eq_true rfl) d_Mo_split_29 (ki_ (fun r6 M5 hq => ?_))
      refine G_if_eq C (tgt := 56) d_Mo_split_32 (by decide) (fun c => ?_) (fun c => ?_)
      · replace hq := hq.1 c
        refine G_lconst C (v := 0) d_Mo_split_56 (by decide) ?_
        exact G_lret C R d_Mo_split_57 ⟨_, rfl, hq⟩
      · replace hq := hq.2 c
        refine G_iload C 4 d_Mo_split_35 rfl ?_
        refine G_i2l C d_Mo_split_37 ?_
        refine G_lconst C (v := 0) d_Mo_split_38 (by decide) ?_
        refine G_lconst C (v := 1) d_Mo_split_39 (by decide) ?_
        refine G_callS C (s_Mo_in hq) v_Mo_in z_Mo_in wd_605 (by decide) rfl (rest := []) (by rfl) (Nat.le_of_ble_eq_true rfl) d_Mo_split_40 (ki_ (fun r8 M7 hq => ?_))
        refine G_if_eq C (tgt := 56) d_Mo_split_43 (by decide) (fun c => ?_) (fun c => ?_)
        · replace hq := hq.1 c
          refine G_lconst C (v := 0) d_Mo_split_56 (by decide) ?_
          exact G_lret C R d_Mo_split_57 ⟨_, rfl, hq⟩
        · replace hq := hq.2 c
          refine G_aload_n C 0 d_Mo_split_46 rfl rfl ?_
          refine Gg_Mo_degree C wd_529 d_Mo_split_47 ?_
          refine G_iload_n C 1 d_Mo_split_50 rfl rfl ?_
          refine G_iaload C (k := 62) (by decide) (fun _ _ => rfl) hq.1 d_Mo_split_51 ?_
          replace hq := hq.2
          refine G_iconst C (v := 1) d_Mo_split_52 (by decide) ?_
          refine G_icmp_eq C (tgt := 58) d_Mo_split_53 (by decide) (fun c => ?_) (fun c => ?_)
          · replace hq := hq.1 c
            refine G_iconst C (v := 0) d_Mo_split_58 (by decide) ?_
            refine G_istore C (lv' := [(5, _), (0, _), (1, _), (2, _), (3, _), (4, _)]) d_Mo_split_59 (by decide) rfl ?_
            obtain ⟨n13, hq⟩ := hq
            refine G_sub [1, 2, 3, 4, 5, 0] (by rfl) (s_Mo_split_L61 C R ?_ ?_ n13 _ _ _ _ _ _ hq)
            · intro M14 hq
              refine G_ldc2 C (v := -5) wd_752 d_Mo_split_89 ?_
              exact G_lret C R d_Mo_split_92 ⟨_, rfl, hq⟩
            · intro x15 x16 x17 x18 M19 hq
              refine G_aload_n C 0 d_Mo_split_99 rfl rfl ?_
              refine G_iload_n C 1 d_Mo_split_100 rfl rfl ?_
              refine G_callV C (s_Mo_splits hq) v_Mo_splits i_Mo_splits z_Mo_splits wd_753 (by decide) rfl (k := 56) (ci := 7) (by decide) rfl rfl rfl (rest := []) (by rfl) (Nat.le_of_ble_eq_true rfl) d_Mo_split_101 (kv_ (fun M20 hq => ?_))
              refine G_iload_n C 2 d_Mo_split_104 rfl rfl ?_
              refine G_iconst C (v := 2) d_Mo_split_105 (by decide) ?_
              refine G_icmp_ge C (tgt := 147) d_Mo_split_106 (by decide) (fun c => ?_) (fun c => ?_)
              · replace hq := hq.1 c
                refine G_aload_n C 0 d_Mo_split_147 rfl rfl ?_
                refine Gg_Mo_slopeShared C wd_545 d_Mo_split_148 ?_
                refine G_aload_n C 0 d_Mo_split_151 rfl rfl ?_
                refine Gg_Mo_rimShared C wd_546 d_Mo_split_152 ?_
                refine G_lmul C d_Mo_split_155 ?_
                refine G_lstore C (lv' := [(5, _), (0, _), (1, _), (2, _), (3, _), (4, _)]) d_Mo_split_156 (by decide) rfl ?_
                refine G_aload_n C 1 d_Mo_split_158 rfl rfl ?_
                refine G_iload_n C 2 d_Mo_split_159 rfl rfl ?_
                refine G_iload_n C 4 d_Mo_split_160 rfl rfl ?_
                refine G_callV C (s_Mo_at hq) v_Mo_at i_Mo_at z_Mo_at wd_668 (by decide) rfl (k := 56) (ci := 7) (by decide) rfl rfl rfl (rest := []) (by rfl) (Nat.le_of_ble_eq_true rfl) d_Mo_split_161 (kj_ (fun r22 M21 hq => ?_))
                refine G_lload C 0 d_Mo_split_164 rfl ?_
                refine G_lmul C d_Mo_split_166 ?_
                refine G_aload_n C 1 d_Mo_split_167 rfl rfl ?_
                refine Gg_Mo_slopePart C wd_543 d_Mo_split_168 ?_
                refine G_iload_n C 4 d_Mo_split_171 rfl rfl ?_
                refine G_laload C (k := 74) (by decide) (fun _ _ => rfl) hq.1 d_Mo_split_172 ?_
                replace hq := hq.2
                refine G_aload_n C 1 d_Mo_split_173 rfl rfl ?_
                refine Gg_Mo_rimShared C wd_546 d_Mo_split_174 ?_
                refine G_lmul C d_Mo_split_177 ?_
                refine G_lsub C d_Mo_split_178 ?_
                refine G_aload_n C 1 d_Mo_split_179 rfl rfl ?_
                refine Gg_Mo_rimPart C wd_544 d_Mo_split_180 ?_
                refine G_iload_n C 4 d_Mo_split_183 rfl rfl ?_
                refine G_laload C (k := 75) (by decide) (fun _ _ => rfl) hq.1 d_Mo_split_184 ?_
                replace hq := hq.2
                refine G_aload_n C 1 d_Mo_split_185 rfl rfl ?_
                refine Gg_Mo_slopeShared C wd_545 d_Mo_split_186 ?_
                refine G_lmul C d_Mo_split_189 ?_
                refine G_lsub C d_Mo_split_190 ?_
                refine G_lload C 0 d_Mo_split_191 rfl ?_
                refine G_iload C 5 d_Mo_split_193 rfl ?_
                refine G_callS C (s_Mo_lowest hq) v_Mo_lowest z_Mo_lowest wd_765 (by decide) rfl (rest := []) (by rfl) (Nat.le_of_ble_eq_true rfl) d_Mo_split_195 (kj_ (fun r24 M23 hq => ?_))
                exact G_lret C R d_Mo_split_198 ⟨_, rfl, hq⟩
              · replace hq := hq.2 c
                refine G_iload_n C 2 d_Mo_split_109 rfl rfl ?_
                refine G_if_ne C (tgt := 131) d_Mo_split_110 (by decide) (fun c => ?_) (fun c => ?_)
                · replace hq := hq.1 c
                  refine G_aload_n C 0 d_Mo_split_131 rfl rfl ?_
                  refine Gg_Mo_rimPart C wd_544 d_Mo_split_132 ?_
                  refine G_iload_n C 3 d_Mo_split_135 rfl rfl ?_
                  refine G_laload C (k := 75) (by decide) (fun _ _ => rfl) hq.1 d_Mo_split_136 ?_
                  replace hq := hq.2
                  refine G_aload_n C 0 d_Mo_split_137 rfl rfl ?_
                  refine Gg_Mo_rimShared C wd_546 d_Mo_split_138 ?_
                  refine G_iload C 4 d_Mo_split_141 rfl ?_
                  refine G_callS C (s_Mo_lowest hq) v_Mo_lowest z_Mo_lowest wd_765 (by decide) rfl (rest := []) (by rfl) (Nat.le_of_ble_eq_true rfl) d_Mo_split_143 (kj_ (fun r26 M25 hq => ?_))
                  exact G_lret C R d_Mo_split_146 ⟨_, rfl, hq⟩
                · replace hq := hq.2 c
                  refine G_aload_n C 0 d_Mo_split_113 rfl rfl ?_
                  refine Gg_Mo_slopePart C wd_543 d_Mo_split_114 ?_
                  refine G_iload_n C 3 d_Mo_split_117 rfl rfl ?_
                  refine G_laload C (k := 74) (by decide) (fun _ _ => rfl) hq.1 d_Mo_split_118 ?_
                  replace hq := hq.2
                  refine G_aload_n C 0 d_Mo_split_119 rfl rfl ?_
                  refine Gg_Mo_slopeShared C wd_545 d_Mo_split_120 ?_
                  refine G_iload C 4 d_Mo_split_123 rfl ?_
                  refine G_callS C (s_Mo_lowest hq) v_Mo_lowest z_Mo_lowest wd_765 (by decide) rfl (rest := []) (by rfl) (Nat.le_of_ble_eq_true rfl) d_Mo_split_125 (kj_ (fun r28 M27 hq => ?_))
                  refine G_goto C (tgt := 146) d_Mo_split_128 (by decide) ?_
                  exact G_lret C R d_Mo_split_146 ⟨_, rfl, hq⟩
          · replace hq := hq.2 c
            refine G_lconst C (v := 0) d_Mo_split_56 (by decide) ?_
            exact G_lret C R d_Mo_split_57 ⟨_, rfl, hq⟩
theorem d_Nf_split_0 : decode b_Nf_split 0 = .ok (.aload_n 0, 1) := by decide +kernel
theorem d_Nf_split_1 : decode b_Nf_split 1 = .ok (.iload_n 1, 1) := by decide +kernel
theorem d_Nf_split_2 : decode b_Nf_split 2 = .ok (.invokevirtual 91, 3) := by decide +kernel
theorem d_Nf_split_5 : decode b_Nf_split 5 = .ok (.astore 5, 2) := by decide +kernel
theorem d_Nf_split_7 : decode b_Nf_split 7 = .ok (.aload 5, 2) := by decide +kernel
theorem d_Nf_split_9 : decode b_Nf_split 9 = .ok (.ifnull 35, 3) := by decide +kernel
theorem d_Nf_split_12 : decode b_Nf_split 12 = .ok (.iload_n 2, 1) := by decide +kernel
theorem d_Nf_split_13 : decode b_Nf_split 13 = .ok (.ifCond .lt 31, 3) := by decide +kernel
theorem d_Nf_split_16 : decode b_Nf_split 16 = .ok (.iload_n 2, 1) := by decide +kernel
theorem d_Nf_split_17 : decode b_Nf_split 17 = .ok (.iconst 2, 1) := by decide +kernel
theorem d_Nf_split_18 : decode b_Nf_split 18 = .ok (.if_icmp .gt 26, 3) := by decide +kernel
theorem d_Nf_split_21 : decode b_Nf_split 21 = .ok (.aload_n 0, 1) := by decide +kernel
theorem d_Nf_split_22 : decode b_Nf_split 22 = .ok (.getfield 10, 3) := by decide +kernel
theorem d_Nf_split_25 : decode b_Nf_split 25 = .ok (.iconst 1, 1) := by decide +kernel
theorem d_Nf_split_26 : decode b_Nf_split 26 = .ok (.iload_n 3, 1) := by decide +kernel
theorem d_Nf_split_27 : decode b_Nf_split 27 = .ok (.invokevirtual 63, 3) := by decide +kernel
theorem d_Nf_split_30 : decode b_Nf_split 30 = .ok (.ifCond .eq 14, 3) := by decide +kernel
theorem d_Nf_split_33 : decode b_Nf_split 33 = .ok (.iload 4, 2) := by decide +kernel
theorem d_Nf_split_35 : decode b_Nf_split 35 = .ok (.ifCond .lt 9, 3) := by decide +kernel
theorem d_Nf_split_38 : decode b_Nf_split 38 = .ok (.iload 4, 2) := by decide +kernel
theorem d_Nf_split_40 : decode b_Nf_split 40 = .ok (.iconst 1, 1) := by decide +kernel
theorem d_Nf_split_41 : decode b_Nf_split 41 = .ok (.if_icmp .le 5, 3) := by decide +kernel
theorem d_Nf_split_44 : decode b_Nf_split 44 = .ok (.lconst 0, 1) := by decide +kernel
theorem d_Nf_split_45 : decode b_Nf_split 45 = .ok (.lreturn, 1) := by decide +kernel
theorem d_Nf_split_46 : decode b_Nf_split 46 = .ok (.aload 5, 2) := by decide +kernel
theorem d_Nf_split_48 : decode b_Nf_split 48 = .ok (.getfield 95, 3) := by decide +kernel
theorem d_Nf_split_51 : decode b_Nf_split 51 = .ok (.iconst 1, 1) := by decide +kernel
theorem d_Nf_split_52 : decode b_Nf_split 52 = .ok (.if_icmp .eq 5, 3) := by decide +kernel
theorem d_Nf_split_55 : decode b_Nf_split 55 = .ok (.lconst 0, 1) := by decide +kernel
theorem d_Nf_split_56 : decode b_Nf_split 56 = .ok (.lreturn, 1) := by decide +kernel
theorem d_Nf_split_57 : decode b_Nf_split 57 = .ok (.aload 5, 2) := by decide +kernel
theorem d_Nf_split_59 : decode b_Nf_split 59 = .ok (.sipush 1000, 3) := by decide +kernel
theorem d_Nf_split_62 : decode b_Nf_split 62 = .ok (.invokevirtual 129, 3) := by decide +kernel
theorem d_Nf_split_65 : decode b_Nf_split 65 = .ok (.ifCond .ne 7, 3) := by decide +kernel
theorem d_Nf_split_68 : decode b_Nf_split 68 = .ok (.ldc2_w 158, 3) := by decide +kernel
theorem d_Nf_split_71 : decode b_Nf_split 71 = .ok (.lreturn, 1) := by decide +kernel
theorem d_Nf_split_72 : decode b_Nf_split 72 = .ok (.iload_n 2, 1) := by decide +kernel
theorem d_Nf_split_73 : decode b_Nf_split 73 = .ok (.ifCond .ne 27, 3) := by decide +kernel
theorem d_Nf_split_76 : decode b_Nf_split 76 = .ok (.aload_n 0, 1) := by decide +kernel
theorem d_Nf_split_77 : decode b_Nf_split 77 = .ok (.aload 5, 2) := by decide +kernel
theorem d_Nf_split_79 : decode b_Nf_split 79 = .ok (.iload_n 3, 1) := by decide +kernel
theorem d_Nf_split_80 : decode b_Nf_split 80 = .ok (.invokevirtual 160, 3) := by decide +kernel
theorem d_Nf_split_83 : decode b_Nf_split 83 = .ok (.lstore 6, 2) := by decide +kernel
theorem d_Nf_split_85 : decode b_Nf_split 85 = .ok (.lload 6, 2) := by decide +kernel
theorem d_Nf_split_87 : decode b_Nf_split 87 = .ok (.aload_n 0, 1) := by decide +kernel
theorem d_Nf_split_88 : decode b_Nf_split 88 = .ok (.getfield 39, 3) := by decide +kernel
theorem d_Nf_split_91 : decode b_Nf_split 91 = .ok (.getfield 164, 3) := by decide +kernel
theorem d_Nf_split_94 : decode b_Nf_split 94 = .ok (.iload 4, 2) := by decide +kernel
theorem d_Nf_split_96 : decode b_Nf_split 96 = .ok (.invokestatic 168, 3) := by decide +kernel
theorem d_Nf_split_99 : decode b_Nf_split 99 = .ok (.lreturn, 1) := by decide +kernel
theorem d_Nf_split_100 : decode b_Nf_split 100 = .ok (.iload_n 2, 1) := by decide +kernel
theorem d_Nf_split_101 : decode b_Nf_split 101 = .ok (.iconst 1, 1) := by decide +kernel
theorem d_Nf_split_102 : decode b_Nf_split 102 = .ok (.if_icmp .ne 27, 3) := by decide +kernel
theorem d_Nf_split_105 : decode b_Nf_split 105 = .ok (.aload_n 0, 1) := by decide +kernel
theorem d_Nf_split_106 : decode b_Nf_split 106 = .ok (.aload 5, 2) := by decide +kernel
theorem d_Nf_split_108 : decode b_Nf_split 108 = .ok (.iload_n 3, 1) := by decide +kernel
theorem d_Nf_split_109 : decode b_Nf_split 109 = .ok (.invokevirtual 172, 3) := by decide +kernel
theorem d_Nf_split_112 : decode b_Nf_split 112 = .ok (.lstore 6, 2) := by decide +kernel
theorem d_Nf_split_114 : decode b_Nf_split 114 = .ok (.lload 6, 2) := by decide +kernel
theorem d_Nf_split_116 : decode b_Nf_split 116 = .ok (.aload_n 0, 1) := by decide +kernel
theorem d_Nf_split_117 : decode b_Nf_split 117 = .ok (.getfield 39, 3) := by decide +kernel
theorem d_Nf_split_120 : decode b_Nf_split 120 = .ok (.getfield 164, 3) := by decide +kernel
theorem d_Nf_split_123 : decode b_Nf_split 123 = .ok (.iload 4, 2) := by decide +kernel
theorem d_Nf_split_125 : decode b_Nf_split 125 = .ok (.invokestatic 168, 3) := by decide +kernel
theorem d_Nf_split_128 : decode b_Nf_split 128 = .ok (.lreturn, 1) := by decide +kernel
theorem d_Nf_split_129 : decode b_Nf_split 129 = .ok (.aload_n 0, 1) := by decide +kernel
theorem d_Nf_split_130 : decode b_Nf_split 130 = .ok (.aload 5, 2) := by decide +kernel
theorem d_Nf_split_132 : decode b_Nf_split 132 = .ok (.iload_n 3, 1) := by decide +kernel
theorem d_Nf_split_133 : decode b_Nf_split 133 = .ok (.iload 4, 2) := by decide +kernel
theorem d_Nf_split_135 : decode b_Nf_split 135 = .ok (.invokevirtual 175, 3) := by decide +kernel
theorem d_Nf_split_138 : decode b_Nf_split 138 = .ok (.lreturn, 1) := by decide +kernel
def q_Nf_split (a1 : Int32) (a2 : Int32) (a3 : Int32) (a4 : Int32) (M : Mem) (post : Int64 → Mem → Prop) : Prop := q_Nf_formAt a1 M (fun r2 M1 => (r2 = none → post (0 : Int64) M1) ∧ (∀ i3, r2 = some i3 → i3 < 12 ∧ ((a2 < 0 → post (0 : Int64) M1) ∧ (¬ a2 < 0 → ((2 : Int32) < a2 → post (0 : Int64) M1) ∧ (¬ (2 : Int32) < a2 → q_Net_has (1 : Int32) a3 M1 (fun r5 M4 => (r5 = 0 → post (0 : Int64) M4) ∧ (¬ r5 = 0 → (a4 < 0 → post (0 : Int64) M4) ∧ (¬ a4 < 0 → (a4 ≤ (1 : Int32) → ((M4.1 (32 + 2 * i3) 0) = (1 : Int32) → q_Frm_fitsIn i3 (1000 : Int32) M4 (fun r7 M6 => (¬ r7 = 0 → (¬ a2 = 0 → (¬ a2 = (1 : Int32) → q_Nf_stillPart i3 a3 a4 M6 (fun r9 M8 => post r9 M8)) ∧ (a2 = (1 : Int32) → q_Nf_turnPart i3 a3 M6 (fun r11 M10 => q_Nf_lowestTerms r11 (M10.2 15 4) a4 M10 (fun r13 M12 => post r13 M12)))) ∧ (a2 = 0 → q_Nf_slopePart i3 a3 M6 (fun r15 M14 => q_Nf_lowestTerms r15 (M14.2 15 4) a4 M14 (fun r17 M16 => post r17 M16)))) ∧ (r7 = 0 → post (-5 : Int64) M6))) ∧ (¬ (M4.1 (32 + 2 * i3) 0) = (1 : Int32) → post (0 : Int64) M4)) ∧ (¬ a4 ≤ (1 : Int32) → post (0 : Int64) M4)))))))))
set_option maxHeartbeats 4000000 in
theorem s_Nf_split {l : Launch} {κ : Kp} {a1 : Int32} {a2 : Int32} {a3 : Int32} {a4 : Int32} {M : Mem} {post : Int64 → Mem → Prop} (hq : q_Nf_split a1 a2 a3 a4 M post) : Ct l κ y_Nf_split b_Nf_split 8 (some .long) 5 [.ref (κ.1 + 0), .int a1, .int a2, .int a3, .int a4] M (pJ post) := by
  refine Ct_of (by decide) (Nat.le_of_ble_eq_true rfl) (fun γ hγ C R => ?_)
  subst hγ
  unfold q_Nf_split at hq
  show G γ κ 8 (0, 0) (Gq γ κ (pJ post)) 0 [(0, .ref (κ.1 + 0)), (1, .int a1), (2, .int a2), (3, .int a3), (4, .int a4)] [] M
  refine G_aload_n C 0 d_Nf_split_0 rfl rfl ?_
  refine G_iload_n C 1 d_Nf_split_1 rfl rfl ?_
  refine G_callV C (s_Nf_formAt hq) v_Nf_formAt i_Nf_formAt z_Nf_formAt wd_257 (by decide) rfl (k := 0) (ci := 6) (by decide) rfl rfl rfl (rest := []) (by rfl) (Nat.le_of_ble_eq_true rfl) d_Nf_split_2 (kf_ (fun r2 M1 hq => ?_))
  refine G_astoreq C (lv' := [(5, _), (0, _), (1, _), (2, _), (3, _), (4, _)]) d_Nf_split_5 (by decide) rfl ?_
  refine G_aloadq C 0 d_Nf_split_7 rfl ?_
  refine G_ifnullq C (tgt := 44) d_Nf_split_9 (by decide) (fun c => ?_) (fun i3 c => ?_)
  · replace hq := hq.1 c
    refine G_lconst C (v := 0) d_Nf_split_44 (by decide) ?_
    exact G_lret C R d_Nf_split_45 ⟨_, rfl, hq⟩
  · have hz := hq.2 i3 c
    clear hq
    subst c
    obtain ⟨h_i3, hq⟩ := hz
    refine G_iload_n C 3 d_Nf_split_12 rfl rfl ?_
    refine G_if_lt C (tgt := 44) d_Nf_split_13 (by decide) (fun c => ?_) (fun c => ?_)
    · replace hq := hq.1 c
      refine G_lconst C (v := 0) d_Nf_split_44 (by decide) ?_
      exact G_lret C R d_Nf_split_45 ⟨_, rfl, hq⟩
    · replace hq := hq.2 c
      refine G_iload_n C 3 d_Nf_split_16 rfl rfl ?_
      refine G_iconst C (v := 2) d_Nf_split_17 (by decide) ?_
      refine G_icmp_gt C (tgt := 44) d_Nf_split_18 (by decide) (fun c => ?_) (fun c => ?_)
      · replace hq := hq.1 c
        refine G_lconst C (v := 0) d_Nf_split_44 (by decide) ?_
        exact G_lret C R d_Nf_split_45 ⟨_, rfl, hq⟩
      · replace hq := hq.2 c
        refine G_aload_n C 1 d_Nf_split_21 rfl rfl ?_
        refine Gg_Nf_shape C wd_163 d_Nf_split_22 ?_
        refine G_iconst C (v := 1) d_Nf_split_25 (by decide) ?_
        refine G_iload_n C 4 d_Nf_split_26 rfl rfl ?_
        refine G_callV C (s_Net_has hq) v_Net_has i_Net_has z_Net_has wd_211 (by decide) rfl (k := 1) (ci := 3) (by decide) rfl rfl rfl (rest := []) (by rfl) (Nat.le_of_ble_eq_true rfl) d_Nf_split_27 (ki_ (fun r5 M4 hq => ?_))
        refine G_if_eq C (tgt := 44) d_Nf_split_30 (by decide) (fun c => ?_) (fun c => ?_)
        · replace hq := hq.1 c
          refine G_lconst C (v := 0) d_Nf_split_44 (by decide) ?_
          exact G_lret C R d_Nf_split_45 ⟨_, rfl, hq⟩
        · replace hq := hq.2 c
          refine G_iload C 5 d_Nf_split_33 rfl ?_
          refine G_if_lt C (tgt := 44) d_Nf_split_35 (by decide) (fun c => ?_) (fun c => ?_)
          · replace hq := hq.1 c
            refine G_lconst C (v := 0) d_Nf_split_44 (by decide) ?_
            exact G_lret C R d_Nf_split_45 ⟨_, rfl, hq⟩
          · replace hq := hq.2 c
            refine G_iload C 5 d_Nf_split_38 rfl ?_
            refine G_iconst C (v := 1) d_Nf_split_40 (by decide) ?_
            refine G_icmp_le C (tgt := 46) d_Nf_split_41 (by decide) (fun c => ?_) (fun c => ?_)
            · replace hq := hq.1 c
              refine G_aload C 0 d_Nf_split_46 rfl ?_
              refine Gg_Frm_degree C h_i3 wd_150 d_Nf_split_48 ?_
              refine G_iconst C (v := 1) d_Nf_split_51 (by decide) ?_
              refine G_icmp_eq C (tgt := 57) d_Nf_split_52 (by decide) (fun c => ?_) (fun c => ?_)
              · replace hq := hq.1 c
                refine G_aload C 0 d_Nf_split_57 rfl ?_
                refine G_sipush C (v := 1000) d_Nf_split_59 (by decide) ?_
                refine G_callV C (s_Frm_fitsIn h_i3 hq) v_Frm_fitsIn i_Frm_fitsIn z_Frm_fitsIn wd_320 (by decide) rfl (k := (32 + 2 * i3)) (ci := 2) (by have := h_i3; omega) (sh_formO κ h_i3 _ _) rfl rfl (rest := []) (by rfl) (Nat.le_of_ble_eq_true rfl) d_Nf_split_62 (ki_ (fun r7 M6 hq => ?_))
                refine G_if_ne C (tgt := 72) d_Nf_split_65 (by decide) (fun c => ?_) (fun c => ?_)
                · replace hq := hq.1 c
                  refine G_iload_n C 3 d_Nf_split_72 rfl rfl ?_
                  refine G_if_ne C (tgt := 100) d_Nf_split_73 (by decide) (fun c => ?_) (fun c => ?_)
                  · replace hq := hq.1 c
                    refine G_iload_n C 3 d_Nf_split_100 rfl rfl ?_
                    refine G_iconst C (v := 1) d_Nf_split_101 (by decide) ?_
                    refine G_icmp_ne C (tgt := 129) d_Nf_split_102 (by decide) (fun c => ?_) (fun c => ?_)
                    · replace hq := hq.1 c
                      refine G_aload_n C 1 d_Nf_split_129 rfl rfl ?_
                      refine G_aload C 0 d_Nf_split_130 rfl ?_
                      refine G_iload_n C 4 d_Nf_split_132 rfl rfl ?_
                      refine G_iload C 5 d_Nf_split_133 rfl ?_
                      refine G_callV C (s_Nf_stillPart h_i3 hq) v_Nf_stillPart i_Nf_stillPart z_Nf_stillPart wd_423 (by decide) rfl (k := 0) (ci := 6) (by decide) rfl rfl rfl (rest := []) (by rfl) (Nat.le_of_ble_eq_true rfl) d_Nf_split_135 (kj_ (fun r9 M8 hq => ?_))
                      exact G_lret C R d_Nf_split_138 ⟨_, rfl, hq⟩
                    · replace hq := hq.2 c
                      refine G_aload_n C 1 d_Nf_split_105 rfl rfl ?_
                      refine G_aload C 0 d_Nf_split_106 rfl ?_
                      refine G_iload_n C 4 d_Nf_split_108 rfl rfl ?_
                      refine G_callV C (s_Nf_turnPart h_i3 hq) v_Nf_turnPart i_Nf_turnPart z_Nf_turnPart wd_419 (by decide) rfl (k := 0) (ci := 6) (by decide) rfl rfl rfl (rest := []) (by rfl) (Nat.le_of_ble_eq_true rfl) d_Nf_split_109 (kj_ (fun r11 M10 hq => ?_))
                      refine G_lstore C (lv' := [(6, _), (5, _), (0, _), (1, _), (2, _), (3, _), (4, _)]) d_Nf_split_112 (by decide) rfl ?_
                      refine G_lload C 0 d_Nf_split_114 rfl ?_
                      refine G_aload_n C 2 d_Nf_split_116 rfl rfl ?_
                      refine Gg_Nf_balance C wd_167 d_Nf_split_117 ?_
                      refine Gg_Bal_below C wd_119 d_Nf_split_120 ?_
                      refine G_iload C 6 d_Nf_split_123 rfl ?_
                      refine G_callS C (s_Nf_lowestTerms hq) v_Nf_lowestTerms z_Nf_lowestTerms wd_409 (by decide) rfl (rest := []) (by rfl) (Nat.le_of_ble_eq_true rfl) d_Nf_split_125 (kj_ (fun r13 M12 hq => ?_))
                      exact G_lret C R d_Nf_split_128 ⟨_, rfl, hq⟩
                  · replace hq := hq.2 c
                    refine G_aload_n C 1 d_Nf_split_76 rfl rfl ?_
                    refine G_aload C 0 d_Nf_split_77 rfl ?_
                    refine G_iload_n C 4 d_Nf_split_79 rfl rfl ?_
                    refine G_callV C (s_Nf_slopePart h_i3 hq) v_Nf_slopePart i_Nf_slopePart z_Nf_slopePart wd_396 (by decide) rfl (k := 0) (ci := 6) (by decide) rfl rfl rfl (rest := []) (by rfl) (Nat.le_of_ble_eq_true rfl) d_Nf_split_80 (kj_ (fun r15 M14 hq => ?_))
                    refine G_lstore C (lv' := [(6, _), (5, _), (0, _), (1, _), (2, _), (3, _), (4, _)]) d_Nf_split_83 (by decide) rfl ?_
                    refine G_lload C 0 d_Nf_split_85 rfl ?_
                    refine G_aload_n C 2 d_Nf_split_87 rfl rfl ?_
                    refine Gg_Nf_balance C wd_167 d_Nf_split_88 ?_
                    refine Gg_Bal_below C wd_119 d_Nf_split_91 ?_
                    refine G_iload C 6 d_Nf_split_94 rfl ?_
                    refine G_callS C (s_Nf_lowestTerms hq) v_Nf_lowestTerms z_Nf_lowestTerms wd_409 (by decide) rfl (rest := []) (by rfl) (Nat.le_of_ble_eq_true rfl) d_Nf_split_96 (kj_ (fun r17 M16 hq => ?_))
                    exact G_lret C R d_Nf_split_99 ⟨_, rfl, hq⟩
                · replace hq := hq.2 c
                  refine G_ldc2 C (v := -5) wd_395 d_Nf_split_68 ?_
                  exact G_lret C R d_Nf_split_71 ⟨_, rfl, hq⟩
              · replace hq := hq.2 c
                refine G_lconst C (v := 0) d_Nf_split_55 (by decide) ?_
                exact G_lret C R d_Nf_split_56 ⟨_, rfl, hq⟩
            · replace hq := hq.2 c
              refine G_lconst C (v := 0) d_Nf_split_44 (by decide) ?_
              exact G_lret C R d_Nf_split_45 ⟨_, rfl, hq⟩
