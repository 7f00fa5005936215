theorem d_Mo_mix_0 : decode b_Mo_mix 0 = .ok (.iload_n 1, 1) := by decide +kernel
theorem d_Mo_mix_1 : decode b_Mo_mix 1 = .ok (.invokestatic 102, 3) := by decide +kernel
theorem d_Mo_mix_4 : decode b_Mo_mix 4 = .ok (.ifCond .eq 47, 3) := by decide +kernel
theorem d_Mo_mix_7 : decode b_Mo_mix 7 = .ok (.iload_n 3, 1) := by decide +kernel
theorem d_Mo_mix_8 : decode b_Mo_mix 8 = .ok (.invokestatic 102, 3) := by decide +kernel
theorem d_Mo_mix_11 : decode b_Mo_mix 11 = .ok (.ifCond .eq 40, 3) := by decide +kernel
theorem d_Mo_mix_14 : decode b_Mo_mix 14 = .ok (.iload 5, 2) := by decide +kernel
theorem d_Mo_mix_16 : decode b_Mo_mix 16 = .ok (.invokestatic 102, 3) := by decide +kernel
theorem d_Mo_mix_19 : decode b_Mo_mix 19 = .ok (.ifCond .eq 32, 3) := by decide +kernel
theorem d_Mo_mix_22 : decode b_Mo_mix 22 = .ok (.iload_n 2, 1) := by decide +kernel
theorem d_Mo_mix_23 : decode b_Mo_mix 23 = .ok (.i2l, 1) := by decide +kernel
theorem d_Mo_mix_24 : decode b_Mo_mix 24 = .ok (.ldc2_w 141, 3) := by decide +kernel
theorem d_Mo_mix_27 : decode b_Mo_mix 27 = .ok (.ldc2_w 143, 3) := by decide +kernel
theorem d_Mo_mix_30 : decode b_Mo_mix 30 = .ok (.invokestatic 75, 3) := by decide +kernel
theorem d_Mo_mix_33 : decode b_Mo_mix 33 = .ok (.ifCond .eq 18, 3) := by decide +kernel
theorem d_Mo_mix_36 : decode b_Mo_mix 36 = .ok (.iload 4, 2) := by decide +kernel
theorem d_Mo_mix_38 : decode b_Mo_mix 38 = .ok (.i2l, 1) := by decide +kernel
theorem d_Mo_mix_39 : decode b_Mo_mix 39 = .ok (.ldc2_w 141, 3) := by decide +kernel
theorem d_Mo_mix_42 : decode b_Mo_mix 42 = .ok (.ldc2_w 143, 3) := by decide +kernel
theorem d_Mo_mix_45 : decode b_Mo_mix 45 = .ok (.invokestatic 75, 3) := by decide +kernel
theorem d_Mo_mix_48 : decode b_Mo_mix 48 = .ok (.ifCond .ne 6, 3) := by decide +kernel
theorem d_Mo_mix_51 : decode b_Mo_mix 51 = .ok (.bipush (-2), 2) := by decide +kernel
theorem d_Mo_mix_53 : decode b_Mo_mix 53 = .ok (.ireturn, 1) := by decide +kernel
theorem d_Mo_mix_54 : decode b_Mo_mix 54 = .ok (.aload_n 0, 1) := by decide +kernel
theorem d_Mo_mix_55 : decode b_Mo_mix 55 = .ok (.getfield 29, 3) := by decide +kernel
theorem d_Mo_mix_58 : decode b_Mo_mix 58 = .ok (.iload_n 1, 1) := by decide +kernel
theorem d_Mo_mix_59 : decode b_Mo_mix 59 = .ok (.iaload, 1) := by decide +kernel
theorem d_Mo_mix_60 : decode b_Mo_mix 60 = .ok (.aload_n 0, 1) := by decide +kernel
theorem d_Mo_mix_61 : decode b_Mo_mix 61 = .ok (.getfield 29, 3) := by decide +kernel
theorem d_Mo_mix_64 : decode b_Mo_mix 64 = .ok (.iload_n 3, 1) := by decide +kernel
theorem d_Mo_mix_65 : decode b_Mo_mix 65 = .ok (.iaload, 1) := by decide +kernel
theorem d_Mo_mix_66 : decode b_Mo_mix 66 = .ok (.if_icmp .eq 6, 3) := by decide +kernel
theorem d_Mo_mix_69 : decode b_Mo_mix 69 = .ok (.bipush (-3), 2) := by decide +kernel
theorem d_Mo_mix_71 : decode b_Mo_mix 71 = .ok (.ireturn, 1) := by decide +kernel
theorem d_Mo_mix_72 : decode b_Mo_mix 72 = .ok (.iconst 0, 1) := by decide +kernel
theorem d_Mo_mix_73 : decode b_Mo_mix 73 = .ok (.istore 6, 2) := by decide +kernel
theorem d_Mo_mix_75 : decode b_Mo_mix 75 = .ok (.iload 6, 2) := by decide +kernel
theorem d_Mo_mix_77 : decode b_Mo_mix 77 = .ok (.bipush 12, 2) := by decide +kernel
theorem d_Mo_mix_79 : decode b_Mo_mix 79 = .ok (.if_icmp .ge 38, 3) := by decide +kernel
theorem d_Mo_mix_82 : decode b_Mo_mix 82 = .ok (.aload_n 0, 1) := by decide +kernel
theorem d_Mo_mix_83 : decode b_Mo_mix 83 = .ok (.getfield 49, 3) := by decide +kernel
theorem d_Mo_mix_86 : decode b_Mo_mix 86 = .ok (.iload 6, 2) := by decide +kernel
theorem d_Mo_mix_88 : decode b_Mo_mix 88 = .ok (.iload_n 2, 1) := by decide +kernel
theorem d_Mo_mix_89 : decode b_Mo_mix 89 = .ok (.i2l, 1) := by decide +kernel
theorem d_Mo_mix_90 : decode b_Mo_mix 90 = .ok (.aload_n 0, 1) := by decide +kernel
theorem d_Mo_mix_91 : decode b_Mo_mix 91 = .ok (.iload_n 1, 1) := by decide +kernel
theorem d_Mo_mix_92 : decode b_Mo_mix 92 = .ok (.iload 6, 2) := by decide +kernel
theorem d_Mo_mix_94 : decode b_Mo_mix 94 = .ok (.invokevirtual 120, 3) := by decide +kernel
theorem d_Mo_mix_97 : decode b_Mo_mix 97 = .ok (.lmul, 1) := by decide +kernel
theorem d_Mo_mix_98 : decode b_Mo_mix 98 = .ok (.iload 4, 2) := by decide +kernel
theorem d_Mo_mix_100 : decode b_Mo_mix 100 = .ok (.i2l, 1) := by decide +kernel
theorem d_Mo_mix_101 : decode b_Mo_mix 101 = .ok (.aload_n 0, 1) := by decide +kernel
theorem d_Mo_mix_102 : decode b_Mo_mix 102 = .ok (.iload_n 3, 1) := by decide +kernel
theorem d_Mo_mix_103 : decode b_Mo_mix 103 = .ok (.iload 6, 2) := by decide +kernel
theorem d_Mo_mix_105 : decode b_Mo_mix 105 = .ok (.invokevirtual 120, 3) := by decide +kernel
theorem d_Mo_mix_108 : decode b_Mo_mix 108 = .ok (.lmul, 1) := by decide +kernel
theorem d_Mo_mix_109 : decode b_Mo_mix 109 = .ok (.ladd, 1) := by decide +kernel
theorem d_Mo_mix_110 : decode b_Mo_mix 110 = .ok (.lastore, 1) := by decide +kernel
theorem d_Mo_mix_111 : decode b_Mo_mix 111 = .ok (.iinc 6 1, 3) := by decide +kernel
theorem d_Mo_mix_114 : decode b_Mo_mix 114 = .ok (.goto (-39), 3) := by decide +kernel
theorem d_Mo_mix_117 : decode b_Mo_mix 117 = .ok (.aload_n 0, 1) := by decide +kernel
theorem d_Mo_mix_118 : decode b_Mo_mix 118 = .ok (.iload 5, 2) := by decide +kernel
theorem d_Mo_mix_120 : decode b_Mo_mix 120 = .ok (.aload_n 0, 1) := by decide +kernel
theorem d_Mo_mix_121 : decode b_Mo_mix 121 = .ok (.getfield 29, 3) := by decide +kernel
theorem d_Mo_mix_124 : decode b_Mo_mix 124 = .ok (.iload_n 1, 1) := by decide +kernel
theorem d_Mo_mix_125 : decode b_Mo_mix 125 = .ok (.iaload, 1) := by decide +kernel
theorem d_Mo_mix_126 : decode b_Mo_mix 126 = .ok (.invokevirtual 132, 3) := by decide +kernel
theorem d_Mo_mix_129 : decode b_Mo_mix 129 = .ok (.ireturn, 1) := by decide +kernel
def q_Mo_mix_L75 (kx117 : Int32 → Int32 → Mem → Prop) (post : Int32 → Mem → Prop) : Nat → Int32 → Int32 → Int32 → Int32 → Int32 → Int32 → Mem → Prop
  | 0, _, _, _, _, _, _, _ => False
  | n + 1, x1, x2, x3, x4, x5, x6, M => ((12 : Int32) ≤ x6 → kx117 x1 x5 M) ∧ (¬ (12 : Int32) ≤ x6 → q_Mo_at x1 x6 M (fun r12 M11 => q_Mo_at x3 x6 M11 (fun r14 M13 => vp_in x6 12 ∧ (∀ M15, M15 = wJ M13 68 x6.toNatClampNeg ((x2.toInt64 * r12) + (x4.toInt64 * r14)) → q_Mo_mix_L75 kx117 post n x1 x2 x3 x4 x5 (x6 + 1) M15))))
set_option maxHeartbeats 4000000 in
theorem s_Mo_mix_L75 {γ : Gm} {κ : Kp} {post : Int32 → Mem → Prop} {kx117 : Int32 → Int32 → Mem → Prop} (C : Cx γ κ "NetFormsModel" b_Mo_mix 7 2 (0, 0)) (R : Rt γ (some .int)) (hx117 : ∀ y1 y2 M', kx117 y1 y2 M' → G γ κ 7 (0, 0) (Gq γ κ (pI post)) 117 [(0, .ref (κ.1 + 56)), (1, .int y1), (5, .int y2)] [] M') : ∀ (n : Nat) (x1 : Int32) (x2 : Int32) (x3 : Int32) (x4 : Int32) (x5 : Int32) (x6 : Int32) (M : Mem), q_Mo_mix_L75 kx117 post n x1 x2 x3 x4 x5 x6 M → G γ κ 7 (0, 0) (Gq γ κ (pI post)) 75 [(0, .ref (κ.1 + 56)), (1, .int x1), (2, .int x2), (3, .int x3), (4, .int x4), (5, .int x5), (6, .int x6)] [] M := by
  intro n
  induction n with
  | zero => intro x1 x2 x3 x4 x5 x6 M hq; exact hq.elim
  | succ n ih =>
    intro x1 x2 x3 x4 x5 x6 M hq
    unfold q_Mo_mix_L75 at hq
    refine G_iload C 6 d_Mo_mix_75 rfl ?_
    refine G_bipush C (v := 12) d_Mo_mix_77 (by decide) ?_
    refine G_icmp_ge C (tgt := 117) d_Mo_mix_79 (by decide) (fun c => ?_) (fun c => ?_)
    · replace hq := hq.1 c
      exact G_sub [0, 1, 5] (by rfl) (hx117 _ _ _ hq)
    · replace hq := hq.2 c
      refine G_aload_n C 0 d_Mo_mix_82 rfl rfl ?_
      refine Gg_Mo_made C wd_536 d_Mo_mix_83 ?_
      refine G_iload C 6 d_Mo_mix_86 rfl ?_
      refine G_iload_n C 2 d_Mo_mix_88 rfl rfl ?_
      refine G_i2l C d_Mo_mix_89 ?_
      refine G_aload_n C 0 d_Mo_mix_90 rfl rfl ?_
      refine G_iload_n C 1 d_Mo_mix_91 rfl rfl ?_
      refine G_iload C 6 d_Mo_mix_92 rfl ?_
      refine G_callV C (s_Mo_at hq) v_Mo_at i_Mo_at z_Mo_at wd_668 (by decide) rfl (k := 56) (ci := 7) (by decide) rfl rfl rfl (rest := [_, _, _]) (by rfl) (Nat.le_of_ble_eq_true rfl) d_Mo_mix_94 (kj_ (fun r12 M11 hq => ?_))
      refine G_lmul C d_Mo_mix_97 ?_
      refine G_iload C 4 d_Mo_mix_98 rfl ?_
      refine G_i2l C d_Mo_mix_100 ?_
      refine G_aload_n C 0 d_Mo_mix_101 rfl rfl ?_
      refine G_iload_n C 3 d_Mo_mix_102 rfl rfl ?_
      refine G_iload C 6 d_Mo_mix_103 rfl ?_
      refine G_callV C (s_Mo_at hq) v_Mo_at i_Mo_at z_Mo_at wd_668 (by decide) rfl (k := 56) (ci := 7) (by decide) rfl rfl rfl (rest := [_, _, _, _]) (by rfl) (Nat.le_of_ble_eq_true rfl) d_Mo_mix_105 (kj_ (fun r14 M13 hq => ?_))
      refine G_lmul C d_Mo_mix_108 ?_
      refine G_ladd C d_Mo_mix_109 ?_
      refine G_lastore C (k := 68) (by decide) (fun _ _ => rfl) hq.1 d_Mo_mix_110 ?_
      replace hq := hq.2 _ rfl
      refine G_iinc C (v := _ + 1) (lv' := [(6, _), (0, _), (1, _), (2, _), (3, _), (4, _), (5, _)]) 6 d_Mo_mix_111 rfl rfl (by decide) rfl ?_
      refine G_goto C (tgt := 75) d_Mo_mix_114 (by decide) ?_
      exact G_sub [1, 2, 3, 4, 5, 6, 0] (by rfl) (ih _ _ _ _ _ _ _ hq)
def q_Mo_mix (a1 : Int32) (a2 : Int32) (a3 : Int32) (a4 : Int32) (a5 : Int32) (M : Mem) (post : Int32 → Mem → Prop) : Prop := q_Mo_isForm a1 M (fun r2 M1 => (r2 = 0 → post (-2 : Int32) M1) ∧ (¬ r2 = 0 → q_Mo_isForm a3 M1 (fun r4 M3 => (r4 = 0 → post (-2 : Int32) M3) ∧ (¬ r4 = 0 → q_Mo_isForm a5 M3 (fun r6 M5 => (r6 = 0 → post (-2 : Int32) M5) ∧ (¬ r6 = 0 → q_Mo_in a2.toInt64 (-1000 : Int64) (1000 : Int64) M5 (fun r8 M7 => (r8 = 0 → post (-2 : Int32) M7) ∧ (¬ r8 = 0 → q_Mo_in a4.toInt64 (-1000 : Int64) (1000 : Int64) M7 (fun r10 M9 => (¬ r10 = 0 → vp_in a1 12 ∧ (vp_in a3 12 ∧ (((M9.1 62 a1.toNatClampNeg) = (M9.1 62 a3.toNatClampNeg) → ∃ n16, q_Mo_mix_L75 (fun x17 x18 M19 => vp_in x17 12 ∧ (q_Mo_becomes x18 (M19.1 62 x17.toNatClampNeg) M19 (fun r21 M20 => post r21 M20))) post n16 a1 a2 a3 a4 a5 (0 : Int32) M9) ∧ (¬ (M9.1 62 a1.toNatClampNeg) = (M9.1 62 a3.toNatClampNeg) → post (-3 : Int32) M9)))) ∧ (r10 = 0 → post (-2 : Int32) M9))))))))))
set_option maxHeartbeats 4000000 in
theorem s_Mo_mix {l : Launch} {κ : Kp} {a1 : Int32} {a2 : Int32} {a3 : Int32} {a4 : Int32} {a5 : Int32} {M : Mem} {post : Int32 → Mem → Prop} (hq : q_Mo_mix a1 a2 a3 a4 a5 M post) : Ct l κ y_Mo_mix b_Mo_mix 7 (some .int) 2 [.ref (κ.1 + 56), .int a1, .int a2, .int a3, .int a4, .int a5] M (pI post) := by
  refine Ct_of (by decide) (Nat.le_of_ble_eq_true rfl) (fun γ hγ C R => ?_)
  subst hγ
  unfold q_Mo_mix at hq
  show G γ κ 7 (0, 0) (Gq γ κ (pI post)) 0 [(0, .ref (κ.1 + 56)), (1, .int a1), (2, .int a2), (3, .int a3), (4, .int a4), (5, .int a5)] [] M
  refine G_iload_n C 1 d_Mo_mix_0 rfl rfl ?_
  refine G_callS C (s_Mo_isForm hq) v_Mo_isForm z_Mo_isForm wd_636 (by decide) rfl (rest := []) (by rfl) (Nat.le_of_ble_eq_true rfl) d_Mo_mix_1 (ki_ (fun r2 M1 hq => ?_))
  refine G_if_eq C (tgt := 51) d_Mo_mix_4 (by decide) (fun c => ?_) (fun c => ?_)
  · replace hq := hq.1 c
    refine G_bipush C (v := -2) d_Mo_mix_51 (by decide) ?_
    exact G_iret C R d_Mo_mix_53 ⟨_, rfl, hq⟩
  · replace hq := hq.2 c
    refine G_iload_n C 3 d_Mo_mix_7 rfl rfl ?_
    refine G_callS C (s_Mo_isForm hq) v_Mo_isForm z_Mo_isForm wd_636 (by decide) rfl (rest := []) (by rfl) (Nat.le_of_ble_eq_true rfl) d_Mo_mix_8 (ki_ (fun r4 M3 hq => ?_))
    refine G_if_eq C (tgt := 51) d_Mo_mix_11 (by decide) (fun c => ?_) (fun c => ?_)
    · replace hq := hq.1 c
      refine G_bipush C (v := -2) d_Mo_mix_51 (by decide) ?_
      exact G_iret C R d_Mo_mix_53 ⟨_, rfl, hq⟩
    · replace hq := hq.2 c
      refine G_iload C 5 d_Mo_mix_14 rfl ?_
      refine G_callS C (s_Mo_isForm hq) v_Mo_isForm z_Mo_isForm wd_636 (by decide) rfl (rest := []) (by rfl) (Nat.le_of_ble_eq_true rfl) d_Mo_mix_16 (ki_ (fun r6 M5 hq => ?_))
      refine G_if_eq C (tgt := 51) d_Mo_mix_19 (by decide) (fun c => ?_) (fun c => ?_)
      · replace hq := hq.1 c
        refine G_bipush C (v := -2) d_Mo_mix_51 (by decide) ?_
        exact G_iret C R d_Mo_mix_53 ⟨_, rfl, hq⟩
      · replace hq := hq.2 c
        refine G_iload_n C 2 d_Mo_mix_22 rfl rfl ?_
        refine G_i2l C d_Mo_mix_23 ?_
        refine G_ldc2 C (v := -1000) wd_700 d_Mo_mix_24 ?_
        refine G_ldc2 C (v := 1000) wd_701 d_Mo_mix_27 ?_
        refine G_callS C (s_Mo_in hq) v_Mo_in z_Mo_in wd_605 (by decide) rfl (rest := []) (by rfl) (Nat.le_of_ble_eq_true rfl) d_Mo_mix_30 (ki_ (fun r8 M7 hq => ?_))
        refine G_if_eq C (tgt := 51) d_Mo_mix_33 (by decide) (fun c => ?_) (fun c => ?_)
        · replace hq := hq.1 c
          refine G_bipush C (v := -2) d_Mo_mix_51 (by decide) ?_
          exact G_iret C R d_Mo_mix_53 ⟨_, rfl, hq⟩
        · replace hq := hq.2 c
          refine G_iload C 4 d_Mo_mix_36 rfl ?_
          refine G_i2l C d_Mo_mix_38 ?_
          refine G_ldc2 C (v := -1000) wd_700 d_Mo_mix_39 ?_
          refine G_ldc2 C (v := 1000) wd_701 d_Mo_mix_42 ?_
          refine G_callS C (s_Mo_in hq) v_Mo_in z_Mo_in wd_605 (by decide) rfl (rest := []) (by rfl) (Nat.le_of_ble_eq_true rfl) d_Mo_mix_45 (ki_ (fun r10 M9 hq => ?_))
          refine G_if_ne C (tgt := 54) d_Mo_mix_48 (by decide) (fun c => ?_) (fun c => ?_)
          · replace hq := hq.1 c
            refine G_aload_n C 0 d_Mo_mix_54 rfl rfl ?_
            refine Gg_Mo_degree C wd_529 d_Mo_mix_55 ?_
            refine G_iload_n C 1 d_Mo_mix_58 rfl rfl ?_
            refine G_iaload C (k := 62) (by decide) (fun _ _ => rfl) hq.1 d_Mo_mix_59 ?_
            replace hq := hq.2
            refine G_aload_n C 0 d_Mo_mix_60 rfl rfl ?_
            refine Gg_Mo_degree C wd_529 d_Mo_mix_61 ?_
            refine G_iload_n C 3 d_Mo_mix_64 rfl rfl ?_
            refine G_iaload C (k := 62) (by decide) (fun _ _ => rfl) hq.1 d_Mo_mix_65 ?_
            replace hq := hq.2
            refine G_icmp_eq C (tgt := 72) d_Mo_mix_66 (by decide) (fun c => ?_) (fun c => ?_)
            · replace hq := hq.1 c
              refine G_iconst C (v := 0) d_Mo_mix_72 (by decide) ?_
              refine G_istore C (lv' := [(6, _), (0, _), (1, _), (2, _), (3, _), (4, _), (5, _)]) d_Mo_mix_73 (by decide) rfl ?_
              obtain ⟨n16, hq⟩ := hq
              refine G_sub [1, 2, 3, 4, 5, 6, 0] (by rfl) (s_Mo_mix_L75 C R ?_ n16 _ _ _ _ _ _ _ hq)
              · intro x17 x18 M19 hq
                refine G_aload_n C 0 d_Mo_mix_117 rfl rfl ?_
                refine G_iload C 2 d_Mo_mix_118 rfl ?_
                refine G_aload_n C 0 d_Mo_mix_120 rfl rfl ?_
                refine Gg_Mo_degree C wd_529 d_Mo_mix_121 ?_
                refine G_iload_n C 1 d_Mo_mix_124 rfl rfl ?_
                refine G_iaload C (k := 62) (by decide) (fun _ _ => rfl) hq.1 d_Mo_mix_125 ?_
                replace hq := hq.2
                refine G_callV C (s_Mo_becomes hq) v_Mo_becomes i_Mo_becomes z_Mo_becomes wd_676 (by decide) rfl (k := 56) (ci := 7) (by decide) rfl rfl rfl (rest := []) (by rfl) (Nat.le_of_ble_eq_true rfl) d_Mo_mix_126 (ki_ (fun r21 M20 hq => ?_))
                exact G_iret C R d_Mo_mix_129 ⟨_, rfl, hq⟩
            · replace hq := hq.2 c
              refine G_bipush C (v := -3) d_Mo_mix_69 (by decide) ?_
              exact G_iret C R d_Mo_mix_71 ⟨_, rfl, hq⟩
          · replace hq := hq.2 c
            refine G_bipush C (v := -2) d_Mo_mix_51 (by decide) ?_
            exact G_iret C R d_Mo_mix_53 ⟨_, rfl, hq⟩
theorem d_Mo_slopeRank_0 : decode b_Mo_slopeRank 0 = .ok (.aload_n 0, 1) := by decide +kernel
theorem d_Mo_slopeRank_1 : decode b_Mo_slopeRank 1 = .ok (.getfield 7, 3) := by decide +kernel
theorem d_Mo_slopeRank_4 : decode b_Mo_slopeRank 4 = .ok (.aload_n 0, 1) := by decide +kernel
theorem d_Mo_slopeRank_5 : decode b_Mo_slopeRank 5 = .ok (.invokevirtual 162, 3) := by decide +kernel
theorem d_Mo_slopeRank_8 : decode b_Mo_slopeRank 8 = .ok (.isub, 1) := by decide +kernel
theorem d_Mo_slopeRank_9 : decode b_Mo_slopeRank 9 = .ok (.ireturn, 1) := by decide +kernel
def q_Mo_slopeRank (M : Mem) (post : Int32 → Mem → Prop) : Prop := q_Mo_parts M (fun r2 M1 => post ((M.1 56 0) - r2) M1)
set_option maxHeartbeats 4000000 in
theorem s_Mo_slopeRank {l : Launch} {κ : Kp} {M : Mem} {post : Int32 → Mem → Prop} (hq : q_Mo_slopeRank M post) : Ct l κ y_Mo_slopeRank b_Mo_slopeRank 1 (some .int) 2 [.ref (κ.1 + 56)] M (pI post) := by
  refine Ct_of (by decide) (Nat.le_of_ble_eq_true rfl) (fun γ hγ C R => ?_)
  subst hγ
  unfold q_Mo_slopeRank at hq
  show G γ κ 1 (0, 0) (Gq γ κ (pI post)) 0 [(0, .ref (κ.1 + 56))] [] M
  refine G_aload_n C 0 d_Mo_slopeRank_0 rfl rfl ?_
  refine Gg_Mo_points C wd_521 d_Mo_slopeRank_1 ?_
  refine G_aload_n C 0 d_Mo_slopeRank_4 rfl rfl ?_
  refine G_callV C (s_Mo_parts hq) v_Mo_parts i_Mo_parts z_Mo_parts wd_715 (by decide) rfl (k := 56) (ci := 7) (by decide) rfl rfl rfl (rest := [_]) (by rfl) (Nat.le_of_ble_eq_true rfl) d_Mo_slopeRank_5 (ki_ (fun r2 M1 hq => ?_))
  refine G_isub C d_Mo_slopeRank_8 ?_
  exact G_iret C R d_Mo_slopeRank_9 ⟨_, rfl, hq⟩
theorem d_Mo_turnRank_0 : decode b_Mo_turnRank 0 = .ok (.aload_n 0, 1) := by decide +kernel
theorem d_Mo_turnRank_1 : decode b_Mo_turnRank 1 = .ok (.invokevirtual 166, 3) := by decide +kernel
theorem d_Mo_turnRank_4 : decode b_Mo_turnRank 4 = .ok (.iconst 0, 1) := by decide +kernel
theorem d_Mo_turnRank_5 : decode b_Mo_turnRank 5 = .ok (.istore_n 1, 1) := by decide +kernel
theorem d_Mo_turnRank_6 : decode b_Mo_turnRank 6 = .ok (.iload_n 1, 1) := by decide +kernel
theorem d_Mo_turnRank_7 : decode b_Mo_turnRank 7 = .ok (.aload_n 0, 1) := by decide +kernel
theorem d_Mo_turnRank_8 : decode b_Mo_turnRank 8 = .ok (.getfield 82, 3) := by decide +kernel
theorem d_Mo_turnRank_11 : decode b_Mo_turnRank 11 = .ok (.if_icmp .ge 92, 3) := by decide +kernel
theorem d_Mo_turnRank_14 : decode b_Mo_turnRank 14 = .ok (.aload_n 0, 1) := by decide +kernel
theorem d_Mo_turnRank_15 : decode b_Mo_turnRank 15 = .ok (.getfield 52, 3) := by decide +kernel
theorem d_Mo_turnRank_18 : decode b_Mo_turnRank 18 = .ok (.bipush 13, 2) := by decide +kernel
theorem d_Mo_turnRank_20 : decode b_Mo_turnRank 20 = .ok (.iload_n 1, 1) := by decide +kernel
theorem d_Mo_turnRank_21 : decode b_Mo_turnRank 21 = .ok (.imul, 1) := by decide +kernel
theorem d_Mo_turnRank_22 : decode b_Mo_turnRank 22 = .ok (.aload_n 0, 1) := by decide +kernel
theorem d_Mo_turnRank_23 : decode b_Mo_turnRank 23 = .ok (.aload_n 0, 1) := by decide +kernel
theorem d_Mo_turnRank_24 : decode b_Mo_turnRank 24 = .ok (.getfield 20, 3) := by decide +kernel
theorem d_Mo_turnRank_27 : decode b_Mo_turnRank 27 = .ok (.iload_n 1, 1) := by decide +kernel
theorem d_Mo_turnRank_28 : decode b_Mo_turnRank 28 = .ok (.iaload, 1) := by decide +kernel
theorem d_Mo_turnRank_29 : decode b_Mo_turnRank 29 = .ok (.aload_n 0, 1) := by decide +kernel
theorem d_Mo_turnRank_30 : decode b_Mo_turnRank 30 = .ok (.getfield 23, 3) := by decide +kernel
theorem d_Mo_turnRank_33 : decode b_Mo_turnRank 33 = .ok (.iload_n 1, 1) := by decide +kernel
theorem d_Mo_turnRank_34 : decode b_Mo_turnRank 34 = .ok (.iaload, 1) := by decide +kernel
theorem d_Mo_turnRank_35 : decode b_Mo_turnRank 35 = .ok (.invokevirtual 96, 3) := by decide +kernel
theorem d_Mo_turnRank_38 : decode b_Mo_turnRank 38 = .ok (.iadd, 1) := by decide +kernel
theorem d_Mo_turnRank_39 : decode b_Mo_turnRank 39 = .ok (.lconst 1, 1) := by decide +kernel
theorem d_Mo_turnRank_40 : decode b_Mo_turnRank 40 = .ok (.lastore, 1) := by decide +kernel
theorem d_Mo_turnRank_41 : decode b_Mo_turnRank 41 = .ok (.aload_n 0, 1) := by decide +kernel
theorem d_Mo_turnRank_42 : decode b_Mo_turnRank 42 = .ok (.getfield 52, 3) := by decide +kernel
theorem d_Mo_turnRank_45 : decode b_Mo_turnRank 45 = .ok (.bipush 13, 2) := by decide +kernel
theorem d_Mo_turnRank_47 : decode b_Mo_turnRank 47 = .ok (.iload_n 1, 1) := by decide +kernel
theorem d_Mo_turnRank_48 : decode b_Mo_turnRank 48 = .ok (.imul, 1) := by decide +kernel
theorem d_Mo_turnRank_49 : decode b_Mo_turnRank 49 = .ok (.aload_n 0, 1) := by decide +kernel
theorem d_Mo_turnRank_50 : decode b_Mo_turnRank 50 = .ok (.aload_n 0, 1) := by decide +kernel
theorem d_Mo_turnRank_51 : decode b_Mo_turnRank 51 = .ok (.getfield 23, 3) := by decide +kernel
theorem d_Mo_turnRank_54 : decode b_Mo_turnRank 54 = .ok (.iload_n 1, 1) := by decide +kernel
theorem d_Mo_turnRank_55 : decode b_Mo_turnRank 55 = .ok (.iaload, 1) := by decide +kernel
theorem d_Mo_turnRank_56 : decode b_Mo_turnRank 56 = .ok (.aload_n 0, 1) := by decide +kernel
theorem d_Mo_turnRank_57 : decode b_Mo_turnRank 57 = .ok (.getfield 26, 3) := by decide +kernel
theorem d_Mo_turnRank_60 : decode b_Mo_turnRank 60 = .ok (.iload_n 1, 1) := by decide +kernel
theorem d_Mo_turnRank_61 : decode b_Mo_turnRank 61 = .ok (.iaload, 1) := by decide +kernel
theorem d_Mo_turnRank_62 : decode b_Mo_turnRank 62 = .ok (.invokevirtual 96, 3) := by decide +kernel
theorem d_Mo_turnRank_65 : decode b_Mo_turnRank 65 = .ok (.iadd, 1) := by decide +kernel
theorem d_Mo_turnRank_66 : decode b_Mo_turnRank 66 = .ok (.lconst 1, 1) := by decide +kernel
theorem d_Mo_turnRank_67 : decode b_Mo_turnRank 67 = .ok (.lastore, 1) := by decide +kernel
theorem d_Mo_turnRank_68 : decode b_Mo_turnRank 68 = .ok (.aload_n 0, 1) := by decide +kernel
theorem d_Mo_turnRank_69 : decode b_Mo_turnRank 69 = .ok (.getfield 52, 3) := by decide +kernel
theorem d_Mo_turnRank_72 : decode b_Mo_turnRank 72 = .ok (.bipush 13, 2) := by decide +kernel
theorem d_Mo_turnRank_74 : decode b_Mo_turnRank 74 = .ok (.iload_n 1, 1) := by decide +kernel
theorem d_Mo_turnRank_75 : decode b_Mo_turnRank 75 = .ok (.imul, 1) := by decide +kernel
theorem d_Mo_turnRank_76 : decode b_Mo_turnRank 76 = .ok (.aload_n 0, 1) := by decide +kernel
theorem d_Mo_turnRank_77 : decode b_Mo_turnRank 77 = .ok (.aload_n 0, 1) := by decide +kernel
theorem d_Mo_turnRank_78 : decode b_Mo_turnRank 78 = .ok (.getfield 20, 3) := by decide +kernel
theorem d_Mo_turnRank_81 : decode b_Mo_turnRank 81 = .ok (.iload_n 1, 1) := by decide +kernel
theorem d_Mo_turnRank_82 : decode b_Mo_turnRank 82 = .ok (.iaload, 1) := by decide +kernel
theorem d_Mo_turnRank_83 : decode b_Mo_turnRank 83 = .ok (.aload_n 0, 1) := by decide +kernel
theorem d_Mo_turnRank_84 : decode b_Mo_turnRank 84 = .ok (.getfield 26, 3) := by decide +kernel
theorem d_Mo_turnRank_87 : decode b_Mo_turnRank 87 = .ok (.iload_n 1, 1) := by decide +kernel
theorem d_Mo_turnRank_88 : decode b_Mo_turnRank 88 = .ok (.iaload, 1) := by decide +kernel
theorem d_Mo_turnRank_89 : decode b_Mo_turnRank 89 = .ok (.invokevirtual 96, 3) := by decide +kernel
theorem d_Mo_turnRank_92 : decode b_Mo_turnRank 92 = .ok (.iadd, 1) := by decide +kernel
theorem d_Mo_turnRank_93 : decode b_Mo_turnRank 93 = .ok (.ldc2_w 169, 3) := by decide +kernel
theorem d_Mo_turnRank_96 : decode b_Mo_turnRank 96 = .ok (.lastore, 1) := by decide +kernel
theorem d_Mo_turnRank_97 : decode b_Mo_turnRank 97 = .ok (.iinc 1 1, 3) := by decide +kernel
theorem d_Mo_turnRank_100 : decode b_Mo_turnRank 100 = .ok (.goto (-94), 3) := by decide +kernel
theorem d_Mo_turnRank_103 : decode b_Mo_turnRank 103 = .ok (.aload_n 0, 1) := by decide +kernel
theorem d_Mo_turnRank_104 : decode b_Mo_turnRank 104 = .ok (.aload_n 0, 1) := by decide +kernel
theorem d_Mo_turnRank_105 : decode b_Mo_turnRank 105 = .ok (.getfield 82, 3) := by decide +kernel
theorem d_Mo_turnRank_108 : decode b_Mo_turnRank 108 = .ok (.aload_n 0, 1) := by decide +kernel
theorem d_Mo_turnRank_109 : decode b_Mo_turnRank 109 = .ok (.getfield 79, 3) := by decide +kernel
theorem d_Mo_turnRank_112 : decode b_Mo_turnRank 112 = .ok (.aload_n 0, 1) := by decide +kernel
theorem d_Mo_turnRank_113 : decode b_Mo_turnRank 113 = .ok (.getfield 79, 3) := by decide +kernel
theorem d_Mo_turnRank_116 : decode b_Mo_turnRank 116 = .ok (.invokevirtual 158, 3) := by decide +kernel
theorem d_Mo_turnRank_119 : decode b_Mo_turnRank 119 = .ok (.ireturn, 1) := by decide +kernel
def q_Mo_turnRank_L6 (kx103 : Mem → Prop) (post : Int32 → Mem → Prop) : Nat → Int32 → Mem → Prop
  | 0, _, _ => False
  | n + 1, x1, M => ((M.1 56 2) ≤ x1 → kx103 M) ∧ (¬ (M.1 56 2) ≤ x1 → vp_in x1 10 ∧ (vp_in x1 10 ∧ (q_Mo_edgeOf (M.1 59 x1.toNatClampNeg) (M.1 60 x1.toNatClampNeg) M (fun r3 M2 => vp_in (((13 : Int32) * x1) + r3) 156 ∧ (∀ M4, M4 = wJ M2 69 (((13 : Int32) * x1) + r3).toNatClampNeg (1 : Int64) → vp_in x1 10 ∧ (vp_in x1 10 ∧ (q_Mo_edgeOf (M4.1 60 x1.toNatClampNeg) (M4.1 61 x1.toNatClampNeg) M4 (fun r6 M5 => vp_in (((13 : Int32) * x1) + r6) 156 ∧ (∀ M7, M7 = wJ M5 69 (((13 : Int32) * x1) + r6).toNatClampNeg (1 : Int64) → vp_in x1 10 ∧ (vp_in x1 10 ∧ (q_Mo_edgeOf (M7.1 59 x1.toNatClampNeg) (M7.1 61 x1.toNatClampNeg) M7 (fun r9 M8 => vp_in (((13 : Int32) * x1) + r9) 156 ∧ (∀ M10, M10 = wJ M8 69 (((13 : Int32) * x1) + r9).toNatClampNeg (-1 : Int64) → q_Mo_turnRank_L6 kx103 post n (x1 + 1) M10)))))))))))))
set_option maxHeartbeats 4000000 in
theorem s_Mo_turnRank_L6 {γ : Gm} {κ : Kp} {post : Int32 → Mem → Prop} {kx103 : Mem → Prop} (C : Cx γ κ "NetFormsModel" b_Mo_turnRank 2 2 (0, 0)) (R : Rt γ (some .int)) (hx103 : ∀ M', kx103 M' → G γ κ 2 (0, 0) (Gq γ κ (pI post)) 103 [(0, .ref (κ.1 + 56))] [] M') : ∀ (n : Nat) (x1 : Int32) (M : Mem), q_Mo_turnRank_L6 kx103 post n x1 M → G γ κ 2 (0, 0) (Gq γ κ (pI post)) 6 [(0, .ref (κ.1 + 56)), (1, .int x1)] [] M := by
  intro n
  induction n with
  | zero => intro x1 M hq; exact hq.elim
  | succ n ih =>
    intro x1 M hq
    unfold q_Mo_turnRank_L6 at hq
    refine G_iload_n C 1 d_Mo_turnRank_6 rfl rfl ?_
    refine G_aload_n C 0 d_Mo_turnRank_7 rfl rfl ?_
    refine Gg_Mo_faces C wd_523 d_Mo_turnRank_8 ?_
    refine G_icmp_ge C (tgt := 103) d_Mo_turnRank_11 (by decide) (fun c => ?_) (fun c => ?_)
    · replace hq := hq.1 c
      exact G_sub [0] (by rfl) (hx103 _ hq)
    · replace hq := hq.2 c
      refine G_aload_n C 0 d_Mo_turnRank_14 rfl rfl ?_
      refine Gg_Mo_table C wd_537 d_Mo_turnRank_15 ?_
      refine G_bipush C (v := 13) d_Mo_turnRank_18 (by decide) ?_
      refine G_iload_n C 1 d_Mo_turnRank_20 rfl rfl ?_
      refine G_imul C d_Mo_turnRank_21 ?_
      refine G_aload_n C 0 d_Mo_turnRank_22 rfl rfl ?_
      refine G_aload_n C 0 d_Mo_turnRank_23 rfl rfl ?_
      refine Gg_Mo_first C wd_526 d_Mo_turnRank_24 ?_
      refine G_iload_n C 1 d_Mo_turnRank_27 rfl rfl ?_
      refine G_iaload C (k := 59) (by decide) (fun _ _ => rfl) hq.1 d_Mo_turnRank_28 ?_
      replace hq := hq.2
      refine G_aload_n C 0 d_Mo_turnRank_29 rfl rfl ?_
      refine Gg_Mo_second C wd_527 d_Mo_turnRank_30 ?_
      refine G_iload_n C 1 d_Mo_turnRank_33 rfl rfl ?_
      refine G_iaload C (k := 60) (by decide) (fun _ _ => rfl) hq.1 d_Mo_turnRank_34 ?_
      replace hq := hq.2
      refine G_callV C (s_Mo_edgeOf hq) v_Mo_edgeOf i_Mo_edgeOf z_Mo_edgeOf wd_620 (by decide) rfl (k := 56) (ci := 7) (by decide) rfl rfl rfl (rest := [_, _]) (by rfl) (Nat.le_of_ble_eq_true rfl) d_Mo_turnRank_35 (ki_ (fun r3 M2 hq => ?_))
      refine G_iadd C d_Mo_turnRank_38 ?_
      refine G_lconst C (v := 1) d_Mo_turnRank_39 (by decide) ?_
      refine G_lastore C (k := 69) (by decide) (fun _ _ => rfl) hq.1 d_Mo_turnRank_40 ?_
      replace hq := hq.2 _ rfl
      refine G_aload_n C 0 d_Mo_turnRank_41 rfl rfl ?_
      refine Gg_Mo_table C wd_537 d_Mo_turnRank_42 ?_
      refine G_bipush C (v := 13) d_Mo_turnRank_45 (by decide) ?_
      refine G_iload_n C 1 d_Mo_turnRank_47 rfl rfl ?_
      refine G_imul C d_Mo_turnRank_48 ?_
      refine G_aload_n C 0 d_Mo_turnRank_49 rfl rfl ?_
      refine G_aload_n C 0 d_Mo_turnRank_50 rfl rfl ?_
      refine Gg_Mo_second C wd_527 d_Mo_turnRank_51 ?_
      refine G_iload_n C 1 d_Mo_turnRank_54 rfl rfl ?_
      refine G_iaload C (k := 60) (by decide) (fun _ _ => rfl) hq.1 d_Mo_turnRank_55 ?_
      replace hq := hq.2
      refine G_aload_n C 0 d_Mo_turnRank_56 rfl rfl ?_
      refine Gg_Mo_third C wd_528 d_Mo_turnRank_57 ?_
      refine G_iload_n C 1 d_Mo_turnRank_60 rfl rfl ?_
      refine G_iaload C (k := 61) (by decide) (fun _ _ => rfl) hq.1 d_Mo_turnRank_61 ?_
      replace hq := hq.2
      refine G_callV C (s_Mo_edgeOf hq) v_Mo_edgeOf i_Mo_edgeOf z_Mo_edgeOf wd_620 (by decide) rfl (k := 56) (ci := 7) (by decide) rfl rfl rfl (rest := [_, _]) (by rfl) (Nat.le_of_ble_eq_true rfl) d_Mo_turnRank_62 (ki_ (fun r6 M5 hq => ?_))
      refine G_iadd C d_Mo_turnRank_65 ?_
      refine G_lconst C (v := 1) d_Mo_turnRank_66 (by decide) ?_
      refine G_lastore C (k := 69) (by decide) (fun _ _ => rfl) hq.1 d_Mo_turnRank_67 ?_
      replace hq := hq.2 _ rfl
      refine G_aload_n C 0 d_Mo_turnRank_68 rfl rfl ?_
      refine Gg_Mo_table C wd_537 d_Mo_turnRank_69 ?_
      refine G_bipush C (v := 13) d_Mo_turnRank_72 (by decide) ?_
      refine G_iload_n C 1 d_Mo_turnRank_74 rfl rfl ?_
      refine G_imul C d_Mo_turnRank_75 ?_
      refine G_aload_n C 0 d_Mo_turnRank_76 rfl rfl ?_
      refine G_aload_n C 0 d_Mo_turnRank_77 rfl rfl ?_
      refine Gg_Mo_first C wd_526 d_Mo_turnRank_78 ?_
      refine G_iload_n C 1 d_Mo_turnRank_81 rfl rfl ?_
      refine G_iaload C (k := 59) (by decide) (fun _ _ => rfl) hq.1 d_Mo_turnRank_82 ?_
      replace hq := hq.2
      refine G_aload_n C 0 d_Mo_turnRank_83 rfl rfl ?_
      refine Gg_Mo_third C wd_528 d_Mo_turnRank_84 ?_
      refine G_iload_n C 1 d_Mo_turnRank_87 rfl rfl ?_
      refine G_iaload C (k := 61) (by decide) (fun _ _ => rfl) hq.1 d_Mo_turnRank_88 ?_
      replace hq := hq.2
      refine G_callV C (s_Mo_edgeOf hq) v_Mo_edgeOf i_Mo_edgeOf z_Mo_edgeOf wd_620 (by decide) rfl (k := 56) (ci := 7) (by decide) rfl rfl rfl (rest := [_, _]) (by rfl) (Nat.le_of_ble_eq_true rfl) d_Mo_turnRank_89 (ki_ (fun r9 M8 hq => ?_))
      refine G_iadd C d_Mo_turnRank_92 ?_
      refine G_ldc2 C (v := -1) wd_735 d_Mo_turnRank_93 ?_
      refine G_lastore C (k := 69) (by decide) (fun _ _ => rfl) hq.1 d_Mo_turnRank_96 ?_
      replace hq := hq.2 _ rfl
      refine G_iinc C (v := _ + 1) (lv' := [(1, _), (0, _)]) 1 d_Mo_turnRank_97 rfl rfl (by decide) rfl ?_
      refine G_goto C (tgt := 6) d_Mo_turnRank_100 (by decide) ?_
      exact G_sub [1, 0] (by rfl) (ih _ _ hq)
def q_Mo_turnRank (M : Mem) (post : Int32 → Mem → Prop) : Prop := q_Mo_empties M (fun M1 => ∃ n11, q_Mo_turnRank_L6 (fun M12 => q_Mo_turns (M12.1 56 2) (M12.1 56 1) (M12.1 56 1) M12 (fun r14 M13 => post r14 M13)) post n11 (0 : Int32) M1)
set_option maxHeartbeats 4000000 in
theorem s_Mo_turnRank {l : Launch} {κ : Kp} {M : Mem} {post : Int32 → Mem → Prop} (hq : q_Mo_turnRank M post) : Ct l κ y_Mo_turnRank b_Mo_turnRank 2 (some .int) 2 [.ref (κ.1 + 56)] M (pI post) := by
  refine Ct_of (by decide) (Nat.le_of_ble_eq_true rfl) (fun γ hγ C R => ?_)
  subst hγ
  unfold q_Mo_turnRank at hq
  show G γ κ 2 (0, 0) (Gq γ κ (pI post)) 0 [(0, .ref (κ.1 + 56))] [] M
  refine G_aload_n C 0 d_Mo_turnRank_0 rfl rfl ?_
  refine G_callV C (s_Mo_empties hq) v_Mo_empties i_Mo_empties z_Mo_empties wd_731 (by decide) rfl (k := 56) (ci := 7) (by decide) rfl rfl rfl (rest := []) (by rfl) (Nat.le_of_ble_eq_true rfl) d_Mo_turnRank_1 (kv_ (fun M1 hq => ?_))
  refine G_iconst C (v := 0) d_Mo_turnRank_4 (by decide) ?_
  refine G_istore_n C (lv' := [(1, _), (0, _)]) d_Mo_turnRank_5 rfl (by decide) rfl ?_
  obtain ⟨n11, hq⟩ := hq
  refine G_sub [1, 0] (by rfl) (s_Mo_turnRank_L6 C R ?_ n11 _ _ hq)
  · intro M12 hq
    refine G_aload_n C 0 d_Mo_turnRank_103 rfl rfl ?_
    refine G_aload_n C 0 d_Mo_turnRank_104 rfl rfl ?_
    refine Gg_Mo_faces C wd_523 d_Mo_turnRank_105 ?_
    refine G_aload_n C 0 d_Mo_turnRank_108 rfl rfl ?_
    refine Gg_Mo_edges C wd_522 d_Mo_turnRank_109 ?_
    refine G_aload_n C 0 d_Mo_turnRank_112 rfl rfl ?_
    refine Gg_Mo_edges C wd_522 d_Mo_turnRank_113 ?_
    refine G_callV C (s_Mo_turns hq) v_Mo_turns i_Mo_turns z_Mo_turns wd_736 (by decide) rfl (k := 56) (ci := 7) (by decide) rfl rfl rfl (rest := []) (by rfl) (Nat.le_of_ble_eq_true rfl) d_Mo_turnRank_116 (ki_ (fun r14 M13 hq => ?_))
    exact G_iret C R d_Mo_turnRank_119 ⟨_, rfl, hq⟩
theorem d_Mo_potential_0 : decode b_Mo_potential 0 = .ok (.iload_n 1, 1) := by decide +kernel
theorem d_Mo_potential_1 : decode b_Mo_potential 1 = .ok (.invokestatic 102, 3) := by decide +kernel
theorem d_Mo_potential_4 : decode b_Mo_potential 4 = .ok (.ifCond .eq 10, 3) := by decide +kernel
theorem d_Mo_potential_7 : decode b_Mo_potential 7 = .ok (.iload_n 2, 1) := by decide +kernel
theorem d_Mo_potential_8 : decode b_Mo_potential 8 = .ok (.invokestatic 102, 3) := by decide +kernel
theorem d_Mo_potential_11 : decode b_Mo_potential 11 = .ok (.ifCond .ne 6, 3) := by decide +kernel
theorem d_Mo_potential_14 : decode b_Mo_potential 14 = .ok (.bipush (-2), 2) := by decide +kernel
theorem d_Mo_potential_16 : decode b_Mo_potential 16 = .ok (.ireturn, 1) := by decide +kernel
theorem d_Mo_potential_17 : decode b_Mo_potential 17 = .ok (.aload_n 0, 1) := by decide +kernel
theorem d_Mo_potential_18 : decode b_Mo_potential 18 = .ok (.getfield 29, 3) := by decide +kernel
theorem d_Mo_potential_21 : decode b_Mo_potential 21 = .ok (.iload_n 1, 1) := by decide +kernel
theorem d_Mo_potential_22 : decode b_Mo_potential 22 = .ok (.iaload, 1) := by decide +kernel
theorem d_Mo_potential_23 : decode b_Mo_potential 23 = .ok (.iconst 1, 1) := by decide +kernel
theorem d_Mo_potential_24 : decode b_Mo_potential 24 = .ok (.if_icmp .eq 6, 3) := by decide +kernel
theorem d_Mo_potential_27 : decode b_Mo_potential 27 = .ok (.bipush (-3), 2) := by decide +kernel
theorem d_Mo_potential_29 : decode b_Mo_potential 29 = .ok (.ireturn, 1) := by decide +kernel
theorem d_Mo_potential_30 : decode b_Mo_potential 30 = .ok (.iconst 0, 1) := by decide +kernel
theorem d_Mo_potential_31 : decode b_Mo_potential 31 = .ok (.istore_n 3, 1) := by decide +kernel
theorem d_Mo_potential_32 : decode b_Mo_potential 32 = .ok (.iload_n 3, 1) := by decide +kernel
theorem d_Mo_potential_33 : decode b_Mo_potential 33 = .ok (.aload_n 0, 1) := by decide +kernel
theorem d_Mo_potential_34 : decode b_Mo_potential 34 = .ok (.getfield 7, 3) := by decide +kernel
theorem d_Mo_potential_37 : decode b_Mo_potential 37 = .ok (.if_icmp .ge 23, 3) := by decide +kernel
theorem d_Mo_potential_40 : decode b_Mo_potential 40 = .ok (.aload_n 0, 1) := by decide +kernel
theorem d_Mo_potential_41 : decode b_Mo_potential 41 = .ok (.getfield 61, 3) := by decide +kernel
theorem d_Mo_potential_44 : decode b_Mo_potential 44 = .ok (.iload_n 3, 1) := by decide +kernel
theorem d_Mo_potential_45 : decode b_Mo_potential 45 = .ok (.iload_n 3, 1) := by decide +kernel
theorem d_Mo_potential_46 : decode b_Mo_potential 46 = .ok (.iastore, 1) := by decide +kernel
theorem d_Mo_potential_47 : decode b_Mo_potential 47 = .ok (.aload_n 0, 1) := by decide +kernel
theorem d_Mo_potential_48 : decode b_Mo_potential 48 = .ok (.getfield 64, 3) := by decide +kernel
theorem d_Mo_potential_51 : decode b_Mo_potential 51 = .ok (.iload_n 3, 1) := by decide +kernel
theorem d_Mo_potential_52 : decode b_Mo_potential 52 = .ok (.lconst 0, 1) := by decide +kernel
theorem d_Mo_potential_53 : decode b_Mo_potential 53 = .ok (.lastore, 1) := by decide +kernel
theorem d_Mo_potential_54 : decode b_Mo_potential 54 = .ok (.iinc 3 1, 3) := by decide +kernel
theorem d_Mo_potential_57 : decode b_Mo_potential 57 = .ok (.goto (-25), 3) := by decide +kernel
theorem d_Mo_potential_60 : decode b_Mo_potential 60 = .ok (.iconst 0, 1) := by decide +kernel
theorem d_Mo_potential_61 : decode b_Mo_potential 61 = .ok (.istore_n 3, 1) := by decide +kernel
theorem d_Mo_potential_62 : decode b_Mo_potential 62 = .ok (.iload_n 3, 1) := by decide +kernel
theorem d_Mo_potential_63 : decode b_Mo_potential 63 = .ok (.aload_n 0, 1) := by decide +kernel
theorem d_Mo_potential_64 : decode b_Mo_potential 64 = .ok (.getfield 79, 3) := by decide +kernel
theorem d_Mo_potential_67 : decode b_Mo_potential 67 = .ok (.if_icmp .ge 150, 3) := by decide +kernel
theorem d_Mo_potential_70 : decode b_Mo_potential 70 = .ok (.aload_n 0, 1) := by decide +kernel
theorem d_Mo_potential_71 : decode b_Mo_potential 71 = .ok (.getfield 64, 3) := by decide +kernel
theorem d_Mo_potential_74 : decode b_Mo_potential 74 = .ok (.aload_n 0, 1) := by decide +kernel
theorem d_Mo_potential_75 : decode b_Mo_potential 75 = .ok (.getfield 13, 3) := by decide +kernel
theorem d_Mo_potential_78 : decode b_Mo_potential 78 = .ok (.iload_n 3, 1) := by decide +kernel
theorem d_Mo_potential_79 : decode b_Mo_potential 79 = .ok (.iaload, 1) := by decide +kernel
theorem d_Mo_potential_80 : decode b_Mo_potential 80 = .ok (.laload, 1) := by decide +kernel
theorem d_Mo_potential_81 : decode b_Mo_potential 81 = .ok (.aload_n 0, 1) := by decide +kernel
theorem d_Mo_potential_82 : decode b_Mo_potential 82 = .ok (.iload_n 1, 1) := by decide +kernel
theorem d_Mo_potential_83 : decode b_Mo_potential 83 = .ok (.iload_n 3, 1) := by decide +kernel
theorem d_Mo_potential_84 : decode b_Mo_potential 84 = .ok (.invokevirtual 120, 3) := by decide +kernel
theorem d_Mo_potential_87 : decode b_Mo_potential 87 = .ok (.ladd, 1) := by decide +kernel
theorem d_Mo_potential_88 : decode b_Mo_potential 88 = .ok (.aload_n 0, 1) := by decide +kernel
theorem d_Mo_potential_89 : decode b_Mo_potential 89 = .ok (.getfield 64, 3) := by decide +kernel
theorem d_Mo_potential_92 : decode b_Mo_potential 92 = .ok (.aload_n 0, 1) := by decide +kernel
theorem d_Mo_potential_93 : decode b_Mo_potential 93 = .ok (.getfield 17, 3) := by decide +kernel
theorem d_Mo_potential_96 : decode b_Mo_potential 96 = .ok (.iload_n 3, 1) := by decide +kernel
theorem d_Mo_potential_97 : decode b_Mo_potential 97 = .ok (.iaload, 1) := by decide +kernel
theorem d_Mo_potential_98 : decode b_Mo_potential 98 = .ok (.laload, 1) := by decide +kernel
theorem d_Mo_potential_99 : decode b_Mo_potential 99 = .ok (.lsub, 1) := by decide +kernel
theorem d_Mo_potential_100 : decode b_Mo_potential 100 = .ok (.lstore 4, 2) := by decide +kernel
theorem d_Mo_potential_102 : decode b_Mo_potential 102 = .ok (.aload_n 0, 1) := by decide +kernel
theorem d_Mo_potential_103 : decode b_Mo_potential 103 = .ok (.getfield 61, 3) := by decide +kernel
theorem d_Mo_potential_106 : decode b_Mo_potential 106 = .ok (.aload_n 0, 1) := by decide +kernel
theorem d_Mo_potential_107 : decode b_Mo_potential 107 = .ok (.getfield 13, 3) := by decide +kernel
theorem d_Mo_potential_110 : decode b_Mo_potential 110 = .ok (.iload_n 3, 1) := by decide +kernel
theorem d_Mo_potential_111 : decode b_Mo_potential 111 = .ok (.iaload, 1) := by decide +kernel
theorem d_Mo_potential_112 : decode b_Mo_potential 112 = .ok (.iaload, 1) := by decide +kernel
theorem d_Mo_potential_113 : decode b_Mo_potential 113 = .ok (.aload_n 0, 1) := by decide +kernel
theorem d_Mo_potential_114 : decode b_Mo_potential 114 = .ok (.getfield 61, 3) := by decide +kernel
theorem d_Mo_potential_117 : decode b_Mo_potential 117 = .ok (.aload_n 0, 1) := by decide +kernel
theorem d_Mo_potential_118 : decode b_Mo_potential 118 = .ok (.getfield 17, 3) := by decide +kernel
theorem d_Mo_potential_121 : decode b_Mo_potential 121 = .ok (.iload_n 3, 1) := by decide +kernel
theorem d_Mo_potential_122 : decode b_Mo_potential 122 = .ok (.iaload, 1) := by decide +kernel
theorem d_Mo_potential_123 : decode b_Mo_potential 123 = .ok (.iaload, 1) := by decide +kernel
theorem d_Mo_potential_124 : decode b_Mo_potential 124 = .ok (.if_icmp .ne 12, 3) := by decide +kernel
theorem d_Mo_potential_127 : decode b_Mo_potential 127 = .ok (.lload 4, 2) := by decide +kernel
theorem d_Mo_potential_129 : decode b_Mo_potential 129 = .ok (.lconst 0, 1) := by decide +kernel
theorem d_Mo_potential_130 : decode b_Mo_potential 130 = .ok (.lcmp, 1) := by decide +kernel
theorem d_Mo_potential_131 : decode b_Mo_potential 131 = .ok (.ifCond .eq 80, 3) := by decide +kernel
theorem d_Mo_potential_134 : decode b_Mo_potential 134 = .ok (.iload_n 3, 1) := by decide +kernel
theorem d_Mo_potential_135 : decode b_Mo_potential 135 = .ok (.ireturn, 1) := by decide +kernel
theorem d_Mo_potential_136 : decode b_Mo_potential 136 = .ok (.aload_n 0, 1) := by decide +kernel
theorem d_Mo_potential_137 : decode b_Mo_potential 137 = .ok (.getfield 61, 3) := by decide +kernel
theorem d_Mo_potential_140 : decode b_Mo_potential 140 = .ok (.aload_n 0, 1) := by decide +kernel
theorem d_Mo_potential_141 : decode b_Mo_potential 141 = .ok (.getfield 17, 3) := by decide +kernel
theorem d_Mo_potential_144 : decode b_Mo_potential 144 = .ok (.iload_n 3, 1) := by decide +kernel
theorem d_Mo_potential_145 : decode b_Mo_potential 145 = .ok (.iaload, 1) := by decide +kernel
theorem d_Mo_potential_146 : decode b_Mo_potential 146 = .ok (.iaload, 1) := by decide +kernel
theorem d_Mo_potential_147 : decode b_Mo_potential 147 = .ok (.istore 6, 2) := by decide +kernel
theorem d_Mo_potential_149 : decode b_Mo_potential 149 = .ok (.iconst 0, 1) := by decide +kernel
theorem d_Mo_potential_150 : decode b_Mo_potential 150 = .ok (.istore 7, 2) := by decide +kernel
theorem d_Mo_potential_152 : decode b_Mo_potential 152 = .ok (.iload 7, 2) := by decide +kernel
theorem d_Mo_potential_154 : decode b_Mo_potential 154 = .ok (.aload_n 0, 1) := by decide +kernel
theorem d_Mo_potential_155 : decode b_Mo_potential 155 = .ok (.getfield 7, 3) := by decide +kernel
theorem d_Mo_potential_158 : decode b_Mo_potential 158 = .ok (.if_icmp .ge 37, 3) := by decide +kernel
theorem d_Mo_potential_161 : decode b_Mo_potential 161 = .ok (.aload_n 0, 1) := by decide +kernel
theorem d_Mo_potential_162 : decode b_Mo_potential 162 = .ok (.getfield 64, 3) := by decide +kernel
theorem d_Mo_potential_165 : decode b_Mo_potential 165 = .ok (.iload 7, 2) := by decide +kernel
theorem d_Mo_potential_167 : decode b_Mo_potential 167 = .ok (.dup2, 1) := by decide +kernel
theorem d_Mo_potential_168 : decode b_Mo_potential 168 = .ok (.laload, 1) := by decide +kernel
theorem d_Mo_potential_169 : decode b_Mo_potential 169 = .ok (.aload_n 0, 1) := by decide +kernel
theorem d_Mo_potential_170 : decode b_Mo_potential 170 = .ok (.getfield 61, 3) := by decide +kernel
theorem d_Mo_potential_173 : decode b_Mo_potential 173 = .ok (.iload 7, 2) := by decide +kernel
theorem d_Mo_potential_175 : decode b_Mo_potential 175 = .ok (.iaload, 1) := by decide +kernel
theorem d_Mo_potential_176 : decode b_Mo_potential 176 = .ok (.iload 6, 2) := by decide +kernel
theorem d_Mo_potential_178 : decode b_Mo_potential 178 = .ok (.if_icmp .ne 8, 3) := by decide +kernel
theorem d_Mo_potential_181 : decode b_Mo_potential 181 = .ok (.lload 4, 2) := by decide +kernel
theorem d_Mo_potential_183 : decode b_Mo_potential 183 = .ok (.goto 4, 3) := by decide +kernel
theorem d_Mo_potential_186 : decode b_Mo_potential 186 = .ok (.lconst 0, 1) := by decide +kernel
theorem d_Mo_potential_187 : decode b_Mo_potential 187 = .ok (.ladd, 1) := by decide +kernel
theorem d_Mo_potential_188 : decode b_Mo_potential 188 = .ok (.lastore, 1) := by decide +kernel
theorem d_Mo_potential_189 : decode b_Mo_potential 189 = .ok (.iinc 7 1, 3) := by decide +kernel
theorem d_Mo_potential_192 : decode b_Mo_potential 192 = .ok (.goto (-40), 3) := by decide +kernel
theorem d_Mo_potential_195 : decode b_Mo_potential 195 = .ok (.aload_n 0, 1) := by decide +kernel
theorem d_Mo_potential_196 : decode b_Mo_potential 196 = .ok (.aload_n 0, 1) := by decide +kernel
theorem d_Mo_potential_197 : decode b_Mo_potential 197 = .ok (.getfield 13, 3) := by decide +kernel
theorem d_Mo_potential_200 : decode b_Mo_potential 200 = .ok (.iload_n 3, 1) := by decide +kernel
theorem d_Mo_potential_201 : decode b_Mo_potential 201 = .ok (.iaload, 1) := by decide +kernel
theorem d_Mo_potential_202 : decode b_Mo_potential 202 = .ok (.aload_n 0, 1) := by decide +kernel
theorem d_Mo_potential_203 : decode b_Mo_potential 203 = .ok (.getfield 17, 3) := by decide +kernel
theorem d_Mo_potential_206 : decode b_Mo_potential 206 = .ok (.iload_n 3, 1) := by decide +kernel
theorem d_Mo_potential_207 : decode b_Mo_potential 207 = .ok (.iaload, 1) := by decide +kernel
theorem d_Mo_potential_208 : decode b_Mo_potential 208 = .ok (.invokevirtual 177, 3) := by decide +kernel
theorem d_Mo_potential_211 : decode b_Mo_potential 211 = .ok (.iinc 3 1, 3) := by decide +kernel
theorem d_Mo_potential_214 : decode b_Mo_potential 214 = .ok (.goto (-152), 3) := by decide +kernel
theorem d_Mo_potential_217 : decode b_Mo_potential 217 = .ok (.iconst 0, 1) := by decide +kernel
theorem d_Mo_potential_218 : decode b_Mo_potential 218 = .ok (.istore_n 3, 1) := by decide +kernel
theorem d_Mo_potential_219 : decode b_Mo_potential 219 = .ok (.iload_n 3, 1) := by decide +kernel
theorem d_Mo_potential_220 : decode b_Mo_potential 220 = .ok (.aload_n 0, 1) := by decide +kernel
theorem d_Mo_potential_221 : decode b_Mo_potential 221 = .ok (.getfield 7, 3) := by decide +kernel
theorem d_Mo_potential_224 : decode b_Mo_potential 224 = .ok (.if_icmp .ge 33, 3) := by decide +kernel
theorem d_Mo_potential_227 : decode b_Mo_potential 227 = .ok (.aload_n 0, 1) := by decide +kernel
theorem d_Mo_potential_228 : decode b_Mo_potential 228 = .ok (.getfield 49, 3) := by decide +kernel
theorem d_Mo_potential_231 : decode b_Mo_potential 231 = .ok (.iload_n 3, 1) := by decide +kernel
theorem d_Mo_potential_232 : decode b_Mo_potential 232 = .ok (.aload_n 0, 1) := by decide +kernel
theorem d_Mo_potential_233 : decode b_Mo_potential 233 = .ok (.getfield 64, 3) := by decide +kernel
theorem d_Mo_potential_236 : decode b_Mo_potential 236 = .ok (.iload_n 3, 1) := by decide +kernel
theorem d_Mo_potential_237 : decode b_Mo_potential 237 = .ok (.laload, 1) := by decide +kernel
theorem d_Mo_potential_238 : decode b_Mo_potential 238 = .ok (.aload_n 0, 1) := by decide +kernel
theorem d_Mo_potential_239 : decode b_Mo_potential 239 = .ok (.getfield 64, 3) := by decide +kernel
theorem d_Mo_potential_242 : decode b_Mo_potential 242 = .ok (.aload_n 0, 1) := by decide +kernel
theorem d_Mo_potential_243 : decode b_Mo_potential 243 = .ok (.getfield 61, 3) := by decide +kernel
theorem d_Mo_potential_246 : decode b_Mo_potential 246 = .ok (.iload_n 3, 1) := by decide +kernel
theorem d_Mo_potential_247 : decode b_Mo_potential 247 = .ok (.iaload, 1) := by decide +kernel
theorem d_Mo_potential_248 : decode b_Mo_potential 248 = .ok (.laload, 1) := by decide +kernel
theorem d_Mo_potential_249 : decode b_Mo_potential 249 = .ok (.lsub, 1) := by decide +kernel
theorem d_Mo_potential_250 : decode b_Mo_potential 250 = .ok (.lastore, 1) := by decide +kernel
theorem d_Mo_potential_251 : decode b_Mo_potential 251 = .ok (.iinc 3 1, 3) := by decide +kernel
theorem d_Mo_potential_254 : decode b_Mo_potential 254 = .ok (.goto (-35), 3) := by decide +kernel
theorem d_Mo_potential_257 : decode b_Mo_potential 257 = .ok (.aload_n 0, 1) := by decide +kernel
theorem d_Mo_potential_258 : decode b_Mo_potential 258 = .ok (.iload_n 2, 1) := by decide +kernel
theorem d_Mo_potential_259 : decode b_Mo_potential 259 = .ok (.iconst 0, 1) := by decide +kernel
theorem d_Mo_potential_260 : decode b_Mo_potential 260 = .ok (.invokevirtual 132, 3) := by decide +kernel
theorem d_Mo_potential_263 : decode b_Mo_potential 263 = .ok (.istore_n 3, 1) := by decide +kernel
theorem d_Mo_potential_264 : decode b_Mo_potential 264 = .ok (.iload_n 3, 1) := by decide +kernel
theorem d_Mo_potential_265 : decode b_Mo_potential 265 = .ok (.bipush (-5), 2) := by decide +kernel
theorem d_Mo_potential_267 : decode b_Mo_potential 267 = .ok (.if_icmp .ne 8, 3) := by decide +kernel
theorem d_Mo_potential_270 : decode b_Mo_potential 270 = .ok (.bipush (-5), 2) := by decide +kernel
theorem d_Mo_potential_272 : decode b_Mo_potential 272 = .ok (.goto 4, 3) := by decide +kernel
theorem d_Mo_potential_275 : decode b_Mo_potential 275 = .ok (.iconst (-1), 1) := by decide +kernel
theorem d_Mo_potential_276 : decode b_Mo_potential 276 = .ok (.ireturn, 1) := by decide +kernel
def q_Mo_potential_L32 (kx60 : Int32 → Int32 → Mem → Prop) (post : Int32 → Mem → Prop) : Nat → Int32 → Int32 → Int32 → Mem → Prop
  | 0, _, _, _, _ => False
  | n + 1, x1, x2, x3, M => ((M.1 56 0) ≤ x3 → kx60 x1 x2 M) ∧ (¬ (M.1 56 0) ≤ x3 → vp_in x3 6 ∧ (∀ M5, M5 = wI M 72 x3.toNatClampNeg x3 → vp_in x3 6 ∧ (∀ M6, M6 = wJ M5 73 x3.toNatClampNeg (0 : Int64) → q_Mo_potential_L32 kx60 post n x1 x2 (x3 + 1) M6)))
set_option maxHeartbeats 4000000 in
theorem s_Mo_potential_L32 {γ : Gm} {κ : Kp} {post : Int32 → Mem → Prop} {kx60 : Int32 → Int32 → Mem → Prop} (C : Cx γ κ "NetFormsModel" b_Mo_potential 8 2 (0, 0)) (R : Rt γ (some .int)) (hx60 : ∀ y1 y2 M', kx60 y1 y2 M' → G γ κ 8 (0, 0) (Gq γ κ (pI post)) 60 [(0, .ref (κ.1 + 56)), (1, .int y1), (2, .int y2)] [] M') : ∀ (n : Nat) (x1 : Int32) (x2 : Int32) (x3 : Int32) (M : Mem), q_Mo_potential_L32 kx60 post n x1 x2 x3 M → G γ κ 8 (0, 0) (Gq γ κ (pI post)) 32 [(0, .ref (κ.1 + 56)), (1, .int x1), (2, .int x2), (3, .int x3)] [] M := by
  intro n
  induction n with
  | zero => intro x1 x2 x3 M hq; exact hq.elim
  | succ n ih =>
    intro x1 x2 x3 M hq
    unfold q_Mo_potential_L32 at hq
    refine G_iload_n C 3 d_Mo_potential_32 rfl rfl ?_
    refine G_aload_n C 0 d_Mo_potential_33 rfl rfl ?_
    refine Gg_Mo_points C wd_521 d_Mo_potential_34 ?_
    refine G_icmp_ge C (tgt := 60) d_Mo_potential_37 (by decide) (fun c => ?_) (fun c => ?_)
    · replace hq := hq.1 c
      exact G_sub [0, 1, 2] (by rfl) (hx60 _ _ _ hq)
    · replace hq := hq.2 c
      refine G_aload_n C 0 d_Mo_potential_40 rfl rfl ?_
      refine Gg_Mo_partOf C wd_541 d_Mo_potential_41 ?_
      refine G_iload_n C 3 d_Mo_potential_44 rfl rfl ?_
      refine G_iload_n C 3 d_Mo_potential_45 rfl rfl ?_
      refine G_iastore C (k := 72) (by decide) (fun _ _ => rfl) hq.1 d_Mo_potential_46 ?_
      replace hq := hq.2 _ rfl
      refine G_aload_n C 0 d_Mo_potential_47 rfl rfl ?_
      refine Gg_Mo_raised C wd_542 d_Mo_potential_48 ?_
      refine G_iload_n C 3 d_Mo_potential_51 rfl rfl ?_
      refine G_lconst C (v := 0) d_Mo_potential_52 (by decide) ?_
      refine G_lastore C (k := 73) (by decide) (fun _ _ => rfl) hq.1 d_Mo_potential_53 ?_
      replace hq := hq.2 _ rfl
      refine G_iinc C (v := _ + 1) (lv' := [(3, _), (0, _), (1, _), (2, _)]) 3 d_Mo_potential_54 rfl rfl (by decide) rfl ?_
      refine G_goto C (tgt := 32) d_Mo_potential_57 (by decide) ?_
      exact G_sub [1, 2, 3, 0] (by rfl) (ih _ _ _ _ hq)
def q_Mo_potential_L152 (kx195 : Int32 → Int32 → Int32 → Mem → Prop) (post : Int32 → Mem → Prop) : Nat → Int32 → Int32 → Int32 → Int64 → Int32 → Int32 → Mem → Prop
  | 0, _, _, _, _, _, _, _ => False
  | n + 1, x1, x2, x3, x4, x6, x7, M => ((M.1 56 0) ≤ x7 → kx195 x1 x2 x3 M) ∧ (¬ (M.1 56 0) ≤ x7 → vp_in x7 6 ∧ (vp_in x7 6 ∧ ((¬ (M.1 72 x7.toNatClampNeg) = x6 → vp_in x7 6 ∧ (∀ M14, M14 = wJ M 73 x7.toNatClampNeg ((M.2 73 x7.toNatClampNeg) + (0 : Int64)) → q_Mo_potential_L152 kx195 post n x1 x2 x3 x4 x6 (x7 + 1) M14)) ∧ ((M.1 72 x7.toNatClampNeg) = x6 → vp_in x7 6 ∧ (∀ M15, M15 = wJ M 73 x7.toNatClampNeg ((M.2 73 x7.toNatClampNeg) + x4) → q_Mo_potential_L152 kx195 post n x1 x2 x3 x4 x6 (x7 + 1) M15)))))
set_option maxHeartbeats 4000000 in
theorem s_Mo_potential_L152 {γ : Gm} {κ : Kp} {post : Int32 → Mem → Prop} {kx195 : Int32 → Int32 → Int32 → Mem → Prop} (C : Cx γ κ "NetFormsModel" b_Mo_potential 8 2 (0, 0)) (R : Rt γ (some .int)) (hx195 : ∀ y1 y2 y3 M', kx195 y1 y2 y3 M' → G γ κ 8 (0, 0) (Gq γ κ (pI post)) 195 [(0, .ref (κ.1 + 56)), (1, .int y1), (2, .int y2), (3, .int y3)] [] M') : ∀ (n : Nat) (x1 : Int32) (x2 : Int32) (x3 : Int32) (x4 : Int64) (x6 : Int32) (x7 : Int32) (M : Mem), q_Mo_potential_L152 kx195 post n x1 x2 x3 x4 x6 x7 M → G γ κ 8 (0, 0) (Gq γ κ (pI post)) 152 [(0, .ref (κ.1 + 56)), (1, .int x1), (2, .int x2), (3, .int x3), (4, .long x4), (6, .int x6), (7, .int x7)] [] M := by
  intro n
  induction n with
  | zero => intro x1 x2 x3 x4 x6 x7 M hq; exact hq.elim
  | succ n ih =>
    intro x1 x2 x3 x4 x6 x7 M hq
    unfold q_Mo_potential_L152 at hq
    refine G_iload C 6 d_Mo_potential_152 rfl ?_
    refine G_aload_n C 0 d_Mo_potential_154 rfl rfl ?_
    refine Gg_Mo_points C wd_521 d_Mo_potential_155 ?_
    refine G_icmp_ge C (tgt := 195) d_Mo_potential_158 (by decide) (fun c => ?_) (fun c => ?_)
    · replace hq := hq.1 c
      exact G_sub [0, 1, 2, 3] (by rfl) (hx195 _ _ _ _ hq)
    · replace hq := hq.2 c
      refine G_aload_n C 0 d_Mo_potential_161 rfl rfl ?_
      refine Gg_Mo_raised C wd_542 d_Mo_potential_162 ?_
      refine G_iload C 6 d_Mo_potential_165 rfl ?_
      refine G_dup2 C d_Mo_potential_167 rfl rfl ?_
      refine G_laload C (k := 73) (by decide) (fun _ _ => rfl) hq.1 d_Mo_potential_168 ?_
      replace hq := hq.2
      refine G_aload_n C 0 d_Mo_potential_169 rfl rfl ?_
      refine Gg_Mo_partOf C wd_541 d_Mo_potential_170 ?_
      refine G_iload C 6 d_Mo_potential_173 rfl ?_
      refine G_iaload C (k := 72) (by decide) (fun _ _ => rfl) hq.1 d_Mo_potential_175 ?_
      replace hq := hq.2
      refine G_iload C 5 d_Mo_potential_176 rfl ?_
      refine G_icmp_ne C (tgt := 186) d_Mo_potential_178 (by decide) (fun c => ?_) (fun c => ?_)
      · replace hq := hq.1 c
        refine G_lconst C (v := 0) d_Mo_potential_186 (by decide) ?_
        refine G_ladd C d_Mo_potential_187 ?_
        refine G_lastore C (k := 73) (by decide) (fun _ _ => rfl) hq.1 d_Mo_potential_188 ?_
        replace hq := hq.2 _ rfl
        refine G_iinc C (v := _ + 1) (lv' := [(7, _), (0, _), (1, _), (2, _), (3, _), (4, _), (6, _)]) 6 d_Mo_potential_189 rfl rfl (by decide) rfl ?_
        refine G_goto C (tgt := 152) d_Mo_potential_192 (by decide) ?_
        exact G_sub [1, 2, 3, 4, 5, 6, 0] (by rfl) (ih _ _ _ _ _ _ _ hq)
      · replace hq := hq.2 c
        refine G_lload C 4 d_Mo_potential_181 rfl ?_
        refine G_goto C (tgt := 187) d_Mo_potential_183 (by decide) ?_
        refine G_ladd C d_Mo_potential_187 ?_
        refine G_lastore C (k := 73) (by decide) (fun _ _ => rfl) hq.1 d_Mo_potential_188 ?_
        replace hq := hq.2 _ rfl
        refine G_iinc C (v := _ + 1) (lv' := [(7, _), (0, _), (1, _), (2, _), (3, _), (4, _), (6, _)]) 6 d_Mo_potential_189 rfl rfl (by decide) rfl ?_
        refine G_goto C (tgt := 152) d_Mo_potential_192 (by decide) ?_
        exact G_sub [1, 2, 3, 4, 5, 6, 0] (by rfl) (ih _ _ _ _ _ _ _ hq)
def q_Mo_potential_L62 (kx134 : Int32 → Mem → Prop) (kx217 : Int32 → Mem → Prop) (post : Int32 → Mem → Prop) : Nat → Int32 → Int32 → Int32 → Mem → Prop
  | 0, _, _, _, _ => False
  | n + 1, x1, x2, x3, M => ((M.1 56 1) ≤ x3 → kx217 x2 M) ∧ (¬ (M.1 56 1) ≤ x3 → vp_in x3 12 ∧ (vp_in (M.1 57 x3.toNatClampNeg) 6 ∧ (q_Mo_at x1 x3 M (fun r12 M11 => vp_in x3 12 ∧ (vp_in (M11.1 58 x3.toNatClampNeg) 6 ∧ (∀ v13, v13 = (((M.2 73 (M.1 57 x3.toNatClampNeg).toNatClampNeg) + r12) - (M11.2 73 (M11.1 58 x3.toNatClampNeg).toNatClampNeg)) → vp_in x3 12 ∧ (vp_in (M11.1 57 x3.toNatClampNeg) 6 ∧ (vp_in x3 12 ∧ (vp_in (M11.1 58 x3.toNatClampNeg) 6 ∧ ((¬ (M11.1 72 (M11.1 57 x3.toNatClampNeg).toNatClampNeg) = (M11.1 72 (M11.1 58 x3.toNatClampNeg).toNatClampNeg) → vp_in x3 12 ∧ (vp_in (M11.1 58 x3.toNatClampNeg) 6 ∧ (∃ n16, q_Mo_potential_L152 (fun x17 x18 x19 M20 => vp_in x19 12 ∧ (vp_in x19 12 ∧ (q_Mo_joins (M20.1 57 x19.toNatClampNeg) (M20.1 58 x19.toNatClampNeg) M20 (fun M21 => q_Mo_potential_L62 kx134 kx217 post n x17 x18 (x19 + 1) M21)))) post n16 x1 x2 x3 v13 (M11.1 72 (M11.1 58 x3.toNatClampNeg).toNatClampNeg) (0 : Int32) M11))) ∧ ((M11.1 72 (M11.1 57 x3.toNatClampNeg).toNatClampNeg) = (M11.1 72 (M11.1 58 x3.toNatClampNeg).toNatClampNeg) → (v13 = (0 : Int64) → q_Mo_potential_L62 kx134 kx217 post n x1 x2 (x3 + 1) M11) ∧ (¬ v13 = (0 : Int64) → kx134 x3 M11))))))))))))
set_option maxHeartbeats 4000000 in
theorem s_Mo_potential_L62 {γ : Gm} {κ : Kp} {post : Int32 → Mem → Prop} {kx134 : Int32 → Mem → Prop} {kx217 : Int32 → Mem → Prop} (C : Cx γ κ "NetFormsModel" b_Mo_potential 8 2 (0, 0)) (R : Rt γ (some .int)) (hx134 : ∀ y0 M', kx134 y0 M' → G γ κ 8 (0, 0) (Gq γ κ (pI post)) 134 [(3, .int y0)] [] M') (hx217 : ∀ y1 M', kx217 y1 M' → G γ κ 8 (0, 0) (Gq γ κ (pI post)) 217 [(0, .ref (κ.1 + 56)), (2, .int y1)] [] M') : ∀ (n : Nat) (x1 : Int32) (x2 : Int32) (x3 : Int32) (M : Mem), q_Mo_potential_L62 kx134 kx217 post n x1 x2 x3 M → G γ κ 8 (0, 0) (Gq γ κ (pI post)) 62 [(0, .ref (κ.1 + 56)), (1, .int x1), (2, .int x2), (3, .int x3)] [] M := by
  intro n
  induction n with
  | zero => intro x1 x2 x3 M hq; exact hq.elim
  | succ n ih =>
    intro x1 x2 x3 M hq
    unfold q_Mo_potential_L62 at hq
    refine G_iload_n C 3 d_Mo_potential_62 rfl rfl ?_
    refine G_aload_n C 0 d_Mo_potential_63 rfl rfl ?_
    refine Gg_Mo_edges C wd_522 d_Mo_potential_64 ?_
    refine G_icmp_ge C (tgt := 217) d_Mo_potential_67 (by decide) (fun c => ?_) (fun c => ?_)
    · replace hq := hq.1 c
      exact G_sub [0, 2] (by rfl) (hx217 _ _ hq)
    · replace hq := hq.2 c
      refine G_aload_n C 0 d_Mo_potential_70 rfl rfl ?_
      refine Gg_Mo_raised C wd_542 d_Mo_potential_71 ?_
      refine G_aload_n C 0 d_Mo_potential_74 rfl rfl ?_
      refine Gg_Mo_begin C wd_524 d_Mo_potential_75 ?_
      refine G_iload_n C 3 d_Mo_potential_78 rfl rfl ?_
      refine G_iaload C (k := 57) (by decide) (fun _ _ => rfl) hq.1 d_Mo_potential_79 ?_
      replace hq := hq.2
      refine G_laload C (k := 73) (by decide) (fun _ _ => rfl) hq.1 d_Mo_potential_80 ?_
      replace hq := hq.2
      refine G_aload_n C 0 d_Mo_potential_81 rfl rfl ?_
      refine G_iload_n C 1 d_Mo_potential_82 rfl rfl ?_
      refine G_iload_n C 3 d_Mo_potential_83 rfl rfl ?_
      refine G_callV C (s_Mo_at hq) v_Mo_at i_Mo_at z_Mo_at wd_668 (by decide) rfl (k := 56) (ci := 7) (by decide) rfl rfl rfl (rest := [_]) (by rfl) (Nat.le_of_ble_eq_true rfl) d_Mo_potential_84 (kj_ (fun r12 M11 hq => ?_))
      refine G_ladd C d_Mo_potential_87 ?_
      refine G_aload_n C 0 d_Mo_potential_88 rfl rfl ?_
      refine Gg_Mo_raised C wd_542 d_Mo_potential_89 ?_
      refine G_aload_n C 0 d_Mo_potential_92 rfl rfl ?_
      refine Gg_Mo_end C wd_525 d_Mo_potential_93 ?_
      refine G_iload_n C 3 d_Mo_potential_96 rfl rfl ?_
      refine G_iaload C (k := 58) (by decide) (fun _ _ => rfl) hq.1 d_Mo_potential_97 ?_
      replace hq := hq.2
      refine G_laload C (k := 73) (by decide) (fun _ _ => rfl) hq.1 d_Mo_potential_98 ?_
      replace hq := hq.2
      refine G_lsub C d_Mo_potential_99 ?_
      replace hq := hq _ rfl
      refine G_lstore C (lv' := [(4, _), (0, _), (1, _), (2, _), (3, _)]) d_Mo_potential_100 (by decide) rfl ?_
      refine G_aload_n C 1 d_Mo_potential_102 rfl rfl ?_
      refine Gg_Mo_partOf C wd_541 d_Mo_potential_103 ?_
      refine G_aload_n C 1 d_Mo_potential_106 rfl rfl ?_
      refine Gg_Mo_begin C wd_524 d_Mo_potential_107 ?_
      refine G_iload_n C 4 d_Mo_potential_110 rfl rfl ?_
      refine G_iaload C (k := 57) (by decide) (fun _ _ => rfl) hq.1 d_Mo_potential_111 ?_
      replace hq := hq.2
      refine G_iaload C (k := 72) (by decide) (fun _ _ => rfl) hq.1 d_Mo_potential_112 ?_
      replace hq := hq.2
      refine G_aload_n C 1 d_Mo_potential_113 rfl rfl ?_
      refine Gg_Mo_partOf C wd_541 d_Mo_potential_114 ?_
      refine G_aload_n C 1 d_Mo_potential_117 rfl rfl ?_
      refine Gg_Mo_end C wd_525 d_Mo_potential_118 ?_
      refine G_iload_n C 4 d_Mo_potential_121 rfl rfl ?_
      refine G_iaload C (k := 58) (by decide) (fun _ _ => rfl) hq.1 d_Mo_potential_122 ?_
      replace hq := hq.2
      refine G_iaload C (k := 72) (by decide) (fun _ _ => rfl) hq.1 d_Mo_potential_123 ?_
      replace hq := hq.2
      refine G_icmp_ne C (tgt := 136) d_Mo_potential_124 (by decide) (fun c => ?_) (fun c => ?_)
      · replace hq := hq.1 c
        refine G_aload_n C 1 d_Mo_potential_136 rfl rfl ?_
        refine Gg_Mo_partOf C wd_541 d_Mo_potential_137 ?_
        refine G_aload_n C 1 d_Mo_potential_140 rfl rfl ?_
        refine Gg_Mo_end C wd_525 d_Mo_potential_141 ?_
        refine G_iload_n C 4 d_Mo_potential_144 rfl rfl ?_
        refine G_iaload C (k := 58) (by decide) (fun _ _ => rfl) hq.1 d_Mo_potential_145 ?_
        replace hq := hq.2
        refine G_iaload C (k := 72) (by decide) (fun _ _ => rfl) hq.1 d_Mo_potential_146 ?_
        replace hq := hq.2
        refine G_istore C (lv' := [(6, _), (4, _), (0, _), (1, _), (2, _), (3, _)]) d_Mo_potential_147 (by decide) rfl ?_
        refine G_iconst C (v := 0) d_Mo_potential_149 (by decide) ?_
        refine G_istore C (lv' := [(7, _), (6, _), (4, _), (0, _), (1, _), (2, _), (3, _)]) d_Mo_potential_150 (by decide) rfl ?_
        obtain ⟨n16, hq⟩ := hq
        refine G_sub [3, 4, 5, 6, 2, 1, 0] (by rfl) (s_Mo_potential_L152 C R ?_ n16 _ _ _ _ _ _ _ hq)
        · intro x17 x18 x19 M20 hq
          refine G_aload_n C 0 d_Mo_potential_195 rfl rfl ?_
          refine G_aload_n C 0 d_Mo_potential_196 rfl rfl ?_
          refine Gg_Mo_begin C wd_524 d_Mo_potential_197 ?_
          refine G_iload_n C 3 d_Mo_potential_200 rfl rfl ?_
          refine G_iaload C (k := 57) (by decide) (fun _ _ => rfl) hq.1 d_Mo_potential_201 ?_
          replace hq := hq.2
          refine G_aload_n C 0 d_Mo_potential_202 rfl rfl ?_
          refine Gg_Mo_end C wd_525 d_Mo_potential_203 ?_
          refine G_iload_n C 3 d_Mo_potential_206 rfl rfl ?_
          refine G_iaload C (k := 58) (by decide) (fun _ _ => rfl) hq.1 d_Mo_potential_207 ?_
          replace hq := hq.2
          refine G_callV C (s_Mo_joins hq) v_Mo_joins i_Mo_joins z_Mo_joins wd_719 (by decide) rfl (k := 56) (ci := 7) (by decide) rfl rfl rfl (rest := []) (by rfl) (Nat.le_of_ble_eq_true rfl) d_Mo_potential_208 (kv_ (fun M21 hq => ?_))
          refine G_iinc C (v := _ + 1) (lv' := [(3, _), (0, _), (1, _), (2, _)]) 3 d_Mo_potential_211 rfl rfl (by decide) rfl ?_
          refine G_goto C (tgt := 62) d_Mo_potential_214 (by decide) ?_
          exact G_sub [1, 2, 3, 0] (by rfl) (ih _ _ _ _ hq)
      · replace hq := hq.2 c
        refine G_lload C 0 d_Mo_potential_127 rfl ?_
        refine G_lconst C (v := 0) d_Mo_potential_129 (by decide) ?_
        refine G_lcmp_eq C (tgt := 211) (pc1 := 131) d_Mo_potential_130 rfl d_Mo_potential_131 (by decide) (fun c => ?_) (fun c => ?_)
        · replace hq := hq.1 c
          refine G_iinc C (v := _ + 1) (lv' := [(3, _), (4, _), (0, _), (1, _), (2, _)]) 4 d_Mo_potential_211 rfl rfl (by decide) rfl ?_
          refine G_goto C (tgt := 62) d_Mo_potential_214 (by decide) ?_
          exact G_sub [2, 3, 4, 0] (by rfl) (ih _ _ _ _ hq)
        · replace hq := hq.2 c
          exact G_sub [4] (by rfl) (hx134 _ _ hq)
def q_Mo_potential_L219 (kx257 : Int32 → Mem → Prop) (post : Int32 → Mem → Prop) : Nat → Int32 → Int32 → Mem → Prop
  | 0, _, _, _ => False
  | n + 1, x2, x3, M => ((M.1 56 0) ≤ x3 → kx257 x2 M) ∧ (¬ (M.1 56 0) ≤ x3 → vp_in x3 6 ∧ (vp_in x3 6 ∧ (vp_in (M.1 72 x3.toNatClampNeg) 6 ∧ (vp_in x3 12 ∧ (∀ M27, M27 = wJ M 68 x3.toNatClampNeg ((M.2 73 x3.toNatClampNeg) - (M.2 73 (M.1 72 x3.toNatClampNeg).toNatClampNeg)) → q_Mo_potential_L219 kx257 post n x2 (x3 + 1) M27)))))
set_option maxHeartbeats 4000000 in
theorem s_Mo_potential_L219 {γ : Gm} {κ : Kp} {post : Int32 → Mem → Prop} {kx257 : Int32 → Mem → Prop} (C : Cx γ κ "NetFormsModel" b_Mo_potential 8 2 (0, 0)) (R : Rt γ (some .int)) (hx257 : ∀ y1 M', kx257 y1 M' → G γ κ 8 (0, 0) (Gq γ κ (pI post)) 257 [(0, .ref (κ.1 + 56)), (2, .int y1)] [] M') : ∀ (n : Nat) (x2 : Int32) (x3 : Int32) (M : Mem), q_Mo_potential_L219 kx257 post n x2 x3 M → G γ κ 8 (0, 0) (Gq γ κ (pI post)) 219 [(0, .ref (κ.1 + 56)), (2, .int x2), (3, .int x3)] [] M := by
  intro n
  induction n with
  | zero => intro x2 x3 M hq; exact hq.elim
  | succ n ih =>
    intro x2 x3 M hq
    unfold q_Mo_potential_L219 at hq
    refine G_iload_n C 2 d_Mo_potential_219 rfl rfl ?_
    refine G_aload_n C 0 d_Mo_potential_220 rfl rfl ?_
    refine Gg_Mo_points C wd_521 d_Mo_potential_221 ?_
    refine G_icmp_ge C (tgt := 257) d_Mo_potential_224 (by decide) (fun c => ?_) (fun c => ?_)
    · replace hq := hq.1 c
      exact G_sub [0, 1] (by rfl) (hx257 _ _ hq)
    · replace hq := hq.2 c
      refine G_aload_n C 0 d_Mo_potential_227 rfl rfl ?_
      refine Gg_Mo_made C wd_536 d_Mo_potential_228 ?_
      refine G_iload_n C 2 d_Mo_potential_231 rfl rfl ?_
      refine G_aload_n C 0 d_Mo_potential_232 rfl rfl ?_
      refine Gg_Mo_raised C wd_542 d_Mo_potential_233 ?_
      refine G_iload_n C 2 d_Mo_potential_236 rfl rfl ?_
      refine G_laload C (k := 73) (by decide) (fun _ _ => rfl) hq.1 d_Mo_potential_237 ?_
      replace hq := hq.2
      refine G_aload_n C 0 d_Mo_potential_238 rfl rfl ?_
      refine Gg_Mo_raised C wd_542 d_Mo_potential_239 ?_
      refine G_aload_n C 0 d_Mo_potential_242 rfl rfl ?_
      refine Gg_Mo_partOf C wd_541 d_Mo_potential_243 ?_
      refine G_iload_n C 2 d_Mo_potential_246 rfl rfl ?_
      refine G_iaload C (k := 72) (by decide) (fun _ _ => rfl) hq.1 d_Mo_potential_247 ?_
      replace hq := hq.2
      refine G_laload C (k := 73) (by decide) (fun _ _ => rfl) hq.1 d_Mo_potential_248 ?_
      replace hq := hq.2
      refine G_lsub C d_Mo_potential_249 ?_
      refine G_lastore C (k := 68) (by decide) (fun _ _ => rfl) hq.1 d_Mo_potential_250 ?_
      replace hq := hq.2 _ rfl
      refine G_iinc C (v := _ + 1) (lv' := [(3, _), (0, _), (2, _)]) 2 d_Mo_potential_251 rfl rfl (by decide) rfl ?_
      refine G_goto C (tgt := 219) d_Mo_potential_254 (by decide) ?_
      exact G_sub [1, 2, 0] (by rfl) (ih _ _ _ hq)
def q_Mo_potential (a1 : Int32) (a2 : Int32) (M : Mem) (post : Int32 → Mem → Prop) : Prop := q_Mo_isForm a1 M (fun r2 M1 => (r2 = 0 → post (-2 : Int32) M1) ∧ (¬ r2 = 0 → q_Mo_isForm a2 M1 (fun r4 M3 => (¬ r4 = 0 → vp_in a1 12 ∧ (((M3.1 62 a1.toNatClampNeg) = (1 : Int32) → ∃ n7, q_Mo_potential_L32 (fun x8 x9 M10 => ∃ n22, q_Mo_potential_L62 (fun x23 M24 => post x23 M24) (fun x25 M26 => ∃ n28, q_Mo_potential_L219 (fun x29 M30 => q_Mo_becomes x29 (0 : Int32) M30 (fun r32 M31 => (¬ r32 = (-5 : Int32) → post (-1 : Int32) M31) ∧ (r32 = (-5 : Int32) → post (-5 : Int32) M31))) post n28 x25 (0 : Int32) M26) post n22 x8 x9 (0 : Int32) M10) post n7 a1 a2 (0 : Int32) M3) ∧ (¬ (M3.1 62 a1.toNatClampNeg) = (1 : Int32) → post (-3 : Int32) M3))) ∧ (r4 = 0 → post (-2 : Int32) M3))))
set_option maxHeartbeats 4000000 in
theorem s_Mo_potential {l : Launch} {κ : Kp} {a1 : Int32} {a2 : Int32} {M : Mem} {post : Int32 → Mem → Prop} (hq : q_Mo_potential a1 a2 M post) : Ct l κ y_Mo_potential b_Mo_potential 8 (some .int) 2 [.ref (κ.1 + 56), .int a1, .int a2] M (pI post) := by
  refine Ct_of (by decide) (Nat.le_of_ble_eq_true rfl) (fun γ hγ C R => ?_)
  subst hγ
  unfold q_Mo_potential at hq
  show G γ κ 8 (0, 0) (Gq γ κ (pI post)) 0 [(0, .ref (κ.1 + 56)), (1, .int a1), (2, .int a2)] [] M
  refine G_iload_n C 1 d_Mo_potential_0 rfl rfl ?_
  refine G_callS C (s_Mo_isForm hq) v_Mo_isForm z_Mo_isForm wd_636 (by decide) rfl (rest := []) (by rfl) (Nat.le_of_ble_eq_true rfl) d_Mo_potential_1 (ki_ (fun r2 M1 hq => ?_))
  refine G_if_eq C (tgt := 14) d_Mo_potential_4 (by decide) (fun c => ?_) (fun c => ?_)
  · replace hq := hq.1 c
    refine G_bipush C (v := -2) d_Mo_potential_14 (by decide) ?_
    exact G_iret C R d_Mo_potential_16 ⟨_, rfl, hq⟩
  · replace hq := hq.2 c
    refine G_iload_n C 2 d_Mo_potential_7 rfl rfl ?_
    refine G_callS C (s_Mo_isForm hq) v_Mo_isForm z_Mo_isForm wd_636 (by decide) rfl (rest := []) (by rfl) (Nat.le_of_ble_eq_true rfl) d_Mo_potential_8 (ki_ (fun r4 M3 hq => ?_))
    refine G_if_ne C (tgt := 17) d_Mo_potential_11 (by decide) (fun c => ?_) (fun c => ?_)
    · replace hq := hq.1 c
      refine G_aload_n C 0 d_Mo_potential_17 rfl rfl ?_
      refine Gg_Mo_degree C wd_529 d_Mo_potential_18 ?_
      refine G_iload_n C 1 d_Mo_potential_21 rfl rfl ?_
      refine G_iaload C (k := 62) (by decide) (fun _ _ => rfl) hq.1 d_Mo_potential_22 ?_
      replace hq := hq.2
      refine G_iconst C (v := 1) d_Mo_potential_23 (by decide) ?_
      refine G_icmp_eq C (tgt := 30) d_Mo_potential_24 (by decide) (fun c => ?_) (fun c => ?_)
      · replace hq := hq.1 c
        refine G_iconst C (v := 0) d_Mo_potential_30 (by decide) ?_
        refine G_istore_n C (lv' := [(3, _), (0, _), (1, _), (2, _)]) d_Mo_potential_31 rfl (by decide) rfl ?_
        obtain ⟨n7, hq⟩ := hq
        refine G_sub [1, 2, 3, 0] (by rfl) (s_Mo_potential_L32 C R ?_ n7 _ _ _ _ hq)
        · intro x8 x9 M10 hq
          refine G_iconst C (v := 0) d_Mo_potential_60 (by decide) ?_
          refine G_istore_n C (lv' := [(3, _), (0, _), (1, _), (2, _)]) d_Mo_potential_61 rfl (by decide) rfl ?_
          obtain ⟨n22, hq⟩ := hq
          refine G_sub [1, 2, 3, 0] (by rfl) (s_Mo_potential_L62 C R ?_ ?_ n22 _ _ _ _ hq)
          · intro x23 M24 hq
            refine G_iload_n C 0 d_Mo_potential_134 rfl rfl ?_
            exact G_iret C R d_Mo_potential_135 ⟨_, rfl, hq⟩
          · intro x25 M26 hq
            refine G_iconst C (v := 0) d_Mo_potential_217 (by decide) ?_
            refine G_istore_n C (lv' := [(3, _), (0, _), (2, _)]) d_Mo_potential_218 rfl (by decide) rfl ?_
            obtain ⟨n28, hq⟩ := hq
            refine G_sub [1, 2, 0] (by rfl) (s_Mo_potential_L219 C R ?_ n28 _ _ _ hq)
            · intro x29 M30 hq
              refine G_aload_n C 0 d_Mo_potential_257 rfl rfl ?_
              refine G_iload_n C 1 d_Mo_potential_258 rfl rfl ?_
              refine G_iconst C (v := 0) d_Mo_potential_259 (by decide) ?_
              refine G_callV C (s_Mo_becomes hq) v_Mo_becomes i_Mo_becomes z_Mo_becomes wd_676 (by decide) rfl (k := 56) (ci := 7) (by decide) rfl rfl rfl (rest := []) (by rfl) (Nat.le_of_ble_eq_true rfl) d_Mo_potential_260 (ki_ (fun r32 M31 hq => ?_))
              refine G_istore_n C (lv' := [(3, _), (0, _), (2, _)]) d_Mo_potential_263 rfl (by decide) rfl ?_
              refine G_iload_n C 0 d_Mo_potential_264 rfl rfl ?_
              refine G_bipush C (v := -5) d_Mo_potential_265 (by decide) ?_
              refine G_icmp_ne C (tgt := 275) d_Mo_potential_267 (by decide) (fun c => ?_) (fun c => ?_)
              · replace hq := hq.1 c
                refine G_iconst C (v := -1) d_Mo_potential_275 (by decide) ?_
                exact G_iret C R d_Mo_potential_276 ⟨_, rfl, hq⟩
              · replace hq := hq.2 c
                refine G_bipush C (v := -5) d_Mo_potential_270 (by decide) ?_
                refine G_goto C (tgt := 276) d_Mo_potential_272 (by decide) ?_
                exact G_iret C R d_Mo_potential_276 ⟨_, rfl, hq⟩
      · replace hq := hq.2 c
        refine G_bipush C (v := -3) d_Mo_potential_27 (by decide) ?_
        exact G_iret C R d_Mo_potential_29 ⟨_, rfl, hq⟩
    · replace hq := hq.2 c
      refine G_bipush C (v := -2) d_Mo_potential_14 (by decide) ?_
      exact G_iret C R d_Mo_potential_16 ⟨_, rfl, hq⟩
theorem d_Mo_solves_0 : decode b_Mo_solves 0 = .ok (.aload_n 0, 1) := by decide +kernel
theorem d_Mo_solves_1 : decode b_Mo_solves 1 = .ok (.iload_n 1, 1) := by decide +kernel
theorem d_Mo_solves_2 : decode b_Mo_solves 2 = .ok (.iload_n 1, 1) := by decide +kernel
theorem d_Mo_solves_3 : decode b_Mo_solves 3 = .ok (.iload_n 1, 1) := by decide +kernel
theorem d_Mo_solves_4 : decode b_Mo_solves 4 = .ok (.iconst 1, 1) := by decide +kernel
theorem d_Mo_solves_5 : decode b_Mo_solves 5 = .ok (.iadd, 1) := by decide +kernel
theorem d_Mo_solves_6 : decode b_Mo_solves 6 = .ok (.invokevirtual 158, 3) := by decide +kernel
theorem d_Mo_solves_9 : decode b_Mo_solves 9 = .ok (.istore_n 2, 1) := by decide +kernel
theorem d_Mo_solves_10 : decode b_Mo_solves 10 = .ok (.iconst 0, 1) := by decide +kernel
theorem d_Mo_solves_11 : decode b_Mo_solves 11 = .ok (.istore_n 3, 1) := by decide +kernel
theorem d_Mo_solves_12 : decode b_Mo_solves 12 = .ok (.iload_n 3, 1) := by decide +kernel
theorem d_Mo_solves_13 : decode b_Mo_solves 13 = .ok (.iload_n 1, 1) := by decide +kernel
theorem d_Mo_solves_14 : decode b_Mo_solves 14 = .ok (.if_icmp .ge 16, 3) := by decide +kernel
theorem d_Mo_solves_17 : decode b_Mo_solves 17 = .ok (.aload_n 0, 1) := by decide +kernel
theorem d_Mo_solves_18 : decode b_Mo_solves 18 = .ok (.getfield 58, 3) := by decide +kernel
theorem d_Mo_solves_21 : decode b_Mo_solves 21 = .ok (.iload_n 3, 1) := by decide +kernel
theorem d_Mo_solves_22 : decode b_Mo_solves 22 = .ok (.lconst 0, 1) := by decide +kernel
theorem d_Mo_solves_23 : decode b_Mo_solves 23 = .ok (.lastore, 1) := by decide +kernel
theorem d_Mo_solves_24 : decode b_Mo_solves 24 = .ok (.iinc 3 1, 3) := by decide +kernel
theorem d_Mo_solves_27 : decode b_Mo_solves 27 = .ok (.goto (-15), 3) := by decide +kernel
theorem d_Mo_solves_30 : decode b_Mo_solves 30 = .ok (.iconst 0, 1) := by decide +kernel
theorem d_Mo_solves_31 : decode b_Mo_solves 31 = .ok (.istore_n 3, 1) := by decide +kernel
theorem d_Mo_solves_32 : decode b_Mo_solves 32 = .ok (.iload_n 3, 1) := by decide +kernel
theorem d_Mo_solves_33 : decode b_Mo_solves 33 = .ok (.iload_n 2, 1) := by decide +kernel
theorem d_Mo_solves_34 : decode b_Mo_solves 34 = .ok (.if_icmp .ge 31, 3) := by decide +kernel
theorem d_Mo_solves_37 : decode b_Mo_solves 37 = .ok (.aload_n 0, 1) := by decide +kernel
theorem d_Mo_solves_38 : decode b_Mo_solves 38 = .ok (.getfield 58, 3) := by decide +kernel
theorem d_Mo_solves_41 : decode b_Mo_solves 41 = .ok (.aload_n 0, 1) := by decide +kernel
theorem d_Mo_solves_42 : decode b_Mo_solves 42 = .ok (.getfield 55, 3) := by decide +kernel
theorem d_Mo_solves_45 : decode b_Mo_solves 45 = .ok (.iload_n 3, 1) := by decide +kernel
theorem d_Mo_solves_46 : decode b_Mo_solves 46 = .ok (.iaload, 1) := by decide +kernel
theorem d_Mo_solves_47 : decode b_Mo_solves 47 = .ok (.aload_n 0, 1) := by decide +kernel
theorem d_Mo_solves_48 : decode b_Mo_solves 48 = .ok (.getfield 52, 3) := by decide +kernel
theorem d_Mo_solves_51 : decode b_Mo_solves 51 = .ok (.bipush 13, 2) := by decide +kernel
theorem d_Mo_solves_53 : decode b_Mo_solves 53 = .ok (.iload_n 3, 1) := by decide +kernel
theorem d_Mo_solves_54 : decode b_Mo_solves 54 = .ok (.imul, 1) := by decide +kernel
theorem d_Mo_solves_55 : decode b_Mo_solves 55 = .ok (.iload_n 1, 1) := by decide +kernel
theorem d_Mo_solves_56 : decode b_Mo_solves 56 = .ok (.iadd, 1) := by decide +kernel
theorem d_Mo_solves_57 : decode b_Mo_solves 57 = .ok (.laload, 1) := by decide +kernel
theorem d_Mo_solves_58 : decode b_Mo_solves 58 = .ok (.lastore, 1) := by decide +kernel
theorem d_Mo_solves_59 : decode b_Mo_solves 59 = .ok (.iinc 3 1, 3) := by decide +kernel
theorem d_Mo_solves_62 : decode b_Mo_solves 62 = .ok (.goto (-30), 3) := by decide +kernel
theorem d_Mo_solves_65 : decode b_Mo_solves 65 = .ok (.return_, 1) := by decide +kernel
def q_Mo_solves_L12 (kx30 : Int32 → Int32 → Mem → Prop) (post : Mem → Prop) : Nat → Int32 → Int32 → Int32 → Mem → Prop
  | 0, _, _, _, _ => False
  | n + 1, x1, x2, x3, M => (x1 ≤ x3 → kx30 x1 x2 M) ∧ (¬ x1 ≤ x3 → vp_in x3 12 ∧ (∀ M3, M3 = wJ M 71 x3.toNatClampNeg (0 : Int64) → q_Mo_solves_L12 kx30 post n x1 x2 (x3 + 1) M3))
set_option maxHeartbeats 4000000 in
theorem s_Mo_solves_L12 {γ : Gm} {κ : Kp} {post : Mem → Prop} {kx30 : Int32 → Int32 → Mem → Prop} (C : Cx γ κ "NetFormsModel" b_Mo_solves 4 2 (0, 0)) (R : Rt γ (none)) (hx30 : ∀ y1 y2 M', kx30 y1 y2 M' → G γ κ 4 (0, 0) (Gq γ κ (pV post)) 30 [(0, .ref (κ.1 + 56)), (1, .int y1), (2, .int y2)] [] M') : ∀ (n : Nat) (x1 : Int32) (x2 : Int32) (x3 : Int32) (M : Mem), q_Mo_solves_L12 kx30 post n x1 x2 x3 M → G γ κ 4 (0, 0) (Gq γ κ (pV post)) 12 [(0, .ref (κ.1 + 56)), (1, .int x1), (2, .int x2), (3, .int x3)] [] M := by
  intro n
  induction n with
  | zero => intro x1 x2 x3 M hq; exact hq.elim
  | succ n ih =>
    intro x1 x2 x3 M hq
    unfold q_Mo_solves_L12 at hq
    refine G_iload_n C 3 d_Mo_solves_12 rfl rfl ?_
    refine G_iload_n C 1 d_Mo_solves_13 rfl rfl ?_
    refine G_icmp_ge C (tgt := 30) d_Mo_solves_14 (by decide) (fun c => ?_) (fun c => ?_)
    · replace hq := hq.1 c
      exact G_sub [0, 1, 2] (by rfl) (hx30 _ _ _ hq)
    · replace hq := hq.2 c
      refine G_aload_n C 0 d_Mo_solves_17 rfl rfl ?_
      refine Gg_Mo_solved C wd_540 d_Mo_solves_18 ?_
      refine G_iload_n C 3 d_Mo_solves_21 rfl rfl ?_
      refine G_lconst C (v := 0) d_Mo_solves_22 (by decide) ?_
      refine G_lastore C (k := 71) (by decide) (fun _ _ => rfl) hq.1 d_Mo_solves_23 ?_
      replace hq := hq.2 _ rfl
      refine G_iinc C (v := _ + 1) (lv' := [(3, _), (0, _), (1, _), (2, _)]) 3 d_Mo_solves_24 rfl rfl (by decide) rfl ?_
      refine G_goto C (tgt := 12) d_Mo_solves_27 (by decide) ?_
      exact G_sub [1, 2, 3, 0] (by rfl) (ih _ _ _ _ hq)
def q_Mo_solves_L32 (kx65 : Mem → Prop) (post : Mem → Prop) : Nat → Int32 → Int32 → Int32 → Mem → Prop
  | 0, _, _, _, _ => False
  | n + 1, x1, x2, x3, M => (x2 ≤ x3 → kx65 M) ∧ (¬ x2 ≤ x3 → vp_in x3 12 ∧ (vp_in (((13 : Int32) * x3) + x1) 156 ∧ (vp_in (M.1 70 x3.toNatClampNeg) 12 ∧ (∀ M8, M8 = wJ M 71 (M.1 70 x3.toNatClampNeg).toNatClampNeg (M.2 69 (((13 : Int32) * x3) + x1).toNatClampNeg) → q_Mo_solves_L32 kx65 post n x1 x2 (x3 + 1) M8))))
set_option maxHeartbeats 4000000 in
theorem s_Mo_solves_L32 {γ : Gm} {κ : Kp} {post : Mem → Prop} {kx65 : Mem → Prop} (C : Cx γ κ "NetFormsModel" b_Mo_solves 4 2 (0, 0)) (R : Rt γ (none)) (hx65 : ∀ M', kx65 M' → G γ κ 4 (0, 0) (Gq γ κ (pV post)) 65 [] [] M') : ∀ (n : Nat) (x1 : Int32) (x2 : Int32) (x3 : Int32) (M : Mem), q_Mo_solves_L32 kx65 post n x1 x2 x3 M → G γ κ 4 (0, 0) (Gq γ κ (pV post)) 32 [(0, .ref (κ.1 + 56)), (1, .int x1), (2, .int x2), (3, .int x3)] [] M := by
  intro n
  induction n with
  | zero => intro x1 x2 x3 M hq; exact hq.elim
  | succ n ih =>
    intro x1 x2 x3 M hq
    unfold q_Mo_solves_L32 at hq
    refine G_iload_n C 3 d_Mo_solves_32 rfl rfl ?_
    refine G_iload_n C 2 d_Mo_solves_33 rfl rfl ?_
    refine G_icmp_ge C (tgt := 65) d_Mo_solves_34 (by decide) (fun c => ?_) (fun c => ?_)
    · replace hq := hq.1 c
      exact G_sub [] (by rfl) (hx65 _ hq)
    · replace hq := hq.2 c
      refine G_aload_n C 0 d_Mo_solves_37 rfl rfl ?_
      refine Gg_Mo_solved C wd_540 d_Mo_solves_38 ?_
      refine G_aload_n C 0 d_Mo_solves_41 rfl rfl ?_
      refine Gg_Mo_placeOf C wd_538 d_Mo_solves_42 ?_
      refine G_iload_n C 3 d_Mo_solves_45 rfl rfl ?_
      refine G_iaload C (k := 70) (by decide) (fun _ _ => rfl) hq.1 d_Mo_solves_46 ?_
      replace hq := hq.2
      refine G_aload_n C 0 d_Mo_solves_47 rfl rfl ?_
      refine Gg_Mo_table C wd_537 d_Mo_solves_48 ?_
      refine G_bipush C (v := 13) d_Mo_solves_51 (by decide) ?_
      refine G_iload_n C 3 d_Mo_solves_53 rfl rfl ?_
      refine G_imul C d_Mo_solves_54 ?_
      refine G_iload_n C 1 d_Mo_solves_55 rfl rfl ?_
      refine G_iadd C d_Mo_solves_56 ?_
      refine G_laload C (k := 69) (by decide) (fun _ _ => rfl) hq.1 d_Mo_solves_57 ?_
      replace hq := hq.2
      refine G_lastore C (k := 71) (by decide) (fun _ _ => rfl) hq.1 d_Mo_solves_58 ?_
      replace hq := hq.2 _ rfl
      refine G_iinc C (v := _ + 1) (lv' := [(3, _), (0, _), (1, _), (2, _)]) 3 d_Mo_solves_59 rfl rfl (by decide) rfl ?_
      refine G_goto C (tgt := 32) d_Mo_solves_62 (by decide) ?_
      exact G_sub [1, 2, 3, 0] (by rfl) (ih _ _ _ _ hq)
def q_Mo_solves (a1 : Int32) (M : Mem) (post : Mem → Prop) : Prop := q_Mo_turns a1 a1 (a1 + (1 : Int32)) M (fun r2 M1 => ∃ n4, q_Mo_solves_L12 (fun x5 x6 M7 => ∃ n9, q_Mo_solves_L32 (fun M10 => post M10) post n9 x5 x6 (0 : Int32) M7) post n4 a1 r2 (0 : Int32) M1)
set_option maxHeartbeats 4000000 in
theorem s_Mo_solves {l : Launch} {κ : Kp} {a1 : Int32} {M : Mem} {post : Mem → Prop} (hq : q_Mo_solves a1 M post) : Ct l κ y_Mo_solves b_Mo_solves 4 (none) 2 [.ref (κ.1 + 56), .int a1] M (pV post) := by
  refine Ct_of (by decide) (Nat.le_of_ble_eq_true rfl) (fun γ hγ C R => ?_)
  subst hγ
  unfold q_Mo_solves at hq
  show G γ κ 4 (0, 0) (Gq γ κ (pV post)) 0 [(0, .ref (κ.1 + 56)), (1, .int a1)] [] M
  refine G_aload_n C 0 d_Mo_solves_0 rfl rfl ?_
  refine G_iload_n C 1 d_Mo_solves_1 rfl rfl ?_
  refine G_iload_n C 1 d_Mo_solves_2 rfl rfl ?_
  refine G_iload_n C 1 d_Mo_solves_3 rfl rfl ?_
  refine G_iconst C (v := 1) d_Mo_solves_4 (by decide) ?_
  refine G_iadd C d_Mo_solves_5 ?_
  refine G_callV C (s_Mo_turns hq) v_Mo_turns i_Mo_turns z_Mo_turns wd_736 (by decide) rfl (k := 56) (ci := 7) (by decide) rfl rfl rfl (rest := []) (by rfl) (Nat.le_of_ble_eq_true rfl) d_Mo_solves_6 (ki_ (fun r2 M1 hq => ?_))
  refine G_istore_n C (lv' := [(2, _), (0, _), (1, _)]) d_Mo_solves_9 rfl (by decide) rfl ?_
  refine G_iconst C (v := 0) d_Mo_solves_10 (by decide) ?_
  refine G_istore_n C (lv' := [(3, _), (2, _), (0, _), (1, _)]) d_Mo_solves_11 rfl (by decide) rfl ?_
  obtain ⟨n4, hq⟩ := hq
  refine G_sub [2, 3, 1, 0] (by rfl) (s_Mo_solves_L12 C R ?_ n4 _ _ _ _ hq)
  · intro x5 x6 M7 hq
    refine G_iconst C (v := 0) d_Mo_solves_30 (by decide) ?_
    refine G_istore_n C (lv' := [(3, _), (0, _), (1, _), (2, _)]) d_Mo_solves_31 rfl (by decide) rfl ?_
    obtain ⟨n9, hq⟩ := hq
    refine G_sub [1, 2, 3, 0] (by rfl) (s_Mo_solves_L32 C R ?_ n9 _ _ _ _ hq)
    · intro M10 hq
      exact G_vret C R d_Mo_solves_65 ⟨rfl, hq⟩
theorem d_Mo_wall_0 : decode b_Mo_wall 0 = .ok (.aload_n 0, 1) := by decide +kernel
theorem d_Mo_wall_1 : decode b_Mo_wall 1 = .ok (.iload_n 1, 1) := by decide +kernel
theorem d_Mo_wall_2 : decode b_Mo_wall 2 = .ok (.invokevirtual 92, 3) := by decide +kernel
theorem d_Mo_wall_5 : decode b_Mo_wall 5 = .ok (.ifCond .eq 17, 3) := by decide +kernel
theorem d_Mo_wall_8 : decode b_Mo_wall 8 = .ok (.iload_n 2, 1) := by decide +kernel
theorem d_Mo_wall_9 : decode b_Mo_wall 9 = .ok (.i2l, 1) := by decide +kernel
theorem d_Mo_wall_10 : decode b_Mo_wall 10 = .ok (.ldc2_w 141, 3) := by decide +kernel
theorem d_Mo_wall_13 : decode b_Mo_wall 13 = .ok (.ldc2_w 143, 3) := by decide +kernel
theorem d_Mo_wall_16 : decode b_Mo_wall 16 = .ok (.invokestatic 75, 3) := by decide +kernel
theorem d_Mo_wall_19 : decode b_Mo_wall 19 = .ok (.ifCond .ne 6, 3) := by decide +kernel
theorem d_Mo_wall_22 : decode b_Mo_wall 22 = .ok (.bipush (-2), 2) := by decide +kernel
theorem d_Mo_wall_24 : decode b_Mo_wall 24 = .ok (.ireturn, 1) := by decide +kernel
theorem d_Mo_wall_25 : decode b_Mo_wall 25 = .ok (.aload_n 0, 1) := by decide +kernel
theorem d_Mo_wall_26 : decode b_Mo_wall 26 = .ok (.getfield 35, 3) := by decide +kernel
theorem d_Mo_wall_29 : decode b_Mo_wall 29 = .ok (.iload_n 1, 1) := by decide +kernel
theorem d_Mo_wall_30 : decode b_Mo_wall 30 = .ok (.iconst 1, 1) := by decide +kernel
theorem d_Mo_wall_31 : decode b_Mo_wall 31 = .ok (.bastore, 1) := by decide +kernel
theorem d_Mo_wall_32 : decode b_Mo_wall 32 = .ok (.aload_n 0, 1) := by decide +kernel
theorem d_Mo_wall_33 : decode b_Mo_wall 33 = .ok (.getfield 39, 3) := by decide +kernel
theorem d_Mo_wall_36 : decode b_Mo_wall 36 = .ok (.iload_n 1, 1) := by decide +kernel
theorem d_Mo_wall_37 : decode b_Mo_wall 37 = .ok (.iload_n 2, 1) := by decide +kernel
theorem d_Mo_wall_38 : decode b_Mo_wall 38 = .ok (.iastore, 1) := by decide +kernel
theorem d_Mo_wall_39 : decode b_Mo_wall 39 = .ok (.iconst 1, 1) := by decide +kernel
theorem d_Mo_wall_40 : decode b_Mo_wall 40 = .ok (.ireturn, 1) := by decide +kernel
def q_Mo_wall (a1 : Int32) (a2 : Int32) (M : Mem) (post : Int32 → Mem → Prop) : Prop := q_Mo_isPoint a1 M (fun r2 M1 => (r2 = 0 → post (-2 : Int32) M1) ∧ (¬ r2 = 0 → q_Mo_in a2.toInt64 (-1000 : Int64) (1000 : Int64) M1 (fun r4 M3 => (¬ r4 = 0 → vp_in a1 6 ∧ (∀ M5, M5 = wI M3 64 a1.toNatClampNeg (1 : Int32) → vp_in a1 6 ∧ (∀ M6, M6 = wI M5 65 a1.toNatClampNeg a2 → post (1 : Int32) M6))) ∧ (r4 = 0 → post (-2 : Int32) M3))))
set_option maxHeartbeats 4000000 in
theorem s_Mo_wall {l : Launch} {κ : Kp} {a1 : Int32} {a2 : Int32} {M : Mem} {post : Int32 → Mem → Prop} (hq : q_Mo_wall a1 a2 M post) : Ct l κ y_Mo_wall b_Mo_wall 3 (some .int) 2 [.ref (κ.1 + 56), .int a1, .int a2] M (pI post) := by
  refine Ct_of (by decide) (Nat.le_of_ble_eq_true rfl) (fun γ hγ C R => ?_)
  subst hγ
  unfold q_Mo_wall at hq
  show G γ κ 3 (0, 0) (Gq γ κ (pI post)) 0 [(0, .ref (κ.1 + 56)), (1, .int a1), (2, .int a2)] [] M
  refine G_aload_n C 0 d_Mo_wall_0 rfl rfl ?_
  refine G_iload_n C 1 d_Mo_wall_1 rfl rfl ?_
  refine G_callV C (s_Mo_isPoint hq) v_Mo_isPoint i_Mo_isPoint z_Mo_isPoint wd_616 (by decide) rfl (k := 56) (ci := 7) (by decide) rfl rfl rfl (rest := []) (by rfl) (Nat.le_of_ble_eq_true rfl) d_Mo_wall_2 (ki_ (fun r2 M1 hq => ?_))
  refine G_if_eq C (tgt := 22) d_Mo_wall_5 (by decide) (fun c => ?_) (fun c => ?_)
  · replace hq := hq.1 c
    refine G_bipush C (v := -2) d_Mo_wall_22 (by decide) ?_
    exact G_iret C R d_Mo_wall_24 ⟨_, rfl, hq⟩
  · replace hq := hq.2 c
    refine G_iload_n C 2 d_Mo_wall_8 rfl rfl ?_
    refine G_i2l C d_Mo_wall_9 ?_
    refine G_ldc2 C (v := -1000) wd_700 d_Mo_wall_10 ?_
    refine G_ldc2 C (v := 1000) wd_701 d_Mo_wall_13 ?_
    refine G_callS C (s_Mo_in hq) v_Mo_in z_Mo_in wd_605 (by decide) rfl (rest := []) (by rfl) (Nat.le_of_ble_eq_true rfl) d_Mo_wall_16 (ki_ (fun r4 M3 hq => ?_))
    refine G_if_ne C (tgt := 25) d_Mo_wall_19 (by decide) (fun c => ?_) (fun c => ?_)
    · replace hq := hq.1 c
      refine G_aload_n C 0 d_Mo_wall_25 rfl rfl ?_
      refine Gg_Mo_isWall C wd_531 d_Mo_wall_26 ?_
      refine G_iload_n C 1 d_Mo_wall_29 rfl rfl ?_
      refine G_iconst C (v := 1) d_Mo_wall_30 (by decide) ?_
      refine G_bastore C (k := 64) (by decide) (fun _ _ => rfl) hq.1 (x2 := (1 : Int32)) (by decide) d_Mo_wall_31 ?_
      replace hq := hq.2 _ rfl
      refine G_aload_n C 0 d_Mo_wall_32 rfl rfl ?_
      refine Gg_Mo_wall C wd_532 d_Mo_wall_33 ?_
      refine G_iload_n C 1 d_Mo_wall_36 rfl rfl ?_
      refine G_iload_n C 2 d_Mo_wall_37 rfl rfl ?_
      refine G_iastore C (k := 65) (by decide) (fun _ _ => rfl) hq.1 d_Mo_wall_38 ?_
      replace hq := hq.2 _ rfl
      refine G_iconst C (v := 1) d_Mo_wall_39 (by decide) ?_
      exact G_iret C R d_Mo_wall_40 ⟨_, rfl, hq⟩
    · replace hq := hq.2 c
      refine G_bipush C (v := -2) d_Mo_wall_22 (by decide) ?_
      exact G_iret C R d_Mo_wall_24 ⟨_, rfl, hq⟩
theorem d_Mo_open_0 : decode b_Mo_open 0 = .ok (.aload_n 0, 1) := by decide +kernel
theorem d_Mo_open_1 : decode b_Mo_open 1 = .ok (.iload_n 1, 1) := by decide +kernel
theorem d_Mo_open_2 : decode b_Mo_open 2 = .ok (.invokevirtual 92, 3) := by decide +kernel
theorem d_Mo_open_5 : decode b_Mo_open 5 = .ok (.ifCond .ne 6, 3) := by decide +kernel
theorem d_Mo_open_8 : decode b_Mo_open 8 = .ok (.ldc 119, 2) := by decide +kernel
theorem d_Mo_open_10 : decode b_Mo_open 10 = .ok (.ireturn, 1) := by decide +kernel
theorem d_Mo_open_11 : decode b_Mo_open 11 = .ok (.aload_n 0, 1) := by decide +kernel
theorem d_Mo_open_12 : decode b_Mo_open 12 = .ok (.getfield 35, 3) := by decide +kernel
theorem d_Mo_open_15 : decode b_Mo_open 15 = .ok (.iload_n 1, 1) := by decide +kernel
theorem d_Mo_open_16 : decode b_Mo_open 16 = .ok (.baload, 1) := by decide +kernel
theorem d_Mo_open_17 : decode b_Mo_open 17 = .ok (.ifCond .ne 6, 3) := by decide +kernel
theorem d_Mo_open_20 : decode b_Mo_open 20 = .ok (.ldc 205, 2) := by decide +kernel
theorem d_Mo_open_22 : decode b_Mo_open 22 = .ok (.ireturn, 1) := by decide +kernel
theorem d_Mo_open_23 : decode b_Mo_open 23 = .ok (.aload_n 0, 1) := by decide +kernel
theorem d_Mo_open_24 : decode b_Mo_open 24 = .ok (.getfield 35, 3) := by decide +kernel
theorem d_Mo_open_27 : decode b_Mo_open 27 = .ok (.iload_n 1, 1) := by decide +kernel
theorem d_Mo_open_28 : decode b_Mo_open 28 = .ok (.iconst 0, 1) := by decide +kernel
theorem d_Mo_open_29 : decode b_Mo_open 29 = .ok (.bastore, 1) := by decide +kernel
theorem d_Mo_open_30 : decode b_Mo_open 30 = .ok (.aload_n 0, 1) := by decide +kernel
theorem d_Mo_open_31 : decode b_Mo_open 31 = .ok (.getfield 39, 3) := by decide +kernel
theorem d_Mo_open_34 : decode b_Mo_open 34 = .ok (.iload_n 1, 1) := by decide +kernel
theorem d_Mo_open_35 : decode b_Mo_open 35 = .ok (.iaload, 1) := by decide +kernel
theorem d_Mo_open_36 : decode b_Mo_open 36 = .ok (.ireturn, 1) := by decide +kernel
def q_Mo_open (a1 : Int32) (M : Mem) (post : Int32 → Mem → Prop) : Prop := q_Mo_isPoint a1 M (fun r2 M1 => (¬ r2 = 0 → vp_in a1 6 ∧ ((¬ (M1.1 64 a1.toNatClampNeg) = 0 → vp_in a1 6 ∧ (∀ M3, M3 = wI M1 64 a1.toNatClampNeg (0 : Int32) → vp_in a1 6 ∧ (post (M3.1 65 a1.toNatClampNeg) M3))) ∧ ((M1.1 64 a1.toNatClampNeg) = 0 → post (-1000000 : Int32) M1))) ∧ (r2 = 0 → post (-2000000 : Int32) M1))
set_option maxHeartbeats 4000000 in
theorem s_Mo_open {l : Launch} {κ : Kp} {a1 : Int32} {M : Mem} {post : Int32 → Mem → Prop} (hq : q_Mo_open a1 M post) : Ct l κ y_Mo_open b_Mo_open 2 (some .int) 2 [.ref (κ.1 + 56), .int a1] M (pI post) := by
  refine Ct_of (by decide) (Nat.le_of_ble_eq_true rfl) (fun γ hγ C R => ?_)
  subst hγ
  unfold q_Mo_open at hq
  show G γ κ 2 (0, 0) (Gq γ κ (pI post)) 0 [(0, .ref (κ.1 + 56)), (1, .int a1)] [] M
  refine G_aload_n C 0 d_Mo_open_0 rfl rfl ?_
  refine G_iload_n C 1 d_Mo_open_1 rfl rfl ?_
  refine G_callV C (s_Mo_isPoint hq) v_Mo_isPoint i_Mo_isPoint z_Mo_isPoint wd_616 (by decide) rfl (k := 56) (ci := 7) (by decide) rfl rfl rfl (rest := []) (by rfl) (Nat.le_of_ble_eq_true rfl) d_Mo_open_2 (ki_ (fun r2 M1 hq => ?_))
  refine G_if_ne C (tgt := 11) d_Mo_open_5 (by decide) (fun c => ?_) (fun c => ?_)
  · replace hq := hq.1 c
    refine G_aload_n C 0 d_Mo_open_11 rfl rfl ?_
    refine Gg_Mo_isWall C wd_531 d_Mo_open_12 ?_
    refine G_iload_n C 1 d_Mo_open_15 rfl rfl ?_
    refine G_baload C (k := 64) (by decide) (fun _ _ => rfl) hq.1 d_Mo_open_16 ?_
    replace hq := hq.2
    refine G_if_ne C (tgt := 23) d_Mo_open_17 (by decide) (fun c => ?_) (fun c => ?_)
    · replace hq := hq.1 c
      refine G_aload_n C 0 d_Mo_open_23 rfl rfl ?_
      refine Gg_Mo_isWall C wd_531 d_Mo_open_24 ?_
      refine G_iload_n C 1 d_Mo_open_27 rfl rfl ?_
      refine G_iconst C (v := 0) d_Mo_open_28 (by decide) ?_
      refine G_bastore C (k := 64) (by decide) (fun _ _ => rfl) hq.1 (x2 := (0 : Int32)) (by decide) d_Mo_open_29 ?_
      replace hq := hq.2 _ rfl
      refine G_aload_n C 0 d_Mo_open_30 rfl rfl ?_
      refine Gg_Mo_wall C wd_532 d_Mo_open_31 ?_
      refine G_iload_n C 1 d_Mo_open_34 rfl rfl ?_
      refine G_iaload C (k := 65) (by decide) (fun _ _ => rfl) hq.1 d_Mo_open_35 ?_
      replace hq := hq.2
      exact G_iret C R d_Mo_open_36 ⟨_, rfl, hq⟩
    · replace hq := hq.2 c
      refine G_ldc C (v := -1000000) wd_779 d_Mo_open_20 ?_
      exact G_iret C R d_Mo_open_22 ⟨_, rfl, hq⟩
  · replace hq := hq.2 c
    refine G_ldc C (v := -2000000) wd_655 d_Mo_open_8 ?_
    exact G_iret C R d_Mo_open_10 ⟨_, rfl, hq⟩
