theorem d_Mo_empties_0 : decode b_Mo_empties 0 = .ok (.iconst 0, 1) := by decide +kernel
theorem d_Mo_empties_1 : decode b_Mo_empties 1 = .ok (.istore_n 1, 1) := by decide +kernel
theorem d_Mo_empties_2 : decode b_Mo_empties 2 = .ok (.iload_n 1, 1) := by decide +kernel
theorem d_Mo_empties_3 : decode b_Mo_empties 3 = .ok (.sipush 156, 3) := by decide +kernel
theorem d_Mo_empties_6 : decode b_Mo_empties 6 = .ok (.if_icmp .ge 16, 3) := by decide +kernel
theorem d_Mo_empties_9 : decode b_Mo_empties 9 = .ok (.aload_n 0, 1) := by decide +kernel
theorem d_Mo_empties_10 : decode b_Mo_empties 10 = .ok (.getfield 52, 3) := by decide +kernel
theorem d_Mo_empties_13 : decode b_Mo_empties 13 = .ok (.iload_n 1, 1) := by decide +kernel
theorem d_Mo_empties_14 : decode b_Mo_empties 14 = .ok (.lconst 0, 1) := by decide +kernel
theorem d_Mo_empties_15 : decode b_Mo_empties 15 = .ok (.lastore, 1) := by decide +kernel
theorem d_Mo_empties_16 : decode b_Mo_empties 16 = .ok (.iinc 1 1, 3) := by decide +kernel
theorem d_Mo_empties_19 : decode b_Mo_empties 19 = .ok (.goto (-17), 3) := by decide +kernel
theorem d_Mo_empties_22 : decode b_Mo_empties 22 = .ok (.return_, 1) := by decide +kernel
def q_Mo_empties_L2 (kx22 : Mem → Prop) (post : Mem → Prop) : Nat → Int32 → Mem → Prop
  | 0, _, _ => False
  | n + 1, x1, M => ((156 : Int32) ≤ x1 → kx22 M) ∧ (¬ (156 : Int32) ≤ x1 → vp_in x1 156 ∧ (∀ M1, M1 = wJ M 69 x1.toNatClampNeg (0 : Int64) → q_Mo_empties_L2 kx22 post n (x1 + 1) M1))
set_option maxHeartbeats 4000000 in
theorem s_Mo_empties_L2 {γ : Gm} {κ : Kp} {post : Mem → Prop} {kx22 : Mem → Prop} (C : Cx γ κ "NetFormsModel" b_Mo_empties 2 0 (0, 0)) (R : Rt γ (none)) (hx22 : ∀ M', kx22 M' → G γ κ 2 (0, 0) (Gq γ κ (pV post)) 22 [] [] M') : ∀ (n : Nat) (x1 : Int32) (M : Mem), q_Mo_empties_L2 kx22 post n x1 M → G γ κ 2 (0, 0) (Gq γ κ (pV post)) 2 [(0, .ref (κ.1 + 56)), (1, .int x1)] [] M := by
  intro n
  induction n with
  | zero => intro x1 M hq; exact hq.elim
  | succ n ih =>
    intro x1 M hq
    unfold q_Mo_empties_L2 at hq
    refine G_iload_n C 1 d_Mo_empties_2 rfl rfl ?_
    refine G_sipush C (v := 156) d_Mo_empties_3 (by decide) ?_
    refine G_icmp_ge C (tgt := 22) d_Mo_empties_6 (by decide) (fun c => ?_) (fun c => ?_)
    · replace hq := hq.1 c
      exact G_sub [] (by rfl) (hx22 _ hq)
    · replace hq := hq.2 c
      refine G_aload_n C 0 d_Mo_empties_9 rfl rfl ?_
      refine Gg_Mo_table C wd_537 d_Mo_empties_10 ?_
      refine G_iload_n C 1 d_Mo_empties_13 rfl rfl ?_
      refine G_lconst C (v := 0) d_Mo_empties_14 (by decide) ?_
      refine G_lastore C (k := 69) (by decide) (fun _ _ => rfl) hq.1 d_Mo_empties_15 ?_
      replace hq := hq.2 _ rfl
      refine G_iinc C (v := _ + 1) (lv' := [(1, _), (0, _)]) 1 d_Mo_empties_16 rfl rfl (by decide) rfl ?_
      refine G_goto C (tgt := 2) d_Mo_empties_19 (by decide) ?_
      exact G_sub [1, 0] (by rfl) (ih _ _ hq)
def q_Mo_empties (M : Mem) (post : Mem → Prop) : Prop := ∃ n2, q_Mo_empties_L2 (fun M3 => post M3) post n2 (0 : Int32) M
set_option maxHeartbeats 4000000 in
theorem s_Mo_empties {l : Launch} {κ : Kp} {M : Mem} {post : Mem → Prop} (hq : q_Mo_empties M post) : Ct l κ y_Mo_empties b_Mo_empties 2 (none) 0 [.ref (κ.1 + 56)] M (pV post) := by
  refine Ct_of (by decide) (Nat.le_of_ble_eq_true rfl) (fun γ hγ C R => ?_)
  subst hγ
  unfold q_Mo_empties at hq
  show G γ κ 2 (0, 0) (Gq γ κ (pV post)) 0 [(0, .ref (κ.1 + 56))] [] M
  refine G_iconst C (v := 0) d_Mo_empties_0 (by decide) ?_
  refine G_istore_n C (lv' := [(1, _), (0, _)]) d_Mo_empties_1 rfl (by decide) rfl ?_
  obtain ⟨n2, hq⟩ := hq
  refine G_sub [1, 0] (by rfl) (s_Mo_empties_L2 C R ?_ n2 _ _ hq)
  · intro M3 hq
    exact G_vret C R d_Mo_empties_22 ⟨rfl, hq⟩
theorem d_Mo_turn_0 : decode b_Mo_turn 0 = .ok (.aload_n 0, 1) := by decide +kernel
theorem d_Mo_turn_1 : decode b_Mo_turn 1 = .ok (.getfield 52, 3) := by decide +kernel
theorem d_Mo_turn_4 : decode b_Mo_turn 4 = .ok (.bipush 13, 2) := by decide +kernel
theorem d_Mo_turn_6 : decode b_Mo_turn 6 = .ok (.iload_n 1, 1) := by decide +kernel
theorem d_Mo_turn_7 : decode b_Mo_turn 7 = .ok (.imul, 1) := by decide +kernel
theorem d_Mo_turn_8 : decode b_Mo_turn 8 = .ok (.iload_n 2, 1) := by decide +kernel
theorem d_Mo_turn_9 : decode b_Mo_turn 9 = .ok (.iadd, 1) := by decide +kernel
theorem d_Mo_turn_10 : decode b_Mo_turn 10 = .ok (.laload, 1) := by decide +kernel
theorem d_Mo_turn_11 : decode b_Mo_turn 11 = .ok (.lstore 5, 2) := by decide +kernel
theorem d_Mo_turn_13 : decode b_Mo_turn 13 = .ok (.iconst 0, 1) := by decide +kernel
theorem d_Mo_turn_14 : decode b_Mo_turn 14 = .ok (.istore 7, 2) := by decide +kernel
theorem d_Mo_turn_16 : decode b_Mo_turn 16 = .ok (.iload 7, 2) := by decide +kernel
theorem d_Mo_turn_18 : decode b_Mo_turn 18 = .ok (.iload_n 3, 1) := by decide +kernel
theorem d_Mo_turn_19 : decode b_Mo_turn 19 = .ok (.if_icmp .ge 95, 3) := by decide +kernel
theorem d_Mo_turn_22 : decode b_Mo_turn 22 = .ok (.aload_n 0, 1) := by decide +kernel
theorem d_Mo_turn_23 : decode b_Mo_turn 23 = .ok (.getfield 52, 3) := by decide +kernel
theorem d_Mo_turn_26 : decode b_Mo_turn 26 = .ok (.bipush 13, 2) := by decide +kernel
theorem d_Mo_turn_28 : decode b_Mo_turn 28 = .ok (.iload 7, 2) := by decide +kernel
theorem d_Mo_turn_30 : decode b_Mo_turn 30 = .ok (.imul, 1) := by decide +kernel
theorem d_Mo_turn_31 : decode b_Mo_turn 31 = .ok (.iload_n 2, 1) := by decide +kernel
theorem d_Mo_turn_32 : decode b_Mo_turn 32 = .ok (.iadd, 1) := by decide +kernel
theorem d_Mo_turn_33 : decode b_Mo_turn 33 = .ok (.laload, 1) := by decide +kernel
theorem d_Mo_turn_34 : decode b_Mo_turn 34 = .ok (.lstore 8, 2) := by decide +kernel
theorem d_Mo_turn_36 : decode b_Mo_turn 36 = .ok (.iconst 0, 1) := by decide +kernel
theorem d_Mo_turn_37 : decode b_Mo_turn 37 = .ok (.istore 10, 2) := by decide +kernel
theorem d_Mo_turn_39 : decode b_Mo_turn 39 = .ok (.iload 10, 2) := by decide +kernel
theorem d_Mo_turn_41 : decode b_Mo_turn 41 = .ok (.iload 4, 2) := by decide +kernel
theorem d_Mo_turn_43 : decode b_Mo_turn 43 = .ok (.if_icmp .ge 65, 3) := by decide +kernel
theorem d_Mo_turn_46 : decode b_Mo_turn 46 = .ok (.iload 7, 2) := by decide +kernel
theorem d_Mo_turn_48 : decode b_Mo_turn 48 = .ok (.iload_n 1, 1) := by decide +kernel
theorem d_Mo_turn_49 : decode b_Mo_turn 49 = .ok (.if_icmp .eq 59, 3) := by decide +kernel
theorem d_Mo_turn_52 : decode b_Mo_turn 52 = .ok (.aload_n 0, 1) := by decide +kernel
theorem d_Mo_turn_53 : decode b_Mo_turn 53 = .ok (.getfield 52, 3) := by decide +kernel
theorem d_Mo_turn_56 : decode b_Mo_turn 56 = .ok (.bipush 13, 2) := by decide +kernel
theorem d_Mo_turn_58 : decode b_Mo_turn 58 = .ok (.iload 7, 2) := by decide +kernel
theorem d_Mo_turn_60 : decode b_Mo_turn 60 = .ok (.imul, 1) := by decide +kernel
theorem d_Mo_turn_61 : decode b_Mo_turn 61 = .ok (.iload 10, 2) := by decide +kernel
theorem d_Mo_turn_63 : decode b_Mo_turn 63 = .ok (.iadd, 1) := by decide +kernel
theorem d_Mo_turn_64 : decode b_Mo_turn 64 = .ok (.aload_n 0, 1) := by decide +kernel
theorem d_Mo_turn_65 : decode b_Mo_turn 65 = .ok (.getfield 52, 3) := by decide +kernel
theorem d_Mo_turn_68 : decode b_Mo_turn 68 = .ok (.bipush 13, 2) := by decide +kernel
theorem d_Mo_turn_70 : decode b_Mo_turn 70 = .ok (.iload 7, 2) := by decide +kernel
theorem d_Mo_turn_72 : decode b_Mo_turn 72 = .ok (.imul, 1) := by decide +kernel
theorem d_Mo_turn_73 : decode b_Mo_turn 73 = .ok (.iload 10, 2) := by decide +kernel
theorem d_Mo_turn_75 : decode b_Mo_turn 75 = .ok (.iadd, 1) := by decide +kernel
theorem d_Mo_turn_76 : decode b_Mo_turn 76 = .ok (.laload, 1) := by decide +kernel
theorem d_Mo_turn_77 : decode b_Mo_turn 77 = .ok (.lload 5, 2) := by decide +kernel
theorem d_Mo_turn_79 : decode b_Mo_turn 79 = .ok (.lmul, 1) := by decide +kernel
theorem d_Mo_turn_80 : decode b_Mo_turn 80 = .ok (.lload 8, 2) := by decide +kernel
theorem d_Mo_turn_82 : decode b_Mo_turn 82 = .ok (.aload_n 0, 1) := by decide +kernel
theorem d_Mo_turn_83 : decode b_Mo_turn 83 = .ok (.getfield 52, 3) := by decide +kernel
theorem d_Mo_turn_86 : decode b_Mo_turn 86 = .ok (.bipush 13, 2) := by decide +kernel
theorem d_Mo_turn_88 : decode b_Mo_turn 88 = .ok (.iload_n 1, 1) := by decide +kernel
theorem d_Mo_turn_89 : decode b_Mo_turn 89 = .ok (.imul, 1) := by decide +kernel
theorem d_Mo_turn_90 : decode b_Mo_turn 90 = .ok (.iload 10, 2) := by decide +kernel
theorem d_Mo_turn_92 : decode b_Mo_turn 92 = .ok (.iadd, 1) := by decide +kernel
theorem d_Mo_turn_93 : decode b_Mo_turn 93 = .ok (.laload, 1) := by decide +kernel
theorem d_Mo_turn_94 : decode b_Mo_turn 94 = .ok (.lmul, 1) := by decide +kernel
theorem d_Mo_turn_95 : decode b_Mo_turn 95 = .ok (.lsub, 1) := by decide +kernel
theorem d_Mo_turn_96 : decode b_Mo_turn 96 = .ok (.aload_n 0, 1) := by decide +kernel
theorem d_Mo_turn_97 : decode b_Mo_turn 97 = .ok (.getfield 150, 3) := by decide +kernel
theorem d_Mo_turn_100 : decode b_Mo_turn 100 = .ok (.ldiv, 1) := by decide +kernel
theorem d_Mo_turn_101 : decode b_Mo_turn 101 = .ok (.lastore, 1) := by decide +kernel
theorem d_Mo_turn_102 : decode b_Mo_turn 102 = .ok (.iinc 10 1, 3) := by decide +kernel
theorem d_Mo_turn_105 : decode b_Mo_turn 105 = .ok (.goto (-66), 3) := by decide +kernel
theorem d_Mo_turn_108 : decode b_Mo_turn 108 = .ok (.iinc 7 1, 3) := by decide +kernel
theorem d_Mo_turn_111 : decode b_Mo_turn 111 = .ok (.goto (-95), 3) := by decide +kernel
theorem d_Mo_turn_114 : decode b_Mo_turn 114 = .ok (.aload_n 0, 1) := by decide +kernel
theorem d_Mo_turn_115 : decode b_Mo_turn 115 = .ok (.lload 5, 2) := by decide +kernel
theorem d_Mo_turn_117 : decode b_Mo_turn 117 = .ok (.putfield 150, 3) := by decide +kernel
theorem d_Mo_turn_120 : decode b_Mo_turn 120 = .ok (.return_, 1) := by decide +kernel
def q_Mo_turn_L39 (kx108 : Int32 → Int32 → Int32 → Int32 → Int64 → Int32 → Mem → Prop) (post : Mem → Prop) : Nat → Int32 → Int32 → Int32 → Int32 → Int64 → Int32 → Int64 → Int32 → Mem → Prop
  | 0, _, _, _, _, _, _, _, _, _ => False
  | n + 1, x1, x2, x3, x4, x5, x7, x8, x10, M => (x4 ≤ x10 → kx108 x1 x2 x3 x4 x5 x7 M) ∧ (¬ x4 ≤ x10 → (x7 = x1 → kx108 x1 x2 x3 x4 x5 x7 M) ∧ (¬ x7 = x1 → vp_in (((13 : Int32) * x7) + x10) 156 ∧ (vp_in (((13 : Int32) * x1) + x10) 156 ∧ (¬ (M.2 56 18) = 0 ∧ (vp_in (((13 : Int32) * x7) + x10) 156 ∧ (∀ M1, M1 = wJ M 69 (((13 : Int32) * x7) + x10).toNatClampNeg ((((M.2 69 (((13 : Int32) * x7) + x10).toNatClampNeg) * x5) - (x8 * (M.2 69 (((13 : Int32) * x1) + x10).toNatClampNeg))) / (M.2 56 18)) → q_Mo_turn_L39 kx108 post n x1 x2 x3 x4 x5 x7 x8 (x10 + 1) M1))))))
set_option maxHeartbeats 4000000 in
theorem s_Mo_turn_L39 {γ : Gm} {κ : Kp} {post : Mem → Prop} {kx108 : Int32 → Int32 → Int32 → Int32 → Int64 → Int32 → Mem → Prop} (C : Cx γ κ "NetFormsModel" b_Mo_turn 11 0 (0, 0)) (R : Rt γ (none)) (hx108 : ∀ y1 y2 y3 y4 y5 y6 M', kx108 y1 y2 y3 y4 y5 y6 M' → G γ κ 11 (0, 0) (Gq γ κ (pV post)) 108 [(0, .ref (κ.1 + 56)), (1, .int y1), (2, .int y2), (3, .int y3), (4, .int y4), (5, .long y5), (7, .int y6)] [] M') : ∀ (n : Nat) (x1 : Int32) (x2 : Int32) (x3 : Int32) (x4 : Int32) (x5 : Int64) (x7 : Int32) (x8 : Int64) (x10 : Int32) (M : Mem), q_Mo_turn_L39 kx108 post n x1 x2 x3 x4 x5 x7 x8 x10 M → G γ κ 11 (0, 0) (Gq γ κ (pV post)) 39 [(0, .ref (κ.1 + 56)), (1, .int x1), (2, .int x2), (3, .int x3), (4, .int x4), (5, .long x5), (7, .int x7), (8, .long x8), (10, .int x10)] [] M := by
  intro n
  induction n with
  | zero => intro x1 x2 x3 x4 x5 x7 x8 x10 M hq; exact hq.elim
  | succ n ih =>
    intro x1 x2 x3 x4 x5 x7 x8 x10 M hq
    unfold q_Mo_turn_L39 at hq
    refine G_iload C 8 d_Mo_turn_39 rfl ?_
    refine G_iload C 4 d_Mo_turn_41 rfl ?_
    refine G_icmp_ge C (tgt := 108) d_Mo_turn_43 (by decide) (fun c => ?_) (fun c => ?_)
    · replace hq := hq.1 c
      exact G_sub [0, 1, 2, 3, 4, 5, 6] (by rfl) (hx108 _ _ _ _ _ _ _ hq)
    · replace hq := hq.2 c
      refine G_iload C 6 d_Mo_turn_46 rfl ?_
      refine G_iload_n C 1 d_Mo_turn_48 rfl rfl ?_
      refine G_icmp_eq C (tgt := 108) d_Mo_turn_49 (by decide) (fun c => ?_) (fun c => ?_)
      · replace hq := hq.1 c
        exact G_sub [0, 1, 2, 3, 4, 5, 6] (by rfl) (hx108 _ _ _ _ _ _ _ hq)
      · replace hq := hq.2 c
        refine G_aload_n C 0 d_Mo_turn_52 rfl rfl ?_
        refine Gg_Mo_table C wd_537 d_Mo_turn_53 ?_
        refine G_bipush C (v := 13) d_Mo_turn_56 (by decide) ?_
        refine G_iload C 6 d_Mo_turn_58 rfl ?_
        refine G_imul C d_Mo_turn_60 ?_
        refine G_iload C 8 d_Mo_turn_61 rfl ?_
        refine G_iadd C d_Mo_turn_63 ?_
        refine G_aload_n C 0 d_Mo_turn_64 rfl rfl ?_
        refine Gg_Mo_table C wd_537 d_Mo_turn_65 ?_
        refine G_bipush C (v := 13) d_Mo_turn_68 (by decide) ?_
        refine G_iload C 6 d_Mo_turn_70 rfl ?_
        refine G_imul C d_Mo_turn_72 ?_
        refine G_iload C 8 d_Mo_turn_73 rfl ?_
        refine G_iadd C d_Mo_turn_75 ?_
        refine G_laload C (k := 69) (by decide) (fun _ _ => rfl) hq.1 d_Mo_turn_76 ?_
        replace hq := hq.2
        refine G_lload C 5 d_Mo_turn_77 rfl ?_
        refine G_lmul C d_Mo_turn_79 ?_
        refine G_lload C 7 d_Mo_turn_80 rfl ?_
        refine G_aload_n C 0 d_Mo_turn_82 rfl rfl ?_
        refine Gg_Mo_table C wd_537 d_Mo_turn_83 ?_
        refine G_bipush C (v := 13) d_Mo_turn_86 (by decide) ?_
        refine G_iload_n C 1 d_Mo_turn_88 rfl rfl ?_
        refine G_imul C d_Mo_turn_89 ?_
        refine G_iload C 8 d_Mo_turn_90 rfl ?_
        refine G_iadd C d_Mo_turn_92 ?_
        refine G_laload C (k := 69) (by decide) (fun _ _ => rfl) hq.1 d_Mo_turn_93 ?_
        replace hq := hq.2
        refine G_lmul C d_Mo_turn_94 ?_
        refine G_lsub C d_Mo_turn_95 ?_
        refine G_aload_n C 0 d_Mo_turn_96 rfl rfl ?_
        refine Gg_Mo_shared C wd_539 d_Mo_turn_97 ?_
        refine G_ldiv C d_Mo_turn_100 hq.1 ?_
        replace hq := hq.2
        refine G_lastore C (k := 69) (by decide) (fun _ _ => rfl) hq.1 d_Mo_turn_101 ?_
        replace hq := hq.2 _ rfl
        refine G_iinc C (v := _ + 1) (lv' := [(10, _), (0, _), (1, _), (2, _), (3, _), (4, _), (5, _), (7, _), (8, _)]) 8 d_Mo_turn_102 rfl rfl (by decide) rfl ?_
        refine G_goto C (tgt := 39) d_Mo_turn_105 (by decide) ?_
        exact G_sub [1, 2, 3, 4, 5, 6, 7, 8, 0] (by rfl) (ih _ _ _ _ _ _ _ _ _ hq)
def q_Mo_turn_L16 (kx114 : Int64 → Mem → Prop) (post : Mem → Prop) : Nat → Int32 → Int32 → Int32 → Int32 → Int64 → Int32 → Mem → Prop
  | 0, _, _, _, _, _, _, _ => False
  | n + 1, x1, x2, x3, x4, x5, x7, M => (x3 ≤ x7 → kx114 x5 M) ∧ (¬ x3 ≤ x7 → vp_in (((13 : Int32) * x7) + x2) 156 ∧ (∃ n2, q_Mo_turn_L39 (fun x3 x4 x5 x6 x7 x8 M9 => q_Mo_turn_L16 kx114 post n x3 x4 x5 x6 x7 (x8 + 1) M9) post n2 x1 x2 x3 x4 x5 x7 (M.2 69 (((13 : Int32) * x7) + x2).toNatClampNeg) (0 : Int32) M))
set_option maxHeartbeats 4000000 in
theorem s_Mo_turn_L16 {γ : Gm} {κ : Kp} {post : Mem → Prop} {kx114 : Int64 → Mem → Prop} (C : Cx γ κ "NetFormsModel" b_Mo_turn 11 0 (0, 0)) (R : Rt γ (none)) (hx114 : ∀ y1 M', kx114 y1 M' → G γ κ 11 (0, 0) (Gq γ κ (pV post)) 114 [(0, .ref (κ.1 + 56)), (5, .long y1)] [] M') : ∀ (n : Nat) (x1 : Int32) (x2 : Int32) (x3 : Int32) (x4 : Int32) (x5 : Int64) (x7 : Int32) (M : Mem), q_Mo_turn_L16 kx114 post n x1 x2 x3 x4 x5 x7 M → G γ κ 11 (0, 0) (Gq γ κ (pV post)) 16 [(0, .ref (κ.1 + 56)), (1, .int x1), (2, .int x2), (3, .int x3), (4, .int x4), (5, .long x5), (7, .int x7)] [] M := by
  intro n
  induction n with
  | zero => intro x1 x2 x3 x4 x5 x7 M hq; exact hq.elim
  | succ n ih =>
    intro x1 x2 x3 x4 x5 x7 M hq
    unfold q_Mo_turn_L16 at hq
    refine G_iload C 6 d_Mo_turn_16 rfl ?_
    refine G_iload_n C 3 d_Mo_turn_18 rfl rfl ?_
    refine G_icmp_ge C (tgt := 114) d_Mo_turn_19 (by decide) (fun c => ?_) (fun c => ?_)
    · replace hq := hq.1 c
      exact G_sub [0, 5] (by rfl) (hx114 _ _ hq)
    · replace hq := hq.2 c
      refine G_aload_n C 0 d_Mo_turn_22 rfl rfl ?_
      refine Gg_Mo_table C wd_537 d_Mo_turn_23 ?_
      refine G_bipush C (v := 13) d_Mo_turn_26 (by decide) ?_
      refine G_iload C 6 d_Mo_turn_28 rfl ?_
      refine G_imul C d_Mo_turn_30 ?_
      refine G_iload_n C 2 d_Mo_turn_31 rfl rfl ?_
      refine G_iadd C d_Mo_turn_32 ?_
      refine G_laload C (k := 69) (by decide) (fun _ _ => rfl) hq.1 d_Mo_turn_33 ?_
      replace hq := hq.2
      refine G_lstore C (lv' := [(8, _), (0, _), (1, _), (2, _), (3, _), (4, _), (5, _), (7, _)]) d_Mo_turn_34 (by decide) rfl ?_
      refine G_iconst C (v := 0) d_Mo_turn_36 (by decide) ?_
      refine G_istore C (lv' := [(10, _), (8, _), (0, _), (1, _), (2, _), (3, _), (4, _), (5, _), (7, _)]) d_Mo_turn_37 (by decide) rfl ?_
      obtain ⟨n2, hq⟩ := hq
      refine G_sub [2, 3, 4, 5, 6, 7, 8, 1, 0] (by rfl) (s_Mo_turn_L39 C R ?_ n2 _ _ _ _ _ _ _ _ _ hq)
      · intro x3 x4 x5 x6 x7 x8 M9 hq
        refine G_iinc C (v := _ + 1) (lv' := [(7, _), (0, _), (1, _), (2, _), (3, _), (4, _), (5, _)]) 6 d_Mo_turn_108 rfl rfl (by decide) rfl ?_
        refine G_goto C (tgt := 16) d_Mo_turn_111 (by decide) ?_
        exact G_sub [1, 2, 3, 4, 5, 6, 0] (by rfl) (ih _ _ _ _ _ _ _ hq)
def q_Mo_turn (a1 : Int32) (a2 : Int32) (a3 : Int32) (a4 : Int32) (M : Mem) (post : Mem → Prop) : Prop := vp_in (((13 : Int32) * a1) + a2) 156 ∧ (∃ n10, q_Mo_turn_L16 (fun x11 M12 => ∀ M13, M13 = wJ M12 56 18 x11 → post M13) post n10 a1 a2 a3 a4 (M.2 69 (((13 : Int32) * a1) + a2).toNatClampNeg) (0 : Int32) M)
set_option maxHeartbeats 4000000 in
theorem s_Mo_turn {l : Launch} {κ : Kp} {a1 : Int32} {a2 : Int32} {a3 : Int32} {a4 : Int32} {M : Mem} {post : Mem → Prop} (hq : q_Mo_turn a1 a2 a3 a4 M post) : Ct l κ y_Mo_turn b_Mo_turn 11 (none) 0 [.ref (κ.1 + 56), .int a1, .int a2, .int a3, .int a4] M (pV post) := by
  refine Ct_of (by decide) (Nat.le_of_ble_eq_true rfl) (fun γ hγ C R => ?_)
  subst hγ
  unfold q_Mo_turn at hq
  show G γ κ 11 (0, 0) (Gq γ κ (pV post)) 0 [(0, .ref (κ.1 + 56)), (1, .int a1), (2, .int a2), (3, .int a3), (4, .int a4)] [] M
  refine G_aload_n C 0 d_Mo_turn_0 rfl rfl ?_
  refine Gg_Mo_table C wd_537 d_Mo_turn_1 ?_
  refine G_bipush C (v := 13) d_Mo_turn_4 (by decide) ?_
  refine G_iload_n C 1 d_Mo_turn_6 rfl rfl ?_
  refine G_imul C d_Mo_turn_7 ?_
  refine G_iload_n C 2 d_Mo_turn_8 rfl rfl ?_
  refine G_iadd C d_Mo_turn_9 ?_
  refine G_laload C (k := 69) (by decide) (fun _ _ => rfl) hq.1 d_Mo_turn_10 ?_
  replace hq := hq.2
  refine G_lstore C (lv' := [(5, _), (0, _), (1, _), (2, _), (3, _), (4, _)]) d_Mo_turn_11 (by decide) rfl ?_
  refine G_iconst C (v := 0) d_Mo_turn_13 (by decide) ?_
  refine G_istore C (lv' := [(7, _), (5, _), (0, _), (1, _), (2, _), (3, _), (4, _)]) d_Mo_turn_14 (by decide) rfl ?_
  obtain ⟨n10, hq⟩ := hq
  refine G_sub [2, 3, 4, 5, 6, 1, 0] (by rfl) (s_Mo_turn_L16 C R ?_ n10 _ _ _ _ _ _ _ hq)
  · intro x11 M12 hq
    refine G_aload_n C 0 d_Mo_turn_114 rfl rfl ?_
    refine G_lload C 1 d_Mo_turn_115 rfl ?_
    refine Gp_Mo_shared C wd_539 d_Mo_turn_117 ?_
    replace hq := hq _ rfl
    exact G_vret C R d_Mo_turn_120 ⟨rfl, hq⟩
theorem d_Mo_sideOf_0 : decode b_Mo_sideOf 0 = .ok (.aload_n 0, 1) := by decide +kernel
theorem d_Mo_sideOf_1 : decode b_Mo_sideOf 1 = .ok (.getfield 13, 3) := by decide +kernel
theorem d_Mo_sideOf_4 : decode b_Mo_sideOf 4 = .ok (.iload_n 2, 1) := by decide +kernel
theorem d_Mo_sideOf_5 : decode b_Mo_sideOf 5 = .ok (.iaload, 1) := by decide +kernel
theorem d_Mo_sideOf_6 : decode b_Mo_sideOf 6 = .ok (.istore_n 3, 1) := by decide +kernel
theorem d_Mo_sideOf_7 : decode b_Mo_sideOf 7 = .ok (.aload_n 0, 1) := by decide +kernel
theorem d_Mo_sideOf_8 : decode b_Mo_sideOf 8 = .ok (.getfield 17, 3) := by decide +kernel
theorem d_Mo_sideOf_11 : decode b_Mo_sideOf 11 = .ok (.iload_n 2, 1) := by decide +kernel
theorem d_Mo_sideOf_12 : decode b_Mo_sideOf 12 = .ok (.iaload, 1) := by decide +kernel
theorem d_Mo_sideOf_13 : decode b_Mo_sideOf 13 = .ok (.istore 4, 2) := by decide +kernel
theorem d_Mo_sideOf_15 : decode b_Mo_sideOf 15 = .ok (.iload_n 3, 1) := by decide +kernel
theorem d_Mo_sideOf_16 : decode b_Mo_sideOf 16 = .ok (.aload_n 0, 1) := by decide +kernel
theorem d_Mo_sideOf_17 : decode b_Mo_sideOf 17 = .ok (.getfield 20, 3) := by decide +kernel
theorem d_Mo_sideOf_20 : decode b_Mo_sideOf 20 = .ok (.iload_n 1, 1) := by decide +kernel
theorem d_Mo_sideOf_21 : decode b_Mo_sideOf 21 = .ok (.iaload, 1) := by decide +kernel
theorem d_Mo_sideOf_22 : decode b_Mo_sideOf 22 = .ok (.if_icmp .ne 14, 3) := by decide +kernel
theorem d_Mo_sideOf_25 : decode b_Mo_sideOf 25 = .ok (.iload 4, 2) := by decide +kernel
theorem d_Mo_sideOf_27 : decode b_Mo_sideOf 27 = .ok (.aload_n 0, 1) := by decide +kernel
theorem d_Mo_sideOf_28 : decode b_Mo_sideOf 28 = .ok (.getfield 23, 3) := by decide +kernel
theorem d_Mo_sideOf_31 : decode b_Mo_sideOf 31 = .ok (.iload_n 1, 1) := by decide +kernel
theorem d_Mo_sideOf_32 : decode b_Mo_sideOf 32 = .ok (.iaload, 1) := by decide +kernel
theorem d_Mo_sideOf_33 : decode b_Mo_sideOf 33 = .ok (.if_icmp .eq 24, 3) := by decide +kernel
theorem d_Mo_sideOf_36 : decode b_Mo_sideOf 36 = .ok (.iload_n 3, 1) := by decide +kernel
theorem d_Mo_sideOf_37 : decode b_Mo_sideOf 37 = .ok (.aload_n 0, 1) := by decide +kernel
theorem d_Mo_sideOf_38 : decode b_Mo_sideOf 38 = .ok (.getfield 23, 3) := by decide +kernel
theorem d_Mo_sideOf_41 : decode b_Mo_sideOf 41 = .ok (.iload_n 1, 1) := by decide +kernel
theorem d_Mo_sideOf_42 : decode b_Mo_sideOf 42 = .ok (.iaload, 1) := by decide +kernel
theorem d_Mo_sideOf_43 : decode b_Mo_sideOf 43 = .ok (.if_icmp .ne 16, 3) := by decide +kernel
theorem d_Mo_sideOf_46 : decode b_Mo_sideOf 46 = .ok (.iload 4, 2) := by decide +kernel
theorem d_Mo_sideOf_48 : decode b_Mo_sideOf 48 = .ok (.aload_n 0, 1) := by decide +kernel
theorem d_Mo_sideOf_49 : decode b_Mo_sideOf 49 = .ok (.getfield 26, 3) := by decide +kernel
theorem d_Mo_sideOf_52 : decode b_Mo_sideOf 52 = .ok (.iload_n 1, 1) := by decide +kernel
theorem d_Mo_sideOf_53 : decode b_Mo_sideOf 53 = .ok (.iaload, 1) := by decide +kernel
theorem d_Mo_sideOf_54 : decode b_Mo_sideOf 54 = .ok (.if_icmp .ne 5, 3) := by decide +kernel
theorem d_Mo_sideOf_57 : decode b_Mo_sideOf 57 = .ok (.lconst 1, 1) := by decide +kernel
theorem d_Mo_sideOf_58 : decode b_Mo_sideOf 58 = .ok (.lreturn, 1) := by decide +kernel
theorem d_Mo_sideOf_59 : decode b_Mo_sideOf 59 = .ok (.iload_n 3, 1) := by decide +kernel
theorem d_Mo_sideOf_60 : decode b_Mo_sideOf 60 = .ok (.aload_n 0, 1) := by decide +kernel
theorem d_Mo_sideOf_61 : decode b_Mo_sideOf 61 = .ok (.getfield 20, 3) := by decide +kernel
theorem d_Mo_sideOf_64 : decode b_Mo_sideOf 64 = .ok (.iload_n 1, 1) := by decide +kernel
theorem d_Mo_sideOf_65 : decode b_Mo_sideOf 65 = .ok (.iaload, 1) := by decide +kernel
theorem d_Mo_sideOf_66 : decode b_Mo_sideOf 66 = .ok (.if_icmp .ne 20, 3) := by decide +kernel
theorem d_Mo_sideOf_69 : decode b_Mo_sideOf 69 = .ok (.iload 4, 2) := by decide +kernel
theorem d_Mo_sideOf_71 : decode b_Mo_sideOf 71 = .ok (.aload_n 0, 1) := by decide +kernel
theorem d_Mo_sideOf_72 : decode b_Mo_sideOf 72 = .ok (.getfield 26, 3) := by decide +kernel
theorem d_Mo_sideOf_75 : decode b_Mo_sideOf 75 = .ok (.iload_n 1, 1) := by decide +kernel
theorem d_Mo_sideOf_76 : decode b_Mo_sideOf 76 = .ok (.iaload, 1) := by decide +kernel
theorem d_Mo_sideOf_77 : decode b_Mo_sideOf 77 = .ok (.if_icmp .ne 9, 3) := by decide +kernel
theorem d_Mo_sideOf_80 : decode b_Mo_sideOf 80 = .ok (.ldc2_w 169, 3) := by decide +kernel
theorem d_Mo_sideOf_83 : decode b_Mo_sideOf 83 = .ok (.goto 4, 3) := by decide +kernel
theorem d_Mo_sideOf_86 : decode b_Mo_sideOf 86 = .ok (.lconst 0, 1) := by decide +kernel
theorem d_Mo_sideOf_87 : decode b_Mo_sideOf 87 = .ok (.lreturn, 1) := by decide +kernel
def q_Mo_sideOf (a1 : Int32) (a2 : Int32) (M : Mem) (post : Int64 → Mem → Prop) : Prop := vp_in a2 12 ∧ (vp_in a2 12 ∧ (vp_in a1 10 ∧ ((¬ (M.1 57 a2.toNatClampNeg) = (M.1 59 a1.toNatClampNeg) → vp_in a1 10 ∧ ((¬ (M.1 57 a2.toNatClampNeg) = (M.1 60 a1.toNatClampNeg) → vp_in a1 10 ∧ ((¬ (M.1 57 a2.toNatClampNeg) = (M.1 59 a1.toNatClampNeg) → post (0 : Int64) M) ∧ ((M.1 57 a2.toNatClampNeg) = (M.1 59 a1.toNatClampNeg) → vp_in a1 10 ∧ ((¬ (M.1 58 a2.toNatClampNeg) = (M.1 61 a1.toNatClampNeg) → post (0 : Int64) M) ∧ ((M.1 58 a2.toNatClampNeg) = (M.1 61 a1.toNatClampNeg) → post (-1 : Int64) M))))) ∧ ((M.1 57 a2.toNatClampNeg) = (M.1 60 a1.toNatClampNeg) → vp_in a1 10 ∧ ((¬ (M.1 58 a2.toNatClampNeg) = (M.1 61 a1.toNatClampNeg) → vp_in a1 10 ∧ ((¬ (M.1 57 a2.toNatClampNeg) = (M.1 59 a1.toNatClampNeg) → post (0 : Int64) M) ∧ ((M.1 57 a2.toNatClampNeg) = (M.1 59 a1.toNatClampNeg) → vp_in a1 10 ∧ ((¬ (M.1 58 a2.toNatClampNeg) = (M.1 61 a1.toNatClampNeg) → post (0 : Int64) M) ∧ ((M.1 58 a2.toNatClampNeg) = (M.1 61 a1.toNatClampNeg) → post (-1 : Int64) M))))) ∧ ((M.1 58 a2.toNatClampNeg) = (M.1 61 a1.toNatClampNeg) → post (1 : Int64) M))))) ∧ ((M.1 57 a2.toNatClampNeg) = (M.1 59 a1.toNatClampNeg) → vp_in a1 10 ∧ (((M.1 58 a2.toNatClampNeg) = (M.1 60 a1.toNatClampNeg) → post (1 : Int64) M) ∧ (¬ (M.1 58 a2.toNatClampNeg) = (M.1 60 a1.toNatClampNeg) → vp_in a1 10 ∧ ((¬ (M.1 57 a2.toNatClampNeg) = (M.1 60 a1.toNatClampNeg) → vp_in a1 10 ∧ ((¬ (M.1 57 a2.toNatClampNeg) = (M.1 59 a1.toNatClampNeg) → post (0 : Int64) M) ∧ ((M.1 57 a2.toNatClampNeg) = (M.1 59 a1.toNatClampNeg) → vp_in a1 10 ∧ ((¬ (M.1 58 a2.toNatClampNeg) = (M.1 61 a1.toNatClampNeg) → post (0 : Int64) M) ∧ ((M.1 58 a2.toNatClampNeg) = (M.1 61 a1.toNatClampNeg) → post (-1 : Int64) M))))) ∧ ((M.1 57 a2.toNatClampNeg) = (M.1 60 a1.toNatClampNeg) → vp_in a1 10 ∧ ((¬ (M.1 58 a2.toNatClampNeg) = (M.1 61 a1.toNatClampNeg) → vp_in a1 10 ∧ ((¬ (M.1 57 a2.toNatClampNeg) = (M.1 59 a1.toNatClampNeg) → post (0 : Int64) M) ∧ ((M.1 57 a2.toNatClampNeg) = (M.1 59 a1.toNatClampNeg) → vp_in a1 10 ∧ ((¬ (M.1 58 a2.toNatClampNeg) = (M.1 61 a1.toNatClampNeg) → post (0 : Int64) M) ∧ ((M.1 58 a2.toNatClampNeg) = (M.1 61 a1.toNatClampNeg) → post (-1 : Int64) M))))) ∧ ((M.1 58 a2.toNatClampNeg) = (M.1 61 a1.toNatClampNeg) → post (1 : Int64) M))))))))))
set_option maxHeartbeats 4000000 in
theorem s_Mo_sideOf {l : Launch} {κ : Kp} {a1 : Int32} {a2 : Int32} {M : Mem} {post : Int64 → Mem → Prop} (hq : q_Mo_sideOf a1 a2 M post) : Ct l κ y_Mo_sideOf b_Mo_sideOf 5 (some .long) 0 [.ref (κ.1 + 56), .int a1, .int a2] M (pJ post) := by
  refine Ct_of (by decide) (Nat.le_of_ble_eq_true rfl) (fun γ hγ C R => ?_)
  subst hγ
  unfold q_Mo_sideOf at hq
  show G γ κ 5 (0, 0) (Gq γ κ (pJ post)) 0 [(0, .ref (κ.1 + 56)), (1, .int a1), (2, .int a2)] [] M
  refine G_aload_n C 0 d_Mo_sideOf_0 rfl rfl ?_
  refine Gg_Mo_begin C wd_524 d_Mo_sideOf_1 ?_
  refine G_iload_n C 2 d_Mo_sideOf_4 rfl rfl ?_
  refine G_iaload C (k := 57) (by decide) (fun _ _ => rfl) hq.1 d_Mo_sideOf_5 ?_
  replace hq := hq.2
  refine G_istore_n C (lv' := [(3, _), (0, _), (1, _), (2, _)]) d_Mo_sideOf_6 rfl (by decide) rfl ?_
  refine G_aload_n C 1 d_Mo_sideOf_7 rfl rfl ?_
  refine Gg_Mo_end C wd_525 d_Mo_sideOf_8 ?_
  refine G_iload_n C 3 d_Mo_sideOf_11 rfl rfl ?_
  refine G_iaload C (k := 58) (by decide) (fun _ _ => rfl) hq.1 d_Mo_sideOf_12 ?_
  replace hq := hq.2
  refine G_istore C (lv' := [(4, _), (3, _), (0, _), (1, _), (2, _)]) d_Mo_sideOf_13 (by decide) rfl ?_
  refine G_iload_n C 1 d_Mo_sideOf_15 rfl rfl ?_
  refine G_aload_n C 2 d_Mo_sideOf_16 rfl rfl ?_
  refine Gg_Mo_first C wd_526 d_Mo_sideOf_17 ?_
  refine G_iload_n C 3 d_Mo_sideOf_20 rfl rfl ?_
  refine G_iaload C (k := 59) (by decide) (fun _ _ => rfl) hq.1 d_Mo_sideOf_21 ?_
  replace hq := hq.2
  refine G_icmp_ne C (tgt := 36) d_Mo_sideOf_22 (by decide) (fun c => ?_) (fun c => ?_)
  · replace hq := hq.1 c
    refine G_iload_n C 1 d_Mo_sideOf_36 rfl rfl ?_
    refine G_aload_n C 2 d_Mo_sideOf_37 rfl rfl ?_
    refine Gg_Mo_second C wd_527 d_Mo_sideOf_38 ?_
    refine G_iload_n C 3 d_Mo_sideOf_41 rfl rfl ?_
    refine G_iaload C (k := 60) (by decide) (fun _ _ => rfl) hq.1 d_Mo_sideOf_42 ?_
    replace hq := hq.2
    refine G_icmp_ne C (tgt := 59) d_Mo_sideOf_43 (by decide) (fun c => ?_) (fun c => ?_)
    · replace hq := hq.1 c
      refine G_iload_n C 1 d_Mo_sideOf_59 rfl rfl ?_
      refine G_aload_n C 2 d_Mo_sideOf_60 rfl rfl ?_
      refine Gg_Mo_first C wd_526 d_Mo_sideOf_61 ?_
      refine G_iload_n C 3 d_Mo_sideOf_64 rfl rfl ?_
      refine G_iaload C (k := 59) (by decide) (fun _ _ => rfl) hq.1 d_Mo_sideOf_65 ?_
      replace hq := hq.2
      refine G_icmp_ne C (tgt := 86) d_Mo_sideOf_66 (by decide) (fun c => ?_) (fun c => ?_)
      · replace hq := hq.1 c
        refine G_lconst C (v := 0) d_Mo_sideOf_86 (by decide) ?_
        exact G_lret C R d_Mo_sideOf_87 ⟨_, rfl, hq⟩
      · replace hq := hq.2 c
        refine G_iload C 0 d_Mo_sideOf_69 rfl ?_
        refine G_aload_n C 2 d_Mo_sideOf_71 rfl rfl ?_
        refine Gg_Mo_third C wd_528 d_Mo_sideOf_72 ?_
        refine G_iload_n C 3 d_Mo_sideOf_75 rfl rfl ?_
        refine G_iaload C (k := 61) (by decide) (fun _ _ => rfl) hq.1 d_Mo_sideOf_76 ?_
        replace hq := hq.2
        refine G_icmp_ne C (tgt := 86) d_Mo_sideOf_77 (by decide) (fun c => ?_) (fun c => ?_)
        · replace hq := hq.1 c
          refine G_lconst C (v := 0) d_Mo_sideOf_86 (by decide) ?_
          exact G_lret C R d_Mo_sideOf_87 ⟨_, rfl, hq⟩
        · replace hq := hq.2 c
          refine G_ldc2 C (v := -1) wd_735 d_Mo_sideOf_80 ?_
          refine G_goto C (tgt := 87) d_Mo_sideOf_83 (by decide) ?_
          exact G_lret C R d_Mo_sideOf_87 ⟨_, rfl, hq⟩
    · replace hq := hq.2 c
      refine G_iload C 0 d_Mo_sideOf_46 rfl ?_
      refine G_aload_n C 2 d_Mo_sideOf_48 rfl rfl ?_
      refine Gg_Mo_third C wd_528 d_Mo_sideOf_49 ?_
      refine G_iload_n C 3 d_Mo_sideOf_52 rfl rfl ?_
      refine G_iaload C (k := 61) (by decide) (fun _ _ => rfl) hq.1 d_Mo_sideOf_53 ?_
      replace hq := hq.2
      refine G_icmp_ne C (tgt := 59) d_Mo_sideOf_54 (by decide) (fun c => ?_) (fun c => ?_)
      · replace hq := hq.1 c
        refine G_iload_n C 1 d_Mo_sideOf_59 rfl rfl ?_
        refine G_aload_n C 2 d_Mo_sideOf_60 rfl rfl ?_
        refine Gg_Mo_first C wd_526 d_Mo_sideOf_61 ?_
        refine G_iload_n C 3 d_Mo_sideOf_64 rfl rfl ?_
        refine G_iaload C (k := 59) (by decide) (fun _ _ => rfl) hq.1 d_Mo_sideOf_65 ?_
        replace hq := hq.2
        refine G_icmp_ne C (tgt := 86) d_Mo_sideOf_66 (by decide) (fun c => ?_) (fun c => ?_)
        · replace hq := hq.1 c
          refine G_lconst C (v := 0) d_Mo_sideOf_86 (by decide) ?_
          exact G_lret C R d_Mo_sideOf_87 ⟨_, rfl, hq⟩
        · replace hq := hq.2 c
          refine G_iload C 0 d_Mo_sideOf_69 rfl ?_
          refine G_aload_n C 2 d_Mo_sideOf_71 rfl rfl ?_
          refine Gg_Mo_third C wd_528 d_Mo_sideOf_72 ?_
          refine G_iload_n C 3 d_Mo_sideOf_75 rfl rfl ?_
          refine G_iaload C (k := 61) (by decide) (fun _ _ => rfl) hq.1 d_Mo_sideOf_76 ?_
          replace hq := hq.2
          refine G_icmp_ne C (tgt := 86) d_Mo_sideOf_77 (by decide) (fun c => ?_) (fun c => ?_)
          · replace hq := hq.1 c
            refine G_lconst C (v := 0) d_Mo_sideOf_86 (by decide) ?_
            exact G_lret C R d_Mo_sideOf_87 ⟨_, rfl, hq⟩
          · replace hq := hq.2 c
            refine G_ldc2 C (v := -1) wd_735 d_Mo_sideOf_80 ?_
            refine G_goto C (tgt := 87) d_Mo_sideOf_83 (by decide) ?_
            exact G_lret C R d_Mo_sideOf_87 ⟨_, rfl, hq⟩
      · replace hq := hq.2 c
        refine G_lconst C (v := 1) d_Mo_sideOf_57 (by decide) ?_
        exact G_lret C R d_Mo_sideOf_58 ⟨_, rfl, hq⟩
  · replace hq := hq.2 c
    refine G_iload C 0 d_Mo_sideOf_25 rfl ?_
    refine G_aload_n C 2 d_Mo_sideOf_27 rfl rfl ?_
    refine Gg_Mo_second C wd_527 d_Mo_sideOf_28 ?_
    refine G_iload_n C 3 d_Mo_sideOf_31 rfl rfl ?_
    refine G_iaload C (k := 60) (by decide) (fun _ _ => rfl) hq.1 d_Mo_sideOf_32 ?_
    replace hq := hq.2
    refine G_icmp_eq C (tgt := 57) d_Mo_sideOf_33 (by decide) (fun c => ?_) (fun c => ?_)
    · replace hq := hq.1 c
      refine G_lconst C (v := 1) d_Mo_sideOf_57 (by decide) ?_
      exact G_lret C R d_Mo_sideOf_58 ⟨_, rfl, hq⟩
    · replace hq := hq.2 c
      refine G_iload_n C 1 d_Mo_sideOf_36 rfl rfl ?_
      refine G_aload_n C 2 d_Mo_sideOf_37 rfl rfl ?_
      refine Gg_Mo_second C wd_527 d_Mo_sideOf_38 ?_
      refine G_iload_n C 3 d_Mo_sideOf_41 rfl rfl ?_
      refine G_iaload C (k := 60) (by decide) (fun _ _ => rfl) hq.1 d_Mo_sideOf_42 ?_
      replace hq := hq.2
      refine G_icmp_ne C (tgt := 59) d_Mo_sideOf_43 (by decide) (fun c => ?_) (fun c => ?_)
      · replace hq := hq.1 c
        refine G_iload_n C 1 d_Mo_sideOf_59 rfl rfl ?_
        refine G_aload_n C 2 d_Mo_sideOf_60 rfl rfl ?_
        refine Gg_Mo_first C wd_526 d_Mo_sideOf_61 ?_
        refine G_iload_n C 3 d_Mo_sideOf_64 rfl rfl ?_
        refine G_iaload C (k := 59) (by decide) (fun _ _ => rfl) hq.1 d_Mo_sideOf_65 ?_
        replace hq := hq.2
        refine G_icmp_ne C (tgt := 86) d_Mo_sideOf_66 (by decide) (fun c => ?_) (fun c => ?_)
        · replace hq := hq.1 c
          refine G_lconst C (v := 0) d_Mo_sideOf_86 (by decide) ?_
          exact G_lret C R d_Mo_sideOf_87 ⟨_, rfl, hq⟩
        · replace hq := hq.2 c
          refine G_iload C 0 d_Mo_sideOf_69 rfl ?_
          refine G_aload_n C 2 d_Mo_sideOf_71 rfl rfl ?_
          refine Gg_Mo_third C wd_528 d_Mo_sideOf_72 ?_
          refine G_iload_n C 3 d_Mo_sideOf_75 rfl rfl ?_
          refine G_iaload C (k := 61) (by decide) (fun _ _ => rfl) hq.1 d_Mo_sideOf_76 ?_
          replace hq := hq.2
          refine G_icmp_ne C (tgt := 86) d_Mo_sideOf_77 (by decide) (fun c => ?_) (fun c => ?_)
          · replace hq := hq.1 c
            refine G_lconst C (v := 0) d_Mo_sideOf_86 (by decide) ?_
            exact G_lret C R d_Mo_sideOf_87 ⟨_, rfl, hq⟩
          · replace hq := hq.2 c
            refine G_ldc2 C (v := -1) wd_735 d_Mo_sideOf_80 ?_
            refine G_goto C (tgt := 87) d_Mo_sideOf_83 (by decide) ?_
            exact G_lret C R d_Mo_sideOf_87 ⟨_, rfl, hq⟩
      · replace hq := hq.2 c
        refine G_iload C 0 d_Mo_sideOf_46 rfl ?_
        refine G_aload_n C 2 d_Mo_sideOf_48 rfl rfl ?_
        refine Gg_Mo_third C wd_528 d_Mo_sideOf_49 ?_
        refine G_iload_n C 3 d_Mo_sideOf_52 rfl rfl ?_
        refine G_iaload C (k := 61) (by decide) (fun _ _ => rfl) hq.1 d_Mo_sideOf_53 ?_
        replace hq := hq.2
        refine G_icmp_ne C (tgt := 59) d_Mo_sideOf_54 (by decide) (fun c => ?_) (fun c => ?_)
        · replace hq := hq.1 c
          refine G_iload_n C 1 d_Mo_sideOf_59 rfl rfl ?_
          refine G_aload_n C 2 d_Mo_sideOf_60 rfl rfl ?_
          refine Gg_Mo_first C wd_526 d_Mo_sideOf_61 ?_
          refine G_iload_n C 3 d_Mo_sideOf_64 rfl rfl ?_
          refine G_iaload C (k := 59) (by decide) (fun _ _ => rfl) hq.1 d_Mo_sideOf_65 ?_
          replace hq := hq.2
          refine G_icmp_ne C (tgt := 86) d_Mo_sideOf_66 (by decide) (fun c => ?_) (fun c => ?_)
          · replace hq := hq.1 c
            refine G_lconst C (v := 0) d_Mo_sideOf_86 (by decide) ?_
            exact G_lret C R d_Mo_sideOf_87 ⟨_, rfl, hq⟩
          · replace hq := hq.2 c
            refine G_iload C 0 d_Mo_sideOf_69 rfl ?_
            refine G_aload_n C 2 d_Mo_sideOf_71 rfl rfl ?_
            refine Gg_Mo_third C wd_528 d_Mo_sideOf_72 ?_
            refine G_iload_n C 3 d_Mo_sideOf_75 rfl rfl ?_
            refine G_iaload C (k := 61) (by decide) (fun _ _ => rfl) hq.1 d_Mo_sideOf_76 ?_
            replace hq := hq.2
            refine G_icmp_ne C (tgt := 86) d_Mo_sideOf_77 (by decide) (fun c => ?_) (fun c => ?_)
            · replace hq := hq.1 c
              refine G_lconst C (v := 0) d_Mo_sideOf_86 (by decide) ?_
              exact G_lret C R d_Mo_sideOf_87 ⟨_, rfl, hq⟩
            · replace hq := hq.2 c
              refine G_ldc2 C (v := -1) wd_735 d_Mo_sideOf_80 ?_
              refine G_goto C (tgt := 87) d_Mo_sideOf_83 (by decide) ?_
              exact G_lret C R d_Mo_sideOf_87 ⟨_, rfl, hq⟩
        · replace hq := hq.2 c
          refine G_lconst C (v := 1) d_Mo_sideOf_57 (by decide) ?_
          exact G_lret C R d_Mo_sideOf_58 ⟨_, rfl, hq⟩
theorem d_Mo_divisor_0 : decode b_Mo_divisor 0 = .ok (.lload_n 0, 1) := by decide +kernel
theorem d_Mo_divisor_1 : decode b_Mo_divisor 1 = .ok (.lconst 0, 1) := by decide +kernel
theorem d_Mo_divisor_2 : decode b_Mo_divisor 2 = .ok (.lcmp, 1) := by decide +kernel
theorem d_Mo_divisor_3 : decode b_Mo_divisor 3 = .ok (.ifCond .ge 8, 3) := by decide +kernel
theorem d_Mo_divisor_6 : decode b_Mo_divisor 6 = .ok (.lload_n 0, 1) := by decide +kernel
theorem d_Mo_divisor_7 : decode b_Mo_divisor 7 = .ok (.lneg, 1) := by decide +kernel
theorem d_Mo_divisor_8 : decode b_Mo_divisor 8 = .ok (.goto 4, 3) := by decide +kernel
theorem d_Mo_divisor_11 : decode b_Mo_divisor 11 = .ok (.lload_n 0, 1) := by decide +kernel
theorem d_Mo_divisor_12 : decode b_Mo_divisor 12 = .ok (.lstore 4, 2) := by decide +kernel
theorem d_Mo_divisor_14 : decode b_Mo_divisor 14 = .ok (.lload_n 2, 1) := by decide +kernel
theorem d_Mo_divisor_15 : decode b_Mo_divisor 15 = .ok (.lconst 0, 1) := by decide +kernel
theorem d_Mo_divisor_16 : decode b_Mo_divisor 16 = .ok (.lcmp, 1) := by decide +kernel
theorem d_Mo_divisor_17 : decode b_Mo_divisor 17 = .ok (.ifCond .ge 8, 3) := by decide +kernel
theorem d_Mo_divisor_20 : decode b_Mo_divisor 20 = .ok (.lload_n 2, 1) := by decide +kernel
theorem d_Mo_divisor_21 : decode b_Mo_divisor 21 = .ok (.lneg, 1) := by decide +kernel
theorem d_Mo_divisor_22 : decode b_Mo_divisor 22 = .ok (.goto 4, 3) := by decide +kernel
theorem d_Mo_divisor_25 : decode b_Mo_divisor 25 = .ok (.lload_n 2, 1) := by decide +kernel
theorem d_Mo_divisor_26 : decode b_Mo_divisor 26 = .ok (.lstore 6, 2) := by decide +kernel
theorem d_Mo_divisor_28 : decode b_Mo_divisor 28 = .ok (.lload 6, 2) := by decide +kernel
theorem d_Mo_divisor_30 : decode b_Mo_divisor 30 = .ok (.lconst 0, 1) := by decide +kernel
theorem d_Mo_divisor_31 : decode b_Mo_divisor 31 = .ok (.lcmp, 1) := by decide +kernel
theorem d_Mo_divisor_32 : decode b_Mo_divisor 32 = .ok (.ifCond .eq 21, 3) := by decide +kernel
theorem d_Mo_divisor_35 : decode b_Mo_divisor 35 = .ok (.lload 4, 2) := by decide +kernel
theorem d_Mo_divisor_37 : decode b_Mo_divisor 37 = .ok (.lload 6, 2) := by decide +kernel
theorem d_Mo_divisor_39 : decode b_Mo_divisor 39 = .ok (.lrem, 1) := by decide +kernel
theorem d_Mo_divisor_40 : decode b_Mo_divisor 40 = .ok (.lstore 8, 2) := by decide +kernel
theorem d_Mo_divisor_42 : decode b_Mo_divisor 42 = .ok (.lload 6, 2) := by decide +kernel
theorem d_Mo_divisor_44 : decode b_Mo_divisor 44 = .ok (.lstore 4, 2) := by decide +kernel
theorem d_Mo_divisor_46 : decode b_Mo_divisor 46 = .ok (.lload 8, 2) := by decide +kernel
theorem d_Mo_divisor_48 : decode b_Mo_divisor 48 = .ok (.lstore 6, 2) := by decide +kernel
theorem d_Mo_divisor_50 : decode b_Mo_divisor 50 = .ok (.goto (-22), 3) := by decide +kernel
theorem d_Mo_divisor_53 : decode b_Mo_divisor 53 = .ok (.lload 4, 2) := by decide +kernel
theorem d_Mo_divisor_55 : decode b_Mo_divisor 55 = .ok (.lreturn, 1) := by decide +kernel
def q_Mo_divisor_L28 (kx53 : Int64 → Mem → Prop) (post : Int64 → Mem → Prop) : Nat → Int64 → Int64 → Mem → Prop
  | 0, _, _, _ => False
  | n + 1, x4, x6, M => (x6 = (0 : Int64) → kx53 x4 M) ∧ (¬ x6 = (0 : Int64) → ¬ x6 = 0 ∧ (q_Mo_divisor_L28 kx53 post n x6 (x4 - x4 / x6 * x6) M))
set_option maxHeartbeats 4000000 in
theorem s_Mo_divisor_L28 {γ : Gm} {κ : Kp} {post : Int64 → Mem → Prop} {kx53 : Int64 → Mem → Prop} (C : Cx γ κ "NetFormsModel" b_Mo_divisor 10 0 (0, 0)) (R : Rt γ (some .long)) (hx53 : ∀ y0 M', kx53 y0 M' → G γ κ 10 (0, 0) (Gq γ κ (pJ post)) 53 [(4, .long y0)] [] M') : ∀ (n : Nat) (x4 : Int64) (x6 : Int64) (M : Mem), q_Mo_divisor_L28 kx53 post n x4 x6 M → G γ κ 10 (0, 0) (Gq γ κ (pJ post)) 28 [(4, .long x4), (6, .long x6)] [] M := by
  intro n
  induction n with
  | zero => intro x4 x6 M hq; exact hq.elim
  | succ n ih =>
    intro x4 x6 M hq
    unfold q_Mo_divisor_L28 at hq
    refine G_lload C 1 d_Mo_divisor_28 rfl ?_
    refine G_lconst C (v := 0) d_Mo_divisor_30 (by decide) ?_
    refine G_lcmp_eq C (tgt := 53) (pc1 := 32) d_Mo_divisor_31 rfl d_Mo_divisor_32 (by decide) (fun c => ?_) (fun c => ?_)
    · replace hq := hq.1 c
      exact G_sub [0] (by rfl) (hx53 _ _ hq)
    · replace hq := hq.2 c
      refine G_lload C 0 d_Mo_divisor_35 rfl ?_
      refine G_lload C 1 d_Mo_divisor_37 rfl ?_
      refine G_lrem C d_Mo_divisor_39 hq.1 ?_
      replace hq := hq.2
      refine G_lstore C (lv' := [(8, _), (4, _), (6, _)]) d_Mo_divisor_40 (by decide) rfl ?_
      refine G_lload C 2 d_Mo_divisor_42 rfl ?_
      refine G_lstore C (lv' := [(4, _), (8, _), (6, _)]) d_Mo_divisor_44 (by decide) rfl ?_
      refine G_lload C 1 d_Mo_divisor_46 rfl ?_
      refine G_lstore C (lv' := [(6, _), (4, _), (8, _)]) d_Mo_divisor_48 (by decide) rfl ?_
      refine G_goto C (tgt := 28) d_Mo_divisor_50 (by decide) ?_
      exact G_sub [1, 0] (by rfl) (ih _ _ _ hq)
def q_Mo_divisor (a0 : Int64) (a2 : Int64) (M : Mem) (post : Int64 → Mem → Prop) : Prop := ((0 : Int64) ≤ a0 → ((0 : Int64) ≤ a2 → ∃ n1, q_Mo_divisor_L28 (fun x2 M3 => post x2 M3) post n1 a0 a2 M) ∧ (¬ (0 : Int64) ≤ a2 → ∃ n4, q_Mo_divisor_L28 (fun x5 M6 => post x5 M6) post n4 a0 (-a2) M)) ∧ (¬ (0 : Int64) ≤ a0 → ((0 : Int64) ≤ a2 → ∃ n7, q_Mo_divisor_L28 (fun x8 M9 => post x8 M9) post n7 (-a0) a2 M) ∧ (¬ (0 : Int64) ≤ a2 → ∃ n10, q_Mo_divisor_L28 (fun x11 M12 => post x11 M12) post n10 (-a0) (-a2) M))
set_option maxHeartbeats 4000000 in
theorem s_Mo_divisor {l : Launch} {κ : Kp} {a0 : Int64} {a2 : Int64} {M : Mem} {post : Int64 → Mem → Prop} (hq : q_Mo_divisor a0 a2 M post) : Ct l κ y_Mo_divisor b_Mo_divisor 10 (some .long) 0 [.long a0, .long a2] M (pJ post) := by
  refine Ct_of (by decide) (Nat.le_of_ble_eq_true rfl) (fun γ hγ C R => ?_)
  subst hγ
  unfold q_Mo_divisor at hq
  show G γ κ 10 (0, 0) (Gq γ κ (pJ post)) 0 [(0, .long a0), (2, .long a2)] [] M
  refine G_lload_n C 0 d_Mo_divisor_0 rfl rfl ?_
  refine G_lconst C (v := 0) d_Mo_divisor_1 (by decide) ?_
  refine G_lcmp_ge C (tgt := 11) (pc1 := 3) d_Mo_divisor_2 rfl d_Mo_divisor_3 (by decide) (fun c => ?_) (fun c => ?_)
  · replace hq := hq.1 c
    refine G_lload_n C 0 d_Mo_divisor_11 rfl rfl ?_
    refine G_lstore C (lv' := [(4, _), (0, _), (2, _)]) d_Mo_divisor_12 (by decide) rfl ?_
    refine G_lload_n C 2 d_Mo_divisor_14 rfl rfl ?_
    refine G_lconst C (v := 0) d_Mo_divisor_15 (by decide) ?_
    refine G_lcmp_ge C (tgt := 25) (pc1 := 17) d_Mo_divisor_16 rfl d_Mo_divisor_17 (by decide) (fun c => ?_) (fun c => ?_)
    · replace hq := hq.1 c
      refine G_lload_n C 2 d_Mo_divisor_25 rfl rfl ?_
      refine G_lstore C (lv' := [(6, _), (4, _), (0, _), (2, _)]) d_Mo_divisor_26 (by decide) rfl ?_
      obtain ⟨n1, hq⟩ := hq
      refine G_sub [1, 0] (by rfl) (s_Mo_divisor_L28 C R ?_ n1 _ _ _ hq)
      · intro x2 M3 hq
        refine G_lload C 0 d_Mo_divisor_53 rfl ?_
        exact G_lret C R d_Mo_divisor_55 ⟨_, rfl, hq⟩
    · replace hq := hq.2 c
      refine G_lload_n C 2 d_Mo_divisor_20 rfl rfl ?_
      refine G_lneg C d_Mo_divisor_21 ?_
      refine G_goto C (tgt := 26) d_Mo_divisor_22 (by decide) ?_
      refine G_lstore C (lv' := [(6, _), (4, _), (0, _), (2, _)]) d_Mo_divisor_26 (by decide) rfl ?_
      obtain ⟨n4, hq⟩ := hq
      refine G_sub [1, 0] (by rfl) (s_Mo_divisor_L28 C R ?_ n4 _ _ _ hq)
      · intro x5 M6 hq
        refine G_lload C 0 d_Mo_divisor_53 rfl ?_
        exact G_lret C R d_Mo_divisor_55 ⟨_, rfl, hq⟩
  · replace hq := hq.2 c
    refine G_lload_n C 0 d_Mo_divisor_6 rfl rfl ?_
    refine G_lneg C d_Mo_divisor_7 ?_
    refine G_goto C (tgt := 12) d_Mo_divisor_8 (by decide) ?_
    refine G_lstore C (lv' := [(4, _), (0, _), (2, _)]) d_Mo_divisor_12 (by decide) rfl ?_
    refine G_lload_n C 2 d_Mo_divisor_14 rfl rfl ?_
    refine G_lconst C (v := 0) d_Mo_divisor_15 (by decide) ?_
    refine G_lcmp_ge C (tgt := 25) (pc1 := 17) d_Mo_divisor_16 rfl d_Mo_divisor_17 (by decide) (fun c => ?_) (fun c => ?_)
    · replace hq := hq.1 c
      refine G_lload_n C 2 d_Mo_divisor_25 rfl rfl ?_
      refine G_lstore C (lv' := [(6, _), (4, _), (0, _), (2, _)]) d_Mo_divisor_26 (by decide) rfl ?_
      obtain ⟨n7, hq⟩ := hq
      refine G_sub [1, 0] (by rfl) (s_Mo_divisor_L28 C R ?_ n7 _ _ _ hq)
      · intro x8 M9 hq
        refine G_lload C 0 d_Mo_divisor_53 rfl ?_
        exact G_lret C R d_Mo_divisor_55 ⟨_, rfl, hq⟩
    · replace hq := hq.2 c
      refine G_lload_n C 2 d_Mo_divisor_20 rfl rfl ?_
      refine G_lneg C d_Mo_divisor_21 ?_
      refine G_goto C (tgt := 26) d_Mo_divisor_22 (by decide) ?_
      refine G_lstore C (lv' := [(6, _), (4, _), (0, _), (2, _)]) d_Mo_divisor_26 (by decide) rfl ?_
      obtain ⟨n10, hq⟩ := hq
      refine G_sub [1, 0] (by rfl) (s_Mo_divisor_L28 C R ?_ n10 _ _ _ hq)
      · intro x11 M12 hq
        refine G_lload C 0 d_Mo_divisor_53 rfl ?_
        exact G_lret C R d_Mo_divisor_55 ⟨_, rfl, hq⟩
theorem d_Mo_flows_0 : decode b_Mo_flows 0 = .ok (.iconst 0, 1) := by decide +kernel
theorem d_Mo_flows_1 : decode b_Mo_flows 1 = .ok (.istore_n 3, 1) := by decide +kernel
theorem d_Mo_flows_2 : decode b_Mo_flows 2 = .ok (.iload_n 3, 1) := by decide +kernel
theorem d_Mo_flows_3 : decode b_Mo_flows 3 = .ok (.aload_n 0, 1) := by decide +kernel
theorem d_Mo_flows_4 : decode b_Mo_flows 4 = .ok (.getfield 79, 3) := by decide +kernel
theorem d_Mo_flows_7 : decode b_Mo_flows 7 = .ok (.if_icmp .ge 43, 3) := by decide +kernel
theorem d_Mo_flows_10 : decode b_Mo_flows 10 = .ok (.aload_n 0, 1) := by decide +kernel
theorem d_Mo_flows_11 : decode b_Mo_flows 11 = .ok (.getfield 46, 3) := by decide +kernel
theorem d_Mo_flows_14 : decode b_Mo_flows 14 = .ok (.iload_n 3, 1) := by decide +kernel
theorem d_Mo_flows_15 : decode b_Mo_flows 15 = .ok (.dup2, 1) := by decide +kernel
theorem d_Mo_flows_16 : decode b_Mo_flows 16 = .ok (.laload, 1) := by decide +kernel
theorem d_Mo_flows_17 : decode b_Mo_flows 17 = .ok (.lload_n 1, 1) := by decide +kernel
theorem d_Mo_flows_18 : decode b_Mo_flows 18 = .ok (.aload_n 0, 1) := by decide +kernel
theorem d_Mo_flows_19 : decode b_Mo_flows 19 = .ok (.getfield 42, 3) := by decide +kernel
theorem d_Mo_flows_22 : decode b_Mo_flows 22 = .ok (.aload_n 0, 1) := by decide +kernel
theorem d_Mo_flows_23 : decode b_Mo_flows 23 = .ok (.getfield 13, 3) := by decide +kernel
theorem d_Mo_flows_26 : decode b_Mo_flows 26 = .ok (.iload_n 3, 1) := by decide +kernel
theorem d_Mo_flows_27 : decode b_Mo_flows 27 = .ok (.iaload, 1) := by decide +kernel
theorem d_Mo_flows_28 : decode b_Mo_flows 28 = .ok (.laload, 1) := by decide +kernel
theorem d_Mo_flows_29 : decode b_Mo_flows 29 = .ok (.aload_n 0, 1) := by decide +kernel
theorem d_Mo_flows_30 : decode b_Mo_flows 30 = .ok (.getfield 42, 3) := by decide +kernel
theorem d_Mo_flows_33 : decode b_Mo_flows 33 = .ok (.aload_n 0, 1) := by decide +kernel
theorem d_Mo_flows_34 : decode b_Mo_flows 34 = .ok (.getfield 17, 3) := by decide +kernel
theorem d_Mo_flows_37 : decode b_Mo_flows 37 = .ok (.iload_n 3, 1) := by decide +kernel
theorem d_Mo_flows_38 : decode b_Mo_flows 38 = .ok (.iaload, 1) := by decide +kernel
theorem d_Mo_flows_39 : decode b_Mo_flows 39 = .ok (.laload, 1) := by decide +kernel
theorem d_Mo_flows_40 : decode b_Mo_flows 40 = .ok (.lsub, 1) := by decide +kernel
theorem d_Mo_flows_41 : decode b_Mo_flows 41 = .ok (.lmul, 1) := by decide +kernel
theorem d_Mo_flows_42 : decode b_Mo_flows 42 = .ok (.ladd, 1) := by decide +kernel
theorem d_Mo_flows_43 : decode b_Mo_flows 43 = .ok (.lastore, 1) := by decide +kernel
theorem d_Mo_flows_44 : decode b_Mo_flows 44 = .ok (.iinc 3 1, 3) := by decide +kernel
theorem d_Mo_flows_47 : decode b_Mo_flows 47 = .ok (.goto (-45), 3) := by decide +kernel
theorem d_Mo_flows_50 : decode b_Mo_flows 50 = .ok (.return_, 1) := by decide +kernel
def q_Mo_flows_L2 (kx50 : Mem → Prop) (post : Mem → Prop) : Nat → Int64 → Int32 → Mem → Prop
  | 0, _, _, _ => False
  | n + 1, x1, x3, M => ((M.1 56 1) ≤ x3 → kx50 M) ∧ (¬ (M.1 56 1) ≤ x3 → vp_in x3 12 ∧ (vp_in x3 12 ∧ (vp_in (M.1 57 x3.toNatClampNeg) 6 ∧ (vp_in x3 12 ∧ (vp_in (M.1 58 x3.toNatClampNeg) 6 ∧ (vp_in x3 12 ∧ (∀ M1, M1 = wJ M 67 x3.toNatClampNeg ((M.2 67 x3.toNatClampNeg) + (x1 * ((M.2 66 (M.1 57 x3.toNatClampNeg).toNatClampNeg) - (M.2 66 (M.1 58 x3.toNatClampNeg).toNatClampNeg)))) → q_Mo_flows_L2 kx50 post n x1 (x3 + 1) M1)))))))
set_option maxHeartbeats 4000000 in
theorem s_Mo_flows_L2 {γ : Gm} {κ : Kp} {post : Mem → Prop} {kx50 : Mem → Prop} (C : Cx γ κ "NetFormsModel" b_Mo_flows 4 0 (0, 0)) (R : Rt γ (none)) (hx50 : ∀ M', kx50 M' → G γ κ 4 (0, 0) (Gq γ κ (pV post)) 50 [] [] M') : ∀ (n : Nat) (x1 : Int64) (x3 : Int32) (M : Mem), q_Mo_flows_L2 kx50 post n x1 x3 M → G γ κ 4 (0, 0) (Gq γ κ (pV post)) 2 [(0, .ref (κ.1 + 56)), (1, .long x1), (3, .int x3)] [] M := by
  intro n
  induction n with
  | zero => intro x1 x3 M hq; exact hq.elim
  | succ n ih =>
    intro x1 x3 M hq
    unfold q_Mo_flows_L2 at hq
    refine G_iload_n C 2 d_Mo_flows_2 rfl rfl ?_
    refine G_aload_n C 0 d_Mo_flows_3 rfl rfl ?_
    refine Gg_Mo_edges C wd_522 d_Mo_flows_4 ?_
    refine G_icmp_ge C (tgt := 50) d_Mo_flows_7 (by decide) (fun c => ?_) (fun c => ?_)
    · replace hq := hq.1 c
      exact G_sub [] (by rfl) (hx50 _ hq)
    · replace hq := hq.2 c
      refine G_aload_n C 0 d_Mo_flows_10 rfl rfl ?_
      refine Gg_Mo_flow C wd_534 d_Mo_flows_11 ?_
      refine G_iload_n C 2 d_Mo_flows_14 rfl rfl ?_
      refine G_dup2 C d_Mo_flows_15 rfl rfl ?_
      refine G_laload C (k := 67) (by decide) (fun _ _ => rfl) hq.1 d_Mo_flows_16 ?_
      replace hq := hq.2
      refine G_lload_n C 1 d_Mo_flows_17 rfl rfl ?_
      refine G_aload_n C 0 d_Mo_flows_18 rfl rfl ?_
      refine Gg_Mo_height C wd_533 d_Mo_flows_19 ?_
      refine G_aload_n C 0 d_Mo_flows_22 rfl rfl ?_
      refine Gg_Mo_begin C wd_524 d_Mo_flows_23 ?_
      refine G_iload_n C 2 d_Mo_flows_26 rfl rfl ?_
      refine G_iaload C (k := 57) (by decide) (fun _ _ => rfl) hq.1 d_Mo_flows_27 ?_
      replace hq := hq.2
      refine G_laload C (k := 66) (by decide) (fun _ _ => rfl) hq.1 d_Mo_flows_28 ?_
      replace hq := hq.2
      refine G_aload_n C 0 d_Mo_flows_29 rfl rfl ?_
      refine Gg_Mo_height C wd_533 d_Mo_flows_30 ?_
      refine G_aload_n C 0 d_Mo_flows_33 rfl rfl ?_
      refine Gg_Mo_end C wd_525 d_Mo_flows_34 ?_
      refine G_iload_n C 2 d_Mo_flows_37 rfl rfl ?_
      refine G_iaload C (k := 58) (by decide) (fun _ _ => rfl) hq.1 d_Mo_flows_38 ?_
      replace hq := hq.2
      refine G_laload C (k := 66) (by decide) (fun _ _ => rfl) hq.1 d_Mo_flows_39 ?_
      replace hq := hq.2
      refine G_lsub C d_Mo_flows_40 ?_
      refine G_lmul C d_Mo_flows_41 ?_
      refine G_ladd C d_Mo_flows_42 ?_
      refine G_lastore C (k := 67) (by decide) (fun _ _ => rfl) hq.1 d_Mo_flows_43 ?_
      replace hq := hq.2 _ rfl
      refine G_iinc C (v := _ + 1) (lv' := [(3, _), (0, _), (1, _)]) 2 d_Mo_flows_44 rfl rfl (by decide) rfl ?_
      refine G_goto C (tgt := 2) d_Mo_flows_47 (by decide) ?_
      exact G_sub [1, 2, 0] (by rfl) (ih _ _ _ hq)
def q_Mo_flows (a1 : Int64) (M : Mem) (post : Mem → Prop) : Prop := ∃ n2, q_Mo_flows_L2 (fun M3 => post M3) post n2 a1 (0 : Int32) M
set_option maxHeartbeats 4000000 in
theorem s_Mo_flows {l : Launch} {κ : Kp} {a1 : Int64} {M : Mem} {post : Mem → Prop} (hq : q_Mo_flows a1 M post) : Ct l κ y_Mo_flows b_Mo_flows 4 (none) 0 [.ref (κ.1 + 56), .long a1] M (pV post) := by
  refine Ct_of (by decide) (Nat.le_of_ble_eq_true rfl) (fun γ hγ C R => ?_)
  subst hγ
  unfold q_Mo_flows at hq
  show G γ κ 4 (0, 0) (Gq γ κ (pV post)) 0 [(0, .ref (κ.1 + 56)), (1, .long a1)] [] M
  refine G_iconst C (v := 0) d_Mo_flows_0 (by decide) ?_
  refine G_istore_n C (lv' := [(3, _), (0, _), (1, _)]) d_Mo_flows_1 rfl (by decide) rfl ?_
  obtain ⟨n2, hq⟩ := hq
  refine G_sub [1, 2, 0] (by rfl) (s_Mo_flows_L2 C R ?_ n2 _ _ _ hq)
  · intro M3 hq
    exact G_vret C R d_Mo_flows_50 ⟨rfl, hq⟩
theorem d_Mo_rises_0 : decode b_Mo_rises 0 = .ok (.iconst 0, 1) := by decide +kernel
theorem d_Mo_rises_1 : decode b_Mo_rises 1 = .ok (.istore_n 3, 1) := by decide +kernel
theorem d_Mo_rises_2 : decode b_Mo_rises 2 = .ok (.iload_n 3, 1) := by decide +kernel
theorem d_Mo_rises_3 : decode b_Mo_rises 3 = .ok (.aload_n 0, 1) := by decide +kernel
theorem d_Mo_rises_4 : decode b_Mo_rises 4 = .ok (.getfield 79, 3) := by decide +kernel
theorem d_Mo_rises_7 : decode b_Mo_rises 7 = .ok (.if_icmp .ge 53, 3) := by decide +kernel
theorem d_Mo_rises_10 : decode b_Mo_rises 10 = .ok (.aload_n 0, 1) := by decide +kernel
theorem d_Mo_rises_11 : decode b_Mo_rises 11 = .ok (.getfield 42, 3) := by decide +kernel
theorem d_Mo_rises_14 : decode b_Mo_rises 14 = .ok (.aload_n 0, 1) := by decide +kernel
theorem d_Mo_rises_15 : decode b_Mo_rises 15 = .ok (.getfield 17, 3) := by decide +kernel
theorem d_Mo_rises_18 : decode b_Mo_rises 18 = .ok (.iload_n 3, 1) := by decide +kernel
theorem d_Mo_rises_19 : decode b_Mo_rises 19 = .ok (.iaload, 1) := by decide +kernel
theorem d_Mo_rises_20 : decode b_Mo_rises 20 = .ok (.dup2, 1) := by decide +kernel
theorem d_Mo_rises_21 : decode b_Mo_rises 21 = .ok (.laload, 1) := by decide +kernel
theorem d_Mo_rises_22 : decode b_Mo_rises 22 = .ok (.lload_n 1, 1) := by decide +kernel
theorem d_Mo_rises_23 : decode b_Mo_rises 23 = .ok (.aload_n 0, 1) := by decide +kernel
theorem d_Mo_rises_24 : decode b_Mo_rises 24 = .ok (.getfield 46, 3) := by decide +kernel
theorem d_Mo_rises_27 : decode b_Mo_rises 27 = .ok (.iload_n 3, 1) := by decide +kernel
theorem d_Mo_rises_28 : decode b_Mo_rises 28 = .ok (.laload, 1) := by decide +kernel
theorem d_Mo_rises_29 : decode b_Mo_rises 29 = .ok (.lmul, 1) := by decide +kernel
theorem d_Mo_rises_30 : decode b_Mo_rises 30 = .ok (.ladd, 1) := by decide +kernel
theorem d_Mo_rises_31 : decode b_Mo_rises 31 = .ok (.lastore, 1) := by decide +kernel
theorem d_Mo_rises_32 : decode b_Mo_rises 32 = .ok (.aload_n 0, 1) := by decide +kernel
theorem d_Mo_rises_33 : decode b_Mo_rises 33 = .ok (.getfield 42, 3) := by decide +kernel
theorem d_Mo_rises_36 : decode b_Mo_rises 36 = .ok (.aload_n 0, 1) := by decide +kernel
theorem d_Mo_rises_37 : decode b_Mo_rises 37 = .ok (.getfield 13, 3) := by decide +kernel
theorem d_Mo_rises_40 : decode b_Mo_rises 40 = .ok (.iload_n 3, 1) := by decide +kernel
theorem d_Mo_rises_41 : decode b_Mo_rises 41 = .ok (.iaload, 1) := by decide +kernel
theorem d_Mo_rises_42 : decode b_Mo_rises 42 = .ok (.dup2, 1) := by decide +kernel
theorem d_Mo_rises_43 : decode b_Mo_rises 43 = .ok (.laload, 1) := by decide +kernel
theorem d_Mo_rises_44 : decode b_Mo_rises 44 = .ok (.lload_n 1, 1) := by decide +kernel
theorem d_Mo_rises_45 : decode b_Mo_rises 45 = .ok (.aload_n 0, 1) := by decide +kernel
theorem d_Mo_rises_46 : decode b_Mo_rises 46 = .ok (.getfield 46, 3) := by decide +kernel
theorem d_Mo_rises_49 : decode b_Mo_rises 49 = .ok (.iload_n 3, 1) := by decide +kernel
theorem d_Mo_rises_50 : decode b_Mo_rises 50 = .ok (.laload, 1) := by decide +kernel
theorem d_Mo_rises_51 : decode b_Mo_rises 51 = .ok (.lmul, 1) := by decide +kernel
theorem d_Mo_rises_52 : decode b_Mo_rises 52 = .ok (.lsub, 1) := by decide +kernel
theorem d_Mo_rises_53 : decode b_Mo_rises 53 = .ok (.lastore, 1) := by decide +kernel
theorem d_Mo_rises_54 : decode b_Mo_rises 54 = .ok (.iinc 3 1, 3) := by decide +kernel
theorem d_Mo_rises_57 : decode b_Mo_rises 57 = .ok (.goto (-55), 3) := by decide +kernel
theorem d_Mo_rises_60 : decode b_Mo_rises 60 = .ok (.return_, 1) := by decide +kernel
def q_Mo_rises_L2 (kx60 : Mem → Prop) (post : Mem → Prop) : Nat → Int64 → Int32 → Mem → Prop
  | 0, _, _, _ => False
  | n + 1, x1, x3, M => ((M.1 56 1) ≤ x3 → kx60 M) ∧ (¬ (M.1 56 1) ≤ x3 → vp_in x3 12 ∧ (vp_in (M.1 58 x3.toNatClampNeg) 6 ∧ (vp_in x3 12 ∧ (vp_in (M.1 58 x3.toNatClampNeg) 6 ∧ (∀ M1, M1 = wJ M 66 (M.1 58 x3.toNatClampNeg).toNatClampNeg ((M.2 66 (M.1 58 x3.toNatClampNeg).toNatClampNeg) + (x1 * (M.2 67 x3.toNatClampNeg))) → vp_in x3 12 ∧ (vp_in (M1.1 57 x3.toNatClampNeg) 6 ∧ (vp_in x3 12 ∧ (vp_in (M1.1 57 x3.toNatClampNeg) 6 ∧ (∀ M2, M2 = wJ M1 66 (M1.1 57 x3.toNatClampNeg).toNatClampNeg ((M1.2 66 (M1.1 57 x3.toNatClampNeg).toNatClampNeg) - (x1 * (M1.2 67 x3.toNatClampNeg))) → q_Mo_rises_L2 kx60 post n x1 (x3 + 1) M2)))))))))
set_option maxHeartbeats 4000000 in
theorem s_Mo_rises_L2 {γ : Gm} {κ : Kp} {post : Mem → Prop} {kx60 : Mem → Prop} (C : Cx γ κ "NetFormsModel" b_Mo_rises 4 0 (0, 0)) (R : Rt γ (none)) (hx60 : ∀ M', kx60 M' → G γ κ 4 (0, 0) (Gq γ κ (pV post)) 60 [] [] M') : ∀ (n : Nat) (x1 : Int64) (x3 : Int32) (M : Mem), q_Mo_rises_L2 kx60 post n x1 x3 M → G γ κ 4 (0, 0) (Gq γ κ (pV post)) 2 [(0, .ref (κ.1 + 56)), (1, .long x1), (3, .int x3)] [] M := by
  intro n
  induction n with
  | zero => intro x1 x3 M hq; exact hq.elim
  | succ n ih =>
    intro x1 x3 M hq
    unfold q_Mo_rises_L2 at hq
    refine G_iload_n C 2 d_Mo_rises_2 rfl rfl ?_
    refine G_aload_n C 0 d_Mo_rises_3 rfl rfl ?_
    refine Gg_Mo_edges C wd_522 d_Mo_rises_4 ?_
    refine G_icmp_ge C (tgt := 60) d_Mo_rises_7 (by decide) (fun c => ?_) (fun c => ?_)
    · replace hq := hq.1 c
      exact G_sub [] (by rfl) (hx60 _ hq)
    · replace hq := hq.2 c
      refine G_aload_n C 0 d_Mo_rises_10 rfl rfl ?_
      refine Gg_Mo_height C wd_533 d_Mo_rises_11 ?_
      refine G_aload_n C 0 d_Mo_rises_14 rfl rfl ?_
      refine Gg_Mo_end C wd_525 d_Mo_rises_15 ?_
      refine G_iload_n C 2 d_Mo_rises_18 rfl rfl ?_
      refine G_iaload C (k := 58) (by decide) (fun _ _ => rfl) hq.1 d_Mo_rises_19 ?_
      replace hq := hq.2
      refine G_dup2 C d_Mo_rises_20 rfl rfl ?_
      refine G_laload C (k := 66) (by decide) (fun _ _ => rfl) hq.1 d_Mo_rises_21 ?_
      replace hq := hq.2
      refine G_lload_n C 1 d_Mo_rises_22 rfl rfl ?_
      refine G_aload_n C 0 d_Mo_rises_23 rfl rfl ?_
      refine Gg_Mo_flow C wd_534 d_Mo_rises_24 ?_
      refine G_iload_n C 2 d_Mo_rises_27 rfl rfl ?_
      refine G_laload C (k := 67) (by decide) (fun _ _ => rfl) hq.1 d_Mo_rises_28 ?_
      replace hq := hq.2
      refine G_lmul C d_Mo_rises_29 ?_
      refine G_ladd C d_Mo_rises_30 ?_
      refine G_lastore C (k := 66) (by decide) (fun _ _ => rfl) hq.1 d_Mo_rises_31 ?_
      replace hq := hq.2 _ rfl
      refine G_aload_n C 0 d_Mo_rises_32 rfl rfl ?_
      refine Gg_Mo_height C wd_533 d_Mo_rises_33 ?_
      refine G_aload_n C 0 d_Mo_rises_36 rfl rfl ?_
      refine Gg_Mo_begin C wd_524 d_Mo_rises_37 ?_
      refine G_iload_n C 2 d_Mo_rises_40 rfl rfl ?_
      refine G_iaload C (k := 57) (by decide) (fun _ _ => rfl) hq.1 d_Mo_rises_41 ?_
      replace hq := hq.2
      refine G_dup2 C d_Mo_rises_42 rfl rfl ?_
      refine G_laload C (k := 66) (by decide) (fun _ _ => rfl) hq.1 d_Mo_rises_43 ?_
      replace hq := hq.2
      refine G_lload_n C 1 d_Mo_rises_44 rfl rfl ?_
      refine G_aload_n C 0 d_Mo_rises_45 rfl rfl ?_
      refine Gg_Mo_flow C wd_534 d_Mo_rises_46 ?_
      refine G_iload_n C 2 d_Mo_rises_49 rfl rfl ?_
      refine G_laload C (k := 67) (by decide) (fun _ _ => rfl) hq.1 d_Mo_rises_50 ?_
      replace hq := hq.2
      refine G_lmul C d_Mo_rises_51 ?_
      refine G_lsub C d_Mo_rises_52 ?_
      refine G_lastore C (k := 66) (by decide) (fun _ _ => rfl) hq.1 d_Mo_rises_53 ?_
      replace hq := hq.2 _ rfl
      refine G_iinc C (v := _ + 1) (lv' := [(3, _), (0, _), (1, _)]) 2 d_Mo_rises_54 rfl rfl (by decide) rfl ?_
      refine G_goto C (tgt := 2) d_Mo_rises_57 (by decide) ?_
      exact G_sub [1, 2, 0] (by rfl) (ih _ _ _ hq)
def q_Mo_rises (a1 : Int64) (M : Mem) (post : Mem → Prop) : Prop := ∃ n3, q_Mo_rises_L2 (fun M4 => post M4) post n3 a1 (0 : Int32) M
set_option maxHeartbeats 4000000 in
theorem s_Mo_rises {l : Launch} {κ : Kp} {a1 : Int64} {M : Mem} {post : Mem → Prop} (hq : q_Mo_rises a1 M post) : Ct l κ y_Mo_rises b_Mo_rises 4 (none) 0 [.ref (κ.1 + 56), .long a1] M (pV post) := by
  refine Ct_of (by decide) (Nat.le_of_ble_eq_true rfl) (fun γ hγ C R => ?_)
  subst hγ
  unfold q_Mo_rises at hq
  show G γ κ 4 (0, 0) (Gq γ κ (pV post)) 0 [(0, .ref (κ.1 + 56)), (1, .long a1)] [] M
  refine G_iconst C (v := 0) d_Mo_rises_0 (by decide) ?_
  refine G_istore_n C (lv' := [(3, _), (0, _), (1, _)]) d_Mo_rises_1 rfl (by decide) rfl ?_
  obtain ⟨n3, hq⟩ := hq
  refine G_sub [1, 2, 0] (by rfl) (s_Mo_rises_L2 C R ?_ n3 _ _ _ hq)
  · intro M4 hq
    exact G_vret C R d_Mo_rises_60 ⟨rfl, hq⟩
theorem d_Mo_sum_0 : decode b_Mo_sum 0 = .ok (.lconst 0, 1) := by decide +kernel
theorem d_Mo_sum_1 : decode b_Mo_sum 1 = .ok (.lstore_n 1, 1) := by decide +kernel
theorem d_Mo_sum_2 : decode b_Mo_sum 2 = .ok (.iconst 0, 1) := by decide +kernel
theorem d_Mo_sum_3 : decode b_Mo_sum 3 = .ok (.istore_n 3, 1) := by decide +kernel
theorem d_Mo_sum_4 : decode b_Mo_sum 4 = .ok (.iload_n 3, 1) := by decide +kernel
theorem d_Mo_sum_5 : decode b_Mo_sum 5 = .ok (.aload_n 0, 1) := by decide +kernel
theorem d_Mo_sum_6 : decode b_Mo_sum 6 = .ok (.getfield 7, 3) := by decide +kernel
theorem d_Mo_sum_9 : decode b_Mo_sum 9 = .ok (.if_icmp .ge 18, 3) := by decide +kernel
theorem d_Mo_sum_12 : decode b_Mo_sum 12 = .ok (.lload_n 1, 1) := by decide +kernel
theorem d_Mo_sum_13 : decode b_Mo_sum 13 = .ok (.aload_n 0, 1) := by decide +kernel
theorem d_Mo_sum_14 : decode b_Mo_sum 14 = .ok (.getfield 42, 3) := by decide +kernel
theorem d_Mo_sum_17 : decode b_Mo_sum 17 = .ok (.iload_n 3, 1) := by decide +kernel
theorem d_Mo_sum_18 : decode b_Mo_sum 18 = .ok (.laload, 1) := by decide +kernel
theorem d_Mo_sum_19 : decode b_Mo_sum 19 = .ok (.ladd, 1) := by decide +kernel
theorem d_Mo_sum_20 : decode b_Mo_sum 20 = .ok (.lstore_n 1, 1) := by decide +kernel
theorem d_Mo_sum_21 : decode b_Mo_sum 21 = .ok (.iinc 3 1, 3) := by decide +kernel
theorem d_Mo_sum_24 : decode b_Mo_sum 24 = .ok (.goto (-20), 3) := by decide +kernel
theorem d_Mo_sum_27 : decode b_Mo_sum 27 = .ok (.lload_n 1, 1) := by decide +kernel
theorem d_Mo_sum_28 : decode b_Mo_sum 28 = .ok (.lreturn, 1) := by decide +kernel
def q_Mo_sum_L4 (kx27 : Int64 → Mem → Prop) (post : Int64 → Mem → Prop) : Nat → Int64 → Int32 → Mem → Prop
  | 0, _, _, _ => False
  | n + 1, x1, x3, M => ((M.1 56 0) ≤ x3 → kx27 x1 M) ∧ (¬ (M.1 56 0) ≤ x3 → vp_in x3 6 ∧ (q_Mo_sum_L4 kx27 post n (x1 + (M.2 66 x3.toNatClampNeg)) (x3 + 1) M))
set_option maxHeartbeats 4000000 in
theorem s_Mo_sum_L4 {γ : Gm} {κ : Kp} {post : Int64 → Mem → Prop} {kx27 : Int64 → Mem → Prop} (C : Cx γ κ "NetFormsModel" b_Mo_sum 4 0 (0, 0)) (R : Rt γ (some .long)) (hx27 : ∀ y0 M', kx27 y0 M' → G γ κ 4 (0, 0) (Gq γ κ (pJ post)) 27 [(1, .long y0)] [] M') : ∀ (n : Nat) (x1 : Int64) (x3 : Int32) (M : Mem), q_Mo_sum_L4 kx27 post n x1 x3 M → G γ κ 4 (0, 0) (Gq γ κ (pJ post)) 4 [(0, .ref (κ.1 + 56)), (1, .long x1), (3, .int x3)] [] M := by
  intro n
  induction n with
  | zero => intro x1 x3 M hq; exact hq.elim
  | succ n ih =>
    intro x1 x3 M hq
    unfold q_Mo_sum_L4 at hq
    refine G_iload_n C 2 d_Mo_sum_4 rfl rfl ?_
    refine G_aload_n C 0 d_Mo_sum_5 rfl rfl ?_
    refine Gg_Mo_points C wd_521 d_Mo_sum_6 ?_
    refine G_icmp_ge C (tgt := 27) d_Mo_sum_9 (by decide) (fun c => ?_) (fun c => ?_)
    · replace hq := hq.1 c
      exact G_sub [1] (by rfl) (hx27 _ _ hq)
    · replace hq := hq.2 c
      refine G_lload_n C 1 d_Mo_sum_12 rfl rfl ?_
      refine G_aload_n C 0 d_Mo_sum_13 rfl rfl ?_
      refine Gg_Mo_height C wd_533 d_Mo_sum_14 ?_
      refine G_iload_n C 2 d_Mo_sum_17 rfl rfl ?_
      refine G_laload C (k := 66) (by decide) (fun _ _ => rfl) hq.1 d_Mo_sum_18 ?_
      replace hq := hq.2
      refine G_ladd C d_Mo_sum_19 ?_
      refine G_lstore_n C (lv' := [(1, _), (0, _), (3, _)]) d_Mo_sum_20 rfl (by decide) rfl ?_
      refine G_iinc C (v := _ + 1) (lv' := [(3, _), (1, _), (0, _)]) 2 d_Mo_sum_21 rfl rfl (by decide) rfl ?_
      refine G_goto C (tgt := 4) d_Mo_sum_24 (by decide) ?_
      exact G_sub [2, 1, 0] (by rfl) (ih _ _ _ hq)
def q_Mo_sum (M : Mem) (post : Int64 → Mem → Prop) : Prop := ∃ n1, q_Mo_sum_L4 (fun x2 M3 => post x2 M3) post n1 (0 : Int64) (0 : Int32) M
set_option maxHeartbeats 4000000 in
theorem s_Mo_sum {l : Launch} {κ : Kp} {M : Mem} {post : Int64 → Mem → Prop} (hq : q_Mo_sum M post) : Ct l κ y_Mo_sum b_Mo_sum 4 (some .long) 0 [.ref (κ.1 + 56)] M (pJ post) := by
  refine Ct_of (by decide) (Nat.le_of_ble_eq_true rfl) (fun γ hγ C R => ?_)
  subst hγ
  unfold q_Mo_sum at hq
  show G γ κ 4 (0, 0) (Gq γ κ (pJ post)) 0 [(0, .ref (κ.1 + 56))] [] M
  refine G_lconst C (v := 0) d_Mo_sum_0 (by decide) ?_
  refine G_lstore_n C (lv' := [(1, _), (0, _)]) d_Mo_sum_1 rfl (by decide) rfl ?_
  refine G_iconst C (v := 0) d_Mo_sum_2 (by decide) ?_
  refine G_istore_n C (lv' := [(3, _), (1, _), (0, _)]) d_Mo_sum_3 rfl (by decide) rfl ?_
  obtain ⟨n1, hq⟩ := hq
  refine G_sub [2, 1, 0] (by rfl) (s_Mo_sum_L4 C R ?_ n1 _ _ _ hq)
  · intro x2 M3 hq
    refine G_lload_n C 0 d_Mo_sum_27 rfl rfl ?_
    exact G_lret C R d_Mo_sum_28 ⟨_, rfl, hq⟩
theorem d_Frm_begin_0 : decode b_Frm_begin 0 = .ok (.aload_n 0, 1) := by decide +kernel
theorem d_Frm_begin_1 : decode b_Frm_begin 1 = .ok (.iload_n 1, 1) := by decide +kernel
theorem d_Frm_begin_2 : decode b_Frm_begin 2 = .ok (.putfield 15, 3) := by decide +kernel
theorem d_Frm_begin_5 : decode b_Frm_begin 5 = .ok (.aload_n 0, 1) := by decide +kernel
theorem d_Frm_begin_6 : decode b_Frm_begin 6 = .ok (.getfield 9, 3) := by decide +kernel
theorem d_Frm_begin_9 : decode b_Frm_begin 9 = .ok (.iconst 0, 1) := by decide +kernel
theorem d_Frm_begin_10 : decode b_Frm_begin 10 = .ok (.invokestatic 19, 3) := by decide +kernel
theorem d_Frm_begin_13 : decode b_Frm_begin 13 = .ok (.return_, 1) := by decide +kernel
def q_Frm_begin (f0 : Nat) (a1 : Int32) (M : Mem) (post : Mem → Prop) : Prop := ∀ M1, M1 = wI M (32 + 2 * f0) 0 a1 → q_Arr_fill_IIV (33 + 2 * f0) 12 (0 : Int32) M1 (fun M2 => post M2)
set_option maxHeartbeats 4000000 in
theorem s_Frm_begin {l : Launch} {κ : Kp} {f0 : Nat} {a1 : Int32} {M : Mem} {post : Mem → Prop} (h_f0 : f0 < 12) (hq : q_Frm_begin f0 a1 M post) : Ct l κ y_Frm_begin b_Frm_begin 2 (none) 1 [.ref (κ.1 + (32 + 2 * f0)), .int a1] M (pV post) := by
  refine Ct_of (by decide) (Nat.le_of_ble_eq_true rfl) (fun γ hγ C R => ?_)
  subst hγ
  unfold q_Frm_begin at hq
  show G γ κ 2 (0, 0) (Gq γ κ (pV post)) 0 [(0, .ref (κ.1 + (32 + 2 * f0))), (1, .int a1)] [] M
  refine G_aload_n C 0 d_Frm_begin_0 rfl rfl ?_
  refine G_iload_n C 1 d_Frm_begin_1 rfl rfl ?_
  refine Gp_Frm_degree C h_f0 wd_149 d_Frm_begin_2 ?_
  replace hq := hq _ rfl
  refine G_aload_n C 0 d_Frm_begin_5 rfl rfl ?_
  refine Gg_Frm_numbers C h_f0 wd_151 d_Frm_begin_6 ?_
  refine G_iconst C (v := 0) d_Frm_begin_9 (by decide) ?_
  refine G_callS C (s_Arr_fill_IIV (by have := h_f0; omega) (sh_formA κ h_f0) hq) v_Arr_fill_IIV z_Arr_fill_IIV wd_193 (by decide) rfl (rest := []) (by rfl) (Nat.le_of_ble_eq_true rfl) d_Frm_begin_10 (kv_ (fun M2 hq => ?_))
  exact G_vret C R d_Frm_begin_13 ⟨rfl, hq⟩
theorem d_Wav_begin_0 : decode b_Wav_begin 0 = .ok (.aload_n 0, 1) := by decide +kernel
theorem d_Wav_begin_1 : decode b_Wav_begin 1 = .ok (.iconst 0, 1) := by decide +kernel
theorem d_Wav_begin_2 : decode b_Wav_begin 2 = .ok (.putfield 18, 3) := by decide +kernel
theorem d_Wav_begin_5 : decode b_Wav_begin 5 = .ok (.aload_n 0, 1) := by decide +kernel
theorem d_Wav_begin_6 : decode b_Wav_begin 6 = .ok (.getfield 9, 3) := by decide +kernel
theorem d_Wav_begin_9 : decode b_Wav_begin 9 = .ok (.lconst 0, 1) := by decide +kernel
theorem d_Wav_begin_10 : decode b_Wav_begin 10 = .ok (.invokestatic 22, 3) := by decide +kernel
theorem d_Wav_begin_13 : decode b_Wav_begin 13 = .ok (.aload_n 0, 1) := by decide +kernel
theorem d_Wav_begin_14 : decode b_Wav_begin 14 = .ok (.getfield 15, 3) := by decide +kernel
theorem d_Wav_begin_17 : decode b_Wav_begin 17 = .ok (.lconst 0, 1) := by decide +kernel
theorem d_Wav_begin_18 : decode b_Wav_begin 18 = .ok (.invokestatic 22, 3) := by decide +kernel
theorem d_Wav_begin_21 : decode b_Wav_begin 21 = .ok (.return_, 1) := by decide +kernel
def q_Wav_begin (M : Mem) (post : Mem → Prop) : Prop := ∀ M1, M1 = wI M 12 0 (0 : Int32) → q_Arr_fill_JJV 13 6 (0 : Int64) M1 (fun M2 => q_Arr_fill_JJV 14 12 (0 : Int64) M2 (fun M3 => post M3))
set_option maxHeartbeats 4000000 in
theorem s_Wav_begin {l : Launch} {κ : Kp} {M : Mem} {post : Mem → Prop} (hq : q_Wav_begin M post) : Ct l κ y_Wav_begin b_Wav_begin 1 (none) 1 [.ref (κ.1 + 12)] M (pV post) := by
  refine Ct_of (by decide) (Nat.le_of_ble_eq_true rfl) (fun γ hγ C R => ?_)
  subst hγ
  unfold q_Wav_begin at hq
  show G γ κ 1 (0, 0) (Gq γ κ (pV post)) 0 [(0, .ref (κ.1 + 12))] [] M
  refine G_aload_n C 0 d_Wav_begin_0 rfl rfl ?_
  refine G_iconst C (v := 0) d_Wav_begin_1 (by decide) ?_
  refine Gp_Wav_steps C wd_91 d_Wav_begin_2 ?_
  replace hq := hq _ rfl
  refine G_aload_n C 0 d_Wav_begin_5 rfl rfl ?_
  refine Gg_Wav_levels C wd_93 d_Wav_begin_6 ?_
  refine G_lconst C (v := 0) d_Wav_begin_9 (by decide) ?_
  refine G_callS C (s_Arr_fill_JJV (by decide) (fun _ _ => rfl) hq) v_Arr_fill_JJV z_Arr_fill_JJV wd_204 (by decide) rfl (rest := []) (by rfl) (Nat.le_of_ble_eq_true rfl) d_Wav_begin_10 (kv_ (fun M2 hq => ?_))
  refine G_aload_n C 0 d_Wav_begin_13 rfl rfl ?_
  refine Gg_Wav_flows C wd_95 d_Wav_begin_14 ?_
  refine G_lconst C (v := 0) d_Wav_begin_17 (by decide) ?_
  refine G_callS C (s_Arr_fill_JJV (by decide) (fun _ _ => rfl) hq) v_Arr_fill_JJV z_Arr_fill_JJV wd_204 (by decide) rfl (rest := []) (by rfl) (Nat.le_of_ble_eq_true rfl) d_Wav_begin_18 (kv_ (fun M3 hq => ?_))
  exact G_vret C R d_Wav_begin_21 ⟨rfl, hq⟩
theorem d_Net_has_0 : decode b_Net_has 0 = .ok (.iload_n 2, 1) := by decide +kernel
theorem d_Net_has_1 : decode b_Net_has 1 = .ok (.ifCond .lt 16, 3) := by decide +kernel
theorem d_Net_has_4 : decode b_Net_has 4 = .ok (.iload_n 2, 1) := by decide +kernel
theorem d_Net_has_5 : decode b_Net_has 5 = .ok (.aload_n 0, 1) := by decide +kernel
theorem d_Net_has_6 : decode b_Net_has 6 = .ok (.iload_n 1, 1) := by decide +kernel
theorem d_Net_has_7 : decode b_Net_has 7 = .ok (.invokevirtual 40, 3) := by decide +kernel
theorem d_Net_has_10 : decode b_Net_has 10 = .ok (.if_icmp .ge 7, 3) := by decide +kernel
theorem d_Net_has_13 : decode b_Net_has 13 = .ok (.iconst 1, 1) := by decide +kernel
theorem d_Net_has_14 : decode b_Net_has 14 = .ok (.goto 4, 3) := by decide +kernel
theorem d_Net_has_17 : decode b_Net_has 17 = .ok (.iconst 0, 1) := by decide +kernel
theorem d_Net_has_18 : decode b_Net_has 18 = .ok (.ireturn, 1) := by decide +kernel
def q_Net_has (a1 : Int32) (a2 : Int32) (M : Mem) (post : Int32 → Mem → Prop) : Prop := (a2 < 0 → post (0 : Int32) M) ∧ (¬ a2 < 0 → q_Net_size a1 M (fun r2 M1 => (r2 ≤ a2 → post (0 : Int32) M1) ∧ (¬ r2 ≤ a2 → post (1 : Int32) M1)))
set_option maxHeartbeats 4000000 in
theorem s_Net_has {l : Launch} {κ : Kp} {a1 : Int32} {a2 : Int32} {M : Mem} {post : Int32 → Mem → Prop} (hq : q_Net_has a1 a2 M post) : Ct l κ y_Net_has b_Net_has 3 (some .boolean) 1 [.ref (κ.1 + 1), .int a1, .int a2] M (pI post) := by
  refine Ct_of (by decide) (Nat.le_of_ble_eq_true rfl) (fun γ hγ C R => ?_)
  subst hγ
  unfold q_Net_has at hq
  show G γ κ 3 (0, 0) (Gq γ κ (pI post)) 0 [(0, .ref (κ.1 + 1)), (1, .int a1), (2, .int a2)] [] M
  refine G_iload_n C 2 d_Net_has_0 rfl rfl ?_
  refine G_if_lt C (tgt := 17) d_Net_has_1 (by decide) (fun c => ?_) (fun c => ?_)
  · replace hq := hq.1 c
    refine G_iconst C (v := 0) d_Net_has_17 (by decide) ?_
    exact G_zret C R rfl d_Net_has_18 ⟨_, rfl, hq⟩
  · replace hq := hq.2 c
    refine G_iload_n C 2 d_Net_has_4 rfl rfl ?_
    refine G_aload_n C 0 d_Net_has_5 rfl rfl ?_
    refine G_iload_n C 1 d_Net_has_6 rfl rfl ?_
    refine G_callV C (s_Net_size hq) v_Net_size i_Net_size z_Net_size wd_215 (by decide) rfl (k := 1) (ci := 3) (by decide) rfl rfl rfl (rest := [_]) (by rfl) (Nat.le_of_ble_eq_true rfl) d_Net_has_7 (ki_ (fun r2 M1 hq => ?_))
    refine G_icmp_ge C (tgt := 17) d_Net_has_10 (by decide) (fun c => ?_) (fun c => ?_)
    · replace hq := hq.1 c
      refine G_iconst C (v := 0) d_Net_has_17 (by decide) ?_
      exact G_zret C R rfl d_Net_has_18 ⟨_, rfl, hq⟩
    · replace hq := hq.2 c
      refine G_iconst C (v := 1) d_Net_has_13 (by decide) ?_
      refine G_goto C (tgt := 18) d_Net_has_14 (by decide) ?_
      exact G_zret C R rfl d_Net_has_18 ⟨_, rfl, hq⟩
theorem d_Net_addEdge_0 : decode b_Net_addEdge 0 = .ok (.aload_n 0, 1) := by decide +kernel
theorem d_Net_addEdge_1 : decode b_Net_addEdge 1 = .ok (.getfield 9, 3) := by decide +kernel
theorem d_Net_addEdge_4 : decode b_Net_addEdge 4 = .ok (.aload_n 0, 1) := by decide +kernel
theorem d_Net_addEdge_5 : decode b_Net_addEdge 5 = .ok (.getfield 34, 3) := by decide +kernel
theorem d_Net_addEdge_8 : decode b_Net_addEdge 8 = .ok (.iload_n 1, 1) := by decide +kernel
theorem d_Net_addEdge_9 : decode b_Net_addEdge 9 = .ok (.iastore, 1) := by decide +kernel
theorem d_Net_addEdge_10 : decode b_Net_addEdge 10 = .ok (.aload_n 0, 1) := by decide +kernel
theorem d_Net_addEdge_11 : decode b_Net_addEdge 11 = .ok (.getfield 15, 3) := by decide +kernel
theorem d_Net_addEdge_14 : decode b_Net_addEdge 14 = .ok (.aload_n 0, 1) := by decide +kernel
theorem d_Net_addEdge_15 : decode b_Net_addEdge 15 = .ok (.getfield 34, 3) := by decide +kernel
theorem d_Net_addEdge_18 : decode b_Net_addEdge 18 = .ok (.iload_n 2, 1) := by decide +kernel
theorem d_Net_addEdge_19 : decode b_Net_addEdge 19 = .ok (.iastore, 1) := by decide +kernel
theorem d_Net_addEdge_20 : decode b_Net_addEdge 20 = .ok (.aload_n 0, 1) := by decide +kernel
theorem d_Net_addEdge_21 : decode b_Net_addEdge 21 = .ok (.getfield 27, 3) := by decide +kernel
theorem d_Net_addEdge_24 : decode b_Net_addEdge 24 = .ok (.iload_n 1, 1) := by decide +kernel
theorem d_Net_addEdge_25 : decode b_Net_addEdge 25 = .ok (.iaload, 1) := by decide +kernel
theorem d_Net_addEdge_26 : decode b_Net_addEdge 26 = .ok (.aload_n 0, 1) := by decide +kernel
theorem d_Net_addEdge_27 : decode b_Net_addEdge 27 = .ok (.getfield 27, 3) := by decide +kernel
theorem d_Net_addEdge_30 : decode b_Net_addEdge 30 = .ok (.iload_n 2, 1) := by decide +kernel
theorem d_Net_addEdge_31 : decode b_Net_addEdge 31 = .ok (.iaload, 1) := by decide +kernel
theorem d_Net_addEdge_32 : decode b_Net_addEdge 32 = .ok (.invokestatic 44, 3) := by decide +kernel
theorem d_Net_addEdge_35 : decode b_Net_addEdge 35 = .ok (.istore_n 3, 1) := by decide +kernel
theorem d_Net_addEdge_36 : decode b_Net_addEdge 36 = .ok (.aload_n 0, 1) := by decide +kernel
theorem d_Net_addEdge_37 : decode b_Net_addEdge 37 = .ok (.getfield 27, 3) := by decide +kernel
theorem d_Net_addEdge_40 : decode b_Net_addEdge 40 = .ok (.iload_n 1, 1) := by decide +kernel
theorem d_Net_addEdge_41 : decode b_Net_addEdge 41 = .ok (.iaload, 1) := by decide +kernel
theorem d_Net_addEdge_42 : decode b_Net_addEdge 42 = .ok (.aload_n 0, 1) := by decide +kernel
theorem d_Net_addEdge_43 : decode b_Net_addEdge 43 = .ok (.getfield 27, 3) := by decide +kernel
theorem d_Net_addEdge_46 : decode b_Net_addEdge 46 = .ok (.iload_n 2, 1) := by decide +kernel
theorem d_Net_addEdge_47 : decode b_Net_addEdge 47 = .ok (.iaload, 1) := by decide +kernel
theorem d_Net_addEdge_48 : decode b_Net_addEdge 48 = .ok (.invokestatic 50, 3) := by decide +kernel
theorem d_Net_addEdge_51 : decode b_Net_addEdge 51 = .ok (.istore 4, 2) := by decide +kernel
theorem d_Net_addEdge_53 : decode b_Net_addEdge 53 = .ok (.iconst 0, 1) := by decide +kernel
theorem d_Net_addEdge_54 : decode b_Net_addEdge 54 = .ok (.istore 5, 2) := by decide +kernel
theorem d_Net_addEdge_56 : decode b_Net_addEdge 56 = .ok (.iload 5, 2) := by decide +kernel
theorem d_Net_addEdge_58 : decode b_Net_addEdge 58 = .ok (.aload_n 0, 1) := by decide +kernel
theorem d_Net_addEdge_59 : decode b_Net_addEdge 59 = .ok (.getfield 30, 3) := by decide +kernel
theorem d_Net_addEdge_62 : decode b_Net_addEdge 62 = .ok (.if_icmp .ge 29, 3) := by decide +kernel
theorem d_Net_addEdge_65 : decode b_Net_addEdge 65 = .ok (.aload_n 0, 1) := by decide +kernel
theorem d_Net_addEdge_66 : decode b_Net_addEdge 66 = .ok (.getfield 27, 3) := by decide +kernel
theorem d_Net_addEdge_69 : decode b_Net_addEdge 69 = .ok (.iload 5, 2) := by decide +kernel
theorem d_Net_addEdge_71 : decode b_Net_addEdge 71 = .ok (.iaload, 1) := by decide +kernel
theorem d_Net_addEdge_72 : decode b_Net_addEdge 72 = .ok (.iload 4, 2) := by decide +kernel
theorem d_Net_addEdge_74 : decode b_Net_addEdge 74 = .ok (.if_icmp .ne 11, 3) := by decide +kernel
theorem d_Net_addEdge_77 : decode b_Net_addEdge 77 = .ok (.aload_n 0, 1) := by decide +kernel
theorem d_Net_addEdge_78 : decode b_Net_addEdge 78 = .ok (.getfield 27, 3) := by decide +kernel
theorem d_Net_addEdge_81 : decode b_Net_addEdge 81 = .ok (.iload 5, 2) := by decide +kernel
theorem d_Net_addEdge_83 : decode b_Net_addEdge 83 = .ok (.iload_n 3, 1) := by decide +kernel
theorem d_Net_addEdge_84 : decode b_Net_addEdge 84 = .ok (.iastore, 1) := by decide +kernel
theorem d_Net_addEdge_85 : decode b_Net_addEdge 85 = .ok (.iinc 5 1, 3) := by decide +kernel
theorem d_Net_addEdge_88 : decode b_Net_addEdge 88 = .ok (.goto (-32), 3) := by decide +kernel
theorem d_Net_addEdge_91 : decode b_Net_addEdge 91 = .ok (.aload_n 0, 1) := by decide +kernel
theorem d_Net_addEdge_92 : decode b_Net_addEdge 92 = .ok (.dup, 1) := by decide +kernel
theorem d_Net_addEdge_93 : decode b_Net_addEdge 93 = .ok (.getfield 34, 3) := by decide +kernel
theorem d_Net_addEdge_96 : decode b_Net_addEdge 96 = .ok (.dup_x1, 1) := by decide +kernel
theorem d_Net_addEdge_97 : decode b_Net_addEdge 97 = .ok (.iconst 1, 1) := by decide +kernel
theorem d_Net_addEdge_98 : decode b_Net_addEdge 98 = .ok (.iadd, 1) := by decide +kernel
theorem d_Net_addEdge_99 : decode b_Net_addEdge 99 = .ok (.putfield 34, 3) := by decide +kernel
theorem d_Net_addEdge_102 : decode b_Net_addEdge 102 = .ok (.ireturn, 1) := by decide +kernel
def q_Net_addEdge_L56 (kx91 : Mem → Prop) (post : Int32 → Mem → Prop) : Nat → Int32 → Int32 → Int32 → Mem → Prop
  | 0, _, _, _, _ => False
  | n + 1, x3, x4, x5, M => ((M.1 1 0) ≤ x5 → kx91 M) ∧ (¬ (M.1 1 0) ≤ x5 → vp_in x5 6 ∧ ((¬ (M.1 7 x5.toNatClampNeg) = x4 → q_Net_addEdge_L56 kx91 post n x3 x4 (x5 + 1) M) ∧ ((M.1 7 x5.toNatClampNeg) = x4 → vp_in x5 6 ∧ (∀ M5, M5 = wI M 7 x5.toNatClampNeg x3 → q_Net_addEdge_L56 kx91 post n x3 x4 (x5 + 1) M5))))
set_option maxHeartbeats 4000000 in
theorem s_Net_addEdge_L56 {γ : Gm} {κ : Kp} {post : Int32 → Mem → Prop} {kx91 : Mem → Prop} (C : Cx γ κ "NetForms$Net" b_Net_addEdge 6 1 (0, 0)) (R : Rt γ (some .int)) (hx91 : ∀ M', kx91 M' → G γ κ 6 (0, 0) (Gq γ κ (pI post)) 91 [(0, .ref (κ.1 + 1))] [] M') : ∀ (n : Nat) (x3 : Int32) (x4 : Int32) (x5 : Int32) (M : Mem), q_Net_addEdge_L56 kx91 post n x3 x4 x5 M → G γ κ 6 (0, 0) (Gq γ κ (pI post)) 56 [(0, .ref (κ.1 + 1)), (3, .int x3), (4, .int x4), (5, .int x5)] [] M := by
  intro n
  induction n with
  | zero => intro x3 x4 x5 M hq; exact hq.elim
  | succ n ih =>
    intro x3 x4 x5 M hq
    unfold q_Net_addEdge_L56 at hq
    refine G_iload C 3 d_Net_addEdge_56 rfl ?_
    refine G_aload_n C 0 d_Net_addEdge_58 rfl rfl ?_
    refine Gg_Net_points C wd_25 d_Net_addEdge_59 ?_
    refine G_icmp_ge C (tgt := 91) d_Net_addEdge_62 (by decide) (fun c => ?_) (fun c => ?_)
    · replace hq := hq.1 c
      exact G_sub [0] (by rfl) (hx91 _ hq)
    · replace hq := hq.2 c
      refine G_aload_n C 0 d_Net_addEdge_65 rfl rfl ?_
      refine Gg_Net_leasts C wd_45 d_Net_addEdge_66 ?_
      refine G_iload C 3 d_Net_addEdge_69 rfl ?_
      refine G_iaload C (k := 7) (by decide) (fun _ _ => rfl) hq.1 d_Net_addEdge_71 ?_
      replace hq := hq.2
      refine G_iload C 2 d_Net_addEdge_72 rfl ?_
      refine G_icmp_ne C (tgt := 85) d_Net_addEdge_74 (by decide) (fun c => ?_) (fun c => ?_)
      · replace hq := hq.1 c
        refine G_iinc C (v := _ + 1) (lv' := [(5, _), (0, _), (3, _), (4, _)]) 3 d_Net_addEdge_85 rfl rfl (by decide) rfl ?_
        refine G_goto C (tgt := 56) d_Net_addEdge_88 (by decide) ?_
        exact G_sub [1, 2, 3, 0] (by rfl) (ih _ _ _ _ hq)
      · replace hq := hq.2 c
        refine G_aload_n C 0 d_Net_addEdge_77 rfl rfl ?_
        refine Gg_Net_leasts C wd_45 d_Net_addEdge_78 ?_
        refine G_iload C 3 d_Net_addEdge_81 rfl ?_
        refine G_iload_n C 1 d_Net_addEdge_83 rfl rfl ?_
        refine G_iastore C (k := 7) (by decide) (fun _ _ => rfl) hq.1 d_Net_addEdge_84 ?_
        replace hq := hq.2 _ rfl
        refine G_iinc C (v := _ + 1) (lv' := [(5, _), (0, _), (3, _), (4, _)]) 3 d_Net_addEdge_85 rfl rfl (by decide) rfl ?_
        refine G_goto C (tgt := 56) d_Net_addEdge_88 (by decide) ?_
        exact G_sub [1, 2, 3, 0] (by rfl) (ih _ _ _ _ hq)
def q_Net_addEdge (a1 : Int32) (a2 : Int32) (M : Mem) (post : Int32 → Mem → Prop) : Prop := vp_in (M.1 1 1) 12 ∧ (∀ M1, M1 = wI M 2 (M.1 1 1).toNatClampNeg a1 → vp_in (M1.1 1 1) 12 ∧ (∀ M2, M2 = wI M1 3 (M1.1 1 1).toNatClampNeg a2 → vp_in a1 6 ∧ (vp_in a2 6 ∧ (∀ v3, v3 = (if (M2.1 7 a2.toNatClampNeg) < (M2.1 7 a1.toNatClampNeg) then (M2.1 7 a2.toNatClampNeg) else (M2.1 7 a1.toNatClampNeg)) → vp_in a1 6 ∧ (vp_in a2 6 ∧ (∀ v4, v4 = (if (M2.1 7 a1.toNatClampNeg) < (M2.1 7 a2.toNatClampNeg) then (M2.1 7 a2.toNatClampNeg) else (M2.1 7 a1.toNatClampNeg)) → ∃ n6, q_Net_addEdge_L56 (fun M7 => ∀ M8, M8 = wI M7 1 1 ((M7.1 1 1) + (1 : Int32)) → post (M7.1 1 1) M8) post n6 v3 v4 (0 : Int32) M2))))))
set_option maxHeartbeats 4000000 in
theorem s_Net_addEdge {l : Launch} {κ : Kp} {a1 : Int32} {a2 : Int32} {M : Mem} {post : Int32 → Mem → Prop} (hq : q_Net_addEdge a1 a2 M post) : Ct l κ y_Net_addEdge b_Net_addEdge 6 (some .int) 1 [.ref (κ.1 + 1), .int a1, .int a2] M (pI post) := by
  refine Ct_of (by decide) (Nat.le_of_ble_eq_true rfl) (fun γ hγ C R => ?_)
  subst hγ
  unfold q_Net_addEdge at hq
  show G γ κ 6 (0, 0) (Gq γ κ (pI post)) 0 [(0, .ref (κ.1 + 1)), (1, .int a1), (2, .int a2)] [] M
  refine G_aload_n C 0 d_Net_addEdge_0 rfl rfl ?_
  refine Gg_Net_begins C wd_34 d_Net_addEdge_1 ?_
  refine G_aload_n C 0 d_Net_addEdge_4 rfl rfl ?_
  refine Gg_Net_edges C wd_28 d_Net_addEdge_5 ?_
  refine G_iload_n C 1 d_Net_addEdge_8 rfl rfl ?_
  refine G_iastore C (k := 2) (by decide) (fun _ _ => rfl) hq.1 d_Net_addEdge_9 ?_
  replace hq := hq.2 _ rfl
  refine G_aload_n C 0 d_Net_addEdge_10 rfl rfl ?_
  refine Gg_Net_ends C wd_38 d_Net_addEdge_11 ?_
  refine G_aload_n C 0 d_Net_addEdge_14 rfl rfl ?_
  refine Gg_Net_edges C wd_28 d_Net_addEdge_15 ?_
  refine G_iload_n C 2 d_Net_addEdge_18 rfl rfl ?_
  refine G_iastore C (k := 3) (by decide) (fun _ _ => rfl) hq.1 d_Net_addEdge_19 ?_
  replace hq := hq.2 _ rfl
  refine G_aload_n C 0 d_Net_addEdge_20 rfl rfl ?_
  refine Gg_Net_leasts C wd_45 d_Net_addEdge_21 ?_
  refine G_iload_n C 1 d_Net_addEdge_24 rfl rfl ?_
  refine G_iaload C (k := 7) (by decide) (fun _ _ => rfl) hq.1 d_Net_addEdge_25 ?_
  replace hq := hq.2
  refine G_aload_n C 0 d_Net_addEdge_26 rfl rfl ?_
  refine Gg_Net_leasts C wd_45 d_Net_addEdge_27 ?_
  refine G_iload_n C 2 d_Net_addEdge_30 rfl rfl ?_
  refine G_iaload C (k := 7) (by decide) (fun _ _ => rfl) hq.1 d_Net_addEdge_31 ?_
  replace hq := hq.2
  refine G_min C wd_227 (by decide) (Nat.le_of_ble_eq_true rfl) d_Net_addEdge_32 ?_
  replace hq := hq _ rfl
  refine G_istore_n C (lv' := [(3, _), (0, _), (1, _), (2, _)]) d_Net_addEdge_35 rfl (by decide) rfl ?_
  refine G_aload_n C 1 d_Net_addEdge_36 rfl rfl ?_
  refine Gg_Net_leasts C wd_45 d_Net_addEdge_37 ?_
  refine G_iload_n C 2 d_Net_addEdge_40 rfl rfl ?_
  refine G_iaload C (k := 7) (by decide) (fun _ _ => rfl) hq.1 d_Net_addEdge_41 ?_
  replace hq := hq.2
  refine G_aload_n C 1 d_Net_addEdge_42 rfl rfl ?_
  refine Gg_Net_leasts C wd_45 d_Net_addEdge_43 ?_
  refine G_iload_n C 3 d_Net_addEdge_46 rfl rfl ?_
  refine G_iaload C (k := 7) (by decide) (fun _ _ => rfl) hq.1 d_Net_addEdge_47 ?_
  replace hq := hq.2
  refine G_max C wd_230 (by decide) (Nat.le_of_ble_eq_true rfl) d_Net_addEdge_48 ?_
  replace hq := hq _ rfl
  refine G_istore C (lv' := [(4, _), (3, _), (0, _), (1, _), (2, _)]) d_Net_addEdge_51 (by decide) rfl ?_
  refine G_iconst C (v := 0) d_Net_addEdge_53 (by decide) ?_
  refine G_istore C (lv' := [(5, _), (4, _), (3, _), (0, _), (1, _), (2, _)]) d_Net_addEdge_54 (by decide) rfl ?_
  obtain ⟨n6, hq⟩ := hq
  refine G_sub [3, 2, 1, 0] (by rfl) (s_Net_addEdge_L56 C R ?_ n6 _ _ _ _ hq)
  · intro M7 hq
    refine G_aload_n C 0 d_Net_addEdge_91 rfl rfl ?_
    refine G_dup C d_Net_addEdge_92 rfl ?_
    refine Gg_Net_edges C wd_28 d_Net_addEdge_93 ?_
    refine G_dup_x1 C d_Net_addEdge_96 rfl rfl ?_
    refine G_iconst C (v := 1) d_Net_addEdge_97 (by decide) ?_
    refine G_iadd C d_Net_addEdge_98 ?_
    refine Gp_Net_edges C wd_28 d_Net_addEdge_99 ?_
    replace hq := hq _ rfl
    exact G_iret C R d_Net_addEdge_102 ⟨_, rfl, hq⟩
