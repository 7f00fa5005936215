theorem d_Net_begin_0 : decode b_Net_begin 0 = .ok (.aload_n 0, 1) := by decide +kernel
theorem d_Net_begin_1 : decode b_Net_begin 1 = .ok (.iload_n 1, 1) := by decide +kernel
theorem d_Net_begin_2 : decode b_Net_begin 2 = .ok (.putfield 30, 3) := by decide +kernel
theorem d_Net_begin_5 : decode b_Net_begin 5 = .ok (.aload_n 0, 1) := by decide +kernel
theorem d_Net_begin_6 : decode b_Net_begin 6 = .ok (.iconst 0, 1) := by decide +kernel
theorem d_Net_begin_7 : decode b_Net_begin 7 = .ok (.putfield 34, 3) := by decide +kernel
theorem d_Net_begin_10 : decode b_Net_begin 10 = .ok (.aload_n 0, 1) := by decide +kernel
theorem d_Net_begin_11 : decode b_Net_begin 11 = .ok (.iconst 0, 1) := by decide +kernel
theorem d_Net_begin_12 : decode b_Net_begin 12 = .ok (.putfield 37, 3) := by decide +kernel
theorem d_Net_begin_15 : decode b_Net_begin 15 = .ok (.iconst 0, 1) := by decide +kernel
theorem d_Net_begin_16 : decode b_Net_begin 16 = .ok (.istore_n 2, 1) := by decide +kernel
theorem d_Net_begin_17 : decode b_Net_begin 17 = .ok (.iload_n 2, 1) := by decide +kernel
theorem d_Net_begin_18 : decode b_Net_begin 18 = .ok (.bipush 6, 2) := by decide +kernel
theorem d_Net_begin_20 : decode b_Net_begin 20 = .ok (.if_icmp .ge 16, 3) := by decide +kernel
theorem d_Net_begin_23 : decode b_Net_begin 23 = .ok (.aload_n 0, 1) := by decide +kernel
theorem d_Net_begin_24 : decode b_Net_begin 24 = .ok (.getfield 27, 3) := by decide +kernel
theorem d_Net_begin_27 : decode b_Net_begin 27 = .ok (.iload_n 2, 1) := by decide +kernel
theorem d_Net_begin_28 : decode b_Net_begin 28 = .ok (.iload_n 2, 1) := by decide +kernel
theorem d_Net_begin_29 : decode b_Net_begin 29 = .ok (.iastore, 1) := by decide +kernel
theorem d_Net_begin_30 : decode b_Net_begin 30 = .ok (.iinc 2 1, 3) := by decide +kernel
theorem d_Net_begin_33 : decode b_Net_begin 33 = .ok (.goto (-16), 3) := by decide +kernel
theorem d_Net_begin_36 : decode b_Net_begin 36 = .ok (.return_, 1) := by decide +kernel
def q_Net_begin_L17 (kx36 : Mem → Prop) (post : Mem → Prop) : Nat → Int32 → Mem → Prop
  | 0, _, _ => False
  | n + 1, x2, M => ((6 : Int32) ≤ x2 → kx36 M) ∧ (¬ (6 : Int32) ≤ x2 → vp_in x2 6 ∧ (∀ M4, M4 = wI M 7 x2.toNatClampNeg x2 → q_Net_begin_L17 kx36 post n (x2 + 1) M4))
set_option maxHeartbeats 4000000 in
theorem s_Net_begin_L17 {γ : Gm} {κ : Kp} {post : Mem → Prop} {kx36 : Mem → Prop} (C : Cx γ κ "NetForms$Net" b_Net_begin 3 0 (0, 0)) (R : Rt γ (none)) (hx36 : ∀ M', kx36 M' → G γ κ 3 (0, 0) (Gq γ κ (pV post)) 36 [] [] M') : ∀ (n : Nat) (x2 : Int32) (M : Mem), q_Net_begin_L17 kx36 post n x2 M → G γ κ 3 (0, 0) (Gq γ κ (pV post)) 17 [(0, .ref (κ.1 + 1)), (2, .int x2)] [] M := by
  intro n
  induction n with
  | zero => intro x2 M hq; exact hq.elim
  | succ n ih =>
    intro x2 M hq
    unfold q_Net_begin_L17 at hq
    refine G_iload_n C 1 d_Net_begin_17 rfl rfl ?_
    refine G_bipush C (v := 6) d_Net_begin_18 (by decide) ?_
    refine G_icmp_ge C (tgt := 36) d_Net_begin_20 (by decide) (fun c => ?_) (fun c => ?_)
    · replace hq := hq.1 c
      exact G_sub [] (by rfl) (hx36 _ hq)
    · replace hq := hq.2 c
      refine G_aload_n C 0 d_Net_begin_23 rfl rfl ?_
      refine Gg_Net_leasts C wd_45 d_Net_begin_24 ?_
      refine G_iload_n C 1 d_Net_begin_27 rfl rfl ?_
      refine G_iload_n C 1 d_Net_begin_28 rfl rfl ?_
      refine G_iastore C (k := 7) (by decide) (fun _ _ => rfl) hq.1 d_Net_begin_29 ?_
      replace hq := hq.2 _ rfl
      refine G_iinc C (v := _ + 1) (lv' := [(2, _), (0, _)]) 1 d_Net_begin_30 rfl rfl (by decide) rfl ?_
      refine G_goto C (tgt := 17) d_Net_begin_33 (by decide) ?_
      exact G_sub [1, 0] (by rfl) (ih _ _ hq)
def q_Net_begin (a1 : Int32) (M : Mem) (post : Mem → Prop) : Prop := ∀ M1, M1 = wI M 1 0 a1 → ∀ M2, M2 = wI M1 1 1 (0 : Int32) → ∀ M3, M3 = wI M2 1 2 (0 : Int32) → ∃ n5, q_Net_begin_L17 (fun M6 => post M6) post n5 (0 : Int32) M3
set_option maxHeartbeats 4000000 in
theorem s_Net_begin {l : Launch} {κ : Kp} {a1 : Int32} {M : Mem} {post : Mem → Prop} (hq : q_Net_begin a1 M post) : Ct l κ y_Net_begin b_Net_begin 3 (none) 0 [.ref (κ.1 + 1), .int a1] M (pV post) := by
  refine Ct_of (by decide) (Nat.le_of_ble_eq_true rfl) (fun γ hγ C R => ?_)
  subst hγ
  unfold q_Net_begin at hq
  show G γ κ 3 (0, 0) (Gq γ κ (pV post)) 0 [(0, .ref (κ.1 + 1)), (1, .int a1)] [] M
  refine G_aload_n C 0 d_Net_begin_0 rfl rfl ?_
  refine G_iload_n C 1 d_Net_begin_1 rfl rfl ?_
  refine Gp_Net_points C wd_25 d_Net_begin_2 ?_
  replace hq := hq _ rfl
  refine G_aload_n C 0 d_Net_begin_5 rfl rfl ?_
  refine G_iconst C (v := 0) d_Net_begin_6 (by decide) ?_
  refine Gp_Net_edges C wd_28 d_Net_begin_7 ?_
  replace hq := hq _ rfl
  refine G_aload_n C 0 d_Net_begin_10 rfl rfl ?_
  refine G_iconst C (v := 0) d_Net_begin_11 (by decide) ?_
  refine Gp_Net_plates C wd_32 d_Net_begin_12 ?_
  replace hq := hq _ rfl
  refine G_iconst C (v := 0) d_Net_begin_15 (by decide) ?_
  refine G_istore_n C (lv' := [(2, _), (0, _), (1, _)]) d_Net_begin_16 rfl (by decide) rfl ?_
  obtain ⟨n5, hq⟩ := hq
  refine G_sub [1, 0] (by rfl) (s_Net_begin_L17 C R ?_ n5 _ _ hq)
  · intro M6 hq
    exact G_vret C R d_Net_begin_36 ⟨rfl, hq⟩
theorem d_Arr_fill_IIV_0 : decode b_Arr_fill_IIV 0 = .ok (.iconst 0, 1) := by decide +kernel
theorem d_Arr_fill_IIV_1 : decode b_Arr_fill_IIV 1 = .ok (.istore_n 2, 1) := by decide +kernel
theorem d_Arr_fill_IIV_2 : decode b_Arr_fill_IIV 2 = .ok (.aload_n 0, 1) := by decide +kernel
theorem d_Arr_fill_IIV_3 : decode b_Arr_fill_IIV 3 = .ok (.arraylength, 1) := by decide +kernel
theorem d_Arr_fill_IIV_4 : decode b_Arr_fill_IIV 4 = .ok (.istore_n 3, 1) := by decide +kernel
theorem d_Arr_fill_IIV_5 : decode b_Arr_fill_IIV 5 = .ok (.iload_n 2, 1) := by decide +kernel
theorem d_Arr_fill_IIV_6 : decode b_Arr_fill_IIV 6 = .ok (.iload_n 3, 1) := by decide +kernel
theorem d_Arr_fill_IIV_7 : decode b_Arr_fill_IIV 7 = .ok (.if_icmp .ge 13, 3) := by decide +kernel
theorem d_Arr_fill_IIV_10 : decode b_Arr_fill_IIV 10 = .ok (.aload_n 0, 1) := by decide +kernel
theorem d_Arr_fill_IIV_11 : decode b_Arr_fill_IIV 11 = .ok (.iload_n 2, 1) := by decide +kernel
theorem d_Arr_fill_IIV_12 : decode b_Arr_fill_IIV 12 = .ok (.iload_n 1, 1) := by decide +kernel
theorem d_Arr_fill_IIV_13 : decode b_Arr_fill_IIV 13 = .ok (.iastore, 1) := by decide +kernel
theorem d_Arr_fill_IIV_14 : decode b_Arr_fill_IIV 14 = .ok (.iinc 2 1, 3) := by decide +kernel
theorem d_Arr_fill_IIV_17 : decode b_Arr_fill_IIV 17 = .ok (.goto (-12), 3) := by decide +kernel
theorem d_Arr_fill_IIV_20 : decode b_Arr_fill_IIV 20 = .ok (.return_, 1) := by decide +kernel
def q_Arr_fill_IIV_L5 (k0 : Nat) (n0 : Nat) (kx20 : Mem → Prop) (post : Mem → Prop) : Nat → Int32 → Int32 → Int32 → Mem → Prop
  | 0, _, _, _, _ => False
  | n + 1, x1, x2, x3, M => (x3 ≤ x2 → kx20 M) ∧ (¬ x3 ≤ x2 → vp_in x2 n0 ∧ (∀ M1, M1 = wI M k0 x2.toNatClampNeg x1 → q_Arr_fill_IIV_L5 k0 n0 kx20 post n x1 (x2 + 1) x3 M1))
set_option maxHeartbeats 4000000 in
theorem s_Arr_fill_IIV_L5 {γ : Gm} {κ : Kp} {post : Mem → Prop} {k0 : Nat} {n0 : Nat} {kx20 : Mem → Prop} (C : Cx γ κ "java/util/Arrays" b_Arr_fill_IIV 4 0 (0, 0)) (R : Rt γ (none)) (hk : k0 < 76) (hs : ∀ f g, shp κ k0 f g = eI κ n0 f) (hx20 : ∀ M', kx20 M' → G γ κ 4 (0, 0) (Gq γ κ (pV post)) 20 [] [] M') : ∀ (n : Nat) (x1 : Int32) (x2 : Int32) (x3 : Int32) (M : Mem), q_Arr_fill_IIV_L5 k0 n0 kx20 post n x1 x2 x3 M → G γ κ 4 (0, 0) (Gq γ κ (pV post)) 5 [(0, .ref (κ.1 + k0)), (1, .int x1), (2, .int x2), (3, .int x3)] [] M := by
  intro n
  induction n with
  | zero => intro x1 x2 x3 M hq; exact hq.elim
  | succ n ih =>
    intro x1 x2 x3 M hq
    unfold q_Arr_fill_IIV_L5 at hq
    refine G_iload_n C 2 d_Arr_fill_IIV_5 rfl rfl ?_
    refine G_iload_n C 3 d_Arr_fill_IIV_6 rfl rfl ?_
    refine G_icmp_ge C (tgt := 20) d_Arr_fill_IIV_7 (by decide) (fun c => ?_) (fun c => ?_)
    · replace hq := hq.1 c
      exact G_sub [] (by rfl) (hx20 _ hq)
    · replace hq := hq.2 c
      refine G_aload_n C 0 d_Arr_fill_IIV_10 rfl rfl ?_
      refine G_iload_n C 2 d_Arr_fill_IIV_11 rfl rfl ?_
      refine G_iload_n C 1 d_Arr_fill_IIV_12 rfl rfl ?_
      refine G_iastore C hk hs hq.1 d_Arr_fill_IIV_13 ?_
      replace hq := hq.2 _ rfl
      refine G_iinc C (v := _ + 1) (lv' := [(2, _), (0, _), (1, _), (3, _)]) 2 d_Arr_fill_IIV_14 rfl rfl (by decide) rfl ?_
      refine G_goto C (tgt := 5) d_Arr_fill_IIV_17 (by decide) ?_
      exact G_sub [1, 2, 0, 3] (by rfl) (ih _ _ _ _ hq)
def q_Arr_fill_IIV (k0 : Nat) (n0 : Nat) (a1 : Int32) (M : Mem) (post : Mem → Prop) : Prop := ∃ n2, q_Arr_fill_IIV_L5 k0 n0 (fun M3 => post M3) post n2 a1 (0 : Int32) (nI n0) M
set_option maxHeartbeats 4000000 in
theorem s_Arr_fill_IIV {l : Launch} {κ : Kp} {k0 : Nat} {n0 : Nat} {a1 : Int32} {M : Mem} {post : Mem → Prop} (hk : k0 < 76) (hs : ∀ f g, shp κ k0 f g = eI κ n0 f) (hq : q_Arr_fill_IIV k0 n0 a1 M post) : Ct l κ y_Arr_fill_IIV b_Arr_fill_IIV 4 (none) 0 [.ref (κ.1 + k0), .int a1] M (pV post) := by
  refine Ct_of (by decide) (Nat.le_of_ble_eq_true rfl) (fun γ hγ C R => ?_)
  subst hγ
  unfold q_Arr_fill_IIV at hq
  show G γ κ 4 (0, 0) (Gq γ κ (pV post)) 0 [(0, .ref (κ.1 + k0)), (1, .int a1)] [] M
  refine G_iconst C (v := 0) d_Arr_fill_IIV_0 (by decide) ?_
  refine G_istore_n C (lv' := [(2, _), (0, _), (1, _)]) d_Arr_fill_IIV_1 rfl (by decide) rfl ?_
  refine G_aload_n C 1 d_Arr_fill_IIV_2 rfl rfl ?_
  refine G_alenI C hk hs d_Arr_fill_IIV_3 ?_
  refine G_istore_n C (lv' := [(3, _), (2, _), (0, _), (1, _)]) d_Arr_fill_IIV_4 rfl (by decide) rfl ?_
  obtain ⟨n2, hq⟩ := hq
  refine G_sub [2, 3, 1, 0] (by rfl) (s_Arr_fill_IIV_L5 C R hk hs ?_ n2 _ _ _ _ hq)
  · intro M3 hq
    exact G_vret C R d_Arr_fill_IIV_20 ⟨rfl, hq⟩
theorem d_Wal_begin_0 : decode b_Wal_begin 0 = .ok (.iconst 0, 1) := by decide +kernel
theorem d_Wal_begin_1 : decode b_Wal_begin 1 = .ok (.istore_n 1, 1) := by decide +kernel
theorem d_Wal_begin_2 : decode b_Wal_begin 2 = .ok (.iload_n 1, 1) := by decide +kernel
theorem d_Wal_begin_3 : decode b_Wal_begin 3 = .ok (.bipush 6, 2) := by decide +kernel
theorem d_Wal_begin_5 : decode b_Wal_begin 5 = .ok (.if_icmp .ge 16, 3) := by decide +kernel
theorem d_Wal_begin_8 : decode b_Wal_begin 8 = .ok (.aload_n 0, 1) := by decide +kernel
theorem d_Wal_begin_9 : decode b_Wal_begin 9 = .ok (.getfield 9, 3) := by decide +kernel
theorem d_Wal_begin_12 : decode b_Wal_begin 12 = .ok (.iload_n 1, 1) := by decide +kernel
theorem d_Wal_begin_13 : decode b_Wal_begin 13 = .ok (.iconst 0, 1) := by decide +kernel
theorem d_Wal_begin_14 : decode b_Wal_begin 14 = .ok (.bastore, 1) := by decide +kernel
theorem d_Wal_begin_15 : decode b_Wal_begin 15 = .ok (.iinc 1 1, 3) := by decide +kernel
theorem d_Wal_begin_18 : decode b_Wal_begin 18 = .ok (.goto (-16), 3) := by decide +kernel
theorem d_Wal_begin_21 : decode b_Wal_begin 21 = .ok (.return_, 1) := by decide +kernel
def q_Wal_begin_L2 (kx21 : Mem → Prop) (post : Mem → Prop) : Nat → Int32 → Mem → Prop
  | 0, _, _ => False
  | n + 1, x1, M => ((6 : Int32) ≤ x1 → kx21 M) ∧ (¬ (6 : Int32) ≤ x1 → vp_in x1 6 ∧ (∀ M1, M1 = wI M 10 x1.toNatClampNeg (0 : Int32) → q_Wal_begin_L2 kx21 post n (x1 + 1) M1))
set_option maxHeartbeats 4000000 in
theorem s_Wal_begin_L2 {γ : Gm} {κ : Kp} {post : Mem → Prop} {kx21 : Mem → Prop} (C : Cx γ κ "NetForms$Walls" b_Wal_begin 2 0 (0, 0)) (R : Rt γ (none)) (hx21 : ∀ M', kx21 M' → G γ κ 2 (0, 0) (Gq γ κ (pV post)) 21 [] [] M') : ∀ (n : Nat) (x1 : Int32) (M : Mem), q_Wal_begin_L2 kx21 post n x1 M → G γ κ 2 (0, 0) (Gq γ κ (pV post)) 2 [(0, .ref (κ.1 + 9)), (1, .int x1)] [] M := by
  intro n
  induction n with
  | zero => intro x1 M hq; exact hq.elim
  | succ n ih =>
    intro x1 M hq
    unfold q_Wal_begin_L2 at hq
    refine G_iload_n C 1 d_Wal_begin_2 rfl rfl ?_
    refine G_bipush C (v := 6) d_Wal_begin_3 (by decide) ?_
    refine G_icmp_ge C (tgt := 21) d_Wal_begin_5 (by decide) (fun c => ?_) (fun c => ?_)
    · replace hq := hq.1 c
      exact G_sub [] (by rfl) (hx21 _ hq)
    · replace hq := hq.2 c
      refine G_aload_n C 0 d_Wal_begin_8 rfl rfl ?_
      refine Gg_Wal_there C wd_75 d_Wal_begin_9 ?_
      refine G_iload_n C 1 d_Wal_begin_12 rfl rfl ?_
      refine G_iconst C (v := 0) d_Wal_begin_13 (by decide) ?_
      refine G_bastore C (k := 10) (by decide) (fun _ _ => rfl) hq.1 (x2 := (0 : Int32)) (by decide) d_Wal_begin_14 ?_
      replace hq := hq.2 _ rfl
      refine G_iinc C (v := _ + 1) (lv' := [(1, _), (0, _)]) 1 d_Wal_begin_15 rfl rfl (by decide) rfl ?_
      refine G_goto C (tgt := 2) d_Wal_begin_18 (by decide) ?_
      exact G_sub [1, 0] (by rfl) (ih _ _ hq)
def q_Wal_begin (M : Mem) (post : Mem → Prop) : Prop := ∃ n2, q_Wal_begin_L2 (fun M3 => post M3) post n2 (0 : Int32) M
set_option maxHeartbeats 4000000 in
theorem s_Wal_begin {l : Launch} {κ : Kp} {M : Mem} {post : Mem → Prop} (hq : q_Wal_begin M post) : Ct l κ y_Wal_begin b_Wal_begin 2 (none) 0 [.ref (κ.1 + 9)] M (pV post) := by
  refine Ct_of (by decide) (Nat.le_of_ble_eq_true rfl) (fun γ hγ C R => ?_)
  subst hγ
  unfold q_Wal_begin at hq
  show G γ κ 2 (0, 0) (Gq γ κ (pV post)) 0 [(0, .ref (κ.1 + 9))] [] M
  refine G_iconst C (v := 0) d_Wal_begin_0 (by decide) ?_
  refine G_istore_n C (lv' := [(1, _), (0, _)]) d_Wal_begin_1 rfl (by decide) rfl ?_
  obtain ⟨n2, hq⟩ := hq
  refine G_sub [1, 0] (by rfl) (s_Wal_begin_L2 C R ?_ n2 _ _ hq)
  · intro M3 hq
    exact G_vret C R d_Wal_begin_21 ⟨rfl, hq⟩
theorem d_Arr_fill_JJV_0 : decode b_Arr_fill_JJV 0 = .ok (.iconst 0, 1) := by decide +kernel
theorem d_Arr_fill_JJV_1 : decode b_Arr_fill_JJV 1 = .ok (.istore_n 3, 1) := by decide +kernel
theorem d_Arr_fill_JJV_2 : decode b_Arr_fill_JJV 2 = .ok (.aload_n 0, 1) := by decide +kernel
theorem d_Arr_fill_JJV_3 : decode b_Arr_fill_JJV 3 = .ok (.arraylength, 1) := by decide +kernel
theorem d_Arr_fill_JJV_4 : decode b_Arr_fill_JJV 4 = .ok (.istore 4, 2) := by decide +kernel
theorem d_Arr_fill_JJV_6 : decode b_Arr_fill_JJV 6 = .ok (.iload_n 3, 1) := by decide +kernel
theorem d_Arr_fill_JJV_7 : decode b_Arr_fill_JJV 7 = .ok (.iload 4, 2) := by decide +kernel
theorem d_Arr_fill_JJV_9 : decode b_Arr_fill_JJV 9 = .ok (.if_icmp .ge 13, 3) := by decide +kernel
theorem d_Arr_fill_JJV_12 : decode b_Arr_fill_JJV 12 = .ok (.aload_n 0, 1) := by decide +kernel
theorem d_Arr_fill_JJV_13 : decode b_Arr_fill_JJV 13 = .ok (.iload_n 3, 1) := by decide +kernel
theorem d_Arr_fill_JJV_14 : decode b_Arr_fill_JJV 14 = .ok (.lload_n 1, 1) := by decide +kernel
theorem d_Arr_fill_JJV_15 : decode b_Arr_fill_JJV 15 = .ok (.lastore, 1) := by decide +kernel
theorem d_Arr_fill_JJV_16 : decode b_Arr_fill_JJV 16 = .ok (.iinc 3 1, 3) := by decide +kernel
theorem d_Arr_fill_JJV_19 : decode b_Arr_fill_JJV 19 = .ok (.goto (-13), 3) := by decide +kernel
theorem d_Arr_fill_JJV_22 : decode b_Arr_fill_JJV 22 = .ok (.return_, 1) := by decide +kernel
def q_Arr_fill_JJV_L6 (k0 : Nat) (n0 : Nat) (kx22 : Mem → Prop) (post : Mem → Prop) : Nat → Int64 → Int32 → Int32 → Mem → Prop
  | 0, _, _, _, _ => False
  | n + 1, x1, x3, x4, M => (x4 ≤ x3 → kx22 M) ∧ (¬ x4 ≤ x3 → vp_in x3 n0 ∧ (∀ M1, M1 = wJ M k0 x3.toNatClampNeg x1 → q_Arr_fill_JJV_L6 k0 n0 kx22 post n x1 (x3 + 1) x4 M1))
set_option maxHeartbeats 4000000 in
theorem s_Arr_fill_JJV_L6 {γ : Gm} {κ : Kp} {post : Mem → Prop} {k0 : Nat} {n0 : Nat} {kx22 : Mem → Prop} (C : Cx γ κ "java/util/Arrays" b_Arr_fill_JJV 5 0 (0, 0)) (R : Rt γ (none)) (hk : k0 < 76) (hs : ∀ f g, shp κ k0 f g = eJ κ n0 g) (hx22 : ∀ M', kx22 M' → G γ κ 5 (0, 0) (Gq γ κ (pV post)) 22 [] [] M') : ∀ (n : Nat) (x1 : Int64) (x3 : Int32) (x4 : Int32) (M : Mem), q_Arr_fill_JJV_L6 k0 n0 kx22 post n x1 x3 x4 M → G γ κ 5 (0, 0) (Gq γ κ (pV post)) 6 [(0, .ref (κ.1 + k0)), (1, .long x1), (3, .int x3), (4, .int x4)] [] M := by
  intro n
  induction n with
  | zero => intro x1 x3 x4 M hq; exact hq.elim
  | succ n ih =>
    intro x1 x3 x4 M hq
    unfold q_Arr_fill_JJV_L6 at hq
    refine G_iload_n C 2 d_Arr_fill_JJV_6 rfl rfl ?_
    refine G_iload C 3 d_Arr_fill_JJV_7 rfl ?_
    refine G_icmp_ge C (tgt := 22) d_Arr_fill_JJV_9 (by decide) (fun c => ?_) (fun c => ?_)
    · replace hq := hq.1 c
      exact G_sub [] (by rfl) (hx22 _ hq)
    · replace hq := hq.2 c
      refine G_aload_n C 0 d_Arr_fill_JJV_12 rfl rfl ?_
      refine G_iload_n C 2 d_Arr_fill_JJV_13 rfl rfl ?_
      refine G_lload_n C 1 d_Arr_fill_JJV_14 rfl rfl ?_
      refine G_lastore C hk hs hq.1 d_Arr_fill_JJV_15 ?_
      replace hq := hq.2 _ rfl
      refine G_iinc C (v := _ + 1) (lv' := [(3, _), (0, _), (1, _), (4, _)]) 2 d_Arr_fill_JJV_16 rfl rfl (by decide) rfl ?_
      refine G_goto C (tgt := 6) d_Arr_fill_JJV_19 (by decide) ?_
      exact G_sub [1, 2, 0, 3] (by rfl) (ih _ _ _ _ hq)
def q_Arr_fill_JJV (k0 : Nat) (n0 : Nat) (a1 : Int64) (M : Mem) (post : Mem → Prop) : Prop := ∃ n2, q_Arr_fill_JJV_L6 k0 n0 (fun M3 => post M3) post n2 a1 (0 : Int32) (nI n0) M
set_option maxHeartbeats 4000000 in
theorem s_Arr_fill_JJV {l : Launch} {κ : Kp} {k0 : Nat} {n0 : Nat} {a1 : Int64} {M : Mem} {post : Mem → Prop} (hk : k0 < 76) (hs : ∀ f g, shp κ k0 f g = eJ κ n0 g) (hq : q_Arr_fill_JJV k0 n0 a1 M post) : Ct l κ y_Arr_fill_JJV b_Arr_fill_JJV 5 (none) 0 [.ref (κ.1 + k0), .long a1] M (pV post) := by
  refine Ct_of (by decide) (Nat.le_of_ble_eq_true rfl) (fun γ hγ C R => ?_)
  subst hγ
  unfold q_Arr_fill_JJV at hq
  show G γ κ 5 (0, 0) (Gq γ κ (pV post)) 0 [(0, .ref (κ.1 + k0)), (1, .long a1)] [] M
  refine G_iconst C (v := 0) d_Arr_fill_JJV_0 (by decide) ?_
  refine G_istore_n C (lv' := [(3, _), (0, _), (1, _)]) d_Arr_fill_JJV_1 rfl (by decide) rfl ?_
  refine G_aload_n C 1 d_Arr_fill_JJV_2 rfl rfl ?_
  refine G_alenJ C hk hs d_Arr_fill_JJV_3 ?_
  refine G_istore C (lv' := [(4, _), (3, _), (0, _), (1, _)]) d_Arr_fill_JJV_4 (by decide) rfl ?_
  obtain ⟨n2, hq⟩ := hq
  refine G_sub [2, 3, 1, 0] (by rfl) (s_Arr_fill_JJV_L6 C R hk hs ?_ n2 _ _ _ _ hq)
  · intro M3 hq
    exact G_vret C R d_Arr_fill_JJV_22 ⟨rfl, hq⟩
theorem d_Net_size_0 : decode b_Net_size 0 = .ok (.iload_n 1, 1) := by decide +kernel
theorem d_Net_size_1 : decode b_Net_size 1 = .ok (.ifCond .ne 8, 3) := by decide +kernel
theorem d_Net_size_4 : decode b_Net_size 4 = .ok (.aload_n 0, 1) := by decide +kernel
theorem d_Net_size_5 : decode b_Net_size 5 = .ok (.getfield 30, 3) := by decide +kernel
theorem d_Net_size_8 : decode b_Net_size 8 = .ok (.ireturn, 1) := by decide +kernel
theorem d_Net_size_9 : decode b_Net_size 9 = .ok (.iload_n 1, 1) := by decide +kernel
theorem d_Net_size_10 : decode b_Net_size 10 = .ok (.iconst 1, 1) := by decide +kernel
theorem d_Net_size_11 : decode b_Net_size 11 = .ok (.if_icmp .ne 10, 3) := by decide +kernel
theorem d_Net_size_14 : decode b_Net_size 14 = .ok (.aload_n 0, 1) := by decide +kernel
theorem d_Net_size_15 : decode b_Net_size 15 = .ok (.getfield 34, 3) := by decide +kernel
theorem d_Net_size_18 : decode b_Net_size 18 = .ok (.goto 7, 3) := by decide +kernel
theorem d_Net_size_21 : decode b_Net_size 21 = .ok (.aload_n 0, 1) := by decide +kernel
theorem d_Net_size_22 : decode b_Net_size 22 = .ok (.getfield 37, 3) := by decide +kernel
theorem d_Net_size_25 : decode b_Net_size 25 = .ok (.ireturn, 1) := by decide +kernel
def q_Net_size (a1 : Int32) (M : Mem) (post : Int32 → Mem → Prop) : Prop := (¬ a1 = 0 → (¬ a1 = (1 : Int32) → post (M.1 1 2) M) ∧ (a1 = (1 : Int32) → post (M.1 1 1) M)) ∧ (a1 = 0 → post (M.1 1 0) M)
set_option maxHeartbeats 4000000 in
theorem s_Net_size {l : Launch} {κ : Kp} {a1 : Int32} {M : Mem} {post : Int32 → Mem → Prop} (hq : q_Net_size a1 M post) : Ct l κ y_Net_size b_Net_size 2 (some .int) 0 [.ref (κ.1 + 1), .int a1] M (pI post) := by
  refine Ct_of (by decide) (Nat.le_of_ble_eq_true rfl) (fun γ hγ C R => ?_)
  subst hγ
  unfold q_Net_size at hq
  show G γ κ 2 (0, 0) (Gq γ κ (pI post)) 0 [(0, .ref (κ.1 + 1)), (1, .int a1)] [] M
  refine G_iload_n C 1 d_Net_size_0 rfl rfl ?_
  refine G_if_ne C (tgt := 9) d_Net_size_1 (by decide) (fun c => ?_) (fun c => ?_)
  · replace hq := hq.1 c
    refine G_iload_n C 1 d_Net_size_9 rfl rfl ?_
    refine G_iconst C (v := 1) d_Net_size_10 (by decide) ?_
    refine G_icmp_ne C (tgt := 21) d_Net_size_11 (by decide) (fun c => ?_) (fun c => ?_)
    · replace hq := hq.1 c
      refine G_aload_n C 0 d_Net_size_21 rfl rfl ?_
      refine Gg_Net_plates C wd_32 d_Net_size_22 ?_
      exact G_iret C R d_Net_size_25 ⟨_, rfl, hq⟩
    · replace hq := hq.2 c
      refine G_aload_n C 0 d_Net_size_14 rfl rfl ?_
      refine Gg_Net_edges C wd_28 d_Net_size_15 ?_
      refine G_goto C (tgt := 25) d_Net_size_18 (by decide) ?_
      exact G_iret C R d_Net_size_25 ⟨_, rfl, hq⟩
  · replace hq := hq.2 c
    refine G_aload_n C 0 d_Net_size_4 rfl rfl ?_
    refine Gg_Net_points C wd_25 d_Net_size_5 ?_
    exact G_iret C R d_Net_size_8 ⟨_, rfl, hq⟩
theorem d_Net_edgeBetween_0 : decode b_Net_edgeBetween 0 = .ok (.iconst 0, 1) := by decide +kernel
theorem d_Net_edgeBetween_1 : decode b_Net_edgeBetween 1 = .ok (.istore_n 3, 1) := by decide +kernel
theorem d_Net_edgeBetween_2 : decode b_Net_edgeBetween 2 = .ok (.iload_n 3, 1) := by decide +kernel
theorem d_Net_edgeBetween_3 : decode b_Net_edgeBetween 3 = .ok (.aload_n 0, 1) := by decide +kernel
theorem d_Net_edgeBetween_4 : decode b_Net_edgeBetween 4 = .ok (.getfield 34, 3) := by decide +kernel
theorem d_Net_edgeBetween_7 : decode b_Net_edgeBetween 7 = .ok (.if_icmp .ge 31, 3) := by decide +kernel
theorem d_Net_edgeBetween_10 : decode b_Net_edgeBetween 10 = .ok (.aload_n 0, 1) := by decide +kernel
theorem d_Net_edgeBetween_11 : decode b_Net_edgeBetween 11 = .ok (.getfield 9, 3) := by decide +kernel
theorem d_Net_edgeBetween_14 : decode b_Net_edgeBetween 14 = .ok (.iload_n 3, 1) := by decide +kernel
theorem d_Net_edgeBetween_15 : decode b_Net_edgeBetween 15 = .ok (.iaload, 1) := by decide +kernel
theorem d_Net_edgeBetween_16 : decode b_Net_edgeBetween 16 = .ok (.iload_n 1, 1) := by decide +kernel
theorem d_Net_edgeBetween_17 : decode b_Net_edgeBetween 17 = .ok (.if_icmp .ne 15, 3) := by decide +kernel
theorem d_Net_edgeBetween_20 : decode b_Net_edgeBetween 20 = .ok (.aload_n 0, 1) := by decide +kernel
theorem d_Net_edgeBetween_21 : decode b_Net_edgeBetween 21 = .ok (.getfield 15, 3) := by decide +kernel
theorem d_Net_edgeBetween_24 : decode b_Net_edgeBetween 24 = .ok (.iload_n 3, 1) := by decide +kernel
theorem d_Net_edgeBetween_25 : decode b_Net_edgeBetween 25 = .ok (.iaload, 1) := by decide +kernel
theorem d_Net_edgeBetween_26 : decode b_Net_edgeBetween 26 = .ok (.iload_n 2, 1) := by decide +kernel
theorem d_Net_edgeBetween_27 : decode b_Net_edgeBetween 27 = .ok (.if_icmp .ne 5, 3) := by decide +kernel
theorem d_Net_edgeBetween_30 : decode b_Net_edgeBetween 30 = .ok (.iload_n 3, 1) := by decide +kernel
theorem d_Net_edgeBetween_31 : decode b_Net_edgeBetween 31 = .ok (.ireturn, 1) := by decide +kernel
theorem d_Net_edgeBetween_32 : decode b_Net_edgeBetween 32 = .ok (.iinc 3 1, 3) := by decide +kernel
theorem d_Net_edgeBetween_35 : decode b_Net_edgeBetween 35 = .ok (.goto (-33), 3) := by decide +kernel
theorem d_Net_edgeBetween_38 : decode b_Net_edgeBetween 38 = .ok (.iconst (-1), 1) := by decide +kernel
theorem d_Net_edgeBetween_39 : decode b_Net_edgeBetween 39 = .ok (.ireturn, 1) := by decide +kernel
def q_Net_edgeBetween_L2 (kx30 : Int32 → Mem → Prop) (kx38 : Mem → Prop) (post : Int32 → Mem → Prop) : Nat → Int32 → Int32 → Int32 → Mem → Prop
  | 0, _, _, _, _ => False
  | n + 1, x1, x2, x3, M => ((M.1 1 1) ≤ x3 → kx38 M) ∧ (¬ (M.1 1 1) ≤ x3 → vp_in x3 12 ∧ ((¬ (M.1 2 x3.toNatClampNeg) = x1 → q_Net_edgeBetween_L2 kx30 kx38 post n x1 x2 (x3 + 1) M) ∧ ((M.1 2 x3.toNatClampNeg) = x1 → vp_in x3 12 ∧ ((¬ (M.1 3 x3.toNatClampNeg) = x2 → q_Net_edgeBetween_L2 kx30 kx38 post n x1 x2 (x3 + 1) M) ∧ ((M.1 3 x3.toNatClampNeg) = x2 → kx30 x3 M)))))
set_option maxHeartbeats 4000000 in
theorem s_Net_edgeBetween_L2 {γ : Gm} {κ : Kp} {post : Int32 → Mem → Prop} {kx30 : Int32 → Mem → Prop} {kx38 : Mem → Prop} (C : Cx γ κ "NetForms$Net" b_Net_edgeBetween 4 0 (0, 0)) (R : Rt γ (some .int)) (hx30 : ∀ y0 M', kx30 y0 M' → G γ κ 4 (0, 0) (Gq γ κ (pI post)) 30 [(3, .int y0)] [] M') (hx38 : ∀ M', kx38 M' → G γ κ 4 (0, 0) (Gq γ κ (pI post)) 38 [] [] M') : ∀ (n : Nat) (x1 : Int32) (x2 : Int32) (x3 : Int32) (M : Mem), q_Net_edgeBetween_L2 kx30 kx38 post n x1 x2 x3 M → G γ κ 4 (0, 0) (Gq γ κ (pI post)) 2 [(0, .ref (κ.1 + 1)), (1, .int x1), (2, .int x2), (3, .int x3)] [] M := by
  intro n
  induction n with
  | zero => intro x1 x2 x3 M hq; exact hq.elim
  | succ n ih =>
    intro x1 x2 x3 M hq
    unfold q_Net_edgeBetween_L2 at hq
    refine G_iload_n C 3 d_Net_edgeBetween_2 rfl rfl ?_
    refine G_aload_n C 0 d_Net_edgeBetween_3 rfl rfl ?_
    refine Gg_Net_edges C wd_28 d_Net_edgeBetween_4 ?_
    refine G_icmp_ge C (tgt := 38) d_Net_edgeBetween_7 (by decide) (fun c => ?_) (fun c => ?_)
    · replace hq := hq.1 c
      exact G_sub [] (by rfl) (hx38 _ hq)
    · replace hq := hq.2 c
      refine G_aload_n C 0 d_Net_edgeBetween_10 rfl rfl ?_
      refine Gg_Net_begins C wd_34 d_Net_edgeBetween_11 ?_
      refine G_iload_n C 3 d_Net_edgeBetween_14 rfl rfl ?_
      refine G_iaload C (k := 2) (by decide) (fun _ _ => rfl) hq.1 d_Net_edgeBetween_15 ?_
      replace hq := hq.2
      refine G_iload_n C 1 d_Net_edgeBetween_16 rfl rfl ?_
      refine G_icmp_ne C (tgt := 32) d_Net_edgeBetween_17 (by decide) (fun c => ?_) (fun c => ?_)
      · replace hq := hq.1 c
        refine G_iinc C (v := _ + 1) (lv' := [(3, _), (0, _), (1, _), (2, _)]) 3 d_Net_edgeBetween_32 rfl rfl (by decide) rfl ?_
        refine G_goto C (tgt := 2) d_Net_edgeBetween_35 (by decide) ?_
        exact G_sub [1, 2, 3, 0] (by rfl) (ih _ _ _ _ hq)
      · replace hq := hq.2 c
        refine G_aload_n C 0 d_Net_edgeBetween_20 rfl rfl ?_
        refine Gg_Net_ends C wd_38 d_Net_edgeBetween_21 ?_
        refine G_iload_n C 3 d_Net_edgeBetween_24 rfl rfl ?_
        refine G_iaload C (k := 3) (by decide) (fun _ _ => rfl) hq.1 d_Net_edgeBetween_25 ?_
        replace hq := hq.2
        refine G_iload_n C 2 d_Net_edgeBetween_26 rfl rfl ?_
        refine G_icmp_ne C (tgt := 32) d_Net_edgeBetween_27 (by decide) (fun c => ?_) (fun c => ?_)
        · replace hq := hq.1 c
          refine G_iinc C (v := _ + 1) (lv' := [(3, _), (0, _), (1, _), (2, _)]) 3 d_Net_edgeBetween_32 rfl rfl (by decide) rfl ?_
          refine G_goto C (tgt := 2) d_Net_edgeBetween_35 (by decide) ?_
          exact G_sub [1, 2, 3, 0] (by rfl) (ih _ _ _ _ hq)
        · replace hq := hq.2 c
          exact G_sub [3] (by rfl) (hx30 _ _ hq)
def q_Net_edgeBetween (a1 : Int32) (a2 : Int32) (M : Mem) (post : Int32 → Mem → Prop) : Prop := ∃ n1, q_Net_edgeBetween_L2 (fun x2 M3 => post x2 M3) (fun M4 => post (-1 : Int32) M4) post n1 a1 a2 (0 : Int32) M
set_option maxHeartbeats 4000000 in
theorem s_Net_edgeBetween {l : Launch} {κ : Kp} {a1 : Int32} {a2 : Int32} {M : Mem} {post : Int32 → Mem → Prop} (hq : q_Net_edgeBetween a1 a2 M post) : Ct l κ y_Net_edgeBetween b_Net_edgeBetween 4 (some .int) 0 [.ref (κ.1 + 1), .int a1, .int a2] M (pI post) := by
  refine Ct_of (by decide) (Nat.le_of_ble_eq_true rfl) (fun γ hγ C R => ?_)
  subst hγ
  unfold q_Net_edgeBetween at hq
  show G γ κ 4 (0, 0) (Gq γ κ (pI post)) 0 [(0, .ref (κ.1 + 1)), (1, .int a1), (2, .int a2)] [] M
  refine G_iconst C (v := 0) d_Net_edgeBetween_0 (by decide) ?_
  refine G_istore_n C (lv' := [(3, _), (0, _), (1, _), (2, _)]) d_Net_edgeBetween_1 rfl (by decide) rfl ?_
  obtain ⟨n1, hq⟩ := hq
  refine G_sub [1, 2, 3, 0] (by rfl) (s_Net_edgeBetween_L2 C R ?_ ?_ n1 _ _ _ _ hq)
  · intro x2 M3 hq
    refine G_iload_n C 0 d_Net_edgeBetween_30 rfl rfl ?_
    exact G_iret C R d_Net_edgeBetween_31 ⟨_, rfl, hq⟩
  · intro M4 hq
    refine G_iconst C (v := -1) d_Net_edgeBetween_38 (by decide) ?_
    exact G_iret C R d_Net_edgeBetween_39 ⟨_, rfl, hq⟩
theorem d_Net_hasPlateOf_0 : decode b_Net_hasPlateOf 0 = .ok (.iconst 0, 1) := by decide +kernel
theorem d_Net_hasPlateOf_1 : decode b_Net_hasPlateOf 1 = .ok (.istore_n 3, 1) := by decide +kernel
theorem d_Net_hasPlateOf_2 : decode b_Net_hasPlateOf 2 = .ok (.iload_n 3, 1) := by decide +kernel
theorem d_Net_hasPlateOf_3 : decode b_Net_hasPlateOf 3 = .ok (.aload_n 0, 1) := by decide +kernel
theorem d_Net_hasPlateOf_4 : decode b_Net_hasPlateOf 4 = .ok (.getfield 37, 3) := by decide +kernel
theorem d_Net_hasPlateOf_7 : decode b_Net_hasPlateOf 7 = .ok (.if_icmp .ge 31, 3) := by decide +kernel
theorem d_Net_hasPlateOf_10 : decode b_Net_hasPlateOf 10 = .ok (.aload_n 0, 1) := by decide +kernel
theorem d_Net_hasPlateOf_11 : decode b_Net_hasPlateOf 11 = .ok (.getfield 18, 3) := by decide +kernel
theorem d_Net_hasPlateOf_14 : decode b_Net_hasPlateOf 14 = .ok (.iload_n 3, 1) := by decide +kernel
theorem d_Net_hasPlateOf_15 : decode b_Net_hasPlateOf 15 = .ok (.iaload, 1) := by decide +kernel
theorem d_Net_hasPlateOf_16 : decode b_Net_hasPlateOf 16 = .ok (.iload_n 1, 1) := by decide +kernel
theorem d_Net_hasPlateOf_17 : decode b_Net_hasPlateOf 17 = .ok (.if_icmp .ne 15, 3) := by decide +kernel
theorem d_Net_hasPlateOf_20 : decode b_Net_hasPlateOf 20 = .ok (.aload_n 0, 1) := by decide +kernel
theorem d_Net_hasPlateOf_21 : decode b_Net_hasPlateOf 21 = .ok (.getfield 21, 3) := by decide +kernel
theorem d_Net_hasPlateOf_24 : decode b_Net_hasPlateOf 24 = .ok (.iload_n 3, 1) := by decide +kernel
theorem d_Net_hasPlateOf_25 : decode b_Net_hasPlateOf 25 = .ok (.iaload, 1) := by decide +kernel
theorem d_Net_hasPlateOf_26 : decode b_Net_hasPlateOf 26 = .ok (.iload_n 2, 1) := by decide +kernel
theorem d_Net_hasPlateOf_27 : decode b_Net_hasPlateOf 27 = .ok (.if_icmp .ne 5, 3) := by decide +kernel
theorem d_Net_hasPlateOf_30 : decode b_Net_hasPlateOf 30 = .ok (.iconst 1, 1) := by decide +kernel
theorem d_Net_hasPlateOf_31 : decode b_Net_hasPlateOf 31 = .ok (.ireturn, 1) := by decide +kernel
theorem d_Net_hasPlateOf_32 : decode b_Net_hasPlateOf 32 = .ok (.iinc 3 1, 3) := by decide +kernel
theorem d_Net_hasPlateOf_35 : decode b_Net_hasPlateOf 35 = .ok (.goto (-33), 3) := by decide +kernel
theorem d_Net_hasPlateOf_38 : decode b_Net_hasPlateOf 38 = .ok (.iconst 0, 1) := by decide +kernel
theorem d_Net_hasPlateOf_39 : decode b_Net_hasPlateOf 39 = .ok (.ireturn, 1) := by decide +kernel
def q_Net_hasPlateOf_L2 (kx30 : Mem → Prop) (kx38 : Mem → Prop) (post : Int32 → Mem → Prop) : Nat → Int32 → Int32 → Int32 → Mem → Prop
  | 0, _, _, _, _ => False
  | n + 1, x1, x2, x3, M => ((M.1 1 2) ≤ x3 → kx38 M) ∧ (¬ (M.1 1 2) ≤ x3 → vp_in x3 10 ∧ ((¬ (M.1 4 x3.toNatClampNeg) = x1 → q_Net_hasPlateOf_L2 kx30 kx38 post n x1 x2 (x3 + 1) M) ∧ ((M.1 4 x3.toNatClampNeg) = x1 → vp_in x3 10 ∧ ((¬ (M.1 5 x3.toNatClampNeg) = x2 → q_Net_hasPlateOf_L2 kx30 kx38 post n x1 x2 (x3 + 1) M) ∧ ((M.1 5 x3.toNatClampNeg) = x2 → kx30 M)))))
set_option maxHeartbeats 4000000 in
theorem s_Net_hasPlateOf_L2 {γ : Gm} {κ : Kp} {post : Int32 → Mem → Prop} {kx30 : Mem → Prop} {kx38 : Mem → Prop} (C : Cx γ κ "NetForms$Net" b_Net_hasPlateOf 4 0 (0, 0)) (R : Rt γ (some .boolean)) (hx30 : ∀ M', kx30 M' → G γ κ 4 (0, 0) (Gq γ κ (pI post)) 30 [] [] M') (hx38 : ∀ M', kx38 M' → G γ κ 4 (0, 0) (Gq γ κ (pI post)) 38 [] [] M') : ∀ (n : Nat) (x1 : Int32) (x2 : Int32) (x3 : Int32) (M : Mem), q_Net_hasPlateOf_L2 kx30 kx38 post n x1 x2 x3 M → G γ κ 4 (0, 0) (Gq γ κ (pI post)) 2 [(0, .ref (κ.1 + 1)), (1, .int x1), (2, .int x2), (3, .int x3)] [] M := by
  intro n
  induction n with
  | zero => intro x1 x2 x3 M hq; exact hq.elim
  | succ n ih =>
    intro x1 x2 x3 M hq
    unfold q_Net_hasPlateOf_L2 at hq
    refine G_iload_n C 3 d_Net_hasPlateOf_2 rfl rfl ?_
    refine G_aload_n C 0 d_Net_hasPlateOf_3 rfl rfl ?_
    refine Gg_Net_plates C wd_32 d_Net_hasPlateOf_4 ?_
    refine G_icmp_ge C (tgt := 38) d_Net_hasPlateOf_7 (by decide) (fun c => ?_) (fun c => ?_)
    · replace hq := hq.1 c
      exact G_sub [] (by rfl) (hx38 _ hq)
    · replace hq := hq.2 c
      refine G_aload_n C 0 d_Net_hasPlateOf_10 rfl rfl ?_
      refine Gg_Net_firsts C wd_42 d_Net_hasPlateOf_11 ?_
      refine G_iload_n C 3 d_Net_hasPlateOf_14 rfl rfl ?_
      refine G_iaload C (k := 4) (by decide) (fun _ _ => rfl) hq.1 d_Net_hasPlateOf_15 ?_
      replace hq := hq.2
      refine G_iload_n C 1 d_Net_hasPlateOf_16 rfl rfl ?_
      refine G_icmp_ne C (tgt := 32) d_Net_hasPlateOf_17 (by decide) (fun c => ?_) (fun c => ?_)
      · replace hq := hq.1 c
        refine G_iinc C (v := _ + 1) (lv' := [(3, _), (0, _), (1, _), (2, _)]) 3 d_Net_hasPlateOf_32 rfl rfl (by decide) rfl ?_
        refine G_goto C (tgt := 2) d_Net_hasPlateOf_35 (by decide) ?_
        exact G_sub [1, 2, 3, 0] (by rfl) (ih _ _ _ _ hq)
      · replace hq := hq.2 c
        refine G_aload_n C 0 d_Net_hasPlateOf_20 rfl rfl ?_
        refine Gg_Net_seconds C wd_43 d_Net_hasPlateOf_21 ?_
        refine G_iload_n C 3 d_Net_hasPlateOf_24 rfl rfl ?_
        refine G_iaload C (k := 5) (by decide) (fun _ _ => rfl) hq.1 d_Net_hasPlateOf_25 ?_
        replace hq := hq.2
        refine G_iload_n C 2 d_Net_hasPlateOf_26 rfl rfl ?_
        refine G_icmp_ne C (tgt := 32) d_Net_hasPlateOf_27 (by decide) (fun c => ?_) (fun c => ?_)
        · replace hq := hq.1 c
          refine G_iinc C (v := _ + 1) (lv' := [(3, _), (0, _), (1, _), (2, _)]) 3 d_Net_hasPlateOf_32 rfl rfl (by decide) rfl ?_
          refine G_goto C (tgt := 2) d_Net_hasPlateOf_35 (by decide) ?_
          exact G_sub [1, 2, 3, 0] (by rfl) (ih _ _ _ _ hq)
        · replace hq := hq.2 c
          exact G_sub [] (by rfl) (hx30 _ hq)
def q_Net_hasPlateOf (a1 : Int32) (a2 : Int32) (M : Mem) (post : Int32 → Mem → Prop) : Prop := ∃ n1, q_Net_hasPlateOf_L2 (fun M2 => post (1 : Int32) M2) (fun M3 => post (0 : Int32) M3) post n1 a1 a2 (0 : Int32) M
set_option maxHeartbeats 4000000 in
theorem s_Net_hasPlateOf {l : Launch} {κ : Kp} {a1 : Int32} {a2 : Int32} {M : Mem} {post : Int32 → Mem → Prop} (hq : q_Net_hasPlateOf a1 a2 M post) : Ct l κ y_Net_hasPlateOf b_Net_hasPlateOf 4 (some .boolean) 0 [.ref (κ.1 + 1), .int a1, .int a2] M (pI post) := by
  refine Ct_of (by decide) (Nat.le_of_ble_eq_true rfl) (fun γ hγ C R => ?_)
  subst hγ
  unfold q_Net_hasPlateOf at hq
  show G γ κ 4 (0, 0) (Gq γ κ (pI post)) 0 [(0, .ref (κ.1 + 1)), (1, .int a1), (2, .int a2)] [] M
  refine G_iconst C (v := 0) d_Net_hasPlateOf_0 (by decide) ?_
  refine G_istore_n C (lv' := [(3, _), (0, _), (1, _), (2, _)]) d_Net_hasPlateOf_1 rfl (by decide) rfl ?_
  obtain ⟨n1, hq⟩ := hq
  refine G_sub [1, 2, 3, 0] (by rfl) (s_Net_hasPlateOf_L2 C R ?_ ?_ n1 _ _ _ _ hq)
  · intro M2 hq
    refine G_iconst C (v := 1) d_Net_hasPlateOf_30 (by decide) ?_
    exact G_zret C R rfl d_Net_hasPlateOf_31 ⟨_, rfl, hq⟩
  · intro M3 hq
    refine G_iconst C (v := 0) d_Net_hasPlateOf_38 (by decide) ?_
    exact G_zret C R rfl d_Net_hasPlateOf_39 ⟨_, rfl, hq⟩
theorem d_Net_addPlate_0 : decode b_Net_addPlate 0 = .ok (.aload_n 0, 1) := by decide +kernel
theorem d_Net_addPlate_1 : decode b_Net_addPlate 1 = .ok (.getfield 18, 3) := by decide +kernel
theorem d_Net_addPlate_4 : decode b_Net_addPlate 4 = .ok (.aload_n 0, 1) := by decide +kernel
theorem d_Net_addPlate_5 : decode b_Net_addPlate 5 = .ok (.getfield 37, 3) := by decide +kernel
theorem d_Net_addPlate_8 : decode b_Net_addPlate 8 = .ok (.iload_n 1, 1) := by decide +kernel
theorem d_Net_addPlate_9 : decode b_Net_addPlate 9 = .ok (.iastore, 1) := by decide +kernel
theorem d_Net_addPlate_10 : decode b_Net_addPlate 10 = .ok (.aload_n 0, 1) := by decide +kernel
theorem d_Net_addPlate_11 : decode b_Net_addPlate 11 = .ok (.getfield 21, 3) := by decide +kernel
theorem d_Net_addPlate_14 : decode b_Net_addPlate 14 = .ok (.aload_n 0, 1) := by decide +kernel
theorem d_Net_addPlate_15 : decode b_Net_addPlate 15 = .ok (.getfield 37, 3) := by decide +kernel
theorem d_Net_addPlate_18 : decode b_Net_addPlate 18 = .ok (.iload_n 2, 1) := by decide +kernel
theorem d_Net_addPlate_19 : decode b_Net_addPlate 19 = .ok (.iastore, 1) := by decide +kernel
theorem d_Net_addPlate_20 : decode b_Net_addPlate 20 = .ok (.aload_n 0, 1) := by decide +kernel
theorem d_Net_addPlate_21 : decode b_Net_addPlate 21 = .ok (.getfield 24, 3) := by decide +kernel
theorem d_Net_addPlate_24 : decode b_Net_addPlate 24 = .ok (.aload_n 0, 1) := by decide +kernel
theorem d_Net_addPlate_25 : decode b_Net_addPlate 25 = .ok (.getfield 37, 3) := by decide +kernel
theorem d_Net_addPlate_28 : decode b_Net_addPlate 28 = .ok (.iload_n 3, 1) := by decide +kernel
theorem d_Net_addPlate_29 : decode b_Net_addPlate 29 = .ok (.iastore, 1) := by decide +kernel
theorem d_Net_addPlate_30 : decode b_Net_addPlate 30 = .ok (.aload_n 0, 1) := by decide +kernel
theorem d_Net_addPlate_31 : decode b_Net_addPlate 31 = .ok (.dup, 1) := by decide +kernel
theorem d_Net_addPlate_32 : decode b_Net_addPlate 32 = .ok (.getfield 37, 3) := by decide +kernel
theorem d_Net_addPlate_35 : decode b_Net_addPlate 35 = .ok (.dup_x1, 1) := by decide +kernel
theorem d_Net_addPlate_36 : decode b_Net_addPlate 36 = .ok (.iconst 1, 1) := by decide +kernel
theorem d_Net_addPlate_37 : decode b_Net_addPlate 37 = .ok (.iadd, 1) := by decide +kernel
theorem d_Net_addPlate_38 : decode b_Net_addPlate 38 = .ok (.putfield 37, 3) := by decide +kernel
theorem d_Net_addPlate_41 : decode b_Net_addPlate 41 = .ok (.ireturn, 1) := by decide +kernel
def q_Net_addPlate (a1 : Int32) (a2 : Int32) (a3 : Int32) (M : Mem) (post : Int32 → Mem → Prop) : Prop := vp_in (M.1 1 2) 10 ∧ (∀ M1, M1 = wI M 4 (M.1 1 2).toNatClampNeg a1 → vp_in (M1.1 1 2) 10 ∧ (∀ M2, M2 = wI M1 5 (M1.1 1 2).toNatClampNeg a2 → vp_in (M2.1 1 2) 10 ∧ (∀ M3, M3 = wI M2 6 (M2.1 1 2).toNatClampNeg a3 → ∀ M4, M4 = wI M3 1 2 ((M3.1 1 2) + (1 : Int32)) → post (M3.1 1 2) M4)))
set_option maxHeartbeats 4000000 in
theorem s_Net_addPlate {l : Launch} {κ : Kp} {a1 : Int32} {a2 : Int32} {a3 : Int32} {M : Mem} {post : Int32 → Mem → Prop} (hq : q_Net_addPlate a1 a2 a3 M post) : Ct l κ y_Net_addPlate b_Net_addPlate 4 (some .int) 0 [.ref (κ.1 + 1), .int a1, .int a2, .int a3] M (pI post) := by
  refine Ct_of (by decide) (Nat.le_of_ble_eq_true rfl) (fun γ hγ C R => ?_)
  subst hγ
  unfold q_Net_addPlate at hq
  show G γ κ 4 (0, 0) (Gq γ κ (pI post)) 0 [(0, .ref (κ.1 + 1)), (1, .int a1), (2, .int a2), (3, .int a3)] [] M
  refine G_aload_n C 0 d_Net_addPlate_0 rfl rfl ?_
  refine Gg_Net_firsts C wd_42 d_Net_addPlate_1 ?_
  refine G_aload_n C 0 d_Net_addPlate_4 rfl rfl ?_
  refine Gg_Net_plates C wd_32 d_Net_addPlate_5 ?_
  refine G_iload_n C 1 d_Net_addPlate_8 rfl rfl ?_
  refine G_iastore C (k := 4) (by decide) (fun _ _ => rfl) hq.1 d_Net_addPlate_9 ?_
  replace hq := hq.2 _ rfl
  refine G_aload_n C 0 d_Net_addPlate_10 rfl rfl ?_
  refine Gg_Net_seconds C wd_43 d_Net_addPlate_11 ?_
  refine G_aload_n C 0 d_Net_addPlate_14 rfl rfl ?_
  refine Gg_Net_plates C wd_32 d_Net_addPlate_15 ?_
  refine G_iload_n C 2 d_Net_addPlate_18 rfl rfl ?_
  refine G_iastore C (k := 5) (by decide) (fun _ _ => rfl) hq.1 d_Net_addPlate_19 ?_
  replace hq := hq.2 _ rfl
  refine G_aload_n C 0 d_Net_addPlate_20 rfl rfl ?_
  refine Gg_Net_acrosses C wd_44 d_Net_addPlate_21 ?_
  refine G_aload_n C 0 d_Net_addPlate_24 rfl rfl ?_
  refine Gg_Net_plates C wd_32 d_Net_addPlate_25 ?_
  refine G_iload_n C 3 d_Net_addPlate_28 rfl rfl ?_
  refine G_iastore C (k := 6) (by decide) (fun _ _ => rfl) hq.1 d_Net_addPlate_29 ?_
  replace hq := hq.2 _ rfl
  refine G_aload_n C 0 d_Net_addPlate_30 rfl rfl ?_
  refine G_dup C d_Net_addPlate_31 rfl ?_
  refine Gg_Net_plates C wd_32 d_Net_addPlate_32 ?_
  refine G_dup_x1 C d_Net_addPlate_35 rfl rfl ?_
  refine G_iconst C (v := 1) d_Net_addPlate_36 (by decide) ?_
  refine G_iadd C d_Net_addPlate_37 ?_
  refine Gp_Net_plates C wd_32 d_Net_addPlate_38 ?_
  replace hq := hq _ rfl
  exact G_iret C R d_Net_addPlate_41 ⟨_, rfl, hq⟩
theorem d_Net_pointOf_0 : decode b_Net_pointOf 0 = .ok (.iload_n 1, 1) := by decide +kernel
theorem d_Net_pointOf_1 : decode b_Net_pointOf 1 = .ok (.iconst 1, 1) := by decide +kernel
theorem d_Net_pointOf_2 : decode b_Net_pointOf 2 = .ok (.if_icmp .ne 7, 3) := by decide +kernel
theorem d_Net_pointOf_5 : decode b_Net_pointOf 5 = .ok (.iload_n 2, 1) := by decide +kernel
theorem d_Net_pointOf_6 : decode b_Net_pointOf 6 = .ok (.goto 9, 3) := by decide +kernel
theorem d_Net_pointOf_9 : decode b_Net_pointOf 9 = .ok (.aload_n 0, 1) := by decide +kernel
theorem d_Net_pointOf_10 : decode b_Net_pointOf 10 = .ok (.getfield 18, 3) := by decide +kernel
theorem d_Net_pointOf_13 : decode b_Net_pointOf 13 = .ok (.iload_n 2, 1) := by decide +kernel
theorem d_Net_pointOf_14 : decode b_Net_pointOf 14 = .ok (.iaload, 1) := by decide +kernel
theorem d_Net_pointOf_15 : decode b_Net_pointOf 15 = .ok (.istore 4, 2) := by decide +kernel
theorem d_Net_pointOf_17 : decode b_Net_pointOf 17 = .ok (.iload_n 3, 1) := by decide +kernel
theorem d_Net_pointOf_18 : decode b_Net_pointOf 18 = .ok (.ifCond .ne 11, 3) := by decide +kernel
theorem d_Net_pointOf_21 : decode b_Net_pointOf 21 = .ok (.aload_n 0, 1) := by decide +kernel
theorem d_Net_pointOf_22 : decode b_Net_pointOf 22 = .ok (.getfield 9, 3) := by decide +kernel
theorem d_Net_pointOf_25 : decode b_Net_pointOf 25 = .ok (.iload 4, 2) := by decide +kernel
theorem d_Net_pointOf_27 : decode b_Net_pointOf 27 = .ok (.iaload, 1) := by decide +kernel
theorem d_Net_pointOf_28 : decode b_Net_pointOf 28 = .ok (.ireturn, 1) := by decide +kernel
theorem d_Net_pointOf_29 : decode b_Net_pointOf 29 = .ok (.iload_n 3, 1) := by decide +kernel
theorem d_Net_pointOf_30 : decode b_Net_pointOf 30 = .ok (.iconst 1, 1) := by decide +kernel
theorem d_Net_pointOf_31 : decode b_Net_pointOf 31 = .ok (.if_icmp .ne 13, 3) := by decide +kernel
theorem d_Net_pointOf_34 : decode b_Net_pointOf 34 = .ok (.aload_n 0, 1) := by decide +kernel
theorem d_Net_pointOf_35 : decode b_Net_pointOf 35 = .ok (.getfield 15, 3) := by decide +kernel
theorem d_Net_pointOf_38 : decode b_Net_pointOf 38 = .ok (.iload 4, 2) := by decide +kernel
theorem d_Net_pointOf_40 : decode b_Net_pointOf 40 = .ok (.iaload, 1) := by decide +kernel
theorem d_Net_pointOf_41 : decode b_Net_pointOf 41 = .ok (.goto 14, 3) := by decide +kernel
theorem d_Net_pointOf_44 : decode b_Net_pointOf 44 = .ok (.aload_n 0, 1) := by decide +kernel
theorem d_Net_pointOf_45 : decode b_Net_pointOf 45 = .ok (.getfield 15, 3) := by decide +kernel
theorem d_Net_pointOf_48 : decode b_Net_pointOf 48 = .ok (.aload_n 0, 1) := by decide +kernel
theorem d_Net_pointOf_49 : decode b_Net_pointOf 49 = .ok (.getfield 21, 3) := by decide +kernel
theorem d_Net_pointOf_52 : decode b_Net_pointOf 52 = .ok (.iload_n 2, 1) := by decide +kernel
theorem d_Net_pointOf_53 : decode b_Net_pointOf 53 = .ok (.iaload, 1) := by decide +kernel
theorem d_Net_pointOf_54 : decode b_Net_pointOf 54 = .ok (.iaload, 1) := by decide +kernel
theorem d_Net_pointOf_55 : decode b_Net_pointOf 55 = .ok (.ireturn, 1) := by decide +kernel
def q_Net_pointOf (a1 : Int32) (a2 : Int32) (a3 : Int32) (M : Mem) (post : Int32 → Mem → Prop) : Prop := (¬ a1 = (1 : Int32) → vp_in a2 10 ∧ ((¬ a3 = 0 → (¬ a3 = (1 : Int32) → vp_in a2 10 ∧ (vp_in (M.1 5 a2.toNatClampNeg) 12 ∧ (post (M.1 3 (M.1 5 a2.toNatClampNeg).toNatClampNeg) M))) ∧ (a3 = (1 : Int32) → vp_in (M.1 4 a2.toNatClampNeg) 12 ∧ (post (M.1 3 (M.1 4 a2.toNatClampNeg).toNatClampNeg) M))) ∧ (a3 = 0 → vp_in (M.1 4 a2.toNatClampNeg) 12 ∧ (post (M.1 2 (M.1 4 a2.toNatClampNeg).toNatClampNeg) M)))) ∧ (a1 = (1 : Int32) → (¬ a3 = 0 → (¬ a3 = (1 : Int32) → vp_in a2 10 ∧ (vp_in (M.1 5 a2.toNatClampNeg) 12 ∧ (post (M.1 3 (M.1 5 a2.toNatClampNeg).toNatClampNeg) M))) ∧ (a3 = (1 : Int32) → vp_in a2 12 ∧ (post (M.1 3 a2.toNatClampNeg) M))) ∧ (a3 = 0 → vp_in a2 12 ∧ (post (M.1 2 a2.toNatClampNeg) M)))
set_option maxHeartbeats 4000000 in
theorem s_Net_pointOf {l : Launch} {κ : Kp} {a1 : Int32} {a2 : Int32} {a3 : Int32} {M : Mem} {post : Int32 → Mem → Prop} (hq : q_Net_pointOf a1 a2 a3 M post) : Ct l κ y_Net_pointOf b_Net_pointOf 5 (some .int) 0 [.ref (κ.1 + 1), .int a1, .int a2, .int a3] M (pI post) := by
  refine Ct_of (by decide) (Nat.le_of_ble_eq_true rfl) (fun γ hγ C R => ?_)
  subst hγ
  unfold q_Net_pointOf at hq
  show G γ κ 5 (0, 0) (Gq γ κ (pI post)) 0 [(0, .ref (κ.1 + 1)), (1, .int a1), (2, .int a2), (3, .int a3)] [] M
  refine G_iload_n C 1 d_Net_pointOf_0 rfl rfl ?_
  refine G_iconst C (v := 1) d_Net_pointOf_1 (by decide) ?_
  refine G_icmp_ne C (tgt := 9) d_Net_pointOf_2 (by decide) (fun c => ?_) (fun c => ?_)
  · replace hq := hq.1 c
    refine G_aload_n C 0 d_Net_pointOf_9 rfl rfl ?_
    refine Gg_Net_firsts C wd_42 d_Net_pointOf_10 ?_
    refine G_iload_n C 2 d_Net_pointOf_13 rfl rfl ?_
    refine G_iaload C (k := 4) (by decide) (fun _ _ => rfl) hq.1 d_Net_pointOf_14 ?_
    replace hq := hq.2
    refine G_istore C (lv' := [(4, _), (0, _), (1, _), (2, _), (3, _)]) d_Net_pointOf_15 (by decide) rfl ?_
    refine G_iload_n C 4 d_Net_pointOf_17 rfl rfl ?_
    refine G_if_ne C (tgt := 29) d_Net_pointOf_18 (by decide) (fun c => ?_) (fun c => ?_)
    · replace hq := hq.1 c
      refine G_iload_n C 4 d_Net_pointOf_29 rfl rfl ?_
      refine G_iconst C (v := 1) d_Net_pointOf_30 (by decide) ?_
      refine G_icmp_ne C (tgt := 44) d_Net_pointOf_31 (by decide) (fun c => ?_) (fun c => ?_)
      · replace hq := hq.1 c
        refine G_aload_n C 1 d_Net_pointOf_44 rfl rfl ?_
        refine Gg_Net_ends C wd_38 d_Net_pointOf_45 ?_
        refine G_aload_n C 1 d_Net_pointOf_48 rfl rfl ?_
        refine Gg_Net_seconds C wd_43 d_Net_pointOf_49 ?_
        refine G_iload_n C 3 d_Net_pointOf_52 rfl rfl ?_
        refine G_iaload C (k := 5) (by decide) (fun _ _ => rfl) hq.1 d_Net_pointOf_53 ?_
        replace hq := hq.2
        refine G_iaload C (k := 3) (by decide) (fun _ _ => rfl) hq.1 d_Net_pointOf_54 ?_
        replace hq := hq.2
        exact G_iret C R d_Net_pointOf_55 ⟨_, rfl, hq⟩
      · replace hq := hq.2 c
        refine G_aload_n C 1 d_Net_pointOf_34 rfl rfl ?_
        refine Gg_Net_ends C wd_38 d_Net_pointOf_35 ?_
        refine G_iload C 0 d_Net_pointOf_38 rfl ?_
        refine G_iaload C (k := 3) (by decide) (fun _ _ => rfl) hq.1 d_Net_pointOf_40 ?_
        replace hq := hq.2
        refine G_goto C (tgt := 55) d_Net_pointOf_41 (by decide) ?_
        exact G_iret C R d_Net_pointOf_55 ⟨_, rfl, hq⟩
    · replace hq := hq.2 c
      refine G_aload_n C 1 d_Net_pointOf_21 rfl rfl ?_
      refine Gg_Net_begins C wd_34 d_Net_pointOf_22 ?_
      refine G_iload C 0 d_Net_pointOf_25 rfl ?_
      refine G_iaload C (k := 2) (by decide) (fun _ _ => rfl) hq.1 d_Net_pointOf_27 ?_
      replace hq := hq.2
      exact G_iret C R d_Net_pointOf_28 ⟨_, rfl, hq⟩
  · replace hq := hq.2 c
    refine G_iload_n C 2 d_Net_pointOf_5 rfl rfl ?_
    refine G_goto C (tgt := 15) d_Net_pointOf_6 (by decide) ?_
    refine G_istore C (lv' := [(4, _), (0, _), (1, _), (2, _), (3, _)]) d_Net_pointOf_15 (by decide) rfl ?_
    refine G_iload_n C 4 d_Net_pointOf_17 rfl rfl ?_
    refine G_if_ne C (tgt := 29) d_Net_pointOf_18 (by decide) (fun c => ?_) (fun c => ?_)
    · replace hq := hq.1 c
      refine G_iload_n C 4 d_Net_pointOf_29 rfl rfl ?_
      refine G_iconst C (v := 1) d_Net_pointOf_30 (by decide) ?_
      refine G_icmp_ne C (tgt := 44) d_Net_pointOf_31 (by decide) (fun c => ?_) (fun c => ?_)
      · replace hq := hq.1 c
        refine G_aload_n C 1 d_Net_pointOf_44 rfl rfl ?_
        refine Gg_Net_ends C wd_38 d_Net_pointOf_45 ?_
        refine G_aload_n C 1 d_Net_pointOf_48 rfl rfl ?_
        refine Gg_Net_seconds C wd_43 d_Net_pointOf_49 ?_
        refine G_iload_n C 3 d_Net_pointOf_52 rfl rfl ?_
        refine G_iaload C (k := 5) (by decide) (fun _ _ => rfl) hq.1 d_Net_pointOf_53 ?_
        replace hq := hq.2
        refine G_iaload C (k := 3) (by decide) (fun _ _ => rfl) hq.1 d_Net_pointOf_54 ?_
        replace hq := hq.2
        exact G_iret C R d_Net_pointOf_55 ⟨_, rfl, hq⟩
      · replace hq := hq.2 c
        refine G_aload_n C 1 d_Net_pointOf_34 rfl rfl ?_
        refine Gg_Net_ends C wd_38 d_Net_pointOf_35 ?_
        refine G_iload C 0 d_Net_pointOf_38 rfl ?_
        refine G_iaload C (k := 3) (by decide) (fun _ _ => rfl) hq.1 d_Net_pointOf_40 ?_
        replace hq := hq.2
        refine G_goto C (tgt := 55) d_Net_pointOf_41 (by decide) ?_
        exact G_iret C R d_Net_pointOf_55 ⟨_, rfl, hq⟩
    · replace hq := hq.2 c
      refine G_aload_n C 1 d_Net_pointOf_21 rfl rfl ?_
      refine Gg_Net_begins C wd_34 d_Net_pointOf_22 ?_
      refine G_iload C 0 d_Net_pointOf_25 rfl ?_
      refine G_iaload C (k := 2) (by decide) (fun _ _ => rfl) hq.1 d_Net_pointOf_27 ?_
      replace hq := hq.2
      exact G_iret C R d_Net_pointOf_28 ⟨_, rfl, hq⟩
theorem d_Nf_formAt_0 : decode b_Nf_formAt 0 = .ok (.iload_n 1, 1) := by decide +kernel
theorem d_Nf_formAt_1 : decode b_Nf_formAt 1 = .ok (.ifCond .lt 9, 3) := by decide +kernel
theorem d_Nf_formAt_4 : decode b_Nf_formAt 4 = .ok (.iload_n 1, 1) := by decide +kernel
theorem d_Nf_formAt_5 : decode b_Nf_formAt 5 = .ok (.bipush 12, 2) := by decide +kernel
theorem d_Nf_formAt_7 : decode b_Nf_formAt 7 = .ok (.if_icmp .lt 7, 3) := by decide +kernel
theorem d_Nf_formAt_10 : decode b_Nf_formAt 10 = .ok (.aconst_null, 1) := by decide +kernel
theorem d_Nf_formAt_11 : decode b_Nf_formAt 11 = .ok (.goto 9, 3) := by decide +kernel
theorem d_Nf_formAt_14 : decode b_Nf_formAt 14 = .ok (.aload_n 0, 1) := by decide +kernel
theorem d_Nf_formAt_15 : decode b_Nf_formAt 15 = .ok (.getfield 18, 3) := by decide +kernel
theorem d_Nf_formAt_18 : decode b_Nf_formAt 18 = .ok (.iload_n 1, 1) := by decide +kernel
theorem d_Nf_formAt_19 : decode b_Nf_formAt 19 = .ok (.aaload, 1) := by decide +kernel
theorem d_Nf_formAt_20 : decode b_Nf_formAt 20 = .ok (.areturn, 1) := by decide +kernel
def q_Nf_formAt (a1 : Int32) (M : Mem) (post : Option Nat → Mem → Prop) : Prop := (a1 < 0 → post none M) ∧ (¬ a1 < 0 → (a1 < (12 : Int32) → vp_in a1 12 ∧ (post (some a1.toNatClampNeg) M)) ∧ (¬ a1 < (12 : Int32) → post none M))
set_option maxHeartbeats 4000000 in
theorem s_Nf_formAt {l : Launch} {κ : Kp} {a1 : Int32} {M : Mem} {post : Option Nat → Mem → Prop} (hq : q_Nf_formAt a1 M post) : Ct l κ y_Nf_formAt b_Nf_formAt 2 (some (.object "NetForms$Form")) 0 [.ref (κ.1 + 0), .int a1] M (pF κ post) := by
  refine Ct_of (by decide) (Nat.le_of_ble_eq_true rfl) (fun γ hγ C R => ?_)
  subst hγ
  unfold q_Nf_formAt at hq
  show G γ κ 2 (0, 0) (Gq γ κ (pF κ post)) 0 [(0, .ref (κ.1 + 0)), (1, .int a1)] [] M
  refine G_iload_n C 1 d_Nf_formAt_0 rfl rfl ?_
  refine G_if_lt C (tgt := 10) d_Nf_formAt_1 (by decide) (fun c => ?_) (fun c => ?_)
  · replace hq := hq.1 c
    refine G_null C d_Nf_formAt_10 ?_
    refine G_goto C (tgt := 20) d_Nf_formAt_11 (by decide) ?_
    exact G_aret C R (r := none) d_Nf_formAt_20 ⟨_, rfl, hq⟩
  · replace hq := hq.2 c
    refine G_iload_n C 1 d_Nf_formAt_4 rfl rfl ?_
    refine G_bipush C (v := 12) d_Nf_formAt_5 (by decide) ?_
    refine G_icmp_lt C (tgt := 14) d_Nf_formAt_7 (by decide) (fun c => ?_) (fun c => ?_)
    · replace hq := hq.1 c
      refine G_aload_n C 0 d_Nf_formAt_14 rfl rfl ?_
      refine Gg_Nf_forms C wd_164 d_Nf_formAt_15 ?_
      refine G_iload_n C 1 d_Nf_formAt_18 rfl rfl ?_
      have hr1 := hq.1
      replace hq := hq.2
      refine G_aaF C hr1 d_Nf_formAt_19 ?_
      exact G_aret C R (r := (some _)) d_Nf_formAt_20 ⟨_, rfl, hq⟩
    · replace hq := hq.2 c
      refine G_null C d_Nf_formAt_10 ?_
      refine G_goto C (tgt := 20) d_Nf_formAt_11 (by decide) ?_
      exact G_aret C R (r := none) d_Nf_formAt_20 ⟨_, rfl, hq⟩
theorem d_Nf_isWithin_0 : decode b_Nf_isWithin 0 = .ok (.lload_n 0, 1) := by decide +kernel
theorem d_Nf_isWithin_1 : decode b_Nf_isWithin 1 = .ok (.iload_n 2, 1) := by decide +kernel
theorem d_Nf_isWithin_2 : decode b_Nf_isWithin 2 = .ok (.ineg, 1) := by decide +kernel
theorem d_Nf_isWithin_3 : decode b_Nf_isWithin 3 = .ok (.i2l, 1) := by decide +kernel
theorem d_Nf_isWithin_4 : decode b_Nf_isWithin 4 = .ok (.lcmp, 1) := by decide +kernel
theorem d_Nf_isWithin_5 : decode b_Nf_isWithin 5 = .ok (.ifCond .lt 14, 3) := by decide +kernel
theorem d_Nf_isWithin_8 : decode b_Nf_isWithin 8 = .ok (.lload_n 0, 1) := by decide +kernel
theorem d_Nf_isWithin_9 : decode b_Nf_isWithin 9 = .ok (.iload_n 2, 1) := by decide +kernel
theorem d_Nf_isWithin_10 : decode b_Nf_isWithin 10 = .ok (.i2l, 1) := by decide +kernel
theorem d_Nf_isWithin_11 : decode b_Nf_isWithin 11 = .ok (.lcmp, 1) := by decide +kernel
theorem d_Nf_isWithin_12 : decode b_Nf_isWithin 12 = .ok (.ifCond .gt 7, 3) := by decide +kernel
theorem d_Nf_isWithin_15 : decode b_Nf_isWithin 15 = .ok (.iconst 1, 1) := by decide +kernel
theorem d_Nf_isWithin_16 : decode b_Nf_isWithin 16 = .ok (.goto 4, 3) := by decide +kernel
theorem d_Nf_isWithin_19 : decode b_Nf_isWithin 19 = .ok (.iconst 0, 1) := by decide +kernel
theorem d_Nf_isWithin_20 : decode b_Nf_isWithin 20 = .ok (.ireturn, 1) := by decide +kernel
def q_Nf_isWithin (a0 : Int64) (a2 : Int32) (M : Mem) (post : Int32 → Mem → Prop) : Prop := (a0 < ((-a2).toInt64) → post (0 : Int32) M) ∧ (¬ a0 < ((-a2).toInt64) → (a2.toInt64 < a0 → post (0 : Int32) M) ∧ (¬ a2.toInt64 < a0 → post (1 : Int32) M))
set_option maxHeartbeats 4000000 in
theorem s_Nf_isWithin {l : Launch} {κ : Kp} {a0 : Int64} {a2 : Int32} {M : Mem} {post : Int32 → Mem → Prop} (hq : q_Nf_isWithin a0 a2 M post) : Ct l κ y_Nf_isWithin b_Nf_isWithin 3 (some .boolean) 0 [.long a0, .int a2] M (pI post) := by
  refine Ct_of (by decide) (Nat.le_of_ble_eq_true rfl) (fun γ hγ C R => ?_)
  subst hγ
  unfold q_Nf_isWithin at hq
  show G γ κ 3 (0, 0) (Gq γ κ (pI post)) 0 [(0, .long a0), (2, .int a2)] [] M
  refine G_lload_n C 0 d_Nf_isWithin_0 rfl rfl ?_
  refine G_iload_n C 1 d_Nf_isWithin_1 rfl rfl ?_
  refine G_ineg C d_Nf_isWithin_2 ?_
  refine G_i2l C d_Nf_isWithin_3 ?_
  refine G_lcmp_lt C (tgt := 19) (pc1 := 5) d_Nf_isWithin_4 rfl d_Nf_isWithin_5 (by decide) (fun c => ?_) (fun c => ?_)
  · replace hq := hq.1 c
    refine G_iconst C (v := 0) d_Nf_isWithin_19 (by decide) ?_
    exact G_zret C R rfl d_Nf_isWithin_20 ⟨_, rfl, hq⟩
  · replace hq := hq.2 c
    refine G_lload_n C 0 d_Nf_isWithin_8 rfl rfl ?_
    refine G_iload_n C 1 d_Nf_isWithin_9 rfl rfl ?_
    refine G_i2l C d_Nf_isWithin_10 ?_
    refine G_lcmp_gt C (tgt := 19) (pc1 := 12) d_Nf_isWithin_11 rfl d_Nf_isWithin_12 (by decide) (fun c => ?_) (fun c => ?_)
    · replace hq := hq.1 c
      refine G_iconst C (v := 0) d_Nf_isWithin_19 (by decide) ?_
      exact G_zret C R rfl d_Nf_isWithin_20 ⟨_, rfl, hq⟩
    · replace hq := hq.2 c
      refine G_iconst C (v := 1) d_Nf_isWithin_15 (by decide) ?_
      refine G_goto C (tgt := 20) d_Nf_isWithin_16 (by decide) ?_
      exact G_zret C R rfl d_Nf_isWithin_20 ⟨_, rfl, hq⟩
theorem d_Net_signOf_0 : decode b_Net_signOf 0 = .ok (.iload_n 1, 1) := by decide +kernel
theorem d_Net_signOf_1 : decode b_Net_signOf 1 = .ok (.iconst 1, 1) := by decide +kernel
theorem d_Net_signOf_2 : decode b_Net_signOf 2 = .ok (.if_icmp .ne 33, 3) := by decide +kernel
theorem d_Net_signOf_5 : decode b_Net_signOf 5 = .ok (.aload_n 0, 1) := by decide +kernel
theorem d_Net_signOf_6 : decode b_Net_signOf 6 = .ok (.getfield 15, 3) := by decide +kernel
theorem d_Net_signOf_9 : decode b_Net_signOf 9 = .ok (.iload_n 2, 1) := by decide +kernel
theorem d_Net_signOf_10 : decode b_Net_signOf 10 = .ok (.iaload, 1) := by decide +kernel
theorem d_Net_signOf_11 : decode b_Net_signOf 11 = .ok (.iload_n 3, 1) := by decide +kernel
theorem d_Net_signOf_12 : decode b_Net_signOf 12 = .ok (.if_icmp .ne 7, 3) := by decide +kernel
theorem d_Net_signOf_15 : decode b_Net_signOf 15 = .ok (.iconst 1, 1) := by decide +kernel
theorem d_Net_signOf_16 : decode b_Net_signOf 16 = .ok (.goto 18, 3) := by decide +kernel
theorem d_Net_signOf_19 : decode b_Net_signOf 19 = .ok (.aload_n 0, 1) := by decide +kernel
theorem d_Net_signOf_20 : decode b_Net_signOf 20 = .ok (.getfield 9, 3) := by decide +kernel
theorem d_Net_signOf_23 : decode b_Net_signOf 23 = .ok (.iload_n 2, 1) := by decide +kernel
theorem d_Net_signOf_24 : decode b_Net_signOf 24 = .ok (.iaload, 1) := by decide +kernel
theorem d_Net_signOf_25 : decode b_Net_signOf 25 = .ok (.iload_n 3, 1) := by decide +kernel
theorem d_Net_signOf_26 : decode b_Net_signOf 26 = .ok (.if_icmp .ne 7, 3) := by decide +kernel
theorem d_Net_signOf_29 : decode b_Net_signOf 29 = .ok (.iconst (-1), 1) := by decide +kernel
theorem d_Net_signOf_30 : decode b_Net_signOf 30 = .ok (.goto 4, 3) := by decide +kernel
theorem d_Net_signOf_33 : decode b_Net_signOf 33 = .ok (.iconst 0, 1) := by decide +kernel
theorem d_Net_signOf_34 : decode b_Net_signOf 34 = .ok (.ireturn, 1) := by decide +kernel
theorem d_Net_signOf_35 : decode b_Net_signOf 35 = .ok (.aload_n 0, 1) := by decide +kernel
theorem d_Net_signOf_36 : decode b_Net_signOf 36 = .ok (.getfield 18, 3) := by decide +kernel
theorem d_Net_signOf_39 : decode b_Net_signOf 39 = .ok (.iload_n 2, 1) := by decide +kernel
theorem d_Net_signOf_40 : decode b_Net_signOf 40 = .ok (.iaload, 1) := by decide +kernel
theorem d_Net_signOf_41 : decode b_Net_signOf 41 = .ok (.iload_n 3, 1) := by decide +kernel
theorem d_Net_signOf_42 : decode b_Net_signOf 42 = .ok (.if_icmp .eq 13, 3) := by decide +kernel
theorem d_Net_signOf_45 : decode b_Net_signOf 45 = .ok (.aload_n 0, 1) := by decide +kernel
theorem d_Net_signOf_46 : decode b_Net_signOf 46 = .ok (.getfield 21, 3) := by decide +kernel
theorem d_Net_signOf_49 : decode b_Net_signOf 49 = .ok (.iload_n 2, 1) := by decide +kernel
theorem d_Net_signOf_50 : decode b_Net_signOf 50 = .ok (.iaload, 1) := by decide +kernel
theorem d_Net_signOf_51 : decode b_Net_signOf 51 = .ok (.iload_n 3, 1) := by decide +kernel
theorem d_Net_signOf_52 : decode b_Net_signOf 52 = .ok (.if_icmp .ne 5, 3) := by decide +kernel
theorem d_Net_signOf_55 : decode b_Net_signOf 55 = .ok (.iconst 1, 1) := by decide +kernel
theorem d_Net_signOf_56 : decode b_Net_signOf 56 = .ok (.ireturn, 1) := by decide +kernel
theorem d_Net_signOf_57 : decode b_Net_signOf 57 = .ok (.aload_n 0, 1) := by decide +kernel
theorem d_Net_signOf_58 : decode b_Net_signOf 58 = .ok (.getfield 24, 3) := by decide +kernel
theorem d_Net_signOf_61 : decode b_Net_signOf 61 = .ok (.iload_n 2, 1) := by decide +kernel
theorem d_Net_signOf_62 : decode b_Net_signOf 62 = .ok (.iaload, 1) := by decide +kernel
theorem d_Net_signOf_63 : decode b_Net_signOf 63 = .ok (.iload_n 3, 1) := by decide +kernel
theorem d_Net_signOf_64 : decode b_Net_signOf 64 = .ok (.if_icmp .ne 7, 3) := by decide +kernel
theorem d_Net_signOf_67 : decode b_Net_signOf 67 = .ok (.iconst (-1), 1) := by decide +kernel
theorem d_Net_signOf_68 : decode b_Net_signOf 68 = .ok (.goto 4, 3) := by decide +kernel
theorem d_Net_signOf_71 : decode b_Net_signOf 71 = .ok (.iconst 0, 1) := by decide +kernel
theorem d_Net_signOf_72 : decode b_Net_signOf 72 = .ok (.ireturn, 1) := by decide +kernel
def q_Net_signOf (a1 : Int32) (a2 : Int32) (a3 : Int32) (M : Mem) (post : Int32 → Mem → Prop) : Prop := (¬ a1 = (1 : Int32) → vp_in a2 10 ∧ (((M.1 4 a2.toNatClampNeg) = a3 → post (1 : Int32) M) ∧ (¬ (M.1 4 a2.toNatClampNeg) = a3 → vp_in a2 10 ∧ ((¬ (M.1 5 a2.toNatClampNeg) = a3 → vp_in a2 10 ∧ ((¬ (M.1 6 a2.toNatClampNeg) = a3 → post (0 : Int32) M) ∧ ((M.1 6 a2.toNatClampNeg) = a3 → post (-1 : Int32) M))) ∧ ((M.1 5 a2.toNatClampNeg) = a3 → post (1 : Int32) M))))) ∧ (a1 = (1 : Int32) → vp_in a2 12 ∧ ((¬ (M.1 3 a2.toNatClampNeg) = a3 → vp_in a2 12 ∧ ((¬ (M.1 2 a2.toNatClampNeg) = a3 → post (0 : Int32) M) ∧ ((M.1 2 a2.toNatClampNeg) = a3 → post (-1 : Int32) M))) ∧ ((M.1 3 a2.toNatClampNeg) = a3 → post (1 : Int32) M)))
set_option maxHeartbeats 4000000 in
theorem s_Net_signOf {l : Launch} {κ : Kp} {a1 : Int32} {a2 : Int32} {a3 : Int32} {M : Mem} {post : Int32 → Mem → Prop} (hq : q_Net_signOf a1 a2 a3 M post) : Ct l κ y_Net_signOf b_Net_signOf 4 (some .int) 0 [.ref (κ.1 + 1), .int a1, .int a2, .int a3] M (pI post) := by
  refine Ct_of (by decide) (Nat.le_of_ble_eq_true rfl) (fun γ hγ C R => ?_)
  subst hγ
  unfold q_Net_signOf at hq
  show G γ κ 4 (0, 0) (Gq γ κ (pI post)) 0 [(0, .ref (κ.1 + 1)), (1, .int a1), (2, .int a2), (3, .int a3)] [] M
  refine G_iload_n C 1 d_Net_signOf_0 rfl rfl ?_
  refine G_iconst C (v := 1) d_Net_signOf_1 (by decide) ?_
  refine G_icmp_ne C (tgt := 35) d_Net_signOf_2 (by decide) (fun c => ?_) (fun c => ?_)
  · replace hq := hq.1 c
    refine G_aload_n C 0 d_Net_signOf_35 rfl rfl ?_
    refine Gg_Net_firsts C wd_42 d_Net_signOf_36 ?_
    refine G_iload_n C 2 d_Net_signOf_39 rfl rfl ?_
    refine G_iaload C (k := 4) (by decide) (fun _ _ => rfl) hq.1 d_Net_signOf_40 ?_
    replace hq := hq.2
    refine G_iload_n C 3 d_Net_signOf_41 rfl rfl ?_
    refine G_icmp_eq C (tgt := 55) d_Net_signOf_42 (by decide) (fun c => ?_) (fun c => ?_)
    · replace hq := hq.1 c
      refine G_iconst C (v := 1) d_Net_signOf_55 (by decide) ?_
      exact G_iret C R d_Net_signOf_56 ⟨_, rfl, hq⟩
    · replace hq := hq.2 c
      refine G_aload_n C 0 d_Net_signOf_45 rfl rfl ?_
      refine Gg_Net_seconds C wd_43 d_Net_signOf_46 ?_
      refine G_iload_n C 2 d_Net_signOf_49 rfl rfl ?_
      refine G_iaload C (k := 5) (by decide) (fun _ _ => rfl) hq.1 d_Net_signOf_50 ?_
      replace hq := hq.2
      refine G_iload_n C 3 d_Net_signOf_51 rfl rfl ?_
      refine G_icmp_ne C (tgt := 57) d_Net_signOf_52 (by decide) (fun c => ?_) (fun c => ?_)
      · replace hq := hq.1 c
        refine G_aload_n C 0 d_Net_signOf_57 rfl rfl ?_
        refine Gg_Net_acrosses C wd_44 d_Net_signOf_58 ?_
        refine G_iload_n C 2 d_Net_signOf_61 rfl rfl ?_
        refine G_iaload C (k := 6) (by decide) (fun _ _ => rfl) hq.1 d_Net_signOf_62 ?_
        replace hq := hq.2
        refine G_iload_n C 3 d_Net_signOf_63 rfl rfl ?_
        refine G_icmp_ne C (tgt := 71) d_Net_signOf_64 (by decide) (fun c => ?_) (fun c => ?_)
        · replace hq := hq.1 c
          refine G_iconst C (v := 0) d_Net_signOf_71 (by decide) ?_
          exact G_iret C R d_Net_signOf_72 ⟨_, rfl, hq⟩
        · replace hq := hq.2 c
          refine G_iconst C (v := -1) d_Net_signOf_67 (by decide) ?_
          refine G_goto C (tgt := 72) d_Net_signOf_68 (by decide) ?_
          exact G_iret C R d_Net_signOf_72 ⟨_, rfl, hq⟩
      · replace hq := hq.2 c
        refine G_iconst C (v := 1) d_Net_signOf_55 (by decide) ?_
        exact G_iret C R d_Net_signOf_56 ⟨_, rfl, hq⟩
  · replace hq := hq.2 c
    refine G_aload_n C 0 d_Net_signOf_5 rfl rfl ?_
    refine Gg_Net_ends C wd_38 d_Net_signOf_6 ?_
    refine G_iload_n C 2 d_Net_signOf_9 rfl rfl ?_
    refine G_iaload C (k := 3) (by decide) (fun _ _ => rfl) hq.1 d_Net_signOf_10 ?_
    replace hq := hq.2
    refine G_iload_n C 3 d_Net_signOf_11 rfl rfl ?_
    refine G_icmp_ne C (tgt := 19) d_Net_signOf_12 (by decide) (fun c => ?_) (fun c => ?_)
    · replace hq := hq.1 c
      refine G_aload_n C 0 d_Net_signOf_19 rfl rfl ?_
      refine Gg_Net_begins C wd_34 d_Net_signOf_20 ?_
      refine G_iload_n C 2 d_Net_signOf_23 rfl rfl ?_
      refine G_iaload C (k := 2) (by decide) (fun _ _ => rfl) hq.1 d_Net_signOf_24 ?_
      replace hq := hq.2
      refine G_iload_n C 3 d_Net_signOf_25 rfl rfl ?_
      refine G_icmp_ne C (tgt := 33) d_Net_signOf_26 (by decide) (fun c => ?_) (fun c => ?_)
      · replace hq := hq.1 c
        refine G_iconst C (v := 0) d_Net_signOf_33 (by decide) ?_
        exact G_iret C R d_Net_signOf_34 ⟨_, rfl, hq⟩
      · replace hq := hq.2 c
        refine G_iconst C (v := -1) d_Net_signOf_29 (by decide) ?_
        refine G_goto C (tgt := 34) d_Net_signOf_30 (by decide) ?_
        exact G_iret C R d_Net_signOf_34 ⟨_, rfl, hq⟩
    · replace hq := hq.2 c
      refine G_iconst C (v := 1) d_Net_signOf_15 (by decide) ?_
      refine G_goto C (tgt := 34) d_Net_signOf_16 (by decide) ?_
      exact G_iret C R d_Net_signOf_34 ⟨_, rfl, hq⟩
theorem d_Nf_isMadeZero_0 : decode b_Nf_isMadeZero 0 = .ok (.iconst 0, 1) := by decide +kernel
theorem d_Nf_isMadeZero_1 : decode b_Nf_isMadeZero 1 = .ok (.istore_n 2, 1) := by decide +kernel
theorem d_Nf_isMadeZero_2 : decode b_Nf_isMadeZero 2 = .ok (.iload_n 2, 1) := by decide +kernel
theorem d_Nf_isMadeZero_3 : decode b_Nf_isMadeZero 3 = .ok (.iload_n 1, 1) := by decide +kernel
theorem d_Nf_isMadeZero_4 : decode b_Nf_isMadeZero 4 = .ok (.if_icmp .ge 22, 3) := by decide +kernel
theorem d_Nf_isMadeZero_7 : decode b_Nf_isMadeZero 7 = .ok (.aload_n 0, 1) := by decide +kernel
theorem d_Nf_isMadeZero_8 : decode b_Nf_isMadeZero 8 = .ok (.getfield 50, 3) := by decide +kernel
theorem d_Nf_isMadeZero_11 : decode b_Nf_isMadeZero 11 = .ok (.iload_n 2, 1) := by decide +kernel
theorem d_Nf_isMadeZero_12 : decode b_Nf_isMadeZero 12 = .ok (.laload, 1) := by decide +kernel
theorem d_Nf_isMadeZero_13 : decode b_Nf_isMadeZero 13 = .ok (.lconst 0, 1) := by decide +kernel
theorem d_Nf_isMadeZero_14 : decode b_Nf_isMadeZero 14 = .ok (.lcmp, 1) := by decide +kernel
theorem d_Nf_isMadeZero_15 : decode b_Nf_isMadeZero 15 = .ok (.ifCond .eq 5, 3) := by decide +kernel
theorem d_Nf_isMadeZero_18 : decode b_Nf_isMadeZero 18 = .ok (.iconst 0, 1) := by decide +kernel
theorem d_Nf_isMadeZero_19 : decode b_Nf_isMadeZero 19 = .ok (.ireturn, 1) := by decide +kernel
theorem d_Nf_isMadeZero_20 : decode b_Nf_isMadeZero 20 = .ok (.iinc 2 1, 3) := by decide +kernel
theorem d_Nf_isMadeZero_23 : decode b_Nf_isMadeZero 23 = .ok (.goto (-21), 3) := by decide +kernel
theorem d_Nf_isMadeZero_26 : decode b_Nf_isMadeZero 26 = .ok (.iconst 1, 1) := by decide +kernel
theorem d_Nf_isMadeZero_27 : decode b_Nf_isMadeZero 27 = .ok (.ireturn, 1) := by decide +kernel
def q_Nf_isMadeZero_L2 (kx18 : Mem → Prop) (kx26 : Mem → Prop) (post : Int32 → Mem → Prop) : Nat → Int32 → Int32 → Mem → Prop
  | 0, _, _, _ => False
  | n + 1, x1, x2, M => (x1 ≤ x2 → kx26 M) ∧ (¬ x1 ≤ x2 → vp_in x2 12 ∧ (((M.2 31 x2.toNatClampNeg) = (0 : Int64) → q_Nf_isMadeZero_L2 kx18 kx26 post n x1 (x2 + 1) M) ∧ (¬ (M.2 31 x2.toNatClampNeg) = (0 : Int64) → kx18 M)))
set_option maxHeartbeats 4000000 in
theorem s_Nf_isMadeZero_L2 {γ : Gm} {κ : Kp} {post : Int32 → Mem → Prop} {kx18 : Mem → Prop} {kx26 : Mem → Prop} (C : Cx γ κ "NetForms" b_Nf_isMadeZero 3 0 (0, 0)) (R : Rt γ (some .boolean)) (hx18 : ∀ M', kx18 M' → G γ κ 3 (0, 0) (Gq γ κ (pI post)) 18 [] [] M') (hx26 : ∀ M', kx26 M' → G γ κ 3 (0, 0) (Gq γ κ (pI post)) 26 [] [] M') : ∀ (n : Nat) (x1 : Int32) (x2 : Int32) (M : Mem), q_Nf_isMadeZero_L2 kx18 kx26 post n x1 x2 M → G γ κ 3 (0, 0) (Gq γ κ (pI post)) 2 [(0, .ref (κ.1 + 0)), (1, .int x1), (2, .int x2)] [] M := by
  intro n
  induction n with
  | zero => intro x1 x2 M hq; exact hq.elim
  | succ n ih =>
    intro x1 x2 M hq
    unfold q_Nf_isMadeZero_L2 at hq
    refine G_iload_n C 2 d_Nf_isMadeZero_2 rfl rfl ?_
    refine G_iload_n C 1 d_Nf_isMadeZero_3 rfl rfl ?_
    refine G_icmp_ge C (tgt := 26) d_Nf_isMadeZero_4 (by decide) (fun c => ?_) (fun c => ?_)
    · replace hq := hq.1 c
      exact G_sub [] (by rfl) (hx26 _ hq)
    · replace hq := hq.2 c
      refine G_aload_n C 0 d_Nf_isMadeZero_7 rfl rfl ?_
      refine Gg_Nf_made C wd_169 d_Nf_isMadeZero_8 ?_
      refine G_iload_n C 2 d_Nf_isMadeZero_11 rfl rfl ?_
      refine G_laload C (k := 31) (by decide) (fun _ _ => rfl) hq.1 d_Nf_isMadeZero_12 ?_
      replace hq := hq.2
      refine G_lconst C (v := 0) d_Nf_isMadeZero_13 (by decide) ?_
      refine G_lcmp_eq C (tgt := 20) (pc1 := 15) d_Nf_isMadeZero_14 rfl d_Nf_isMadeZero_15 (by decide) (fun c => ?_) (fun c => ?_)
      · replace hq := hq.1 c
        refine G_iinc C (v := _ + 1) (lv' := [(2, _), (0, _), (1, _)]) 2 d_Nf_isMadeZero_20 rfl rfl (by decide) rfl ?_
        refine G_goto C (tgt := 2) d_Nf_isMadeZero_23 (by decide) ?_
        exact G_sub [1, 2, 0] (by rfl) (ih _ _ _ hq)
      · replace hq := hq.2 c
        exact G_sub [] (by rfl) (hx18 _ hq)
def q_Nf_isMadeZero (a1 : Int32) (M : Mem) (post : Int32 → Mem → Prop) : Prop := ∃ n1, q_Nf_isMadeZero_L2 (fun M2 => post (0 : Int32) M2) (fun M3 => post (1 : Int32) M3) post n1 a1 (0 : Int32) M
set_option maxHeartbeats 4000000 in
theorem s_Nf_isMadeZero {l : Launch} {κ : Kp} {a1 : Int32} {M : Mem} {post : Int32 → Mem → Prop} (hq : q_Nf_isMadeZero a1 M post) : Ct l κ y_Nf_isMadeZero b_Nf_isMadeZero 3 (some .boolean) 0 [.ref (κ.1 + 0), .int a1] M (pI post) := by
  refine Ct_of (by decide) (Nat.le_of_ble_eq_true rfl) (fun γ hγ C R => ?_)
  subst hγ
  unfold q_Nf_isMadeZero at hq
  show G γ κ 3 (0, 0) (Gq γ κ (pI post)) 0 [(0, .ref (κ.1 + 0)), (1, .int a1)] [] M
  refine G_iconst C (v := 0) d_Nf_isMadeZero_0 (by decide) ?_
  refine G_istore_n C (lv' := [(2, _), (0, _), (1, _)]) d_Nf_isMadeZero_1 rfl (by decide) rfl ?_
  obtain ⟨n1, hq⟩ := hq
  refine G_sub [1, 2, 0] (by rfl) (s_Nf_isMadeZero_L2 C R ?_ ?_ n1 _ _ _ hq)
  · intro M2 hq
    refine G_iconst C (v := 0) d_Nf_isMadeZero_18 (by decide) ?_
    exact G_zret C R rfl d_Nf_isMadeZero_19 ⟨_, rfl, hq⟩
  · intro M3 hq
    refine G_iconst C (v := 1) d_Nf_isMadeZero_26 (by decide) ?_
    exact G_zret C R rfl d_Nf_isMadeZero_27 ⟨_, rfl, hq⟩
theorem d_Net_countParts_0 : decode b_Net_countParts 0 = .ok (.iconst 0, 1) := by decide +kernel
theorem d_Net_countParts_1 : decode b_Net_countParts 1 = .ok (.istore_n 1, 1) := by decide +kernel
theorem d_Net_countParts_2 : decode b_Net_countParts 2 = .ok (.iconst 0, 1) := by decide +kernel
theorem d_Net_countParts_3 : decode b_Net_countParts 3 = .ok (.istore_n 2, 1) := by decide +kernel
theorem d_Net_countParts_4 : decode b_Net_countParts 4 = .ok (.iload_n 2, 1) := by decide +kernel
theorem d_Net_countParts_5 : decode b_Net_countParts 5 = .ok (.aload_n 0, 1) := by decide +kernel
theorem d_Net_countParts_6 : decode b_Net_countParts 6 = .ok (.getfield 30, 3) := by decide +kernel
theorem d_Net_countParts_9 : decode b_Net_countParts 9 = .ok (.if_icmp .ge 22, 3) := by decide +kernel
theorem d_Net_countParts_12 : decode b_Net_countParts 12 = .ok (.aload_n 0, 1) := by decide +kernel
theorem d_Net_countParts_13 : decode b_Net_countParts 13 = .ok (.getfield 27, 3) := by decide +kernel
theorem d_Net_countParts_16 : decode b_Net_countParts 16 = .ok (.iload_n 2, 1) := by decide +kernel
theorem d_Net_countParts_17 : decode b_Net_countParts 17 = .ok (.iaload, 1) := by decide +kernel
theorem d_Net_countParts_18 : decode b_Net_countParts 18 = .ok (.iload_n 2, 1) := by decide +kernel
theorem d_Net_countParts_19 : decode b_Net_countParts 19 = .ok (.if_icmp .ne 6, 3) := by decide +kernel
theorem d_Net_countParts_22 : decode b_Net_countParts 22 = .ok (.iinc 1 1, 3) := by decide +kernel
theorem d_Net_countParts_25 : decode b_Net_countParts 25 = .ok (.iinc 2 1, 3) := by decide +kernel
theorem d_Net_countParts_28 : decode b_Net_countParts 28 = .ok (.goto (-24), 3) := by decide +kernel
theorem d_Net_countParts_31 : decode b_Net_countParts 31 = .ok (.iload_n 1, 1) := by decide +kernel
theorem d_Net_countParts_32 : decode b_Net_countParts 32 = .ok (.ireturn, 1) := by decide +kernel
def q_Net_countParts_L4 (kx31 : Int32 → Mem → Prop) (post : Int32 → Mem → Prop) : Nat → Int32 → Int32 → Mem → Prop
  | 0, _, _, _ => False
  | n + 1, x1, x2, M => ((M.1 1 0) ≤ x2 → kx31 x1 M) ∧ (¬ (M.1 1 0) ≤ x2 → vp_in x2 6 ∧ ((¬ (M.1 7 x2.toNatClampNeg) = x2 → q_Net_countParts_L4 kx31 post n x1 (x2 + 1) M) ∧ ((M.1 7 x2.toNatClampNeg) = x2 → q_Net_countParts_L4 kx31 post n (x1 + 1) (x2 + 1) M)))
set_option maxHeartbeats 4000000 in
theorem s_Net_countParts_L4 {γ : Gm} {κ : Kp} {post : Int32 → Mem → Prop} {kx31 : Int32 → Mem → Prop} (C : Cx γ κ "NetForms$Net" b_Net_countParts 3 0 (0, 0)) (R : Rt γ (some .int)) (hx31 : ∀ y0 M', kx31 y0 M' → G γ κ 3 (0, 0) (Gq γ κ (pI post)) 31 [(1, .int y0)] [] M') : ∀ (n : Nat) (x1 : Int32) (x2 : Int32) (M : Mem), q_Net_countParts_L4 kx31 post n x1 x2 M → G γ κ 3 (0, 0) (Gq γ κ (pI post)) 4 [(0, .ref (κ.1 + 1)), (1, .int x1), (2, .int x2)] [] M := by
  intro n
  induction n with
  | zero => intro x1 x2 M hq; exact hq.elim
  | succ n ih =>
    intro x1 x2 M hq
    unfold q_Net_countParts_L4 at hq
    refine G_iload_n C 2 d_Net_countParts_4 rfl rfl ?_
    refine G_aload_n C 0 d_Net_countParts_5 rfl rfl ?_
    refine Gg_Net_points C wd_25 d_Net_countParts_6 ?_
    refine G_icmp_ge C (tgt := 31) d_Net_countParts_9 (by decide) (fun c => ?_) (fun c => ?_)
    · replace hq := hq.1 c
      exact G_sub [1] (by rfl) (hx31 _ _ hq)
    · replace hq := hq.2 c
      refine G_aload_n C 0 d_Net_countParts_12 rfl rfl ?_
      refine Gg_Net_leasts C wd_45 d_Net_countParts_13 ?_
      refine G_iload_n C 2 d_Net_countParts_16 rfl rfl ?_
      refine G_iaload C (k := 7) (by decide) (fun _ _ => rfl) hq.1 d_Net_countParts_17 ?_
      replace hq := hq.2
      refine G_iload_n C 2 d_Net_countParts_18 rfl rfl ?_
      refine G_icmp_ne C (tgt := 25) d_Net_countParts_19 (by decide) (fun c => ?_) (fun c => ?_)
      · replace hq := hq.1 c
        refine G_iinc C (v := _ + 1) (lv' := [(2, _), (0, _), (1, _)]) 2 d_Net_countParts_25 rfl rfl (by decide) rfl ?_
        refine G_goto C (tgt := 4) d_Net_countParts_28 (by decide) ?_
        exact G_sub [1, 2, 0] (by rfl) (ih _ _ _ hq)
      · replace hq := hq.2 c
        refine G_iinc C (v := _ + 1) (lv' := [(1, _), (0, _), (2, _)]) 1 d_Net_countParts_22 rfl rfl (by decide) rfl ?_
        refine G_iinc C (v := _ + 1) (lv' := [(2, _), (1, _), (0, _)]) 2 d_Net_countParts_25 rfl rfl (by decide) rfl ?_
        refine G_goto C (tgt := 4) d_Net_countParts_28 (by decide) ?_
        exact G_sub [2, 1, 0] (by rfl) (ih _ _ _ hq)
def q_Net_countParts (M : Mem) (post : Int32 → Mem → Prop) : Prop := ∃ n1, q_Net_countParts_L4 (fun x2 M3 => post x2 M3) post n1 (0 : Int32) (0 : Int32) M
set_option maxHeartbeats 4000000 in
theorem s_Net_countParts {l : Launch} {κ : Kp} {M : Mem} {post : Int32 → Mem → Prop} (hq : q_Net_countParts M post) : Ct l κ y_Net_countParts b_Net_countParts 3 (some .int) 0 [.ref (κ.1 + 1)] M (pI post) := by
  refine Ct_of (by decide) (Nat.le_of_ble_eq_true rfl) (fun γ hγ C R => ?_)
  subst hγ
  unfold q_Net_countParts at hq
  show G γ κ 3 (0, 0) (Gq γ κ (pI post)) 0 [(0, .ref (κ.1 + 1))] [] M
  refine G_iconst C (v := 0) d_Net_countParts_0 (by decide) ?_
  refine G_istore_n C (lv' := [(1, _), (0, _)]) d_Net_countParts_1 rfl (by decide) rfl ?_
  refine G_iconst C (v := 0) d_Net_countParts_2 (by decide) ?_
  refine G_istore_n C (lv' := [(2, _), (1, _), (0, _)]) d_Net_countParts_3 rfl (by decide) rfl ?_
  obtain ⟨n1, hq⟩ := hq
  refine G_sub [2, 1, 0] (by rfl) (s_Net_countParts_L4 C R ?_ n1 _ _ _ hq)
  · intro x2 M3 hq
    refine G_iload_n C 0 d_Net_countParts_31 rfl rfl ?_
    exact G_iret C R d_Net_countParts_32 ⟨_, rfl, hq⟩
theorem d_Bal_add_0 : decode b_Bal_add 0 = .ok (.aload_n 0, 1) := by decide +kernel
theorem d_Bal_add_1 : decode b_Bal_add 1 = .ok (.getfield 11, 3) := by decide +kernel
theorem d_Bal_add_4 : decode b_Bal_add 4 = .ok (.iload_n 1, 1) := by decide +kernel
theorem d_Bal_add_5 : decode b_Bal_add 5 = .ok (.aaload, 1) := by decide +kernel
theorem d_Bal_add_6 : decode b_Bal_add 6 = .ok (.iload_n 2, 1) := by decide +kernel
theorem d_Bal_add_7 : decode b_Bal_add 7 = .ok (.dup2, 1) := by decide +kernel
theorem d_Bal_add_8 : decode b_Bal_add 8 = .ok (.laload, 1) := by decide +kernel
theorem d_Bal_add_9 : decode b_Bal_add 9 = .ok (.lload_n 3, 1) := by decide +kernel
theorem d_Bal_add_10 : decode b_Bal_add 10 = .ok (.ladd, 1) := by decide +kernel
theorem d_Bal_add_11 : decode b_Bal_add 11 = .ok (.lastore, 1) := by decide +kernel
theorem d_Bal_add_12 : decode b_Bal_add 12 = .ok (.return_, 1) := by decide +kernel
def q_Bal_add (a1 : Int32) (a2 : Int32) (a3 : Int64) (M : Mem) (post : Mem → Prop) : Prop := vp_in a1 10 ∧ (vp_in a2 10 ∧ (vp_in a2 10 ∧ (∀ M2, M2 = wJ M (17 + a1.toNatClampNeg) a2.toNatClampNeg ((M.2 (17 + a1.toNatClampNeg) a2.toNatClampNeg) + a3) → post M2)))
set_option maxHeartbeats 4000000 in
theorem s_Bal_add {l : Launch} {κ : Kp} {a1 : Int32} {a2 : Int32} {a3 : Int64} {M : Mem} {post : Mem → Prop} (hq : q_Bal_add a1 a2 a3 M post) : Ct l κ y_Bal_add b_Bal_add 5 (none) 0 [.ref (κ.1 + 15), .int a1, .int a2, .long a3] M (pV post) := by
  refine Ct_of (by decide) (Nat.le_of_ble_eq_true rfl) (fun γ hγ C R => ?_)
  subst hγ
  unfold q_Bal_add at hq
  show G γ κ 5 (0, 0) (Gq γ κ (pV post)) 0 [(0, .ref (κ.1 + 15)), (1, .int a1), (2, .int a2), (3, .long a3)] [] M
  refine G_aload_n C 0 d_Bal_add_0 rfl rfl ?_
  refine Gg_Bal_table C wd_114 d_Bal_add_1 ?_
  refine G_iload_n C 1 d_Bal_add_4 rfl rfl ?_
  have hr1 := hq.1
  replace hq := hq.2
  refine G_aaT C hr1 d_Bal_add_5 ?_
  refine G_iload_n C 2 d_Bal_add_6 rfl rfl ?_
  refine G_dup2 C d_Bal_add_7 rfl rfl ?_
  refine G_laload C (by have := vp_lt hr1; omega) (sh_tabA κ (vp_lt hr1)) hq.1 d_Bal_add_8 ?_
  replace hq := hq.2
  refine G_lload_n C 3 d_Bal_add_9 rfl rfl ?_
  refine G_ladd C d_Bal_add_10 ?_
  refine G_lastore C (by have := vp_lt hr1; omega) (sh_tabA κ (vp_lt hr1)) hq.1 d_Bal_add_11 ?_
  replace hq := hq.2 _ rfl
  exact G_vret C R d_Bal_add_12 ⟨rfl, hq⟩
theorem d_Nf_quotient_0 : decode b_Nf_quotient 0 = .ok (.lload_n 2, 1) := by decide +kernel
theorem d_Nf_quotient_1 : decode b_Nf_quotient 1 = .ok (.lconst 0, 1) := by decide +kernel
theorem d_Nf_quotient_2 : decode b_Nf_quotient 2 = .ok (.lcmp, 1) := by decide +kernel
theorem d_Nf_quotient_3 : decode b_Nf_quotient 3 = .ok (.ifCond .ne 7, 3) := by decide +kernel
theorem d_Nf_quotient_6 : decode b_Nf_quotient 6 = .ok (.lconst 0, 1) := by decide +kernel
theorem d_Nf_quotient_7 : decode b_Nf_quotient 7 = .ok (.goto 6, 3) := by decide +kernel
theorem d_Nf_quotient_10 : decode b_Nf_quotient 10 = .ok (.lload_n 0, 1) := by decide +kernel
theorem d_Nf_quotient_11 : decode b_Nf_quotient 11 = .ok (.lload_n 2, 1) := by decide +kernel
theorem d_Nf_quotient_12 : decode b_Nf_quotient 12 = .ok (.ldiv, 1) := by decide +kernel
theorem d_Nf_quotient_13 : decode b_Nf_quotient 13 = .ok (.lreturn, 1) := by decide +kernel
def q_Nf_quotient (a0 : Int64) (a2 : Int64) (M : Mem) (post : Int64 → Mem → Prop) : Prop := (¬ a2 = (0 : Int64) → ¬ a2 = 0 ∧ (post (a0 / a2) M)) ∧ (a2 = (0 : Int64) → post (0 : Int64) M)
set_option maxHeartbeats 4000000 in
theorem s_Nf_quotient {l : Launch} {κ : Kp} {a0 : Int64} {a2 : Int64} {M : Mem} {post : Int64 → Mem → Prop} (hq : q_Nf_quotient a0 a2 M post) : Ct l κ y_Nf_quotient b_Nf_quotient 4 (some .long) 0 [.long a0, .long a2] M (pJ post) := by
  refine Ct_of (by decide) (Nat.le_of_ble_eq_true rfl) (fun γ hγ C R => ?_)
  subst hγ
  unfold q_Nf_quotient at hq
  show G γ κ 4 (0, 0) (Gq γ κ (pJ post)) 0 [(0, .long a0), (2, .long a2)] [] M
  refine G_lload_n C 1 d_Nf_quotient_0 rfl rfl ?_
  refine G_lconst C (v := 0) d_Nf_quotient_1 (by decide) ?_
  refine G_lcmp_ne C (tgt := 10) (pc1 := 3) d_Nf_quotient_2 rfl d_Nf_quotient_3 (by decide) (fun c => ?_) (fun c => ?_)
  · replace hq := hq.1 c
    refine G_lload_n C 0 d_Nf_quotient_10 rfl rfl ?_
    refine G_lload_n C 1 d_Nf_quotient_11 rfl rfl ?_
    refine G_ldiv C d_Nf_quotient_12 hq.1 ?_
    replace hq := hq.2
    exact G_lret C R d_Nf_quotient_13 ⟨_, rfl, hq⟩
  · replace hq := hq.2 c
    refine G_lconst C (v := 0) d_Nf_quotient_6 (by decide) ?_
    refine G_goto C (tgt := 13) d_Nf_quotient_7 (by decide) ?_
    exact G_lret C R d_Nf_quotient_13 ⟨_, rfl, hq⟩
theorem d_Cli_aboveLeast_0 : decode b_Cli_aboveLeast 0 = .ok (.aload_n 0, 1) := by decide +kernel
theorem d_Cli_aboveLeast_1 : decode b_Cli_aboveLeast 1 = .ok (.getfield 9, 3) := by decide +kernel
theorem d_Cli_aboveLeast_4 : decode b_Cli_aboveLeast 4 = .ok (.iload_n 1, 1) := by decide +kernel
theorem d_Cli_aboveLeast_5 : decode b_Cli_aboveLeast 5 = .ok (.laload, 1) := by decide +kernel
theorem d_Cli_aboveLeast_6 : decode b_Cli_aboveLeast 6 = .ok (.aload_n 0, 1) := by decide +kernel
theorem d_Cli_aboveLeast_7 : decode b_Cli_aboveLeast 7 = .ok (.getfield 9, 3) := by decide +kernel
theorem d_Cli_aboveLeast_10 : decode b_Cli_aboveLeast 10 = .ok (.aload_n 0, 1) := by decide +kernel
theorem d_Cli_aboveLeast_11 : decode b_Cli_aboveLeast 11 = .ok (.getfield 15, 3) := by decide +kernel
theorem d_Cli_aboveLeast_14 : decode b_Cli_aboveLeast 14 = .ok (.iload_n 1, 1) := by decide +kernel
theorem d_Cli_aboveLeast_15 : decode b_Cli_aboveLeast 15 = .ok (.iaload, 1) := by decide +kernel
theorem d_Cli_aboveLeast_16 : decode b_Cli_aboveLeast 16 = .ok (.laload, 1) := by decide +kernel
theorem d_Cli_aboveLeast_17 : decode b_Cli_aboveLeast 17 = .ok (.lsub, 1) := by decide +kernel
theorem d_Cli_aboveLeast_18 : decode b_Cli_aboveLeast 18 = .ok (.lreturn, 1) := by decide +kernel
def q_Cli_aboveLeast (a1 : Int32) (M : Mem) (post : Int64 → Mem → Prop) : Prop := vp_in a1 6 ∧ (vp_in a1 6 ∧ (vp_in (M.1 30 a1.toNatClampNeg) 6 ∧ (post ((M.2 29 a1.toNatClampNeg) - (M.2 29 (M.1 30 a1.toNatClampNeg).toNatClampNeg)) M)))
set_option maxHeartbeats 4000000 in
theorem s_Cli_aboveLeast {l : Launch} {κ : Kp} {a1 : Int32} {M : Mem} {post : Int64 → Mem → Prop} (hq : q_Cli_aboveLeast a1 M post) : Ct l κ y_Cli_aboveLeast b_Cli_aboveLeast 2 (some .long) 0 [.ref (κ.1 + 28), .int a1] M (pJ post) := by
  refine Ct_of (by decide) (Nat.le_of_ble_eq_true rfl) (fun γ hγ C R => ?_)
  subst hγ
  unfold q_Cli_aboveLeast at hq
  show G γ κ 2 (0, 0) (Gq γ κ (pJ post)) 0 [(0, .ref (κ.1 + 28)), (1, .int a1)] [] M
  refine G_aload_n C 0 d_Cli_aboveLeast_0 rfl rfl ?_
  refine Gg_Cli_climbed C wd_137 d_Cli_aboveLeast_1 ?_
  refine G_iload_n C 1 d_Cli_aboveLeast_4 rfl rfl ?_
  refine G_laload C (k := 29) (by decide) (fun _ _ => rfl) hq.1 d_Cli_aboveLeast_5 ?_
  replace hq := hq.2
  refine G_aload_n C 0 d_Cli_aboveLeast_6 rfl rfl ?_
  refine Gg_Cli_climbed C wd_137 d_Cli_aboveLeast_7 ?_
  refine G_aload_n C 0 d_Cli_aboveLeast_10 rfl rfl ?_
  refine Gg_Cli_leasts C wd_138 d_Cli_aboveLeast_11 ?_
  refine G_iload_n C 1 d_Cli_aboveLeast_14 rfl rfl ?_
  refine G_iaload C (k := 30) (by decide) (fun _ _ => rfl) hq.1 d_Cli_aboveLeast_15 ?_
  replace hq := hq.2
  refine G_laload C (k := 29) (by decide) (fun _ _ => rfl) hq.1 d_Cli_aboveLeast_16 ?_
  replace hq := hq.2
  refine G_lsub C d_Cli_aboveLeast_17 ?_
  exact G_lret C R d_Cli_aboveLeast_18 ⟨_, rfl, hq⟩
theorem d_Bal_addDue_0 : decode b_Bal_addDue 0 = .ok (.aload_n 0, 1) := by decide +kernel
theorem d_Bal_addDue_1 : decode b_Bal_addDue 1 = .ok (.getfield 14, 3) := by decide +kernel
theorem d_Bal_addDue_4 : decode b_Bal_addDue 4 = .ok (.iload_n 1, 1) := by decide +kernel
theorem d_Bal_addDue_5 : decode b_Bal_addDue 5 = .ok (.dup2, 1) := by decide +kernel
theorem d_Bal_addDue_6 : decode b_Bal_addDue 6 = .ok (.laload, 1) := by decide +kernel
theorem d_Bal_addDue_7 : decode b_Bal_addDue 7 = .ok (.lload_n 2, 1) := by decide +kernel
theorem d_Bal_addDue_8 : decode b_Bal_addDue 8 = .ok (.ladd, 1) := by decide +kernel
theorem d_Bal_addDue_9 : decode b_Bal_addDue 9 = .ok (.lastore, 1) := by decide +kernel
theorem d_Bal_addDue_10 : decode b_Bal_addDue 10 = .ok (.return_, 1) := by decide +kernel
def q_Bal_addDue (a1 : Int32) (a2 : Int64) (M : Mem) (post : Mem → Prop) : Prop := vp_in a1 10 ∧ (vp_in a1 10 ∧ (∀ M1, M1 = wJ M 27 a1.toNatClampNeg ((M.2 27 a1.toNatClampNeg) + a2) → post M1))
set_option maxHeartbeats 4000000 in
theorem s_Bal_addDue {l : Launch} {κ : Kp} {a1 : Int32} {a2 : Int64} {M : Mem} {post : Mem → Prop} (hq : q_Bal_addDue a1 a2 M post) : Ct l κ y_Bal_addDue b_Bal_addDue 4 (none) 0 [.ref (κ.1 + 15), .int a1, .long a2] M (pV post) := by
  refine Ct_of (by decide) (Nat.le_of_ble_eq_true rfl) (fun γ hγ C R => ?_)
  subst hγ
  unfold q_Bal_addDue at hq
  show G γ κ 4 (0, 0) (Gq γ κ (pV post)) 0 [(0, .ref (κ.1 + 15)), (1, .int a1), (2, .long a2)] [] M
  refine G_aload_n C 0 d_Bal_addDue_0 rfl rfl ?_
  refine Gg_Bal_dues C wd_115 d_Bal_addDue_1 ?_
  refine G_iload_n C 1 d_Bal_addDue_4 rfl rfl ?_
  refine G_dup2 C d_Bal_addDue_5 rfl rfl ?_
  refine G_laload C (k := 27) (by decide) (fun _ _ => rfl) hq.1 d_Bal_addDue_6 ?_
  replace hq := hq.2
  refine G_lload_n C 2 d_Bal_addDue_7 rfl rfl ?_
  refine G_ladd C d_Bal_addDue_8 ?_
  refine G_lastore C (k := 27) (by decide) (fun _ _ => rfl) hq.1 d_Bal_addDue_9 ?_
  replace hq := hq.2 _ rfl
  exact G_vret C R d_Bal_addDue_10 ⟨rfl, hq⟩
theorem d_Bal_above_0 : decode b_Bal_above 0 = .ok (.aload_n 0, 1) := by decide +kernel
theorem d_Bal_above_1 : decode b_Bal_above 1 = .ok (.getfield 14, 3) := by decide +kernel
theorem d_Bal_above_4 : decode b_Bal_above 4 = .ok (.iload_n 1, 1) := by decide +kernel
theorem d_Bal_above_5 : decode b_Bal_above 5 = .ok (.laload, 1) := by decide +kernel
theorem d_Bal_above_6 : decode b_Bal_above 6 = .ok (.lreturn, 1) := by decide +kernel
def q_Bal_above (a1 : Int32) (M : Mem) (post : Int64 → Mem → Prop) : Prop := vp_in a1 10 ∧ (post (M.2 27 a1.toNatClampNeg) M)
set_option maxHeartbeats 4000000 in
theorem s_Bal_above {l : Launch} {κ : Kp} {a1 : Int32} {M : Mem} {post : Int64 → Mem → Prop} (hq : q_Bal_above a1 M post) : Ct l κ y_Bal_above b_Bal_above 2 (some .long) 0 [.ref (κ.1 + 15), .int a1] M (pJ post) := by
  refine Ct_of (by decide) (Nat.le_of_ble_eq_true rfl) (fun γ hγ C R => ?_)
  subst hγ
  unfold q_Bal_above at hq
  show G γ κ 2 (0, 0) (Gq γ κ (pJ post)) 0 [(0, .ref (κ.1 + 15)), (1, .int a1)] [] M
  refine G_aload_n C 0 d_Bal_above_0 rfl rfl ?_
  refine Gg_Bal_dues C wd_115 d_Bal_above_1 ?_
  refine G_iload_n C 1 d_Bal_above_4 rfl rfl ?_
  refine G_laload C (k := 27) (by decide) (fun _ _ => rfl) hq.1 d_Bal_above_5 ?_
  replace hq := hq.2
  exact G_lret C R d_Bal_above_6 ⟨_, rfl, hq⟩
