/-! new NetForms(): its cells (printed by wip/gen/nfinit.py) -/
theorem wj_19 : Cond.classLink "NetForms" (7 : Nat) "NetForms$Net" ∈ gw := gw_t 19 (by decide +kernel) (by decide +kernel)
theorem wj_20 : Cond.instantiable "NetForms$Net" (9 : Nat) ∈ gw := gw_t 20 (by decide +kernel) (by decide +kernel)
theorem wj_2 : Cond.initialized "NetForms$Net" ∈ gw := gw_t 2 (by decide +kernel) (by decide +kernel)
theorem wj_22 : Cond.instanceMethod y_Net_init ∈ gw := gw_t 22 (by decide +kernel) (by decide +kernel)
theorem ne_21 : ("NetForms", 9, y_Net_init, "NetForms") ∈ nestW := by decide +kernel
theorem v_Net_init : Yw y_Net_init b_Net_init 1 none 0 := ⟨gw_t 23 rfl rfl, wj_2, by decide +kernel, by decide⟩
theorem df_Net : ∀ j, j < 9 → defaultValue (ty_Net j) = vp_V [.int 0, .int 0, .int 0, .null, .null, .null, .null, .null, .null] j := fun j hj => by
  match j, hj with
  | 0, _ => rfl
  | 1, _ => rfl
  | 2, _ => rfl
  | 3, _ => rfl
  | 4, _ => rfl
  | 5, _ => rfl
  | 6, _ => rfl
  | 7, _ => rfl
  | 8, _ => rfl
  | q + 9, h => exact absurd h (by omega)
theorem wj_67 : Cond.classLink "NetForms" (16 : Nat) "NetForms$Form" ∈ gw := gw_t 67 (by decide +kernel) (by decide +kernel)
theorem wj_144 : Cond.instantiable "NetForms$Form" (2 : Nat) ∈ gw := gw_t 144 (by decide +kernel) (by decide +kernel)
theorem wj_7 : Cond.initialized "NetForms$Form" ∈ gw := gw_t 7 (by decide +kernel) (by decide +kernel)
theorem wj_146 : Cond.instanceMethod y_Frm_init ∈ gw := gw_t 146 (by decide +kernel) (by decide +kernel)
theorem ne_145 : ("NetForms", 54, y_Frm_init, "NetForms") ∈ nestW := by decide +kernel
theorem v_Frm_init : Yw y_Frm_init b_Frm_init 1 none 0 := ⟨gw_t 147 rfl rfl, wj_7, by decide +kernel, by decide⟩
theorem df_Frm : ∀ j, j < 2 → defaultValue (ty_Frm j) = vp_V [.int 0, .null] j := fun j hj => by
  match j, hj with
  | 0, _ => rfl
  | 1, _ => rfl
  | q + 2, h => exact absurd h (by omega)
theorem wj_69 : Cond.classLink "NetForms" (22 : Nat) "NetForms$Walls" ∈ gw := gw_t 69 (by decide +kernel) (by decide +kernel)
theorem wj_70 : Cond.instantiable "NetForms$Walls" (2 : Nat) ∈ gw := gw_t 70 (by decide +kernel) (by decide +kernel)
theorem wj_3 : Cond.initialized "NetForms$Walls" ∈ gw := gw_t 3 (by decide +kernel) (by decide +kernel)
theorem wj_72 : Cond.instanceMethod y_Wal_init ∈ gw := gw_t 72 (by decide +kernel) (by decide +kernel)
theorem ne_71 : ("NetForms", 24, y_Wal_init, "NetForms") ∈ nestW := by decide +kernel
theorem v_Wal_init : Yw y_Wal_init b_Wal_init 1 none 0 := ⟨gw_t 73 rfl rfl, wj_3, by decide +kernel, by decide⟩
theorem df_Wal : ∀ j, j < 2 → defaultValue (ty_Wal j) = vp_V [.null, .null] j := fun j hj => by
  match j, hj with
  | 0, _ => rfl
  | 1, _ => rfl
  | q + 2, h => exact absurd h (by omega)
theorem wj_85 : Cond.classLink "NetForms" (29 : Nat) "NetForms$Wave" ∈ gw := gw_t 85 (by decide +kernel) (by decide +kernel)
theorem wj_86 : Cond.instantiable "NetForms$Wave" (3 : Nat) ∈ gw := gw_t 86 (by decide +kernel) (by decide +kernel)
theorem wj_4 : Cond.initialized "NetForms$Wave" ∈ gw := gw_t 4 (by decide +kernel) (by decide +kernel)
theorem wj_88 : Cond.instanceMethod y_Wav_init ∈ gw := gw_t 88 (by decide +kernel) (by decide +kernel)
theorem ne_87 : ("NetForms", 31, y_Wav_init, "NetForms") ∈ nestW := by decide +kernel
theorem v_Wav_init : Yw y_Wav_init b_Wav_init 1 none 0 := ⟨gw_t 89 rfl rfl, wj_4, by decide +kernel, by decide⟩
theorem df_Wav : ∀ j, j < 3 → defaultValue (ty_Wav j) = vp_V [.int 0, .null, .null] j := fun j hj => by
  match j, hj with
  | 0, _ => rfl
  | 1, _ => rfl
  | 2, _ => rfl
  | q + 3, h => exact absurd h (by omega)
theorem wj_105 : Cond.classLink "NetForms" (36 : Nat) "NetForms$Balance" ∈ gw := gw_t 105 (by decide +kernel) (by decide +kernel)
theorem wj_106 : Cond.instantiable "NetForms$Balance" (5 : Nat) ∈ gw := gw_t 106 (by decide +kernel) (by decide +kernel)
theorem wj_5 : Cond.initialized "NetForms$Balance" ∈ gw := gw_t 5 (by decide +kernel) (by decide +kernel)
theorem wj_108 : Cond.instanceMethod y_Bal_init ∈ gw := gw_t 108 (by decide +kernel) (by decide +kernel)
theorem ne_107 : ("NetForms", 38, y_Bal_init, "NetForms") ∈ nestW := by decide +kernel
theorem v_Bal_init : Yw y_Bal_init b_Bal_init 1 none 0 := ⟨gw_t 109 rfl rfl, wj_5, by decide +kernel, by decide⟩
theorem df_Bal : ∀ j, j < 5 → defaultValue (ty_Bal j) = vp_V [.int 0, .null, .null, .int 0, .long 0] j := fun j hj => by
  match j, hj with
  | 0, _ => rfl
  | 1, _ => rfl
  | 2, _ => rfl
  | 3, _ => rfl
  | 4, _ => rfl
  | q + 5, h => exact absurd h (by omega)
theorem wj_131 : Cond.classLink "NetForms" (43 : Nat) "NetForms$Climb" ∈ gw := gw_t 131 (by decide +kernel) (by decide +kernel)
theorem wj_132 : Cond.instantiable "NetForms$Climb" (2 : Nat) ∈ gw := gw_t 132 (by decide +kernel) (by decide +kernel)
theorem wj_6 : Cond.initialized "NetForms$Climb" ∈ gw := gw_t 6 (by decide +kernel) (by decide +kernel)
theorem wj_134 : Cond.instanceMethod y_Cli_init ∈ gw := gw_t 134 (by decide +kernel) (by decide +kernel)
theorem ne_133 : ("NetForms", 45, y_Cli_init, "NetForms") ∈ nestW := by decide +kernel
theorem v_Cli_init : Yw y_Cli_init b_Cli_init 1 none 0 := ⟨gw_t 135 rfl rfl, wj_6, by decide +kernel, by decide⟩
theorem df_Cli : ∀ j, j < 2 → defaultValue (ty_Cli j) = vp_V [.null, .null] j := fun j hj => by
  match j, hj with
  | 0, _ => rfl
  | 1, _ => rfl
  | q + 2, h => exact absurd h (by omega)
theorem wj_16 : Cond.methodLink "NetForms" (1 : Nat) Lib.objectInit ∈ gw := gw_t 16 (by decide +kernel) (by decide +kernel)
theorem d_Nf_init_0 : decode b_Nf_init 0 = .ok (.aload_n 0, 1) := by decide +kernel
theorem d_Nf_init_1 : decode b_Nf_init 1 = .ok (.invokespecial 1, 3) := by decide +kernel
theorem d_Nf_init_4 : decode b_Nf_init 4 = .ok (.aload_n 0, 1) := by decide +kernel
theorem d_Nf_init_5 : decode b_Nf_init 5 = .ok (.new 7, 3) := by decide +kernel
theorem d_Nf_init_8 : decode b_Nf_init 8 = .ok (.dup, 1) := by decide +kernel
theorem d_Nf_init_9 : decode b_Nf_init 9 = .ok (.invokespecial 9, 3) := by decide +kernel
theorem d_Nf_init_12 : decode b_Nf_init 12 = .ok (.putfield 10, 3) := by decide +kernel
theorem d_Nf_init_15 : decode b_Nf_init 15 = .ok (.aload_n 0, 1) := by decide +kernel
theorem d_Nf_init_16 : decode b_Nf_init 16 = .ok (.bipush 12, 2) := by decide +kernel
theorem d_Nf_init_18 : decode b_Nf_init 18 = .ok (.anewarray 16, 3) := by decide +kernel
theorem d_Nf_init_21 : decode b_Nf_init 21 = .ok (.putfield 18, 3) := by decide +kernel
theorem d_Nf_init_24 : decode b_Nf_init 24 = .ok (.aload_n 0, 1) := by decide +kernel
theorem d_Nf_init_25 : decode b_Nf_init 25 = .ok (.new 22, 3) := by decide +kernel
theorem d_Nf_init_28 : decode b_Nf_init 28 = .ok (.dup, 1) := by decide +kernel
theorem d_Nf_init_29 : decode b_Nf_init 29 = .ok (.invokespecial 24, 3) := by decide +kernel
theorem d_Nf_init_32 : decode b_Nf_init 32 = .ok (.putfield 25, 3) := by decide +kernel
theorem d_Nf_init_35 : decode b_Nf_init 35 = .ok (.aload_n 0, 1) := by decide +kernel
theorem d_Nf_init_36 : decode b_Nf_init 36 = .ok (.new 29, 3) := by decide +kernel
theorem d_Nf_init_39 : decode b_Nf_init 39 = .ok (.dup, 1) := by decide +kernel
theorem d_Nf_init_40 : decode b_Nf_init 40 = .ok (.invokespecial 31, 3) := by decide +kernel
theorem d_Nf_init_43 : decode b_Nf_init 43 = .ok (.putfield 32, 3) := by decide +kernel
theorem d_Nf_init_46 : decode b_Nf_init 46 = .ok (.aload_n 0, 1) := by decide +kernel
theorem d_Nf_init_47 : decode b_Nf_init 47 = .ok (.new 36, 3) := by decide +kernel
theorem d_Nf_init_50 : decode b_Nf_init 50 = .ok (.dup, 1) := by decide +kernel
theorem d_Nf_init_51 : decode b_Nf_init 51 = .ok (.invokespecial 38, 3) := by decide +kernel
theorem d_Nf_init_54 : decode b_Nf_init 54 = .ok (.putfield 39, 3) := by decide +kernel
theorem d_Nf_init_57 : decode b_Nf_init 57 = .ok (.aload_n 0, 1) := by decide +kernel
theorem d_Nf_init_58 : decode b_Nf_init 58 = .ok (.new 43, 3) := by decide +kernel
theorem d_Nf_init_61 : decode b_Nf_init 61 = .ok (.dup, 1) := by decide +kernel
theorem d_Nf_init_62 : decode b_Nf_init 62 = .ok (.invokespecial 45, 3) := by decide +kernel
theorem d_Nf_init_65 : decode b_Nf_init 65 = .ok (.putfield 46, 3) := by decide +kernel
theorem d_Nf_init_68 : decode b_Nf_init 68 = .ok (.aload_n 0, 1) := by decide +kernel
theorem d_Nf_init_69 : decode b_Nf_init 69 = .ok (.bipush 12, 2) := by decide +kernel
theorem d_Nf_init_71 : decode b_Nf_init 71 = .ok (.newarray .long, 2) := by decide +kernel
theorem d_Nf_init_73 : decode b_Nf_init 73 = .ok (.putfield 50, 3) := by decide +kernel
theorem d_Nf_init_76 : decode b_Nf_init 76 = .ok (.iconst 0, 1) := by decide +kernel
theorem d_Nf_init_77 : decode b_Nf_init 77 = .ok (.istore_n 1, 1) := by decide +kernel
theorem d_Nf_init_78 : decode b_Nf_init 78 = .ok (.iload_n 1, 1) := by decide +kernel
theorem d_Nf_init_79 : decode b_Nf_init 79 = .ok (.bipush 12, 2) := by decide +kernel
theorem d_Nf_init_81 : decode b_Nf_init 81 = .ok (.if_icmp .ge 22, 3) := by decide +kernel
theorem d_Nf_init_84 : decode b_Nf_init 84 = .ok (.aload_n 0, 1) := by decide +kernel
theorem d_Nf_init_85 : decode b_Nf_init 85 = .ok (.getfield 18, 3) := by decide +kernel
theorem d_Nf_init_88 : decode b_Nf_init 88 = .ok (.iload_n 1, 1) := by decide +kernel
theorem d_Nf_init_89 : decode b_Nf_init 89 = .ok (.new 16, 3) := by decide +kernel
theorem d_Nf_init_92 : decode b_Nf_init 92 = .ok (.dup, 1) := by decide +kernel
theorem d_Nf_init_93 : decode b_Nf_init 93 = .ok (.invokespecial 54, 3) := by decide +kernel
theorem d_Nf_init_96 : decode b_Nf_init 96 = .ok (.aastore, 1) := by decide +kernel
theorem d_Nf_init_97 : decode b_Nf_init 97 = .ok (.iinc 1 1, 3) := by decide +kernel
theorem d_Nf_init_100 : decode b_Nf_init 100 = .ok (.goto (-22), 3) := by decide +kernel
theorem d_Nf_init_103 : decode b_Nf_init 103 = .ok (.aload_n 0, 1) := by decide +kernel
theorem d_Nf_init_104 : decode b_Nf_init 104 = .ok (.getfield 10, 3) := by decide +kernel
theorem d_Nf_init_107 : decode b_Nf_init 107 = .ok (.iconst 1, 1) := by decide +kernel
theorem d_Nf_init_108 : decode b_Nf_init 108 = .ok (.invokevirtual 55, 3) := by decide +kernel
theorem d_Nf_init_111 : decode b_Nf_init 111 = .ok (.return_, 1) := by decide +kernel
def uB (κ : Kp) (E : Nat → va_E) (i : Nat) : Nat → va_E := fun k => if k = 1 then .inr (3, [.int 1, .int 0, .int 0, .ref (κ.1 + 2), .ref (κ.1 + 3), .ref (κ.1 + 4), .ref (κ.1 + 5), .ref (κ.1 + 6), .ref (κ.1 + 7)]) else if k = 7 then eI κ 6 (fun q => if q < i then nI q else 0) else E k
theorem c_Net_begin_L {γ : Gm} {κ : Kp} {E : Nat → va_E} {n : Nat} (hn : 8 ≤ n) (C : CE γ κ y_Net_begin.cls b_Net_begin 3 { frames := 0, cells := 0, slots := 0, locals := 0 }) (R : Rt γ none) : ∀ r i, i + r = 6 → GE γ κ 3 (Eq' γ κ n (uB κ E 6) 0 0) 17 [(2, .int (nI i)), (0, .ref (κ.1 + 1)), (1, .int 1)] [] n (uB κ E i) 0 0 := by
  intro r
  induction r with
  | zero =>
    intro i hi
    have : i = 6 := by omega
    subst this
    refine E_iload_n C 0 d_Net_begin_17 rfl rfl ?_
    refine E_bipush C (v := 6) d_Net_begin_18 (by decide) ?_
    refine E_icmp_ge C (tgt := 36) d_Net_begin_20 (by decide) (fun c => ?_) (fun c => absurd (by decide) c)
    exact E_vret C R d_Net_begin_36 (fun _ _ => rfl)
  | succ r ih =>
    intro i hi
    refine E_iload_n C 0 d_Net_begin_17 rfl rfl ?_
    refine E_bipush C (v := 6) d_Net_begin_18 (by decide) ?_
    refine E_icmp_ge C (tgt := 36) d_Net_begin_20 (by decide) (fun c => absurd c (show ¬ nI 6 ≤ nI i from nI_ge (by omega) (by decide))) (fun c => ?_)
    refine E_aload_n C 1 d_Net_begin_23 rfl rfl ?_
    refine E_get C (k := 1) (j := 8) (ci := 3) (T := T_Net) (N := 9) (CN := R_Net) (fs := [.int 1, .int 0, .int 0, .ref (κ.1 + 2), .ref (κ.1 + 3), .ref (κ.1 + 4), .ref (κ.1 + 5), .ref (κ.1 + 6), .ref (κ.1 + 7)]) (v := .ref (κ.1 + 7)) (by omega) rfl rfl (by decide) in_Net wd_45 rfl rfl d_Net_begin_24 ?_
    refine E_iload_n C 0 d_Net_begin_27 rfl rfl ?_
    refine E_iload_n C 0 d_Net_begin_28 rfl rfl ?_
    refine E_iast C (k := 7) (N := 6) (f := fun q => if q < i then nI q else 0) (by omega) rfl (vp_in_nI (by omega) (by decide)) d_Net_begin_29 ?_
    refine E_iinc C (v := nI i + 1) (lv' := [(2, .int (nI i + 1)), (0, .ref (κ.1 + 1)), (1, .int 1)]) 0 d_Net_begin_30 rfl rfl (by decide) rfl ?_
    refine E_goto C (tgt := 17) d_Net_begin_33 (by decide) ?_
    rw [nI_1]
    refine E_congr (E' := uB κ E (i + 1)) (fun k hk => ?_) (ih (i + 1) (by omega))
    unfold uB
    by_cases z : k = 7
    · rw [z]
      show eI κ 6 _ = eI κ 6 _
      congr 3
      funext q
      rw [clm (by omega)]
      unfold upd
      by_cases y : q = i
      · rw [if_pos y, if_pos (by omega), y]
      · rw [if_neg y]
        dsimp only
        by_cases x : q < i
        · rw [if_pos x, if_pos (by omega)]
        · rw [if_neg x, if_neg (by omega)]
    · rw [up_ne z, if_neg z, if_neg z]
theorem c_Net_begin {l : Launch} {κ : Kp} {n : Nat} {E : Nat → va_E} (hn : 8 ≤ n) (h1 : E 1 = .inr (3, [.int 0, .int 0, .int 0, .ref (κ.1 + 2), .ref (κ.1 + 3), .ref (κ.1 + 4), .ref (κ.1 + 5), .ref (κ.1 + 6), .ref (κ.1 + 7)])) (h7 : E 7 = eI κ 6 (fun _ => 0)) : Et l κ y_Net_begin b_Net_begin 3 { frames := 0, cells := 0, slots := 0, locals := 0 } [.ref (κ.1 + 1), .int 1] n E 0 0 n (uB κ E 6) := by
  refine Et_of (by decide +kernel) (Nat.le_of_ble_eq_true rfl) (fun γ hg C R hnm => ?_)
  refine E_aload_n C 0 d_Net_begin_0 rfl rfl ?_
  refine E_iload_n C 1 d_Net_begin_1 rfl rfl ?_
  refine E_put C (k := 1) (j := 0) (ci := 3) (T := T_Net) (N := 9) (CN := R_Net) (ty := .int) (fs := [.int 0, .int 0, .int 0, .ref (κ.1 + 2), .ref (κ.1 + 3), .ref (κ.1 + 4), .ref (κ.1 + 5), .ref (κ.1 + 6), .ref (κ.1 + 7)]) (v := .int 1) (by omega) h1 rfl (by decide) in_Net ty_Net tk_Net nm_Net wd_25 rfl rfl (by decide +kernel) rfl rfl (Nat.le_of_ble_eq_true rfl) d_Net_begin_2 ?_
  refine E_aload_n C 0 d_Net_begin_5 rfl rfl ?_
  refine E_iconst C (v := 0) d_Net_begin_6 (by decide) ?_
  refine E_put C (k := 1) (j := 1) (ci := 3) (T := T_Net) (N := 9) (CN := R_Net) (ty := .int) (fs := [.int 1, .int 0, .int 0, .ref (κ.1 + 2), .ref (κ.1 + 3), .ref (κ.1 + 4), .ref (κ.1 + 5), .ref (κ.1 + 6), .ref (κ.1 + 7)]) (v := .int 0) (by omega) rfl rfl (by decide) in_Net ty_Net tk_Net nm_Net wd_28 rfl rfl (by decide +kernel) rfl rfl (Nat.le_of_ble_eq_true rfl) d_Net_begin_7 ?_
  refine E_aload_n C 0 d_Net_begin_10 rfl rfl ?_
  refine E_iconst C (v := 0) d_Net_begin_11 (by decide) ?_
  refine E_put C (k := 1) (j := 2) (ci := 3) (T := T_Net) (N := 9) (CN := R_Net) (ty := .int) (fs := [.int 1, .int 0, .int 0, .ref (κ.1 + 2), .ref (κ.1 + 3), .ref (κ.1 + 4), .ref (κ.1 + 5), .ref (κ.1 + 6), .ref (κ.1 + 7)]) (v := .int 0) (by omega) rfl rfl (by decide) in_Net ty_Net tk_Net nm_Net wd_32 rfl rfl (by decide +kernel) rfl rfl (Nat.le_of_ble_eq_true rfl) d_Net_begin_12 ?_
  refine E_iconst C (v := 0) d_Net_begin_15 (by decide) ?_
  refine E_istore_n C (lv' := [(2, .int 0), (0, .ref (κ.1 + 1)), (1, .int 1)]) d_Net_begin_16 rfl (by decide) rfl ?_
  refine E_congr (E' := uB κ E 0) (fun k hk => ?_) (c_Net_begin_L hn C R 6 0 rfl)
  unfold uB
  by_cases z : k = 1
  · rw [z]; rfl
  · rw [up_ne z, up_ne z, up_ne z, if_neg z]
    by_cases y : k = 7
    · rw [if_pos y, y, h7]
      show eI κ 6 _ = eI κ 6 _
      congr 3
    · rw [if_neg y]
/-- the cells of NetForms while its forms come: i of them -/
def fA (κ : Kp) (i : Nat) : Nat → Option Nat := fun j => if j < i then some (κ.1 + (32 + 2 * j)) else none
def EL (κ : Kp) (i : Nat) : Nat → va_E := fun k => if k = 8 then .inl (kF κ, 12, .inr (.inr (.inr (.inr (fA κ i))))) else shp κ k (fun _ => 0) (fun _ => 0)
def EN (κ : Kp) : Nat → va_E := uB κ (EL κ 12) 6
abbrev rmNf : Room := { frames := 2, cells := 55, slots := 435, locals := 60 }
theorem c_Nf_loop {γ : Gm} {κ : Kp} (C : CE γ κ y_Nf_init.cls b_Nf_init 2 rmNf) (R : Rt γ none) : ∀ r i n zc zs, i + r = 12 → n = 32 + 2 * i → zc = 31 + 2 * i → zs = 267 + 14 * i → GE γ κ 2 (Eq' γ κ 56 (EN κ) 55 435) 78 [(1, .int (nI i)), (0, .ref (κ.1 + 0))] [] n (EL κ i) zc zs := by
  intro r
  induction r with
  | zero =>
    intro i n zc zs hi hn hc hs
    have : i = 12 := by omega
    subst this
    subst hn; subst hc; subst hs
    refine E_iload_n C 0 d_Nf_init_78 rfl rfl ?_
    refine E_bipush C (v := 12) d_Nf_init_79 (by decide) ?_
    refine E_icmp_ge C (tgt := 103) d_Nf_init_81 (by decide) (fun c => ?_) (fun c => absurd (by decide) c)
    refine E_aload_n C 1 d_Nf_init_103 rfl rfl ?_
    refine E_get C (k := 0) (j := 0) (ci := 6) (T := T_Nf) (N := 7) (CN := R_Nf) (fs := [.ref (κ.1 + 1), .ref (κ.1 + 8), .ref (κ.1 + 9), .ref (κ.1 + 12), .ref (κ.1 + 15), .ref (κ.1 + 28), .ref (κ.1 + 31)]) (v := .ref (κ.1 + 1)) (by decide) rfl rfl (by decide) in_Nf wd_163 rfl rfl d_Nf_init_104 ?_
    refine E_iconst C (v := 1) d_Nf_init_107 (by decide) ?_
    refine E_callV1 C (k := 1) (ci := 3) (c_Net_begin (by decide) rfl rfl) v_Net_begin i_Net_begin z_Net_begin wd_159 (by decide) (fs := [.int 0, .int 0, .int 0, .ref (κ.1 + 2), .ref (κ.1 + 3), .ref (κ.1 + 4), .ref (κ.1 + 5), .ref (κ.1 + 6), .ref (κ.1 + 7)]) rfl rfl rfl ⟨rfl, rfl⟩ ⟨by decide, by decide⟩ ⟨by decide, by decide⟩ (Nat.le_of_ble_eq_true rfl) d_Nf_init_108 ?_
    exact E_vret C R d_Nf_init_111 (fun _ _ => rfl)
  | succ r ih =>
    intro i n zc zs hi hn hc hs
    have i12 : i < 12 := by omega
    refine E_iload_n C 0 d_Nf_init_78 rfl rfl ?_
    refine E_bipush C (v := 12) d_Nf_init_79 (by decide) ?_
    refine E_icmp_ge C (tgt := 103) d_Nf_init_81 (by decide) (fun c => absurd c (show ¬ nI 12 ≤ nI i from nI_ge (by omega) (by decide))) (fun c => ?_)
    refine E_aload_n C 1 d_Nf_init_84 rfl rfl ?_
    refine E_get C (k := 0) (j := 1) (ci := 6) (T := T_Nf) (N := 7) (CN := R_Nf) (fs := [.ref (κ.1 + 1), .ref (κ.1 + 8), .ref (κ.1 + 9), .ref (κ.1 + 12), .ref (κ.1 + 15), .ref (κ.1 + 28), .ref (κ.1 + 31)]) (v := .ref (κ.1 + 8)) (by omega) rfl rfl (by decide) in_Nf wd_164 rfl rfl d_Nf_init_85 ?_
    refine E_iload_n C 0 d_Nf_init_88 rfl rfl ?_
    refine E_new C (ci := 2) (N := 2) (CN := R_Frm) (T := T_Frm) (fs := [.int 0, .null]) rfl in_Frm ty_Frm tk_Frm wj_67 wj_144 wj_7 df_Frm (by show zc + 1 ≤ 55; omega) (by show zs + 2 ≤ 435; omega) d_Nf_init_89 ?_
    refine E_dup C d_Nf_init_92 rfl ?_
    refine E_callIN C (c_Frm_init (k := n) (n := n + 1) (by omega) up_eq) v_Frm_init rfl wj_146 ne_145 ⟨rfl, rfl⟩ ⟨by decide, by decide⟩ ⟨by show zc + 1 + 1 ≤ 55; omega, by show zs + 2 + 12 ≤ 435; omega⟩ (Nat.le_of_ble_eq_true rfl) d_Nf_init_93 ?_
    refine E_aastF C (k := 8) (kv := n) (f := fA κ i) (vs := [.int 0, .ref (κ.1 + (n + 1 + 0))]) (by omega) ?_ (by omega) ?_ (vp_in_nI (by omega) (by decide)) d_Nf_init_96 ?_
    · unfold u_Frm
      rw [up_ne (by omega), up_ne (by omega), up_ne (by omega)]; rfl
    · unfold u_Frm
      rw [up_eq]
    refine E_iinc C (v := nI i + 1) (lv' := [(1, .int (nI i + 1)), (0, .ref (κ.1 + 0))]) 0 d_Nf_init_97 rfl rfl (by decide) rfl ?_
    refine E_goto C (tgt := 78) d_Nf_init_100 (by decide) ?_
    rw [nI_1]
    refine E_congr (E' := EL κ (i + 1)) (fun k hk => ?_) (ih (i + 1) _ _ _ (by omega) (by omega) (by omega) (by omega))
    unfold EL
    by_cases z : k = 8
    · rw [z, up_eq, if_pos rfl]
      congr 7
      funext q
      rw [clm (by omega)]
      unfold va_up fA
      by_cases y : q = i
      · rw [if_pos y, if_pos (by omega), y, hn]
      · rw [if_neg y]
        by_cases x : q < i
        · rw [if_pos x, if_pos (by omega)]
        · rw [if_neg x, if_neg (by omega)]
    · rw [up_ne z, if_neg z]
      unfold u_Frm
      by_cases y : k = n
      · rw [y, up_eq, hn, sh_formO κ i12]
        rw [show κ.1 + (32 + 2 * i + 1 + 0) = κ.1 + (33 + 2 * i) by omega]
      · rw [up_ne y]
        by_cases x : k = n + 1 + 0
        · rw [x, up_eq, show n + 1 + 0 = 33 + 2 * i by omega, sh_formA κ i12]
        · rw [up_ne x, up_ne y, if_neg z]
set_option maxRecDepth 100000 in
theorem c_Nf_init {l : Launch} {κ : Kp} {E : Nat → va_E} (he : E 0 = .inr (6, [.null, .null, .null, .null, .null, .null, .null])) : Et l κ y_Nf_init b_Nf_init 2 rmNf [.ref (κ.1 + 0)] 1 E 55 435 56 (EN κ) := by
  refine Et_of (by decide +kernel) (Nat.le_of_ble_eq_true rfl) (fun γ hg C R hnm => ?_)
  refine E_aload_n C 0 d_Nf_init_0 rfl rfl ?_
  refine E_objInit C wj_16 wi_17 wi_18 d_Nf_init_1 (by decide) (by decide) (by decide) ?_
  refine E_aload_n C 0 d_Nf_init_4 rfl rfl ?_
  refine E_new C (ci := 3) (N := 9) (CN := R_Net) (T := T_Net) (fs := [.int 0, .int 0, .int 0, .null, .null, .null, .null, .null, .null]) rfl in_Net ty_Net tk_Net wj_19 wj_20 wj_2 df_Net (by decide) (by decide) d_Nf_init_5 ?_
  refine E_dup C d_Nf_init_8 rfl ?_
  refine E_callIN C (c_Net_init (k := 1) (n := 2) (by decide) rfl) v_Net_init rfl wj_22 ne_21 ⟨rfl, rfl⟩ ⟨by decide, by decide⟩ ⟨by decide, by decide⟩ (Nat.le_of_ble_eq_true rfl) d_Nf_init_9 ?_
  refine E_putF C hnm (k := 0) (j := 0) (T := T_Nf) (N := 7) (ci := 6) (ty := .object "NetForms$Net") (fs := [.null, .null, .null, .null, .null, .null, .null]) (v := .ref (κ.1 + 1)) (by decide) he rfl (by decide) in_Nf ty_Nf tk_Nf nm_Nf wd_163 rfl rfl (by decide +kernel) rfl rfl (Nat.le_of_ble_eq_true rfl) d_Nf_init_12 ?_
  refine E_aload_n C 0 d_Nf_init_15 rfl rfl ?_
  refine E_bipush C (v := 12) d_Nf_init_16 (by decide) ?_
  refine E_anewF C wj_67 (N := 12) (by decide) (by decide) (by decide) (by decide) (by decide) d_Nf_init_18 ?_
  refine E_putF C hnm (k := 0) (j := 1) (T := T_Nf) (N := 7) (ci := 6) (ty := .array (.object "NetForms$Form")) (fs := [.ref (κ.1 + 1), .null, .null, .null, .null, .null, .null]) (v := .ref (κ.1 + 8)) (by decide) rfl rfl (by decide) in_Nf ty_Nf tk_Nf nm_Nf wd_164 rfl rfl (by decide +kernel) rfl rfl (Nat.le_of_ble_eq_true rfl) d_Nf_init_21 ?_
  refine E_aload_n C 0 d_Nf_init_24 rfl rfl ?_
  refine E_new C (ci := 4) (N := 2) (CN := R_Wal) (T := T_Wal) (fs := [.null, .null]) rfl in_Wal ty_Wal tk_Wal wj_69 wj_70 wj_3 df_Wal (by decide) (by decide) d_Nf_init_25 ?_
  refine E_dup C d_Nf_init_28 rfl ?_
  refine E_callIN C (c_Wal_init (k := 9) (n := 10) (by decide) rfl) v_Wal_init rfl wj_72 ne_71 ⟨rfl, rfl⟩ ⟨by decide, by decide⟩ ⟨by decide, by decide⟩ (Nat.le_of_ble_eq_true rfl) d_Nf_init_29 ?_
  refine E_putF C hnm (k := 0) (j := 2) (T := T_Nf) (N := 7) (ci := 6) (ty := .object "NetForms$Walls") (fs := [.ref (κ.1 + 1), .ref (κ.1 + 8), .null, .null, .null, .null, .null]) (v := .ref (κ.1 + 9)) (by decide) rfl rfl (by decide) in_Nf ty_Nf tk_Nf nm_Nf wd_165 rfl rfl (by decide +kernel) rfl rfl (Nat.le_of_ble_eq_true rfl) d_Nf_init_32 ?_
  refine E_aload_n C 0 d_Nf_init_35 rfl rfl ?_
  refine E_new C (ci := 5) (N := 3) (CN := R_Wav) (T := T_Wav) (fs := [.int 0, .null, .null]) rfl in_Wav ty_Wav tk_Wav wj_85 wj_86 wj_4 df_Wav (by decide) (by decide) d_Nf_init_36 ?_
  refine E_dup C d_Nf_init_39 rfl ?_
  refine E_callIN C (c_Wav_init (k := 12) (n := 13) (by decide) rfl) v_Wav_init rfl wj_88 ne_87 ⟨rfl, rfl⟩ ⟨by decide, by decide⟩ ⟨by decide, by decide⟩ (Nat.le_of_ble_eq_true rfl) d_Nf_init_40 ?_
  refine E_putF C hnm (k := 0) (j := 3) (T := T_Nf) (N := 7) (ci := 6) (ty := .object "NetForms$Wave") (fs := [.ref (κ.1 + 1), .ref (κ.1 + 8), .ref (κ.1 + 9), .null, .null, .null, .null]) (v := .ref (κ.1 + 12)) (by decide) rfl rfl (by decide) in_Nf ty_Nf tk_Nf nm_Nf wd_166 rfl rfl (by decide +kernel) rfl rfl (Nat.le_of_ble_eq_true rfl) d_Nf_init_43 ?_
  refine E_aload_n C 0 d_Nf_init_46 rfl rfl ?_
  refine E_new C (ci := 0) (N := 5) (CN := R_Bal) (T := T_Bal) (fs := [.int 0, .null, .null, .int 0, .long 0]) rfl in_Bal ty_Bal tk_Bal wj_105 wj_106 wj_5 df_Bal (by decide) (by decide) d_Nf_init_47 ?_
  refine E_dup C d_Nf_init_50 rfl ?_
  refine E_callIN C (c_Bal_init (k := 15) (n := 16) (by decide) rfl) v_Bal_init rfl wj_108 ne_107 ⟨rfl, rfl⟩ ⟨by decide, by decide⟩ ⟨by decide, by decide⟩ (Nat.le_of_ble_eq_true rfl) d_Nf_init_51 ?_
  refine E_putF C hnm (k := 0) (j := 4) (T := T_Nf) (N := 7) (ci := 6) (ty := .object "NetForms$Balance") (fs := [.ref (κ.1 + 1), .ref (κ.1 + 8), .ref (κ.1 + 9), .ref (κ.1 + 12), .null, .null, .null]) (v := .ref (κ.1 + 15)) (by decide) rfl rfl (by decide) in_Nf ty_Nf tk_Nf nm_Nf wd_167 rfl rfl (by decide +kernel) rfl rfl (Nat.le_of_ble_eq_true rfl) d_Nf_init_54 ?_
  refine E_aload_n C 0 d_Nf_init_57 rfl rfl ?_
  refine E_new C (ci := 1) (N := 2) (CN := R_Cli) (T := T_Cli) (fs := [.null, .null]) rfl in_Cli ty_Cli tk_Cli wj_131 wj_132 wj_6 df_Cli (by decide) (by decide) d_Nf_init_58 ?_
  refine E_dup C d_Nf_init_61 rfl ?_
  refine E_callIN C (c_Cli_init (k := 28) (n := 29) (by decide) rfl) v_Cli_init rfl wj_134 ne_133 ⟨rfl, rfl⟩ ⟨by decide, by decide⟩ ⟨by decide, by decide⟩ (Nat.le_of_ble_eq_true rfl) d_Nf_init_62 ?_
  refine E_putF C hnm (k := 0) (j := 5) (T := T_Nf) (N := 7) (ci := 6) (ty := .object "NetForms$Climb") (fs := [.ref (κ.1 + 1), .ref (κ.1 + 8), .ref (κ.1 + 9), .ref (κ.1 + 12), .ref (κ.1 + 15), .null, .null]) (v := .ref (κ.1 + 28)) (by decide) rfl rfl (by decide) in_Nf ty_Nf tk_Nf nm_Nf wd_168 rfl rfl (by decide +kernel) rfl rfl (Nat.le_of_ble_eq_true rfl) d_Nf_init_65 ?_
  refine E_aload_n C 0 d_Nf_init_68 rfl rfl ?_
  refine E_bipush C (v := 12) d_Nf_init_69 (by decide) ?_
  refine E_newJ C wi_104 (N := 12) (by decide) (by decide) (by decide) (by decide) (by decide) d_Nf_init_71 ?_
  refine E_putF C hnm (k := 0) (j := 6) (T := T_Nf) (N := 7) (ci := 6) (ty := .array .long) (fs := [.ref (κ.1 + 1), .ref (κ.1 + 8), .ref (κ.1 + 9), .ref (κ.1 + 12), .ref (κ.1 + 15), .ref (κ.1 + 28), .null]) (v := .ref (κ.1 + 31)) (by decide) rfl rfl (by decide) in_Nf ty_Nf tk_Nf nm_Nf wd_169 rfl rfl (by decide +kernel) rfl rfl (Nat.le_of_ble_eq_true rfl) d_Nf_init_73 ?_
  refine E_iconst C (v := 0) d_Nf_init_76 (by decide) ?_
  refine E_istore_n C (lv' := [(1, .int 0), (0, .ref (κ.1 + 0))]) d_Nf_init_77 rfl (by decide) rfl ?_
  refine E_congr (E' := EL κ 0) (fun k hk => ?_) (c_Nf_loop C R 12 0 32 31 267 rfl rfl rfl rfl)
  match k, hk with
  | 0, _ => rfl
  | 1, _ => rfl
  | 2, _ => rfl
  | 3, _ => rfl
  | 4, _ => rfl
  | 5, _ => rfl
  | 6, _ => rfl
  | 7, _ => rfl
  | 8, _ => rfl
  | 9, _ => rfl
  | 10, _ => rfl
  | 11, _ => rfl
  | 12, _ => rfl
  | 13, _ => rfl
  | 14, _ => rfl
  | 15, _ => rfl
  | 16, _ => rfl
  | 17, _ => rfl
  | 18, _ => rfl
  | 19, _ => rfl
  | 20, _ => rfl
  | 21, _ => rfl
  | 22, _ => rfl
  | 23, _ => rfl
  | 24, _ => rfl
  | 25, _ => rfl
  | 26, _ => rfl
  | 27, _ => rfl
  | 28, _ => rfl
  | 29, _ => rfl
  | 30, _ => rfl
  | 31, _ => rfl
  | q + 32, h => exact absurd h (by omega)
