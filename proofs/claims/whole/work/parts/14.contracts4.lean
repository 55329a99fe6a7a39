/-! ===== CONTRACTS: printed by wip/gen ===== -/
abbrev rm_X8_told : Room := { frames := 2, cells := 0, slots := 0, locals := 45 }
set_option maxHeartbeats 4000000 in
set_option maxRecDepth 100000 in
theorem c_X8_told (l : Launch) (E : Ev) (ad : Nat → Nat)   {a1 : Int32} {a2 : Int32} {a3 : Int32} {σ : Sg} {r : Int32 × Sg} (h : m_X8_told a1 a2 a3 σ = some r) : Met l yX8_told (wY yX8_told cX8_told 4 (some .int)) rm_X8_told (va_Pc [.ref (ad 68), .int a1, .int a2, .int a3] (PreU E ad RF 85 σ)) (QcN E ad (some (.int r.1), r.2)) 0 0 (EA E) := by
  refine met_of (L0 := [(0, .ref (ad 68)), (1, .int a1), (2, .int a2), (3, .int a3)]) rfl (Nat.le_of_ble_eq_true rfl) rfl (fun Γ X Y => ?_)
  have X : XC Γ E rm_X8_told cX8_told 4 RX8 := X
  unfold m_X8_told at h
  refine j_iload_n X 1 rfl rfl dX8_told_0 ?_
  refine bd1_elim h (fun r1 hc2 h => ?_)
  refine j_callSi X (As := [.int a1]) (rest := []) mf_X8_isRoom bw_854 bw_855 ⟨rfl, rfl⟩ ⟨Nat.le_of_ble_eq_true rfl, Nat.le_of_ble_eq_true rfl⟩ (c_X8_isRoom Γ.2.1 E ad  hc2) rfl rfl (Nat.le_of_ble_eq_true rfl) dX8_told_1 ?_
  refine j_if_eq X (tgt := 31) (by decide) dX8_told_4 (fun c => ?_) (fun c => ?_)
  · have h := (if_pos c).symm.trans h
    refine j_aload_n X 0 rfl rfl dX8_told_31 ?_
    refine bd2_elim h (fun r3 σ4 hc5 h => ?_)
    refine j_callVi X (As := []) (rest := []) mf_X8_bad bw_859 bw_861 bs_20 ⟨rfl, rfl⟩ ⟨Nat.le_of_ble_eq_true rfl, Nat.le_of_ble_eq_true rfl⟩ cf6 pk_68 pl_68 (c_X8_bad Γ.2.1 E ad  hc5) rfl rfl (Nat.le_of_ble_eq_true rfl) dX8_told_32 ?_
    exact j_iret X Y rfl (ret_wi h) dX8_told_35
  · have h := (if_neg c).symm.trans h
    refine j_iload_n X 2 rfl rfl dX8_told_7 ?_
    refine j_i2l X dX8_told_8 ?_
    refine j_lconst X (v := 0) (by decide) dX8_told_9 ?_
    refine j_ldc2 X (v := 29) bw_1053 dX8_told_10 ?_
    refine bd1_elim h (fun r6 hc7 h => ?_)
    refine j_callSi X (As := [.long (Int32.toInt64 a2), .long (0 : Int64), .long (29 : Int64)]) (rest := []) mf_X8_in bw_842 bw_843 ⟨rfl, rfl⟩ ⟨Nat.le_of_ble_eq_true rfl, Nat.le_of_ble_eq_true rfl⟩ (c_X8_in Γ.2.1 E ad  hc7) rfl rfl (Nat.le_of_ble_eq_true rfl) dX8_told_13 ?_
    refine j_if_eq X (tgt := 31) (by decide) dX8_told_16 (fun c => ?_) (fun c => ?_)
    · have h := (if_pos c).symm.trans h
      refine j_aload_n X 0 rfl rfl dX8_told_31 ?_
      refine bd2_elim h (fun r8 σ9 hc10 h => ?_)
      refine j_callVi X (As := []) (rest := []) mf_X8_bad bw_859 bw_861 bs_20 ⟨rfl, rfl⟩ ⟨Nat.le_of_ble_eq_true rfl, Nat.le_of_ble_eq_true rfl⟩ cf6 pk_68 pl_68 (c_X8_bad Γ.2.1 E ad  hc10) rfl rfl (Nat.le_of_ble_eq_true rfl) dX8_told_32 ?_
      exact j_iret X Y rfl (ret_wi h) dX8_told_35
    · have h := (if_neg c).symm.trans h
      refine j_iload_n X 3 rfl rfl dX8_told_19 ?_
      refine j_i2l X dX8_told_20 ?_
      refine j_lconst X (v := 0) (by decide) dX8_told_21 ?_
      refine j_ldc2 X (v := 99) bw_1021 dX8_told_22 ?_
      refine bd1_elim h (fun r11 hc12 h => ?_)
      refine j_callSi X (As := [.long (Int32.toInt64 a3), .long (0 : Int64), .long (99 : Int64)]) (rest := []) mf_X8_in bw_842 bw_843 ⟨rfl, rfl⟩ ⟨Nat.le_of_ble_eq_true rfl, Nat.le_of_ble_eq_true rfl⟩ (c_X8_in Γ.2.1 E ad  hc12) rfl rfl (Nat.le_of_ble_eq_true rfl) dX8_told_25 ?_
      refine j_if_ne X (tgt := 36) (by decide) dX8_told_28 (fun c => ?_) (fun c => ?_)
      · have h := (if_neg c).symm.trans h
        refine j_aload_n X 0 rfl rfl dX8_told_36 ?_
        refine j_geti X cf6 pk_68 pl_68 16 rfl ⟨rfl, rfl⟩ bw_770 dX8_told_37 ?_
        refine j_iconst X (v := 5) (by decide) dX8_told_40 ?_
        refine j_icmp_ne X (tgt := 49) (by decide) dX8_told_41 (fun c => ?_) (fun c => ?_)
        · have h := (if_neg c).symm.trans h
          refine j_aload_n X 0 rfl rfl dX8_told_49 ?_
          refine j_getr X cf6 pk_68 pl_68 15 rfl ⟨rfl, rfl⟩ 78 rfl bw_769 dX8_told_50 ?_
          refine j_iconst X (v := 3) (by decide) dX8_told_53 ?_
          refine j_aload_n X 0 rfl rfl dX8_told_54 ?_
          refine j_geti X cf6 pk_68 pl_68 16 rfl ⟨rfl, rfl⟩ bw_770 dX8_told_55 ?_
          refine j_imul X dX8_told_58 ?_
          refine j_iload_n X 1 rfl rfl dX8_told_59 ?_
          refine gd_elim h (fun g h => ?_)
          refine nm_elim h (fun σ13 eσ13 h => ?_)
          refine j_iast X pk_78 pl_78 g eσ13 dX8_told_60 ?_
          refine j_aload_n X 0 rfl rfl dX8_told_61 ?_
          refine j_getr X cf6 pk_68 pl_68 15 rfl ⟨rfl, rfl⟩ 78 rfl bw_769 dX8_told_62 ?_
          refine j_iconst X (v := 3) (by decide) dX8_told_65 ?_
          refine j_aload_n X 0 rfl rfl dX8_told_66 ?_
          refine j_geti X cf6 pk_68 pl_68 16 rfl ⟨rfl, rfl⟩ bw_770 dX8_told_67 ?_
          refine j_imul X dX8_told_70 ?_
          refine j_iconst X (v := 1) (by decide) dX8_told_71 ?_
          refine j_iadd X dX8_told_72 ?_
          refine j_iload_n X 2 rfl rfl dX8_told_73 ?_
          refine gd_elim h (fun g h => ?_)
          refine nm_elim h (fun σ14 eσ14 h => ?_)
          refine j_iast X pk_78 pl_78 g eσ14 dX8_told_74 ?_
          refine j_aload_n X 0 rfl rfl dX8_told_75 ?_
          refine j_getr X cf6 pk_68 pl_68 15 rfl ⟨rfl, rfl⟩ 78 rfl bw_769 dX8_told_76 ?_
          refine j_iconst X (v := 3) (by decide) dX8_told_79 ?_
          refine j_aload_n X 0 rfl rfl dX8_told_80 ?_
          refine j_geti X cf6 pk_68 pl_68 16 rfl ⟨rfl, rfl⟩ bw_770 dX8_told_81 ?_
          refine j_imul X dX8_told_84 ?_
          refine j_iconst X (v := 2) (by decide) dX8_told_85 ?_
          refine j_iadd X dX8_told_86 ?_
          refine j_iload_n X 3 rfl rfl dX8_told_87 ?_
          refine gd_elim h (fun g h => ?_)
          refine nm_elim h (fun σ15 eσ15 h => ?_)
          refine j_iast X pk_78 pl_78 g eσ15 dX8_told_88 ?_
          refine j_aload_n X 0 rfl rfl dX8_told_89 ?_
          refine j_dup X rfl dX8_told_90 ?_
          refine j_geti X cf6 pk_68 pl_68 16 rfl ⟨rfl, rfl⟩ bw_770 dX8_told_91 ?_
          refine j_iconst X (v := 1) (by decide) dX8_told_94 ?_
          refine j_iadd X dX8_told_95 ?_
          refine nm_elim h (fun σ16 eσ16 h => ?_)
          refine j_puti X cf6 pk_68 pl_68 16 rfl ⟨rfl, rfl⟩ (.inl rfl) rfl rfl eσ16 bw_770 dX8_told_96 ?_
          refine j_aload_n X 0 rfl rfl dX8_told_99 ?_
          refine j_geti X cf6 pk_68 pl_68 16 rfl ⟨rfl, rfl⟩ bw_770 dX8_told_100 ?_
          exact j_iret X Y rfl (ret_wi h) dX8_told_103
        · have h := (if_pos c).symm.trans h
          refine j_aload_n X 0 rfl rfl dX8_told_44 ?_
          refine bd2_elim h (fun r17 σ18 hc19 h => ?_)
          refine j_callVi X (As := []) (rest := []) mf_X8_full bw_863 bw_865 bs_21 ⟨rfl, rfl⟩ ⟨Nat.le_of_ble_eq_true rfl, Nat.le_of_ble_eq_true rfl⟩ cf6 pk_68 pl_68 (c_X8_full Γ.2.1 E ad  hc19) rfl rfl (Nat.le_of_ble_eq_true rfl) dX8_told_45 ?_
          exact j_iret X Y rfl (ret_wi h) dX8_told_48
      · have h := (if_pos c).symm.trans h
        refine j_aload_n X 0 rfl rfl dX8_told_31 ?_
        refine bd2_elim h (fun r20 σ21 hc22 h => ?_)
        refine j_callVi X (As := []) (rest := []) mf_X8_bad bw_859 bw_861 bs_20 ⟨rfl, rfl⟩ ⟨Nat.le_of_ble_eq_true rfl, Nat.le_of_ble_eq_true rfl⟩ cf6 pk_68 pl_68 (c_X8_bad Γ.2.1 E ad  hc22) rfl rfl (Nat.le_of_ble_eq_true rfl) dX8_told_32 ?_
        exact j_iret X Y rfl (ret_wi h) dX8_told_35

abbrev rm_X8_isSo : Room := { frames := 3, cells := 0, slots := 0, locals := 72 }
set_option maxHeartbeats 4000000 in
set_option maxRecDepth 100000 in
theorem jl_X8_isSo_L5 {Γ : Cx} {E : Ev} {ad : Nat → Nat} (X : XC Γ E rm_X8_isSo cX8_isSo 5 RX8)   {c1 : Int32} {c2 : Int32} {σ : Sg} {kx : Unit → Option (Int32)} {r : Int32} (Y : XQ Γ E ad (some .boolean) (some (.int r), σ))  : ∀ n (v4 : Int32) (v3 : Int32), m_X8_isSo_L5 c1 c2 σ kx n v4 v3 = some r → J Γ E 5 ad RF 85 σ 0 0 5 [(4, .int v4), (3, .int v3), (0, .ref (ad 68)), (1, .int c1), (2, .int c2)] [] := by
  intro n
  induction n with
  | zero =>
    intro v4 v3 h
    cases h
  | succ n ih =>
    intro v4 v3 h
    rw [m_X8_isSo_L5.eq_2] at h
    refine j_iload X 0 rfl dX8_isSo_5 ?_
    refine j_aload_n X 2 rfl rfl dX8_isSo_7 ?_
    refine j_geti X cf6 pk_68 pl_68 16 rfl ⟨rfl, rfl⟩ bw_770 dX8_isSo_8 ?_
    refine j_icmp_ge X (tgt := 74) (by decide) dX8_isSo_11 (fun c => ?_) (fun c => ?_)
    · have h := (if_pos c).symm.trans h
      refine j_iload_n X 1 rfl rfl dX8_isSo_74 ?_
      refine gd_elim h (fun g h => ?_)
      exact j_iret X Y (gb_nar g) (ret_pi h) dX8_isSo_75
    · have h := (if_neg c).symm.trans h
      refine j_iload_n X 1 rfl rfl dX8_isSo_14 ?_
      refine bd1_elim h (fun o4 hr h => ?_)
      have hJ3 : J Γ E 5 ad RF 85 σ 0 0 67 [(4, .int v4), (0, .ref (ad 68)), (1, .int c1), (2, .int c2)] [.int o4] := by
        refine j_istore_n X (L' := [(3, .int o4), (4, .int v4), (0, .ref (ad 68)), (1, .int c1), (2, .int c2)]) rfl rfl (by decide) rfl dX8_isSo_67 ?_
        refine nm_elim h (fun x5 ex5 h => ?_)
        refine j_iinc1 X (L' := [(4, .int x5), (3, .int o4), (0, .ref (ad 68)), (1, .int c1), (2, .int c2)]) 1 rfl (q := 1) (by decide) ex5 (by decide) rfl dX8_isSo_68 ?_
        refine j_goto X (tgt := 5) (by decide) dX8_isSo_71 ?_
        exact J.sub [0, 1, 2, 3, 4] rfl (ih x5 o4 h)
      clear h
      refine j_if_eq X (tgt := 66) (by decide) dX8_isSo_15 (fun c => ?_) (fun c => ?_)
      · have hr := (if_pos c).symm.trans hr
        refine j_iconst X (v := 0) (by decide) dX8_isSo_66 ?_
        cases hr
        exact J.sub [0, 2, 3, 4] rfl hJ3
      · have hr := (if_neg c).symm.trans hr
        refine j_aload_n X 2 rfl rfl dX8_isSo_18 ?_
        refine j_getr X cf6 pk_68 pl_68 15 rfl ⟨rfl, rfl⟩ 78 rfl bw_769 dX8_isSo_19 ?_
        refine j_iconst X (v := 3) (by decide) dX8_isSo_22 ?_
        refine j_iload X 0 rfl dX8_isSo_23 ?_
        refine j_imul X dX8_isSo_25 ?_
        refine gd_elim hr (fun g hr => ?_)
        refine j_iald X pk_78 pl_78 g dX8_isSo_26 ?_
        refine j_iload_n X 4 rfl rfl dX8_isSo_27 ?_
        refine j_icmp_ne X (tgt := 62) (by decide) dX8_isSo_28 (fun c => ?_) (fun c => ?_)
        · have hr := (if_neg c).symm.trans hr
          refine j_iconst X (v := 1) (by decide) dX8_isSo_62 ?_
          refine j_goto X (tgt := 67) (by decide) dX8_isSo_63 ?_
          cases hr
          exact J.sub [0, 2, 3, 4] rfl hJ3
        · have hr := (if_pos c).symm.trans hr
          refine j_aload_n X 2 rfl rfl dX8_isSo_31 ?_
          refine j_iload_n X 3 rfl rfl dX8_isSo_32 ?_
          refine j_iload_n X 4 rfl rfl dX8_isSo_33 ?_
          refine j_aload_n X 2 rfl rfl dX8_isSo_34 ?_
          refine j_getr X cf6 pk_68 pl_68 15 rfl ⟨rfl, rfl⟩ 78 rfl bw_769 dX8_isSo_35 ?_
          refine j_iconst X (v := 3) (by decide) dX8_isSo_38 ?_
          refine j_iload X 0 rfl dX8_isSo_39 ?_
          refine j_imul X dX8_isSo_41 ?_
          refine j_iconst X (v := 1) (by decide) dX8_isSo_42 ?_
          refine j_iadd X dX8_isSo_43 ?_
          refine gd_elim hr (fun g hr => ?_)
          refine j_iald X pk_78 pl_78 g dX8_isSo_44 ?_
          refine bd1_elim hr (fun r6 hc7 hr => ?_)
          refine j_callVi X (As := [.int c1, .int c2, .int (σ.1 78 (((3 : Int32) * v4) + (1 : Int32)).toNatClampNeg)]) (rest := []) mf_X8_together bw_972 bw_974 bs_39 ⟨rfl, rfl⟩ ⟨Nat.le_of_ble_eq_true rfl, Nat.le_of_ble_eq_true rfl⟩ cf6 pk_68 pl_68 (c_X8_together Γ.2.1 E ad  hc7) rfl rfl (Nat.le_of_ble_eq_true rfl) dX8_isSo_45 ?_
          refine j_aload_n X 2 rfl rfl dX8_isSo_48 ?_
          refine j_getr X cf6 pk_68 pl_68 15 rfl ⟨rfl, rfl⟩ 78 rfl bw_769 dX8_isSo_49 ?_
          refine j_iconst X (v := 3) (by decide) dX8_isSo_52 ?_
          refine j_iload X 0 rfl dX8_isSo_53 ?_
          refine j_imul X dX8_isSo_55 ?_
          refine j_iconst X (v := 2) (by decide) dX8_isSo_56 ?_
          refine j_iadd X dX8_isSo_57 ?_
          refine gd_elim hr (fun g hr => ?_)
          refine j_iald X pk_78 pl_78 g dX8_isSo_58 ?_
          refine j_icmp_ne X (tgt := 66) (by decide) dX8_isSo_59 (fun c => ?_) (fun c => ?_)
          · have hr := (if_neg c).symm.trans hr
            refine j_iconst X (v := 0) (by decide) dX8_isSo_66 ?_
            cases hr
            exact J.sub [0, 2, 3, 4] rfl hJ3
          · have hr := (if_pos c).symm.trans hr
            refine j_iconst X (v := 1) (by decide) dX8_isSo_62 ?_
            refine j_goto X (tgt := 67) (by decide) dX8_isSo_63 ?_
            cases hr
            exact J.sub [0, 2, 3, 4] rfl hJ3
set_option maxHeartbeats 4000000 in
set_option maxRecDepth 100000 in
theorem c_X8_isSo (l : Launch) (E : Ev) (ad : Nat → Nat)   {a1 : Int32} {a2 : Int32} {σ : Sg} {r : Int32} (h : m_X8_isSo a1 a2 σ = some r) : Met l yX8_isSo (wY yX8_isSo cX8_isSo 5 (some .boolean)) rm_X8_isSo (va_Pc [.ref (ad 68), .int a1, .int a2] (PreU E ad RF 85 σ)) (QcN E ad (some (.int r), σ)) 0 0 (EA E) := by
  refine met_of (L0 := [(0, .ref (ad 68)), (1, .int a1), (2, .int a2)]) rfl (Nat.le_of_ble_eq_true rfl) rfl (fun Γ X Y => ?_)
  have X : XC Γ E rm_X8_isSo cX8_isSo 5 RX8 := X
  unfold m_X8_isSo at h
  refine j_iconst X (v := 1) (by decide) dX8_isSo_0 ?_
  refine nm_elim h (fun x1 ex1 h => ?_)
  refine j_istore_n X (L' := [(3, .int x1), (0, .ref (ad 68)), (1, .int a1), (2, .int a2)]) ex1 rfl (by decide) rfl dX8_isSo_1 ?_
  refine j_iconst X (v := 0) (by decide) dX8_isSo_2 ?_
  refine nm_elim h (fun x2 ex2 h => ?_)
  refine j_istore X (L' := [(4, .int x2), (3, .int x1), (0, .ref (ad 68)), (1, .int a1), (2, .int a2)]) ex2 (by decide) rfl dX8_isSo_3 ?_
  refine J.sub [0, 1, 2, 3, 4] rfl ?_
  exact jl_X8_isSo_L5 X  Y 1000 x2 x1 h

abbrev rm_X8_said : Room := { frames := 4, cells := 0, slots := 0, locals := 96 }
set_option maxHeartbeats 4000000 in
set_option maxRecDepth 100000 in
theorem jl_X8_said_L29 {β : Type} {Γ : Cx} {E : Ev} {ad : Nat → Nat} (X : XC Γ E rm_X8_said cX8_said 8 RX8)   {c1 : Int32} {c2 : Int32} {σ : Sg} {kx : Int32 → Option (β)} {r : β}  (hkx : ∀ (v3 : Int32), kx v3 = some r → J Γ E 8 ad RF 85 σ 0 0 66 [(3, .int v3), (0, .ref (ad 68)), (1, .int c1), (2, .int c2)] []) : ∀ n (v4 : Int32) (v3 : Int32), m_X8_said_L29 c1 c2 σ kx n v4 v3 = some r → J Γ E 8 ad RF 85 σ 0 0 29 [(4, .int v4), (3, .int v3), (0, .ref (ad 68)), (1, .int c1), (2, .int c2)] [] := by
  intro n
  induction n with
  | zero =>
    intro v4 v3 h
    cases h
  | succ n ih =>
    intro v4 v3 h
    rw [m_X8_said_L29.eq_2] at h
    refine j_iload X 0 rfl dX8_said_29 ?_
    refine j_aload_n X 2 rfl rfl dX8_said_31 ?_
    refine j_geti X cf6 pk_68 pl_68 1 rfl ⟨rfl, rfl⟩ bw_755 dX8_said_32 ?_
    refine j_icmp_ge X (tgt := 66) (by decide) dX8_said_35 (fun c => ?_) (fun c => ?_)
    · have h := (if_pos c).symm.trans h
      exact J.sub [1, 2, 3, 4] rfl (hkx v3 h)
    · have h := (if_neg c).symm.trans h
      refine j_iload_n X 1 rfl rfl dX8_said_38 ?_
      refine j_aload_n X 2 rfl rfl dX8_said_39 ?_
      refine j_getr X cf6 pk_68 pl_68 3 rfl ⟨rfl, rfl⟩ 71 rfl bw_757 dX8_said_40 ?_
      refine j_iload X 0 rfl dX8_said_43 ?_
      refine gd_elim h (fun g h => ?_)
      refine j_iald X pk_71 pl_71 g dX8_said_45 ?_
      refine j_iload_n X 3 rfl rfl dX8_said_46 ?_
      refine bd1_elim h (fun o11 hr h => ?_)
      have hJ10 : J Γ E 8 ad RF 85 σ 0 0 58 [(4, .int v4), (0, .ref (ad 68)), (1, .int c1), (2, .int c2)] [.int o11, .int v3] := by
        refine j_ior X dX8_said_58 ?_
        refine nm_elim h (fun x12 ex12 h => ?_)
        refine j_istore_n X (L' := [(3, .int x12), (4, .int v4), (0, .ref (ad 68)), (1, .int c1), (2, .int c2)]) ex12 rfl (by decide) rfl dX8_said_59 ?_
        refine nm_elim h (fun x13 ex13 h => ?_)
        refine j_iinc1 X (L' := [(4, .int x13), (3, .int x12), (0, .ref (ad 68)), (1, .int c1), (2, .int c2)]) 1 rfl (q := 1) (by decide) ex13 (by decide) rfl dX8_said_60 ?_
        refine j_goto X (tgt := 29) (by decide) dX8_said_63 ?_
        exact J.sub [0, 1, 2, 3, 4] rfl (ih x13 x12 h)
      clear h
      refine j_icmp_ne X (tgt := 57) (by decide) dX8_said_47 (fun c => ?_) (fun c => ?_)
      · have hr := (if_neg c).symm.trans hr
        refine j_iconst X (v := 0) (by decide) dX8_said_57 ?_
        cases hr
        exact J.sub [0, 2, 3, 4] rfl hJ10
      · have hr := (if_pos c).symm.trans hr
        refine j_iconst X (v := 1) (by decide) dX8_said_50 ?_
        refine j_iload X 0 rfl dX8_said_51 ?_
        refine j_ishl X dX8_said_53 ?_
        refine j_goto X (tgt := 58) (by decide) dX8_said_54 ?_
        cases hr
        exact J.sub [0, 2, 3, 4] rfl hJ10
set_option maxHeartbeats 4000000 in
set_option maxRecDepth 100000 in
theorem jl_X8_said_L78 {β : Type} {Γ : Cx} {E : Ev} {ad : Nat → Nat} (X : XC Γ E rm_X8_said cX8_said 8 RX8)   {c3 : Int32} {c1 : Int32} {c2 : Int32} {σ : Sg} {kx : Int32 → Int32 → Int32 → Option (β)} {r : β}  (hkx : ∀ (v6 : Int32) (v5 : Int32) (v4 : Int32), kx v6 v5 v4 = some r → J Γ E 8 ad RF 85 σ 0 0 128 [(6, .int v6), (5, .int v5), (4, .int v4), (2, .int c2)] []) : ∀ n (v7 : Int32) (v6 : Int32) (v5 : Int32) (v4 : Int32), m_X8_said_L78 c3 c1 c2 σ kx n v7 v6 v5 v4 = some r → J Γ E 8 ad RF 85 σ 0 0 78 [(7, .int v7), (6, .int v6), (5, .int v5), (4, .int v4), (3, .int c3), (0, .ref (ad 68)), (1, .int c1), (2, .int c2)] [] := by
  intro n
  induction n with
  | zero =>
    intro v7 v6 v5 v4 h
    cases h
  | succ n ih =>
    intro v7 v6 v5 v4 h
    rw [m_X8_said_L78.eq_2] at h
    refine j_iload X 0 rfl dX8_said_78 ?_
    refine j_sipush X (v := 256) (by decide) dX8_said_80 ?_
    refine j_icmp_ge X (tgt := 128) (by decide) dX8_said_83 (fun c => ?_) (fun c => ?_)
    · have h := (if_pos c).symm.trans h
      exact J.sub [1, 2, 3, 7] rfl (hkx v6 v5 v4 h)
    · have h := (if_neg c).symm.trans h
      refine j_iload X 0 rfl dX8_said_86 ?_
      refine j_iload_n X 4 rfl rfl dX8_said_88 ?_
      refine j_iconst X (v := -1) (by decide) dX8_said_89 ?_
      refine j_ixor X dX8_said_90 ?_
      refine j_iand X dX8_said_91 ?_
      refine bd3_elim h (fun o19 o20 o21 hr h => ?_)
      have hJ18 : J Γ E 8 ad RF 85 σ 0 0 122 [(7, .int v7), (3, .int c3), (0, .ref (ad 68)), (1, .int c1), (2, .int c2), (4, .int o19), (5, .int o20), (6, .int o21)] [] := by
        refine nm_elim h (fun x22 ex22 h => ?_)
        refine j_iinc1 X (L' := [(7, .int x22), (3, .int c3), (0, .ref (ad 68)), (1, .int c1), (2, .int c2), (4, .int o19), (5, .int o20), (6, .int o21)]) 0 rfl (q := 1) (by decide) ex22 (by decide) rfl dX8_said_122 ?_
        refine j_goto X (tgt := 78) (by decide) dX8_said_125 ?_
        exact J.sub [0, 7, 6, 5, 1, 2, 3, 4] rfl (ih x22 o21 o20 o19 h)
      clear h
      refine j_if_ne X (tgt := 122) (by decide) dX8_said_92 (fun c => ?_) (fun c => ?_)
      · have hr := (if_neg c).symm.trans hr
        cases hr
        exact J.sub [0, 4, 5, 6, 7, 3, 2, 1] rfl hJ18
      · have hr := (if_pos c).symm.trans hr
        refine j_aload_n X 5 rfl rfl dX8_said_95 ?_
        refine j_iload X 0 rfl dX8_said_96 ?_
        refine j_iload_n X 6 rfl rfl dX8_said_98 ?_
        refine bd1_elim hr (fun r23 hc24 hr => ?_)
        refine j_callVi X (As := [.int v7, .int c1]) (rest := []) mf_X8_isSo bw_1084 bw_1086 bs_49 ⟨rfl, rfl⟩ ⟨Nat.le_of_ble_eq_true rfl, Nat.le_of_ble_eq_true rfl⟩ cf6 pk_68 pl_68 (c_X8_isSo Γ.2.1 E ad  hc24) rfl rfl (Nat.le_of_ble_eq_true rfl) dX8_said_99 ?_
        refine j_if_eq X (tgt := 122) (by decide) dX8_said_102 (fun c => ?_) (fun c => ?_)
        · have hr := (if_pos c).symm.trans hr
          cases hr
          exact J.sub [0, 4, 5, 6, 7, 3, 2, 1] rfl hJ18
        · have hr := (if_neg c).symm.trans hr
          refine nm_elim hr (fun x25 ex25 hr => ?_)
          refine j_iinc1 X (L' := [(4, .int x25), (7, .int v7), (6, .int v6), (5, .int v5), (3, .int c3), (0, .ref (ad 68)), (1, .int c1), (2, .int c2)]) 3 rfl (q := 1) (by decide) ex25 (by decide) rfl dX8_said_105 ?_
          refine j_iload X 3 rfl dX8_said_108 ?_
          refine j_iload X 1 rfl dX8_said_110 ?_
          refine j_iand X dX8_said_112 ?_
          refine nm_elim hr (fun x26 ex26 hr => ?_)
          refine j_istore X (L' := [(5, .int x26), (4, .int x25), (7, .int v7), (6, .int v6), (3, .int c3), (0, .ref (ad 68)), (1, .int c1), (2, .int c2)]) ex26 (by decide) rfl dX8_said_113 ?_
          refine j_iload X 3 rfl dX8_said_115 ?_
          refine j_iload X 2 rfl dX8_said_117 ?_
          refine j_ior X dX8_said_119 ?_
          refine nm_elim hr (fun x27 ex27 hr => ?_)
          refine j_istore X (L' := [(6, .int x27), (5, .int x26), (4, .int x25), (7, .int v7), (3, .int c3), (0, .ref (ad 68)), (1, .int c1), (2, .int c2)]) ex27 (by decide) rfl dX8_said_120 ?_
          cases hr
          exact J.sub [3, 4, 5, 6, 7, 2, 1, 0] rfl hJ18
set_option maxHeartbeats 4000000 in
set_option maxRecDepth 100000 in
theorem c_X8_said (l : Launch) (E : Ev) (ad : Nat → Nat)   {a1 : Int32} {a2 : Int32} {σ : Sg} {r : Int32 × Sg} (h : m_X8_said a1 a2 σ = some r) : Met l yX8_said (wY yX8_said cX8_said 8 (some .int)) rm_X8_said (va_Pc [.ref (ad 68), .int a1, .int a2] (PreU E ad RF 85 σ)) (QcN E ad (some (.int r.1), r.2)) 0 0 (EA E) := by
  refine met_of (L0 := [(0, .ref (ad 68)), (1, .int a1), (2, .int a2)]) rfl (Nat.le_of_ble_eq_true rfl) rfl (fun Γ X Y => ?_)
  have X : XC Γ E rm_X8_said cX8_said 8 RX8 := X
  unfold m_X8_said at h
  refine j_iload_n X 1 rfl rfl dX8_said_0 ?_
  refine bd1_elim h (fun r1 hc2 h => ?_)
  refine j_callSi X (As := [.int a1]) (rest := []) mf_X8_isRoom bw_854 bw_855 ⟨rfl, rfl⟩ ⟨Nat.le_of_ble_eq_true rfl, Nat.le_of_ble_eq_true rfl⟩ (c_X8_isRoom Γ.2.1 E ad  hc2) rfl rfl (Nat.le_of_ble_eq_true rfl) dX8_said_1 ?_
  refine j_if_eq X (tgt := 19) (by decide) dX8_said_4 (fun c => ?_) (fun c => ?_)
  · have h := (if_pos c).symm.trans h
    refine j_aload_n X 0 rfl rfl dX8_said_19 ?_
    refine bd2_elim h (fun r3 σ4 hc5 h => ?_)
    refine j_callVi X (As := []) (rest := []) mf_X8_bad bw_859 bw_861 bs_20 ⟨rfl, rfl⟩ ⟨Nat.le_of_ble_eq_true rfl, Nat.le_of_ble_eq_true rfl⟩ cf6 pk_68 pl_68 (c_X8_bad Γ.2.1 E ad  hc5) rfl rfl (Nat.le_of_ble_eq_true rfl) dX8_said_20 ?_
    exact j_iret X Y rfl (ret_wi h) dX8_said_23
  · have h := (if_neg c).symm.trans h
    refine j_iload_n X 2 rfl rfl dX8_said_7 ?_
    refine j_i2l X dX8_said_8 ?_
    refine j_lconst X (v := 0) (by decide) dX8_said_9 ?_
    refine j_ldc2 X (v := 2) bw_841 dX8_said_10 ?_
    refine bd1_elim h (fun r6 hc7 h => ?_)
    refine j_callSi X (As := [.long (Int32.toInt64 a2), .long (0 : Int64), .long (2 : Int64)]) (rest := []) mf_X8_in bw_842 bw_843 ⟨rfl, rfl⟩ ⟨Nat.le_of_ble_eq_true rfl, Nat.le_of_ble_eq_true rfl⟩ (c_X8_in Γ.2.1 E ad  hc7) rfl rfl (Nat.le_of_ble_eq_true rfl) dX8_said_13 ?_
    refine j_if_ne X (tgt := 24) (by decide) dX8_said_16 (fun c => ?_) (fun c => ?_)
    · have h := (if_neg c).symm.trans h
      refine j_iconst X (v := 0) (by decide) dX8_said_24 ?_
      refine nm_elim h (fun x8 ex8 h => ?_)
      refine j_istore_n X (L' := [(3, .int x8), (0, .ref (ad 68)), (1, .int a1), (2, .int a2)]) ex8 rfl (by decide) rfl dX8_said_25 ?_
      refine j_iconst X (v := 0) (by decide) dX8_said_26 ?_
      refine nm_elim h (fun x9 ex9 h => ?_)
      refine j_istore X (L' := [(4, .int x9), (3, .int x8), (0, .ref (ad 68)), (1, .int a1), (2, .int a2)]) ex9 (by decide) rfl dX8_said_27 ?_
      refine J.sub [0, 1, 2, 3, 4] rfl ?_
      refine jl_X8_said_L29 X  (fun x14 h => ?_) 1000 x9 x8 h
      refine j_iconst X (v := 0) (by decide) dX8_said_66 ?_
      refine nm_elim h (fun x15 ex15 h => ?_)
      refine j_istore X (L' := [(4, .int x15), (3, .int x14), (0, .ref (ad 68)), (1, .int a1), (2, .int a2)]) ex15 (by decide) rfl dX8_said_67 ?_
      refine j_iload_n X 1 rfl rfl dX8_said_69 ?_
      refine j_istore X (L' := [(5, .int x14), (4, .int x15), (3, .int x14), (0, .ref (ad 68)), (1, .int a1), (2, .int a2)]) rfl (by decide) rfl dX8_said_70 ?_
      refine j_iconst X (v := 0) (by decide) dX8_said_72 ?_
      refine nm_elim h (fun x16 ex16 h => ?_)
      refine j_istore X (L' := [(6, .int x16), (5, .int x14), (4, .int x15), (3, .int x14), (0, .ref (ad 68)), (1, .int a1), (2, .int a2)]) ex16 (by decide) rfl dX8_said_73 ?_
      refine j_iconst X (v := 0) (by decide) dX8_said_75 ?_
      refine nm_elim h (fun x17 ex17 h => ?_)
      refine j_istore X (L' := [(7, .int x17), (6, .int x16), (5, .int x14), (4, .int x15), (3, .int x14), (0, .ref (ad 68)), (1, .int a1), (2, .int a2)]) ex17 (by decide) rfl dX8_said_76 ?_
      refine J.sub [0, 1, 2, 3, 4, 5, 6, 7] rfl ?_
      refine jl_X8_said_L78 X  (fun x28 x29 x30 h => ?_) 1000 x17 x16 x14 x15 h
      refine j_iload_n X 3 rfl rfl dX8_said_128 ?_
      refine j_if_ne X (tgt := 137) (by decide) dX8_said_129 (fun c => ?_) (fun c => ?_)
      · have h := (if_neg c).symm.trans h
        refine j_iload_n X 3 rfl rfl dX8_said_137 ?_
        refine j_iconst X (v := 1) (by decide) dX8_said_138 ?_
        refine j_icmp_ne X (tgt := 156) (by decide) dX8_said_139 (fun c => ?_) (fun c => ?_)
        · have h := (if_neg c).symm.trans h
          refine j_iload X 0 rfl dX8_said_156 ?_
          exact j_iret X Y rfl (ret_wi h) dX8_said_158
        · have h := (if_pos c).symm.trans h
          refine j_iload X 2 rfl dX8_said_142 ?_
          refine j_if_ne X (tgt := 151) (by decide) dX8_said_144 (fun c => ?_) (fun c => ?_)
          · have h := (if_neg c).symm.trans h
            refine j_iload X 1 rfl dX8_said_151 ?_
            refine j_goto X (tgt := 158) (by decide) dX8_said_153 ?_
            exact j_iret X Y rfl (ret_wi h) dX8_said_158
          · have h := (if_pos c).symm.trans h
            refine j_iconst X (v := -1) (by decide) dX8_said_147 ?_
            refine j_goto X (tgt := 158) (by decide) dX8_said_148 ?_
            exact j_iret X Y rfl (ret_wi h) dX8_said_158
      · have h := (if_pos c).symm.trans h
        refine j_iload X 2 rfl dX8_said_132 ?_
        refine j_goto X (tgt := 158) (by decide) dX8_said_134 ?_
        exact j_iret X Y rfl (ret_wi h) dX8_said_158
    · have h := (if_pos c).symm.trans h
      refine j_aload_n X 0 rfl rfl dX8_said_19 ?_
      refine bd2_elim h (fun r31 σ32 hc33 h => ?_)
      refine j_callVi X (As := []) (rest := []) mf_X8_bad bw_859 bw_861 bs_20 ⟨rfl, rfl⟩ ⟨Nat.le_of_ble_eq_true rfl, Nat.le_of_ble_eq_true rfl⟩ cf6 pk_68 pl_68 (c_X8_bad Γ.2.1 E ad  hc33) rfl rfl (Nat.le_of_ble_eq_true rfl) dX8_said_20 ?_
      exact j_iret X Y rfl (ret_wi h) dX8_said_23

abbrev rm_X8_add : Room := { frames := 0, cells := 0, slots := 0, locals := 0 }
set_option maxHeartbeats 4000000 in
set_option maxRecDepth 100000 in
theorem c_X8_add (l : Launch) (E : Ev) (ad : Nat → Nat) {k0 : Nat} (hl0 : lay k0 = 7) {a1 : Int32} {a2 : Int32} {a3 : Int32} {a4 : Int32} {a5 : Int32} {σ : Sg} {r : Int32 × Sg} (h : m_X8_add k0 a1 a2 a3 a4 a5 σ = some r) : Met l yX8_add (wY yX8_add cX8_add 6 (some .int)) rm_X8_add (va_Pc [.ref (ad k0), .int a1, .int a2, .int a3, .int a4, .int a5] (PreU E ad RF 85 σ)) (QcN E ad (some (.int r.1), r.2)) 0 0 (EA E) := by
  refine met_of (L0 := [(0, .ref (ad k0)), (1, .int a1), (2, .int a2), (3, .int a3), (4, .int a4), (5, .int a5)]) rfl (Nat.le_of_ble_eq_true rfl) rfl (fun Γ X Y => ?_)
  have X : XC Γ E rm_X8_add cX8_add 6 RX8 := X
  unfold m_X8_add at h
  refine j_aload_n X 0 rfl rfl dX8_add_0 ?_
  refine j_iconst X (v := 4) (by decide) dX8_add_1 ?_
  refine j_iload_n X 1 rfl rfl dX8_add_2 ?_
  refine j_imul X dX8_add_3 ?_
  refine j_iload_n X 2 rfl rfl dX8_add_4 ?_
  refine gd_elim h (fun g h => ?_)
  refine nm_elim h (fun σ1 eσ1 h => ?_)
  refine j_iast X (lay_lt hl0 (by decide)) hl0 g eσ1 dX8_add_5 ?_
  refine j_aload_n X 0 rfl rfl dX8_add_6 ?_
  refine j_iconst X (v := 4) (by decide) dX8_add_7 ?_
  refine j_iload_n X 1 rfl rfl dX8_add_8 ?_
  refine j_imul X dX8_add_9 ?_
  refine j_iconst X (v := 1) (by decide) dX8_add_10 ?_
  refine j_iadd X dX8_add_11 ?_
  refine j_iload_n X 3 rfl rfl dX8_add_12 ?_
  refine gd_elim h (fun g h => ?_)
  refine nm_elim h (fun σ2 eσ2 h => ?_)
  refine j_iast X (lay_lt hl0 (by decide)) hl0 g eσ2 dX8_add_13 ?_
  refine j_aload_n X 0 rfl rfl dX8_add_14 ?_
  refine j_iconst X (v := 4) (by decide) dX8_add_15 ?_
  refine j_iload_n X 1 rfl rfl dX8_add_16 ?_
  refine j_imul X dX8_add_17 ?_
  refine j_iconst X (v := 2) (by decide) dX8_add_18 ?_
  refine j_iadd X dX8_add_19 ?_
  refine j_iload X 4 rfl dX8_add_20 ?_
  refine gd_elim h (fun g h => ?_)
  refine nm_elim h (fun σ3 eσ3 h => ?_)
  refine j_iast X (lay_lt hl0 (by decide)) hl0 g eσ3 dX8_add_22 ?_
  refine j_aload_n X 0 rfl rfl dX8_add_23 ?_
  refine j_iconst X (v := 4) (by decide) dX8_add_24 ?_
  refine j_iload_n X 1 rfl rfl dX8_add_25 ?_
  refine j_imul X dX8_add_26 ?_
  refine j_iconst X (v := 3) (by decide) dX8_add_27 ?_
  refine j_iadd X dX8_add_28 ?_
  refine j_iload X 5 rfl dX8_add_29 ?_
  refine gd_elim h (fun g h => ?_)
  refine nm_elim h (fun σ4 eσ4 h => ?_)
  refine j_iast X (lay_lt hl0 (by decide)) hl0 g eσ4 dX8_add_31 ?_
  refine j_iload_n X 1 rfl rfl dX8_add_32 ?_
  refine j_iconst X (v := 1) (by decide) dX8_add_33 ?_
  refine j_iadd X dX8_add_34 ?_
  exact j_iret X Y rfl (ret_wi h) dX8_add_35

abbrev rm_X8_note : Room := { frames := 2, cells := 0, slots := 0, locals := 46 }
set_option maxHeartbeats 4000000 in
set_option maxRecDepth 100000 in
theorem c_X8_note (l : Launch) (E : Ev) (ad : Nat → Nat)   {a1 : Int32} {a2 : Int32} {a3 : Int32} {a4 : Int32} {σ : Sg} {r : Int32 × Sg} (h : m_X8_note a1 a2 a3 a4 σ = some r) : Met l yX8_note (wY yX8_note cX8_note 5 (some .int)) rm_X8_note (va_Pc [.ref (ad 68), .int a1, .int a2, .int a3, .int a4] (PreU E ad RF 85 σ)) (QcN E ad (some (.int r.1), r.2)) 0 0 (EA E) := by
  refine met_of (L0 := [(0, .ref (ad 68)), (1, .int a1), (2, .int a2), (3, .int a3), (4, .int a4)]) rfl (Nat.le_of_ble_eq_true rfl) rfl (fun Γ X Y => ?_)
  have X : XC Γ E rm_X8_note cX8_note 5 RX8 := X
  unfold m_X8_note at h
  refine j_aload_n X 0 rfl rfl dX8_note_0 ?_
  refine j_iload_n X 1 rfl rfl dX8_note_1 ?_
  refine bd1_elim h (fun r1 hc2 h => ?_)
  refine j_callVi X (As := [.int a1]) (rest := []) mf_X8_isSaying bw_1037 bw_1039 bs_46 ⟨rfl, rfl⟩ ⟨Nat.le_of_ble_eq_true rfl, Nat.le_of_ble_eq_true rfl⟩ cf6 pk_68 pl_68 (c_X8_isSaying Γ.2.1 E ad  hc2) rfl rfl (Nat.le_of_ble_eq_true rfl) dX8_note_2 ?_
  refine j_if_eq X (tgt := 45) (by decide) dX8_note_5 (fun c => ?_) (fun c => ?_)
  · have h := (if_pos c).symm.trans h
    refine j_aload_n X 0 rfl rfl dX8_note_45 ?_
    refine bd2_elim h (fun r3 σ4 hc5 h => ?_)
    refine j_callVi X (As := []) (rest := []) mf_X8_bad bw_859 bw_861 bs_20 ⟨rfl, rfl⟩ ⟨Nat.le_of_ble_eq_true rfl, Nat.le_of_ble_eq_true rfl⟩ cf6 pk_68 pl_68 (c_X8_bad Γ.2.1 E ad  hc5) rfl rfl (Nat.le_of_ble_eq_true rfl) dX8_note_46 ?_
    exact j_iret X Y rfl (ret_wi h) dX8_note_49
  · have h := (if_neg c).symm.trans h
    refine j_iload_n X 2 rfl rfl dX8_note_8 ?_
    refine j_i2l X dX8_note_9 ?_
    refine j_lconst X (v := 1) (by decide) dX8_note_10 ?_
    refine j_ldc2 X (v := 9) bw_858 dX8_note_11 ?_
    refine bd1_elim h (fun r6 hc7 h => ?_)
    refine j_callSi X (As := [.long (Int32.toInt64 a2), .long (1 : Int64), .long (9 : Int64)]) (rest := []) mf_X8_in bw_842 bw_843 ⟨rfl, rfl⟩ ⟨Nat.le_of_ble_eq_true rfl, Nat.le_of_ble_eq_true rfl⟩ (c_X8_in Γ.2.1 E ad  hc7) rfl rfl (Nat.le_of_ble_eq_true rfl) dX8_note_14 ?_
    refine j_if_eq X (tgt := 45) (by decide) dX8_note_17 (fun c => ?_) (fun c => ?_)
    · have h := (if_pos c).symm.trans h
      refine j_aload_n X 0 rfl rfl dX8_note_45 ?_
      refine bd2_elim h (fun r8 σ9 hc10 h => ?_)
      refine j_callVi X (As := []) (rest := []) mf_X8_bad bw_859 bw_861 bs_20 ⟨rfl, rfl⟩ ⟨Nat.le_of_ble_eq_true rfl, Nat.le_of_ble_eq_true rfl⟩ cf6 pk_68 pl_68 (c_X8_bad Γ.2.1 E ad  hc10) rfl rfl (Nat.le_of_ble_eq_true rfl) dX8_note_46 ?_
      exact j_iret X Y rfl (ret_wi h) dX8_note_49
    · have h := (if_neg c).symm.trans h
      refine j_iload_n X 3 rfl rfl dX8_note_20 ?_
      refine j_i2l X dX8_note_21 ?_
      refine j_lconst X (v := 0) (by decide) dX8_note_22 ?_
      refine j_ldc2 X (v := 29) bw_1053 dX8_note_23 ?_
      refine bd1_elim h (fun r11 hc12 h => ?_)
      refine j_callSi X (As := [.long (Int32.toInt64 a3), .long (0 : Int64), .long (29 : Int64)]) (rest := []) mf_X8_in bw_842 bw_843 ⟨rfl, rfl⟩ ⟨Nat.le_of_ble_eq_true rfl, Nat.le_of_ble_eq_true rfl⟩ (c_X8_in Γ.2.1 E ad  hc12) rfl rfl (Nat.le_of_ble_eq_true rfl) dX8_note_26 ?_
      refine j_if_eq X (tgt := 45) (by decide) dX8_note_29 (fun c => ?_) (fun c => ?_)
      · have h := (if_pos c).symm.trans h
        refine j_aload_n X 0 rfl rfl dX8_note_45 ?_
        refine bd2_elim h (fun r13 σ14 hc15 h => ?_)
        refine j_callVi X (As := []) (rest := []) mf_X8_bad bw_859 bw_861 bs_20 ⟨rfl, rfl⟩ ⟨Nat.le_of_ble_eq_true rfl, Nat.le_of_ble_eq_true rfl⟩ cf6 pk_68 pl_68 (c_X8_bad Γ.2.1 E ad  hc15) rfl rfl (Nat.le_of_ble_eq_true rfl) dX8_note_46 ?_
        exact j_iret X Y rfl (ret_wi h) dX8_note_49
      · have h := (if_neg c).symm.trans h
        refine j_iload X 4 rfl dX8_note_32 ?_
        refine j_i2l X dX8_note_34 ?_
        refine j_lconst X (v := 0) (by decide) dX8_note_35 ?_
        refine j_ldc2 X (v := 20) bw_1092 dX8_note_36 ?_
        refine bd1_elim h (fun r16 hc17 h => ?_)
        refine j_callSi X (As := [.long (Int32.toInt64 a4), .long (0 : Int64), .long (20 : Int64)]) (rest := []) mf_X8_in bw_842 bw_843 ⟨rfl, rfl⟩ ⟨Nat.le_of_ble_eq_true rfl, Nat.le_of_ble_eq_true rfl⟩ (c_X8_in Γ.2.1 E ad  hc17) rfl rfl (Nat.le_of_ble_eq_true rfl) dX8_note_39 ?_
        refine j_if_ne X (tgt := 50) (by decide) dX8_note_42 (fun c => ?_) (fun c => ?_)
        · have h := (if_neg c).symm.trans h
          refine j_aload_n X 0 rfl rfl dX8_note_50 ?_
          refine j_geti X cf6 pk_68 pl_68 18 rfl ⟨rfl, rfl⟩ bw_772 dX8_note_51 ?_
          refine j_bipush X (v := 6) (by decide) dX8_note_54 ?_
          refine j_icmp_ne X (tgt := 64) (by decide) dX8_note_56 (fun c => ?_) (fun c => ?_)
          · have h := (if_neg c).symm.trans h
            refine j_aload_n X 0 rfl rfl dX8_note_64 ?_
            refine j_aload_n X 0 rfl rfl dX8_note_65 ?_
            refine j_getr X cf6 pk_68 pl_68 17 rfl ⟨rfl, rfl⟩ 79 rfl bw_771 dX8_note_66 ?_
            refine j_aload_n X 0 rfl rfl dX8_note_69 ?_
            refine j_geti X cf6 pk_68 pl_68 18 rfl ⟨rfl, rfl⟩ bw_772 dX8_note_70 ?_
            refine j_iload_n X 1 rfl rfl dX8_note_73 ?_
            refine j_iload_n X 2 rfl rfl dX8_note_74 ?_
            refine j_iload_n X 3 rfl rfl dX8_note_75 ?_
            refine j_iload X 4 rfl dX8_note_76 ?_
            refine bd2_elim h (fun r18 σ19 hc20 h => ?_)
            refine j_callSi X (As := [.ref (ad 79), .int (σ.1 68 18), .int a1, .int a2, .int a3, .int a4]) (rest := [.ref (ad 68)]) mf_X8_add bw_1093 bw_1094 ⟨rfl, rfl⟩ ⟨Nat.le_of_ble_eq_true rfl, Nat.le_of_ble_eq_true rfl⟩ (c_X8_add Γ.2.1 E ad pl_79 hc20) rfl rfl (Nat.le_of_ble_eq_true rfl) dX8_note_78 ?_
            refine nm_elim h (fun σ21 eσ21 h => ?_)
            refine j_puti X cf6 pk_68 pl_68 18 rfl ⟨rfl, rfl⟩ (.inl rfl) rfl rfl eσ21 bw_772 dX8_note_81 ?_
            refine j_aload_n X 0 rfl rfl dX8_note_84 ?_
            refine j_geti X cf6 pk_68 pl_68 18 rfl ⟨rfl, rfl⟩ bw_772 dX8_note_85 ?_
            exact j_iret X Y rfl (ret_wi h) dX8_note_88
          · have h := (if_pos c).symm.trans h
            refine j_aload_n X 0 rfl rfl dX8_note_59 ?_
            refine bd2_elim h (fun r22 σ23 hc24 h => ?_)
            refine j_callVi X (As := []) (rest := []) mf_X8_full bw_863 bw_865 bs_21 ⟨rfl, rfl⟩ ⟨Nat.le_of_ble_eq_true rfl, Nat.le_of_ble_eq_true rfl⟩ cf6 pk_68 pl_68 (c_X8_full Γ.2.1 E ad  hc24) rfl rfl (Nat.le_of_ble_eq_true rfl) dX8_note_60 ?_
            exact j_iret X Y rfl (ret_wi h) dX8_note_63
        · have h := (if_pos c).symm.trans h
          refine j_aload_n X 0 rfl rfl dX8_note_45 ?_
          refine bd2_elim h (fun r25 σ26 hc27 h => ?_)
          refine j_callVi X (As := []) (rest := []) mf_X8_bad bw_859 bw_861 bs_20 ⟨rfl, rfl⟩ ⟨Nat.le_of_ble_eq_true rfl, Nat.le_of_ble_eq_true rfl⟩ cf6 pk_68 pl_68 (c_X8_bad Γ.2.1 E ad  hc27) rfl rfl (Nat.le_of_ble_eq_true rfl) dX8_note_46 ?_
          exact j_iret X Y rfl (ret_wi h) dX8_note_49

abbrev rm_X8_mark : Room := { frames := 2, cells := 0, slots := 0, locals := 46 }
set_option maxHeartbeats 4000000 in
set_option maxRecDepth 100000 in
theorem c_X8_mark (l : Launch) (E : Ev) (ad : Nat → Nat)   {a1 : Int32} {a2 : Int32} {a3 : Int32} {a4 : Int32} {σ : Sg} {r : Int32 × Sg} (h : m_X8_mark a1 a2 a3 a4 σ = some r) : Met l yX8_mark (wY yX8_mark cX8_mark 5 (some .int)) rm_X8_mark (va_Pc [.ref (ad 68), .int a1, .int a2, .int a3, .int a4] (PreU E ad RF 85 σ)) (QcN E ad (some (.int r.1), r.2)) 0 0 (EA E) := by
  refine met_of (L0 := [(0, .ref (ad 68)), (1, .int a1), (2, .int a2), (3, .int a3), (4, .int a4)]) rfl (Nat.le_of_ble_eq_true rfl) rfl (fun Γ X Y => ?_)
  have X : XC Γ E rm_X8_mark cX8_mark 5 RX8 := X
  unfold m_X8_mark at h
  refine j_aload_n X 0 rfl rfl dX8_mark_0 ?_
  refine j_iload_n X 1 rfl rfl dX8_mark_1 ?_
  refine bd1_elim h (fun r1 hc2 h => ?_)
  refine j_callVi X (As := [.int a1]) (rest := []) mf_X8_isEar bw_1013 bw_1015 bs_44 ⟨rfl, rfl⟩ ⟨Nat.le_of_ble_eq_true rfl, Nat.le_of_ble_eq_true rfl⟩ cf6 pk_68 pl_68 (c_X8_isEar Γ.2.1 E ad  hc2) rfl rfl (Nat.le_of_ble_eq_true rfl) dX8_mark_2 ?_
  refine j_if_eq X (tgt := 43) (by decide) dX8_mark_5 (fun c => ?_) (fun c => ?_)
  · have h := (if_pos c).symm.trans h
    refine j_aload_n X 0 rfl rfl dX8_mark_43 ?_
    refine bd2_elim h (fun r3 σ4 hc5 h => ?_)
    refine j_callVi X (As := []) (rest := []) mf_X8_bad bw_859 bw_861 bs_20 ⟨rfl, rfl⟩ ⟨Nat.le_of_ble_eq_true rfl, Nat.le_of_ble_eq_true rfl⟩ cf6 pk_68 pl_68 (c_X8_bad Γ.2.1 E ad  hc5) rfl rfl (Nat.le_of_ble_eq_true rfl) dX8_mark_44 ?_
    exact j_iret X Y rfl (ret_wi h) dX8_mark_47
  · have h := (if_neg c).symm.trans h
    refine j_iload_n X 2 rfl rfl dX8_mark_8 ?_
    refine j_i2l X dX8_mark_9 ?_
    refine j_lconst X (v := 0) (by decide) dX8_mark_10 ?_
    refine j_ldc2 X (v := 20) bw_1092 dX8_mark_11 ?_
    refine bd1_elim h (fun r6 hc7 h => ?_)
    refine j_callSi X (As := [.long (Int32.toInt64 a2), .long (0 : Int64), .long (20 : Int64)]) (rest := []) mf_X8_in bw_842 bw_843 ⟨rfl, rfl⟩ ⟨Nat.le_of_ble_eq_true rfl, Nat.le_of_ble_eq_true rfl⟩ (c_X8_in Γ.2.1 E ad  hc7) rfl rfl (Nat.le_of_ble_eq_true rfl) dX8_mark_14 ?_
    refine j_if_eq X (tgt := 43) (by decide) dX8_mark_17 (fun c => ?_) (fun c => ?_)
    · have h := (if_pos c).symm.trans h
      refine j_aload_n X 0 rfl rfl dX8_mark_43 ?_
      refine bd2_elim h (fun r8 σ9 hc10 h => ?_)
      refine j_callVi X (As := []) (rest := []) mf_X8_bad bw_859 bw_861 bs_20 ⟨rfl, rfl⟩ ⟨Nat.le_of_ble_eq_true rfl, Nat.le_of_ble_eq_true rfl⟩ cf6 pk_68 pl_68 (c_X8_bad Γ.2.1 E ad  hc10) rfl rfl (Nat.le_of_ble_eq_true rfl) dX8_mark_44 ?_
      exact j_iret X Y rfl (ret_wi h) dX8_mark_47
    · have h := (if_neg c).symm.trans h
      refine j_iload_n X 3 rfl rfl dX8_mark_20 ?_
      refine j_i2l X dX8_mark_21 ?_
      refine j_lconst X (v := 0) (by decide) dX8_mark_22 ?_
      refine j_ldc2 X (v := 99) bw_1021 dX8_mark_23 ?_
      refine bd1_elim h (fun r11 hc12 h => ?_)
      refine j_callSi X (As := [.long (Int32.toInt64 a3), .long (0 : Int64), .long (99 : Int64)]) (rest := []) mf_X8_in bw_842 bw_843 ⟨rfl, rfl⟩ ⟨Nat.le_of_ble_eq_true rfl, Nat.le_of_ble_eq_true rfl⟩ (c_X8_in Γ.2.1 E ad  hc12) rfl rfl (Nat.le_of_ble_eq_true rfl) dX8_mark_26 ?_
      refine j_if_eq X (tgt := 43) (by decide) dX8_mark_29 (fun c => ?_) (fun c => ?_)
      · have h := (if_pos c).symm.trans h
        refine j_aload_n X 0 rfl rfl dX8_mark_43 ?_
        refine bd2_elim h (fun r13 σ14 hc15 h => ?_)
        refine j_callVi X (As := []) (rest := []) mf_X8_bad bw_859 bw_861 bs_20 ⟨rfl, rfl⟩ ⟨Nat.le_of_ble_eq_true rfl, Nat.le_of_ble_eq_true rfl⟩ cf6 pk_68 pl_68 (c_X8_bad Γ.2.1 E ad  hc15) rfl rfl (Nat.le_of_ble_eq_true rfl) dX8_mark_44 ?_
        exact j_iret X Y rfl (ret_wi h) dX8_mark_47
      · have h := (if_neg c).symm.trans h
        refine j_iload X 4 rfl dX8_mark_32 ?_
        refine j_i2l X dX8_mark_34 ?_
        refine j_lconst X (v := 0) (by decide) dX8_mark_35 ?_
        refine j_lconst X (v := 1) (by decide) dX8_mark_36 ?_
        refine bd1_elim h (fun r16 hc17 h => ?_)
        refine j_callSi X (As := [.long (Int32.toInt64 a4), .long (0 : Int64), .long (1 : Int64)]) (rest := []) mf_X8_in bw_842 bw_843 ⟨rfl, rfl⟩ ⟨Nat.le_of_ble_eq_true rfl, Nat.le_of_ble_eq_true rfl⟩ (c_X8_in Γ.2.1 E ad  hc17) rfl rfl (Nat.le_of_ble_eq_true rfl) dX8_mark_37 ?_
        refine j_if_ne X (tgt := 48) (by decide) dX8_mark_40 (fun c => ?_) (fun c => ?_)
        · have h := (if_neg c).symm.trans h
          refine j_aload_n X 0 rfl rfl dX8_mark_48 ?_
          refine j_geti X cf6 pk_68 pl_68 20 rfl ⟨rfl, rfl⟩ bw_774 dX8_mark_49 ?_
          refine j_bipush X (v := 6) (by decide) dX8_mark_52 ?_
          refine j_icmp_ne X (tgt := 62) (by decide) dX8_mark_54 (fun c => ?_) (fun c => ?_)
          · have h := (if_neg c).symm.trans h
            refine j_aload_n X 0 rfl rfl dX8_mark_62 ?_
            refine j_aload_n X 0 rfl rfl dX8_mark_63 ?_
            refine j_getr X cf6 pk_68 pl_68 19 rfl ⟨rfl, rfl⟩ 80 rfl bw_773 dX8_mark_64 ?_
            refine j_aload_n X 0 rfl rfl dX8_mark_67 ?_
            refine j_geti X cf6 pk_68 pl_68 20 rfl ⟨rfl, rfl⟩ bw_774 dX8_mark_68 ?_
            refine j_iload_n X 1 rfl rfl dX8_mark_71 ?_
            refine j_iload_n X 2 rfl rfl dX8_mark_72 ?_
            refine j_iload_n X 3 rfl rfl dX8_mark_73 ?_
            refine j_iload X 4 rfl dX8_mark_74 ?_
            refine bd2_elim h (fun r18 σ19 hc20 h => ?_)
            refine j_callSi X (As := [.ref (ad 80), .int (σ.1 68 20), .int a1, .int a2, .int a3, .int a4]) (rest := [.ref (ad 68)]) mf_X8_add bw_1093 bw_1094 ⟨rfl, rfl⟩ ⟨Nat.le_of_ble_eq_true rfl, Nat.le_of_ble_eq_true rfl⟩ (c_X8_add Γ.2.1 E ad pl_80 hc20) rfl rfl (Nat.le_of_ble_eq_true rfl) dX8_mark_76 ?_
            refine nm_elim h (fun σ21 eσ21 h => ?_)
            refine j_puti X cf6 pk_68 pl_68 20 rfl ⟨rfl, rfl⟩ (.inl rfl) rfl rfl eσ21 bw_774 dX8_mark_79 ?_
            refine j_aload_n X 0 rfl rfl dX8_mark_82 ?_
            refine j_geti X cf6 pk_68 pl_68 20 rfl ⟨rfl, rfl⟩ bw_774 dX8_mark_83 ?_
            exact j_iret X Y rfl (ret_wi h) dX8_mark_86
          · have h := (if_pos c).symm.trans h
            refine j_aload_n X 0 rfl rfl dX8_mark_57 ?_
            refine bd2_elim h (fun r22 σ23 hc24 h => ?_)
            refine j_callVi X (As := []) (rest := []) mf_X8_full bw_863 bw_865 bs_21 ⟨rfl, rfl⟩ ⟨Nat.le_of_ble_eq_true rfl, Nat.le_of_ble_eq_true rfl⟩ cf6 pk_68 pl_68 (c_X8_full Γ.2.1 E ad  hc24) rfl rfl (Nat.le_of_ble_eq_true rfl) dX8_mark_58 ?_
            exact j_iret X Y rfl (ret_wi h) dX8_mark_61
        · have h := (if_pos c).symm.trans h
          refine j_aload_n X 0 rfl rfl dX8_mark_43 ?_
          refine bd2_elim h (fun r25 σ26 hc27 h => ?_)
          refine j_callVi X (As := []) (rest := []) mf_X8_bad bw_859 bw_861 bs_20 ⟨rfl, rfl⟩ ⟨Nat.le_of_ble_eq_true rfl, Nat.le_of_ble_eq_true rfl⟩ cf6 pk_68 pl_68 (c_X8_bad Γ.2.1 E ad  hc27) rfl rfl (Nat.le_of_ble_eq_true rfl) dX8_mark_44 ?_
          exact j_iret X Y rfl (ret_wi h) dX8_mark_47

abbrev rm_X8_forget : Room := { frames := 1, cells := 0, slots := 0, locals := 25 }
set_option maxHeartbeats 4000000 in
set_option maxRecDepth 100000 in
theorem c_X8_forget (l : Launch) (E : Ev) (ad : Nat → Nat)   {a1 : Int32} {σ : Sg} {r : Int32 × Sg} (h : m_X8_forget a1 σ = some r) : Met l yX8_forget (wY yX8_forget cX8_forget 3 (some .int)) rm_X8_forget (va_Pc [.ref (ad 68), .int a1] (PreU E ad RF 85 σ)) (QcN E ad (some (.int r.1), r.2)) 0 0 (EA E) := by
  refine met_of (L0 := [(0, .ref (ad 68)), (1, .int a1)]) rfl (Nat.le_of_ble_eq_true rfl) rfl (fun Γ X Y => ?_)
  have X : XC Γ E rm_X8_forget cX8_forget 3 RX8 := X
  unfold m_X8_forget at h
  refine j_iload_n X 1 rfl rfl dX8_forget_0 ?_
  refine j_i2l X dX8_forget_1 ?_
  refine j_lconst X (v := 0) (by decide) dX8_forget_2 ?_
  refine j_ldc2 X (v := 2) bw_841 dX8_forget_3 ?_
  refine bd1_elim h (fun r1 hc2 h => ?_)
  refine j_callSi X (As := [.long (Int32.toInt64 a1), .long (0 : Int64), .long (2 : Int64)]) (rest := []) mf_X8_in bw_842 bw_843 ⟨rfl, rfl⟩ ⟨Nat.le_of_ble_eq_true rfl, Nat.le_of_ble_eq_true rfl⟩ (c_X8_in Γ.2.1 E ad  hc2) rfl rfl (Nat.le_of_ble_eq_true rfl) dX8_forget_6 ?_
  refine j_if_ne X (tgt := 17) (by decide) dX8_forget_9 (fun c => ?_) (fun c => ?_)
  · have h := (if_neg c).symm.trans h
    refine j_iload_n X 1 rfl rfl dX8_forget_17 ?_
    refine bd1_elim h (fun o4 hr h => ?_)
    have hJ3 : J Γ E 3 ad RF 85 σ 0 0 44 [(0, .ref (ad 68)), (1, .int a1)] [.int o4] := by
      refine j_istore_n X (L' := [(2, .int o4), (0, .ref (ad 68)), (1, .int a1)]) rfl rfl (by decide) rfl dX8_forget_44 ?_
      refine j_aload_n X 1 rfl rfl dX8_forget_45 ?_
      refine j_iload_n X 2 rfl rfl dX8_forget_46 ?_
      refine bd1_elim h (fun o6 hr h => ?_)
      have hJ5 : J Γ E 3 ad RF 85 σ 0 0 58 [(2, .int o4), (0, .ref (ad 68)), (1, .int a1)] [.int o6, .ref (ad 68)] := by
        refine nm_elim h (fun σ7 eσ7 h => ?_)
        refine j_puti X cf6 pk_68 pl_68 16 rfl ⟨rfl, rfl⟩ (.inl rfl) rfl rfl eσ7 bw_770 dX8_forget_58 ?_
        refine j_aload_n X 1 rfl rfl dX8_forget_61 ?_
        refine j_iload_n X 2 rfl rfl dX8_forget_62 ?_
        refine j_iconst X (v := 1) (by decide) dX8_forget_63 ?_
        refine bd1_elim h (fun o9 hr h => ?_)
        have hJ8 : J Γ E 3 ad RF 85 σ7 0 0 75 [(2, .int o4), (0, .ref (ad 68)), (1, .int a1)] [.int o9, .ref (ad 68)] := by
          refine nm_elim h (fun σ10 eσ10 h => ?_)
          refine j_puti X cf6 pk_68 pl_68 18 rfl ⟨rfl, rfl⟩ (.inl rfl) rfl rfl eσ10 bw_772 dX8_forget_75 ?_
          refine j_aload_n X 1 rfl rfl dX8_forget_78 ?_
          refine j_iload_n X 2 rfl rfl dX8_forget_79 ?_
          refine j_iconst X (v := 2) (by decide) dX8_forget_80 ?_
          refine bd1_elim h (fun o12 hr h => ?_)
          have hJ11 : J Γ E 3 ad RF 85 σ10 0 0 92 [(2, .int o4)] [.int o12, .ref (ad 68)] := by
            refine nm_elim h (fun σ13 eσ13 h => ?_)
            refine j_puti X cf6 pk_68 pl_68 20 rfl ⟨rfl, rfl⟩ (.inl rfl) rfl rfl eσ13 bw_774 dX8_forget_92 ?_
            refine j_iload_n X 0 rfl rfl dX8_forget_95 ?_
            exact j_iret X Y rfl (ret_wi h) dX8_forget_96
          clear h
          refine j_icmp_ne X (tgt := 88) (by decide) dX8_forget_81 (fun c => ?_) (fun c => ?_)
          · have hr := (if_neg c).symm.trans hr
            refine j_aload_n X 1 rfl rfl dX8_forget_88 ?_
            refine j_geti X cf6 pk_68 pl_68 20 rfl ⟨rfl, rfl⟩ bw_774 dX8_forget_89 ?_
            cases hr
            exact J.sub [0] rfl hJ11
          · have hr := (if_pos c).symm.trans hr
            refine j_iconst X (v := 0) (by decide) dX8_forget_84 ?_
            refine j_goto X (tgt := 92) (by decide) dX8_forget_85 ?_
            cases hr
            exact J.sub [0] rfl hJ11
        clear h
        refine j_icmp_ne X (tgt := 71) (by decide) dX8_forget_64 (fun c => ?_) (fun c => ?_)
        · have hr := (if_neg c).symm.trans hr
          refine j_aload_n X 1 rfl rfl dX8_forget_71 ?_
          refine j_geti X cf6 pk_68 pl_68 18 rfl ⟨rfl, rfl⟩ bw_772 dX8_forget_72 ?_
          cases hr
          exact J.sub [0, 1, 2] rfl hJ8
        · have hr := (if_pos c).symm.trans hr
          refine j_iconst X (v := 0) (by decide) dX8_forget_67 ?_
          refine j_goto X (tgt := 75) (by decide) dX8_forget_68 ?_
          cases hr
          exact J.sub [0, 1, 2] rfl hJ8
      clear h
      refine j_if_ne X (tgt := 54) (by decide) dX8_forget_47 (fun c => ?_) (fun c => ?_)
      · have hr := (if_neg c).symm.trans hr
        refine j_aload_n X 1 rfl rfl dX8_forget_54 ?_
        refine j_geti X cf6 pk_68 pl_68 16 rfl ⟨rfl, rfl⟩ bw_770 dX8_forget_55 ?_
        cases hr
        exact J.sub [0, 1, 2] rfl hJ5
      · have hr := (if_pos c).symm.trans hr
        refine j_iconst X (v := 0) (by decide) dX8_forget_50 ?_
        refine j_goto X (tgt := 58) (by decide) dX8_forget_51 ?_
        cases hr
        exact J.sub [0, 1, 2] rfl hJ5
    clear h
    refine j_if_ne X (tgt := 28) (by decide) dX8_forget_18 (fun c => ?_) (fun c => ?_)
    · have hr := (if_neg c).symm.trans hr
      refine j_iload_n X 1 rfl rfl dX8_forget_28 ?_
      refine j_iconst X (v := 1) (by decide) dX8_forget_29 ?_
      refine j_icmp_ne X (tgt := 40) (by decide) dX8_forget_30 (fun c => ?_) (fun c => ?_)
      · have hr := (if_neg c).symm.trans hr
        refine j_aload_n X 0 rfl rfl dX8_forget_40 ?_
        refine j_geti X cf6 pk_68 pl_68 20 rfl ⟨rfl, rfl⟩ bw_774 dX8_forget_41 ?_
        cases hr
        exact J.sub [0, 1] rfl hJ3
      · have hr := (if_pos c).symm.trans hr
        refine j_aload_n X 0 rfl rfl dX8_forget_33 ?_
        refine j_geti X cf6 pk_68 pl_68 18 rfl ⟨rfl, rfl⟩ bw_772 dX8_forget_34 ?_
        refine j_goto X (tgt := 44) (by decide) dX8_forget_37 ?_
        cases hr
        exact J.sub [0, 1] rfl hJ3
    · have hr := (if_pos c).symm.trans hr
      refine j_aload_n X 0 rfl rfl dX8_forget_21 ?_
      refine j_geti X cf6 pk_68 pl_68 16 rfl ⟨rfl, rfl⟩ bw_770 dX8_forget_22 ?_
      refine j_goto X (tgt := 44) (by decide) dX8_forget_25 ?_
      cases hr
      exact J.sub [0, 1] rfl hJ3
  · have h := (if_pos c).symm.trans h
    refine j_aload_n X 0 rfl rfl dX8_forget_12 ?_
    refine bd2_elim h (fun r14 σ15 hc16 h => ?_)
    refine j_callVi X (As := []) (rest := []) mf_X8_bad bw_859 bw_861 bs_20 ⟨rfl, rfl⟩ ⟨Nat.le_of_ble_eq_true rfl, Nat.le_of_ble_eq_true rfl⟩ cf6 pk_68 pl_68 (c_X8_bad Γ.2.1 E ad  hc16) rfl rfl (Nat.le_of_ble_eq_true rfl) dX8_forget_13 ?_
    exact j_iret X Y rfl (ret_wi h) dX8_forget_16

abbrev rm_X8_kindsOf : Room := { frames := 1, cells := 0, slots := 0, locals := 25 }
set_option maxHeartbeats 4000000 in
set_option maxRecDepth 100000 in
theorem jl_X8_kindsOf_L16 {β : Type} {Γ : Cx} {E : Ev} {ad : Nat → Nat} (X : XC Γ E rm_X8_kindsOf cX8_kindsOf 5 RX8)   {c3 : Int32} {c1 : Int32} {σ : Sg} {kx : Int32 → Option (β)} {r : β}  (hkx : ∀ (v2 : Int32), kx v2 = some r → J Γ E 5 ad RF 85 σ 0 0 93 [(3, .int c3), (2, .int v2), (0, .ref (ad 68)), (1, .int c1)] []) : ∀ n (v4 : Int32) (v2 : Int32), m_X8_kindsOf_L16 c3 c1 σ kx n v4 v2 = some r → J Γ E 5 ad RF 85 σ 0 0 16 [(4, .int v4), (3, .int c3), (2, .int v2), (0, .ref (ad 68)), (1, .int c1)] [] := by
  intro n
  induction n with
  | zero =>
    intro v4 v2 h
    cases h
  | succ n ih =>
    intro v4 v2 h
    rw [m_X8_kindsOf_L16.eq_2] at h
    refine j_iload X 0 rfl dX8_kindsOf_16 ?_
    refine j_bipush X (v := 6) (by decide) dX8_kindsOf_18 ?_
    refine j_icmp_ge X (tgt := 93) (by decide) dX8_kindsOf_20 (fun c => ?_) (fun c => ?_)
    · have h := (if_pos c).symm.trans h
      exact J.sub [1, 2, 3, 4] rfl (hkx v2 h)
    · have h := (if_neg c).symm.trans h
      refine j_aload_n X 3 rfl rfl dX8_kindsOf_23 ?_
      refine j_getr X cf6 pk_68 pl_68 17 rfl ⟨rfl, rfl⟩ 79 rfl bw_771 dX8_kindsOf_24 ?_
      refine j_iconst X (v := 4) (by decide) dX8_kindsOf_27 ?_
      refine j_iload_n X 1 rfl rfl dX8_kindsOf_28 ?_
      refine j_imul X dX8_kindsOf_29 ?_
      refine gd_elim h (fun g h => ?_)
      refine j_iald X pk_79 pl_79 g dX8_kindsOf_30 ?_
      refine j_iload_n X 4 rfl rfl dX8_kindsOf_31 ?_
      refine j_icmp_ne X (tgt := 93) (by decide) dX8_kindsOf_32 (fun c => ?_) (fun c => ?_)
      · have h := (if_neg c).symm.trans h
        exact J.sub [1, 2, 3, 4] rfl (hkx v2 h)
      · have h := (if_pos c).symm.trans h
        refine j_iload_n X 2 rfl rfl dX8_kindsOf_35 ?_
        refine j_iload X 0 rfl dX8_kindsOf_36 ?_
        refine j_aload_n X 3 rfl rfl dX8_kindsOf_38 ?_
        refine j_getr X cf6 pk_68 pl_68 17 rfl ⟨rfl, rfl⟩ 79 rfl bw_771 dX8_kindsOf_39 ?_
        refine j_iconst X (v := 4) (by decide) dX8_kindsOf_42 ?_
        refine j_iload_n X 1 rfl rfl dX8_kindsOf_43 ?_
        refine j_imul X dX8_kindsOf_44 ?_
        refine j_iconst X (v := 1) (by decide) dX8_kindsOf_45 ?_
        refine j_iadd X dX8_kindsOf_46 ?_
        refine gd_elim h (fun g h => ?_)
        refine j_iald X pk_79 pl_79 g dX8_kindsOf_47 ?_
        refine j_aload_n X 3 rfl rfl dX8_kindsOf_48 ?_
        refine j_getr X cf6 pk_68 pl_68 17 rfl ⟨rfl, rfl⟩ 79 rfl bw_771 dX8_kindsOf_49 ?_
        refine j_iconst X (v := 4) (by decide) dX8_kindsOf_52 ?_
        refine j_iload_n X 1 rfl rfl dX8_kindsOf_53 ?_
        refine j_imul X dX8_kindsOf_54 ?_
        refine j_iconst X (v := 2) (by decide) dX8_kindsOf_55 ?_
        refine j_iadd X dX8_kindsOf_56 ?_
        refine gd_elim h (fun g h => ?_)
        refine j_iald X pk_79 pl_79 g dX8_kindsOf_57 ?_
        refine bd1_elim h (fun r4 hc5 h => ?_)
        refine j_callSi X (As := [.int v4, .int (σ.1 79 (((4 : Int32) * c3) + (1 : Int32)).toNatClampNeg), .int (σ.1 79 (((4 : Int32) * c3) + (2 : Int32)).toNatClampNeg)]) (rest := [.int v2]) mf_X8_loudBy bw_980 bw_981 ⟨rfl, rfl⟩ ⟨Nat.le_of_ble_eq_true rfl, Nat.le_of_ble_eq_true rfl⟩ (c_X8_loudBy Γ.2.1 E ad  hc5) rfl rfl (Nat.le_of_ble_eq_true rfl) dX8_kindsOf_58 ?_
        refine j_aload_n X 3 rfl rfl dX8_kindsOf_61 ?_
        refine j_getr X cf6 pk_68 pl_68 17 rfl ⟨rfl, rfl⟩ 79 rfl bw_771 dX8_kindsOf_62 ?_
        refine j_iconst X (v := 4) (by decide) dX8_kindsOf_65 ?_
        refine j_iload_n X 1 rfl rfl dX8_kindsOf_66 ?_
        refine j_imul X dX8_kindsOf_67 ?_
        refine j_iconst X (v := 3) (by decide) dX8_kindsOf_68 ?_
        refine j_iadd X dX8_kindsOf_69 ?_
        refine gd_elim h (fun g h => ?_)
        refine j_iald X pk_79 pl_79 g dX8_kindsOf_70 ?_
        refine bd1_elim h (fun o7 hr h => ?_)
        have hJ6 : J Γ E 5 ad RF 85 σ 0 0 85 [(4, .int v4), (3, .int c3), (0, .ref (ad 68)), (1, .int c1)] [.int o7, .int v2] := by
          refine j_iand X dX8_kindsOf_85 ?_
          refine nm_elim h (fun x8 ex8 h => ?_)
          refine j_istore_n X (L' := [(2, .int x8), (4, .int v4), (3, .int c3), (0, .ref (ad 68)), (1, .int c1)]) ex8 rfl (by decide) rfl dX8_kindsOf_86 ?_
          refine nm_elim h (fun x9 ex9 h => ?_)
          refine j_iinc1 X (L' := [(4, .int x9), (2, .int x8), (3, .int c3), (0, .ref (ad 68)), (1, .int c1)]) 1 rfl (q := 1) (by decide) ex9 (by decide) rfl dX8_kindsOf_87 ?_
          refine j_goto X (tgt := 16) (by decide) dX8_kindsOf_90 ?_
          exact J.sub [0, 2, 1, 3, 4] rfl (ih x9 x8 h)
        clear h
        refine j_icmp_ne X (tgt := 79) (by decide) dX8_kindsOf_71 (fun c => ?_) (fun c => ?_)
        · have hr := (if_neg c).symm.trans hr
          refine j_iconst X (v := 1) (by decide) dX8_kindsOf_79 ?_
          refine j_iload X 0 rfl dX8_kindsOf_80 ?_
          refine j_ishl X dX8_kindsOf_82 ?_
          refine j_iconst X (v := -1) (by decide) dX8_kindsOf_83 ?_
          refine j_ixor X dX8_kindsOf_84 ?_
          cases hr
          exact J.sub [0, 1, 3, 4] rfl hJ6
        · have hr := (if_pos c).symm.trans hr
          refine j_bipush X (v := 63) (by decide) dX8_kindsOf_74 ?_
          refine j_goto X (tgt := 85) (by decide) dX8_kindsOf_76 ?_
          cases hr
          exact J.sub [0, 1, 3, 4] rfl hJ6
set_option maxHeartbeats 4000000 in
set_option maxRecDepth 100000 in
theorem jl_X8_kindsOf_L5 {Γ : Cx} {E : Ev} {ad : Nat → Nat} (X : XC Γ E rm_X8_kindsOf cX8_kindsOf 5 RX8)   {c1 : Int32} {σ : Sg} {kx : Unit → Option (Int32)} {r : Int32} (Y : XQ Γ E ad (some .int) (some (.int r), σ))  : ∀ n (v3 : Int32) (v2 : Int32), m_X8_kindsOf_L5 c1 σ kx n v3 v2 = some r → J Γ E 5 ad RF 85 σ 0 0 5 [(3, .int v3), (2, .int v2), (0, .ref (ad 68)), (1, .int c1)] [] := by
  intro n
  induction n with
  | zero =>
    intro v3 v2 h
    cases h
  | succ n ih =>
    intro v3 v2 h
    rw [m_X8_kindsOf_L5.eq_2] at h
    refine j_iload_n X 0 rfl rfl dX8_kindsOf_5 ?_
    refine j_aload_n X 2 rfl rfl dX8_kindsOf_6 ?_
    refine j_geti X cf6 pk_68 pl_68 18 rfl ⟨rfl, rfl⟩ bw_772 dX8_kindsOf_7 ?_
    refine j_icmp_ge X (tgt := 99) (by decide) dX8_kindsOf_10 (fun c => ?_) (fun c => ?_)
    · have h := (if_pos c).symm.trans h
      refine j_iload_n X 1 rfl rfl dX8_kindsOf_99 ?_
      exact j_iret X Y rfl (ret_pi h) dX8_kindsOf_100
    · have h := (if_neg c).symm.trans h
      refine j_iconst X (v := 0) (by decide) dX8_kindsOf_13 ?_
      refine nm_elim h (fun x3 ex3 h => ?_)
      refine j_istore X (L' := [(4, .int x3), (3, .int v3), (2, .int v2), (0, .ref (ad 68)), (1, .int c1)]) ex3 (by decide) rfl dX8_kindsOf_14 ?_
      refine J.sub [0, 1, 2, 3, 4] rfl ?_
      refine jl_X8_kindsOf_L16 X  (fun x10 h => ?_) 1000 x3 v2 h
      refine nm_elim h (fun x11 ex11 h => ?_)
      refine j_iinc1 X (L' := [(3, .int x11), (2, .int x10), (0, .ref (ad 68)), (1, .int c1)]) 0 rfl (q := 1) (by decide) ex11 (by decide) rfl dX8_kindsOf_93 ?_
      refine j_goto X (tgt := 5) (by decide) dX8_kindsOf_96 ?_
      exact J.sub [0, 1, 2, 3] rfl (ih x11 x10 h)
set_option maxHeartbeats 4000000 in
set_option maxRecDepth 100000 in
theorem c_X8_kindsOf (l : Launch) (E : Ev) (ad : Nat → Nat)   {a1 : Int32} {σ : Sg} {r : Int32} (h : m_X8_kindsOf a1 σ = some r) : Met l yX8_kindsOf (wY yX8_kindsOf cX8_kindsOf 5 (some .int)) rm_X8_kindsOf (va_Pc [.ref (ad 68), .int a1] (PreU E ad RF 85 σ)) (QcN E ad (some (.int r), σ)) 0 0 (EA E) := by
  refine met_of (L0 := [(0, .ref (ad 68)), (1, .int a1)]) rfl (Nat.le_of_ble_eq_true rfl) rfl (fun Γ X Y => ?_)
  have X : XC Γ E rm_X8_kindsOf cX8_kindsOf 5 RX8 := X
  unfold m_X8_kindsOf at h
  refine j_bipush X (v := 63) (by decide) dX8_kindsOf_0 ?_
  refine nm_elim h (fun x1 ex1 h => ?_)
  refine j_istore_n X (L' := [(2, .int x1), (0, .ref (ad 68)), (1, .int a1)]) ex1 rfl (by decide) rfl dX8_kindsOf_2 ?_
  refine j_iconst X (v := 0) (by decide) dX8_kindsOf_3 ?_
  refine nm_elim h (fun x2 ex2 h => ?_)
  refine j_istore_n X (L' := [(3, .int x2), (2, .int x1), (0, .ref (ad 68)), (1, .int a1)]) ex2 rfl (by decide) rfl dX8_kindsOf_4 ?_
  refine J.sub [0, 1, 2, 3] rfl ?_
  exact jl_X8_kindsOf_L5 X  Y 1000 x2 x1 h

abbrev rm_X8_is : Room := { frames := 2, cells := 0, slots := 0, locals := 49 }
set_option maxHeartbeats 4000000 in
set_option maxRecDepth 100000 in
theorem c_X8_is (l : Launch) (E : Ev) (ad : Nat → Nat)   {a1 : Int32} {σ : Sg} {r : Int32 × Sg} (h : m_X8_is a1 σ = some r) : Met l yX8_is (wY yX8_is cX8_is 2 (some .int)) rm_X8_is (va_Pc [.ref (ad 68), .int a1] (PreU E ad RF 85 σ)) (QcN E ad (some (.int r.1), r.2)) 0 0 (EA E) := by
  refine met_of (L0 := [(0, .ref (ad 68)), (1, .int a1)]) rfl (Nat.le_of_ble_eq_true rfl) rfl (fun Γ X Y => ?_)
  have X : XC Γ E rm_X8_is cX8_is 2 RX8 := X
  unfold m_X8_is at h
  refine j_aload_n X 0 rfl rfl dX8_is_0 ?_
  refine j_iload_n X 1 rfl rfl dX8_is_1 ?_
  refine bd1_elim h (fun r1 hc2 h => ?_)
  refine j_callVi X (As := [.int a1]) (rest := []) mf_X8_isSaying bw_1037 bw_1039 bs_46 ⟨rfl, rfl⟩ ⟨Nat.le_of_ble_eq_true rfl, Nat.le_of_ble_eq_true rfl⟩ cf6 pk_68 pl_68 (c_X8_isSaying Γ.2.1 E ad  hc2) rfl rfl (Nat.le_of_ble_eq_true rfl) dX8_is_2 ?_
  refine j_if_eq X (tgt := 16) (by decide) dX8_is_5 (fun c => ?_) (fun c => ?_)
  · have h := (if_pos c).symm.trans h
    refine j_aload_n X 0 rfl rfl dX8_is_16 ?_
    refine bd2_elim h (fun r3 σ4 hc5 h => ?_)
    refine j_callVi X (As := []) (rest := []) mf_X8_bad bw_859 bw_861 bs_20 ⟨rfl, rfl⟩ ⟨Nat.le_of_ble_eq_true rfl, Nat.le_of_ble_eq_true rfl⟩ cf6 pk_68 pl_68 (c_X8_bad Γ.2.1 E ad  hc5) rfl rfl (Nat.le_of_ble_eq_true rfl) dX8_is_17 ?_
    exact j_iret X Y rfl (ret_wi h) dX8_is_20
  · have h := (if_neg c).symm.trans h
    refine j_aload_n X 0 rfl rfl dX8_is_8 ?_
    refine j_iload_n X 1 rfl rfl dX8_is_9 ?_
    refine bd1_elim h (fun r6 hc7 h => ?_)
    refine j_callVi X (As := [.int a1]) (rest := []) mf_X8_kindsOf bw_1108 bw_1110 bs_50 ⟨rfl, rfl⟩ ⟨Nat.le_of_ble_eq_true rfl, Nat.le_of_ble_eq_true rfl⟩ cf6 pk_68 pl_68 (c_X8_kindsOf Γ.2.1 E ad  hc7) rfl rfl (Nat.le_of_ble_eq_true rfl) dX8_is_10 ?_
    refine j_goto X (tgt := 20) (by decide) dX8_is_13 ?_
    exact j_iret X Y rfl (ret_wi h) dX8_is_20

abbrev rm_X8_look : Room := { frames := 2, cells := 0, slots := 0, locals := 49 }
set_option maxHeartbeats 4000000 in
set_option maxRecDepth 100000 in
theorem jl_X8_look_L58 {β : Type} {Γ : Cx} {E : Ev} {ad : Nat → Nat} (X : XC Γ E rm_X8_look cX8_look 10 RX8)   {c7 : Int32} {c6 : Int32} {c5 : Int32} {c4 : Int32} {c3 : Int32} {c2 : Int32} {c1 : Int32} {σ : Sg} {kx : Int32 → Option (β)} {r : β}  (hkx : ∀ (v8 : Int32), kx v8 = some r → J Γ E 10 ad RF 85 σ 0 0 125 [(8, .int v8), (7, .int c7), (6, .int c6), (5, .int c5), (4, .int c4), (3, .int c3), (2, .int c2), (0, .ref (ad 68)), (1, .int c1)] []) : ∀ n (v9 : Int32) (v8 : Int32), m_X8_look_L58 c7 c6 c5 c4 c3 c2 c1 σ kx n v9 v8 = some r → J Γ E 10 ad RF 85 σ 0 0 58 [(9, .int v9), (8, .int v8), (7, .int c7), (6, .int c6), (5, .int c5), (4, .int c4), (3, .int c3), (2, .int c2), (0, .ref (ad 68)), (1, .int c1)] [] := by
  intro n
  induction n with
  | zero =>
    intro v9 v8 h
    cases h
  | succ n ih =>
    intro v9 v8 h
    rw [m_X8_look_L58.eq_2] at h
    refine j_iload X 0 rfl dX8_look_58 ?_
    refine j_bipush X (v := 6) (by decide) dX8_look_60 ?_
    refine j_icmp_ge X (tgt := 125) (by decide) dX8_look_62 (fun c => ?_) (fun c => ?_)
    · have h := (if_pos c).symm.trans h
      exact J.sub [1, 2, 3, 4, 5, 6, 7, 8, 9] rfl (hkx v8 h)
    · have h := (if_neg c).symm.trans h
      refine j_iload X 1 rfl dX8_look_65 ?_
      refine j_iload_n X 7 rfl rfl dX8_look_67 ?_
      refine j_iload X 2 rfl dX8_look_68 ?_
      refine j_ishr X dX8_look_70 ?_
      refine j_iload_n X 7 rfl rfl dX8_look_71 ?_
      refine j_iload X 0 rfl dX8_look_72 ?_
      refine j_ishr X dX8_look_74 ?_
      refine j_iand X dX8_look_75 ?_
      refine j_iconst X (v := 1) (by decide) dX8_look_76 ?_
      refine j_iand X dX8_look_77 ?_
      refine j_iconst X (v := 1) (by decide) dX8_look_78 ?_
      refine bd1_elim h (fun o13 hr h => ?_)
      have hJ12 : J Γ E 10 ad RF 85 σ 0 0 116 [(9, .int v9), (7, .int c7), (6, .int c6), (5, .int c5), (4, .int c4), (3, .int c3), (2, .int c2), (0, .ref (ad 68)), (1, .int c1)] [.int o13, .int v8] := by
        refine j_iadd X dX8_look_116 ?_
        refine nm_elim h (fun x14 ex14 h => ?_)
        refine j_istore X (L' := [(8, .int x14), (9, .int v9), (7, .int c7), (6, .int c6), (5, .int c5), (4, .int c4), (3, .int c3), (2, .int c2), (0, .ref (ad 68)), (1, .int c1)]) ex14 (by decide) rfl dX8_look_117 ?_
        refine nm_elim h (fun x15 ex15 h => ?_)
        refine j_iinc1 X (L' := [(9, .int x15), (8, .int x14), (7, .int c7), (6, .int c6), (5, .int c5), (4, .int c4), (3, .int c3), (2, .int c2), (0, .ref (ad 68)), (1, .int c1)]) 1 rfl (q := 1) (by decide) ex15 (by decide) rfl dX8_look_119 ?_
        refine j_goto X (tgt := 58) (by decide) dX8_look_122 ?_
        exact J.sub [0, 1, 2, 3, 4, 5, 6, 7, 8, 9] rfl (ih x15 x14 h)
      clear h
      refine j_icmp_ne X (tgt := 115) (by decide) dX8_look_79 (fun c => ?_) (fun c => ?_)
      · have hr := (if_neg c).symm.trans hr
        refine j_iconst X (v := 0) (by decide) dX8_look_115 ?_
        cases hr
        exact J.sub [0, 2, 3, 4, 5, 6, 7, 8, 9] rfl hJ12
      · have hr := (if_pos c).symm.trans hr
        refine j_iload X 2 rfl dX8_look_82 ?_
        refine j_aload_n X 8 rfl rfl dX8_look_84 ?_
        refine j_getr X cf6 pk_68 pl_68 4 rfl ⟨rfl, rfl⟩ 72 rfl bw_758 dX8_look_85 ?_
        refine j_iload_n X 9 rfl rfl dX8_look_88 ?_
        refine gd_elim hr (fun g hr => ?_)
        refine j_iald X pk_72 pl_72 g dX8_look_89 ?_
        refine j_iload X 4 rfl dX8_look_90 ?_
        refine bd1_elim hr (fun r16 hc17 hr => ?_)
        refine j_callSi X (As := [.int c7, .int (σ.1 72 c1.toNatClampNeg), .int c5]) (rest := [.int v8]) mf_X8_loudBy bw_980 bw_981 ⟨rfl, rfl⟩ ⟨Nat.le_of_ble_eq_true rfl, Nat.le_of_ble_eq_true rfl⟩ (c_X8_loudBy Γ.2.1 E ad  hc17) rfl rfl (Nat.le_of_ble_eq_true rfl) dX8_look_92 ?_
        refine j_iload X 0 rfl dX8_look_95 ?_
        refine j_aload_n X 8 rfl rfl dX8_look_97 ?_
        refine j_getr X cf6 pk_68 pl_68 4 rfl ⟨rfl, rfl⟩ 72 rfl bw_758 dX8_look_98 ?_
        refine j_iload_n X 9 rfl rfl dX8_look_101 ?_
        refine gd_elim hr (fun g hr => ?_)
        refine j_iald X pk_72 pl_72 g dX8_look_102 ?_
        refine j_iload X 4 rfl dX8_look_103 ?_
        refine bd1_elim hr (fun r18 hc19 hr => ?_)
        refine j_callSi X (As := [.int v9, .int (σ.1 72 c1.toNatClampNeg), .int c5]) (rest := [.int r16, .int v8]) mf_X8_loudBy bw_980 bw_981 ⟨rfl, rfl⟩ ⟨Nat.le_of_ble_eq_true rfl, Nat.le_of_ble_eq_true rfl⟩ (c_X8_loudBy Γ.2.1 E ad  hc19) rfl rfl (Nat.le_of_ble_eq_true rfl) dX8_look_105 ?_
        refine j_icmp_ne X (tgt := 115) (by decide) dX8_look_108 (fun c => ?_) (fun c => ?_)
        · have hr := (if_neg c).symm.trans hr
          refine j_iconst X (v := 0) (by decide) dX8_look_115 ?_
          cases hr
          exact J.sub [0, 2, 3, 4, 5, 6, 7, 8, 9] rfl hJ12
        · have hr := (if_pos c).symm.trans hr
          refine j_iconst X (v := 1) (by decide) dX8_look_111 ?_
          refine j_goto X (tgt := 116) (by decide) dX8_look_112 ?_
          cases hr
          exact J.sub [0, 2, 3, 4, 5, 6, 7, 8, 9] rfl hJ12
set_option maxHeartbeats 4000000 in
set_option maxRecDepth 100000 in
theorem jl_X8_look_L45 {β : Type} {Γ : Cx} {E : Ev} {ad : Nat → Nat} (X : XC Γ E rm_X8_look cX8_look 10 RX8)   {c5 : Int32} {c4 : Int32} {c3 : Int32} {c2 : Int32} {c1 : Int32} {σ : Sg} {kx : Int32 → Option (β)} {r : β}  (hkx : ∀ (v6 : Int32), kx v6 = some r → J Γ E 10 ad RF 85 σ 0 0 147 [(6, .int v6), (5, .int c5), (4, .int c4), (3, .int c3), (2, .int c2), (0, .ref (ad 68)), (1, .int c1)] []) : ∀ n (v7 : Int32) (v6 : Int32), m_X8_look_L45 c5 c4 c3 c2 c1 σ kx n v7 v6 = some r → J Γ E 10 ad RF 85 σ 0 0 45 [(7, .int v7), (6, .int v6), (5, .int c5), (4, .int c4), (3, .int c3), (2, .int c2), (0, .ref (ad 68)), (1, .int c1)] [] := by
  intro n
  induction n with
  | zero =>
    intro v7 v6 h
    cases h
  | succ n ih =>
    intro v7 v6 h
    rw [m_X8_look_L45.eq_2] at h
    refine j_iload X 0 rfl dX8_look_45 ?_
    refine j_bipush X (v := 6) (by decide) dX8_look_47 ?_
    refine j_icmp_ge X (tgt := 147) (by decide) dX8_look_49 (fun c => ?_) (fun c => ?_)
    · have h := (if_pos c).symm.trans h
      exact J.sub [1, 2, 3, 4, 5, 6, 7] rfl (hkx v6 h)
    · have h := (if_neg c).symm.trans h
      refine j_iconst X (v := 0) (by decide) dX8_look_52 ?_
      refine nm_elim h (fun x10 ex10 h => ?_)
      refine j_istore X (L' := [(8, .int x10), (7, .int v7), (6, .int v6), (5, .int c5), (4, .int c4), (3, .int c3), (2, .int c2), (0, .ref (ad 68)), (1, .int c1)]) ex10 (by decide) rfl dX8_look_53 ?_
      refine j_iconst X (v := 0) (by decide) dX8_look_55 ?_
      refine nm_elim h (fun x11 ex11 h => ?_)
      refine j_istore X (L' := [(9, .int x11), (8, .int x10), (7, .int v7), (6, .int v6), (5, .int c5), (4, .int c4), (3, .int c3), (2, .int c2), (0, .ref (ad 68)), (1, .int c1)]) ex11 (by decide) rfl dX8_look_56 ?_
      refine J.sub [0, 1, 2, 3, 4, 5, 6, 7, 8, 9] rfl ?_
      refine jl_X8_look_L58 X  (fun x20 h => ?_) 1000 x11 x10 h
      refine j_iload X 0 rfl dX8_look_125 ?_
      refine j_iload X 2 rfl dX8_look_127 ?_
      refine bd1_elim h (fun o22 hr h => ?_)
      have hJ21 : J Γ E 10 ad RF 85 σ 0 0 139 [(7, .int v7), (5, .int c5), (4, .int c4), (3, .int c3), (2, .int c2), (0, .ref (ad 68)), (1, .int c1)] [.int o22] := by
        refine j_istore X (L' := [(6, .int o22), (7, .int v7), (5, .int c5), (4, .int c4), (3, .int c3), (2, .int c2), (0, .ref (ad 68)), (1, .int c1)]) rfl (by decide) rfl dX8_look_139 ?_
        refine nm_elim h (fun x23 ex23 h => ?_)
        refine j_iinc1 X (L' := [(7, .int x23), (6, .int o22), (5, .int c5), (4, .int c4), (3, .int c3), (2, .int c2), (0, .ref (ad 68)), (1, .int c1)]) 1 rfl (q := 1) (by decide) ex23 (by decide) rfl dX8_look_141 ?_
        refine j_goto X (tgt := 45) (by decide) dX8_look_144 ?_
        exact J.sub [0, 1, 2, 3, 4, 5, 6, 7] rfl (ih x23 o22 h)
      clear h
      refine j_icmp_le X (tgt := 137) (by decide) dX8_look_129 (fun c => ?_) (fun c => ?_)
      · have hr := (if_pos c).symm.trans hr
        refine j_iload X 2 rfl dX8_look_137 ?_
        cases hr
        exact J.sub [1, 3, 4, 5, 6, 7, 8] rfl hJ21
      · have hr := (if_neg c).symm.trans hr
        refine j_iload X 0 rfl dX8_look_132 ?_
        refine j_goto X (tgt := 139) (by decide) dX8_look_134 ?_
        cases hr
        exact J.sub [1, 3, 4, 5, 6, 7, 8] rfl hJ21
set_option maxHeartbeats 4000000 in
set_option maxRecDepth 100000 in
theorem jl_X8_look_L28 {Γ : Cx} {E : Ev} {ad : Nat → Nat} (X : XC Γ E rm_X8_look cX8_look 10 RX8)   {c2 : Int32} {c1 : Int32} {σ : Sg} {kx : Unit → Option (Int32 × Sg)} {r : Int32 × Sg} (Y : XQ Γ E ad (some .int) (some (.int r.1), r.2))  : ∀ n (v5 : Int32) (v4 : Int32) (v3 : Int32), m_X8_look_L28 c2 c1 σ kx n v5 v4 v3 = some r → J Γ E 10 ad RF 85 σ 0 0 28 [(5, .int v5), (4, .int v4), (3, .int v3), (2, .int c2), (0, .ref (ad 68)), (1, .int c1)] [] := by
  intro n
  induction n with
  | zero =>
    intro v5 v4 v3 h
    cases h
  | succ n ih =>
    intro v5 v4 v3 h
    rw [m_X8_look_L28.eq_2] at h
    refine j_iload X 0 rfl dX8_look_28 ?_
    refine j_bipush X (v := 30) (by decide) dX8_look_30 ?_
    refine j_icmp_ge X (tgt := 183) (by decide) dX8_look_32 (fun c => ?_) (fun c => ?_)
    · have h := (if_pos c).symm.trans h
      refine j_iload_n X 2 rfl rfl dX8_look_183 ?_
      exact j_iret X Y rfl (ret_wi h) dX8_look_184
    · have h := (if_neg c).symm.trans h
      refine j_iload_n X 3 rfl rfl dX8_look_35 ?_
      refine j_if_eq X (tgt := 183) (by decide) dX8_look_36 (fun c => ?_) (fun c => ?_)
      · have h := (if_pos c).symm.trans h
        refine j_iload_n X 2 rfl rfl dX8_look_183 ?_
        exact j_iret X Y rfl (ret_wi h) dX8_look_184
      · have h := (if_neg c).symm.trans h
        refine j_iconst X (v := 0) (by decide) dX8_look_39 ?_
        refine nm_elim h (fun x8 ex8 h => ?_)
        refine j_istore X (L' := [(6, .int x8), (5, .int v5), (4, .int v4), (3, .int v3), (2, .int c2), (0, .ref (ad 68)), (1, .int c1)]) ex8 (by decide) rfl dX8_look_40 ?_
        refine j_iconst X (v := 0) (by decide) dX8_look_42 ?_
        refine nm_elim h (fun x9 ex9 h => ?_)
        refine j_istore X (L' := [(7, .int x9), (6, .int x8), (5, .int v5), (4, .int v4), (3, .int v3), (2, .int c2), (0, .ref (ad 68)), (1, .int c1)]) ex9 (by decide) rfl dX8_look_43 ?_
        refine J.sub [0, 1, 2, 3, 4, 5, 6, 7] rfl ?_
        refine jl_X8_look_L45 X  (fun x24 h => ?_) 1000 x9 x8 h
        refine j_iload X 0 rfl dX8_look_147 ?_
        refine j_iload X 2 rfl dX8_look_149 ?_
        refine bd1_elim h (fun o26 hr h => ?_)
        have hJ25 : J Γ E 10 ad RF 85 σ 0 0 160 [(6, .int x24), (5, .int v5), (4, .int v4), (2, .int c2), (0, .ref (ad 68)), (1, .int c1)] [.int o26] := by
          refine j_istore_n X (L' := [(3, .int o26), (6, .int x24), (5, .int v5), (4, .int v4), (2, .int c2), (0, .ref (ad 68)), (1, .int c1)]) rfl rfl (by decide) rfl dX8_look_160 ?_
          refine j_iload X 1 rfl dX8_look_161 ?_
          refine j_iload X 3 rfl dX8_look_163 ?_
          refine bd1_elim h (fun o28 hr h => ?_)
          have hJ27 : J Γ E 10 ad RF 85 σ 0 0 175 [(3, .int o26), (5, .int v5), (2, .int c2), (0, .ref (ad 68)), (1, .int c1)] [.int o28] := by
            refine j_istore X (L' := [(4, .int o28), (3, .int o26), (5, .int v5), (2, .int c2), (0, .ref (ad 68)), (1, .int c1)]) rfl (by decide) rfl dX8_look_175 ?_
            refine nm_elim h (fun x29 ex29 h => ?_)
            refine j_iinc1 X (L' := [(5, .int x29), (4, .int o28), (3, .int o26), (2, .int c2), (0, .ref (ad 68)), (1, .int c1)]) 2 rfl (q := 1) (by decide) ex29 (by decide) rfl dX8_look_177 ?_
            refine j_goto X (tgt := 28) (by decide) dX8_look_180 ?_
            exact J.sub [0, 1, 2, 3, 4, 5] rfl (ih x29 o28 o26 h)
          clear h
          refine j_icmp_ge X (tgt := 173) (by decide) dX8_look_165 (fun c => ?_) (fun c => ?_)
          · have hr := (if_pos c).symm.trans hr
            refine j_iload X 3 rfl dX8_look_173 ?_
            cases hr
            exact J.sub [0, 2, 4, 5, 6] rfl hJ27
          · have hr := (if_neg c).symm.trans hr
            refine j_iload X 1 rfl dX8_look_168 ?_
            refine j_goto X (tgt := 175) (by decide) dX8_look_170 ?_
            cases hr
            exact J.sub [0, 2, 4, 5, 6] rfl hJ27
        clear h
        refine j_icmp_ge X (tgt := 159) (by decide) dX8_look_151 (fun c => ?_) (fun c => ?_)
        · have hr := (if_pos c).symm.trans hr
          refine j_iload_n X 3 rfl rfl dX8_look_159 ?_
          cases hr
          exact J.sub [0, 1, 2, 4, 5, 6] rfl hJ25
        · have hr := (if_neg c).symm.trans hr
          refine j_iload X 1 rfl dX8_look_154 ?_
          refine j_goto X (tgt := 160) (by decide) dX8_look_156 ?_
          cases hr
          exact J.sub [0, 1, 2, 4, 5, 6] rfl hJ25
set_option maxHeartbeats 4000000 in
set_option maxRecDepth 100000 in
theorem c_X8_look (l : Launch) (E : Ev) (ad : Nat → Nat)   {a1 : Int32} {σ : Sg} {r : Int32 × Sg} (h : m_X8_look a1 σ = some r) : Met l yX8_look (wY yX8_look cX8_look 10 (some .int)) rm_X8_look (va_Pc [.ref (ad 68), .int a1] (PreU E ad RF 85 σ)) (QcN E ad (some (.int r.1), r.2)) 0 0 (EA E) := by
  refine met_of (L0 := [(0, .ref (ad 68)), (1, .int a1)]) rfl (Nat.le_of_ble_eq_true rfl) rfl (fun Γ X Y => ?_)
  have X : XC Γ E rm_X8_look cX8_look 10 RX8 := X
  unfold m_X8_look at h
  refine j_aload_n X 0 rfl rfl dX8_look_0 ?_
  refine j_iload_n X 1 rfl rfl dX8_look_1 ?_
  refine bd1_elim h (fun r1 hc2 h => ?_)
  refine j_callVi X (As := [.int a1]) (rest := []) mf_X8_isSaying bw_1037 bw_1039 bs_46 ⟨rfl, rfl⟩ ⟨Nat.le_of_ble_eq_true rfl, Nat.le_of_ble_eq_true rfl⟩ cf6 pk_68 pl_68 (c_X8_isSaying Γ.2.1 E ad  hc2) rfl rfl (Nat.le_of_ble_eq_true rfl) dX8_look_2 ?_
  refine j_if_ne X (tgt := 13) (by decide) dX8_look_5 (fun c => ?_) (fun c => ?_)
  · have h := (if_neg c).symm.trans h
    refine j_aload_n X 0 rfl rfl dX8_look_13 ?_
    refine j_iload_n X 1 rfl rfl dX8_look_14 ?_
    refine bd1_elim h (fun r3 hc4 h => ?_)
    refine j_callVi X (As := [.int a1]) (rest := []) mf_X8_kindsOf bw_1108 bw_1110 bs_50 ⟨rfl, rfl⟩ ⟨Nat.le_of_ble_eq_true rfl, Nat.le_of_ble_eq_true rfl⟩ cf6 pk_68 pl_68 (c_X8_kindsOf Γ.2.1 E ad  hc4) rfl rfl (Nat.le_of_ble_eq_true rfl) dX8_look_15 ?_
    refine j_istore_n X (L' := [(2, .int r3), (0, .ref (ad 68)), (1, .int a1)]) rfl rfl (by decide) rfl dX8_look_18 ?_
    refine j_iconst X (v := -1) (by decide) dX8_look_19 ?_
    refine nm_elim h (fun x5 ex5 h => ?_)
    refine j_istore_n X (L' := [(3, .int x5), (2, .int r3), (0, .ref (ad 68)), (1, .int a1)]) ex5 rfl (by decide) rfl dX8_look_20 ?_
    refine j_bipush X (v := 99) (by decide) dX8_look_21 ?_
    refine nm_elim h (fun x6 ex6 h => ?_)
    refine j_istore X (L' := [(4, .int x6), (3, .int x5), (2, .int r3), (0, .ref (ad 68)), (1, .int a1)]) ex6 (by decide) rfl dX8_look_23 ?_
    refine j_iconst X (v := 0) (by decide) dX8_look_25 ?_
    refine nm_elim h (fun x7 ex7 h => ?_)
    refine j_istore X (L' := [(5, .int x7), (4, .int x6), (3, .int x5), (2, .int r3), (0, .ref (ad 68)), (1, .int a1)]) ex7 (by decide) rfl dX8_look_26 ?_
    refine J.sub [0, 1, 2, 3, 4, 5] rfl ?_
    exact jl_X8_look_L28 X  Y 1000 x7 x6 x5 h
  · have h := (if_pos c).symm.trans h
    refine j_aload_n X 0 rfl rfl dX8_look_8 ?_
    refine bd2_elim h (fun r30 σ31 hc32 h => ?_)
    refine j_callVi X (As := []) (rest := []) mf_X8_bad bw_859 bw_861 bs_20 ⟨rfl, rfl⟩ ⟨Nat.le_of_ble_eq_true rfl, Nat.le_of_ble_eq_true rfl⟩ cf6 pk_68 pl_68 (c_X8_bad Γ.2.1 E ad  hc32) rfl rfl (Nat.le_of_ble_eq_true rfl) dX8_look_9 ?_
    exact j_iret X Y rfl (ret_wi h) dX8_look_12

abbrev rm_X8_sortsOf : Room := { frames := 2, cells := 0, slots := 0, locals := 45 }
set_option maxHeartbeats 4000000 in
set_option maxRecDepth 100000 in
theorem jl_X8_sortsOf_L16 {β : Type} {Γ : Cx} {E : Ev} {ad : Nat → Nat} (X : XC Γ E rm_X8_sortsOf cX8_sortsOf 5 RX8)   {c3 : Int32} {c1 : Int32} {σ : Sg} {kx : Int32 → Option (β)} {r : β}  (hkx : ∀ (v2 : Int32), kx v2 = some r → J Γ E 5 ad RF 85 σ 0 0 102 [(3, .int c3), (2, .int v2), (0, .ref (ad 68)), (1, .int c1)] []) : ∀ n (v4 : Int32) (v2 : Int32), m_X8_sortsOf_L16 c3 c1 σ kx n v4 v2 = some r → J Γ E 5 ad RF 85 σ 0 0 16 [(4, .int v4), (3, .int c3), (2, .int v2), (0, .ref (ad 68)), (1, .int c1)] [] := by
  intro n
  induction n with
  | zero =>
    intro v4 v2 h
    cases h
  | succ n ih =>
    intro v4 v2 h
    rw [m_X8_sortsOf_L16.eq_2] at h
    refine j_iload X 0 rfl dX8_sortsOf_16 ?_
    refine j_bipush X (v := 6) (by decide) dX8_sortsOf_18 ?_
    refine j_icmp_ge X (tgt := 102) (by decide) dX8_sortsOf_20 (fun c => ?_) (fun c => ?_)
    · have h := (if_pos c).symm.trans h
      exact J.sub [1, 2, 3, 4] rfl (hkx v2 h)
    · have h := (if_neg c).symm.trans h
      refine j_aload_n X 3 rfl rfl dX8_sortsOf_23 ?_
      refine j_getr X cf6 pk_68 pl_68 19 rfl ⟨rfl, rfl⟩ 80 rfl bw_773 dX8_sortsOf_24 ?_
      refine j_iconst X (v := 4) (by decide) dX8_sortsOf_27 ?_
      refine j_iload_n X 1 rfl rfl dX8_sortsOf_28 ?_
      refine j_imul X dX8_sortsOf_29 ?_
      refine gd_elim h (fun g h => ?_)
      refine j_iald X pk_80 pl_80 g dX8_sortsOf_30 ?_
      refine j_iload_n X 4 rfl rfl dX8_sortsOf_31 ?_
      refine j_icmp_ne X (tgt := 102) (by decide) dX8_sortsOf_32 (fun c => ?_) (fun c => ?_)
      · have h := (if_neg c).symm.trans h
        exact J.sub [1, 2, 3, 4] rfl (hkx v2 h)
      · have h := (if_pos c).symm.trans h
        refine j_iload_n X 2 rfl rfl dX8_sortsOf_35 ?_
        refine j_iload X 0 rfl dX8_sortsOf_36 ?_
        refine j_aload_n X 3 rfl rfl dX8_sortsOf_38 ?_
        refine j_getr X cf6 pk_68 pl_68 19 rfl ⟨rfl, rfl⟩ 80 rfl bw_773 dX8_sortsOf_39 ?_
        refine j_iconst X (v := 4) (by decide) dX8_sortsOf_42 ?_
        refine j_iload_n X 1 rfl rfl dX8_sortsOf_43 ?_
        refine j_imul X dX8_sortsOf_44 ?_
        refine j_iconst X (v := 1) (by decide) dX8_sortsOf_45 ?_
        refine j_iadd X dX8_sortsOf_46 ?_
        refine gd_elim h (fun g h => ?_)
        refine j_iald X pk_80 pl_80 g dX8_sortsOf_47 ?_
        refine j_aload_n X 3 rfl rfl dX8_sortsOf_48 ?_
        refine j_getr X cf6 pk_68 pl_68 19 rfl ⟨rfl, rfl⟩ 80 rfl bw_773 dX8_sortsOf_49 ?_
        refine j_iconst X (v := 4) (by decide) dX8_sortsOf_52 ?_
        refine j_iload_n X 1 rfl rfl dX8_sortsOf_53 ?_
        refine j_imul X dX8_sortsOf_54 ?_
        refine j_iconst X (v := 2) (by decide) dX8_sortsOf_55 ?_
        refine j_iadd X dX8_sortsOf_56 ?_
        refine gd_elim h (fun g h => ?_)
        refine j_iald X pk_80 pl_80 g dX8_sortsOf_57 ?_
        refine bd1_elim h (fun r4 hc5 h => ?_)
        refine j_callSi X (As := [.int v4, .int (σ.1 80 (((4 : Int32) * c3) + (1 : Int32)).toNatClampNeg), .int (σ.1 80 (((4 : Int32) * c3) + (2 : Int32)).toNatClampNeg)]) (rest := [.int v2]) mf_X8_hearsBy bw_983 bw_984 ⟨rfl, rfl⟩ ⟨Nat.le_of_ble_eq_true rfl, Nat.le_of_ble_eq_true rfl⟩ (c_X8_hearsBy Γ.2.1 E ad  hc5) rfl rfl (Nat.le_of_ble_eq_true rfl) dX8_sortsOf_58 ?_
        refine j_aload_n X 3 rfl rfl dX8_sortsOf_61 ?_
        refine j_getr X cf6 pk_68 pl_68 19 rfl ⟨rfl, rfl⟩ 80 rfl bw_773 dX8_sortsOf_62 ?_
        refine j_iconst X (v := 4) (by decide) dX8_sortsOf_65 ?_
        refine j_iload_n X 1 rfl rfl dX8_sortsOf_66 ?_
        refine j_imul X dX8_sortsOf_67 ?_
        refine j_iconst X (v := 3) (by decide) dX8_sortsOf_68 ?_
        refine j_iadd X dX8_sortsOf_69 ?_
        refine gd_elim h (fun g h => ?_)
        refine j_iald X pk_80 pl_80 g dX8_sortsOf_70 ?_
        refine j_iconst X (v := 1) (by decide) dX8_sortsOf_71 ?_
        refine bd1_elim h (fun o7 hr h => ?_)
        have hJ6 : J Γ E 5 ad RF 85 σ 0 0 80 [(4, .int v4), (3, .int c3), (0, .ref (ad 68)), (1, .int c1)] [.int o7, .int r4, .int v2] := by
          refine bd1_elim h (fun o9 hr h => ?_)
          have hJ8 : J Γ E 5 ad RF 85 σ 0 0 94 [(4, .int v4), (3, .int c3), (0, .ref (ad 68)), (1, .int c1)] [.int o9, .int v2] := by
            refine j_iand X dX8_sortsOf_94 ?_
            refine nm_elim h (fun x10 ex10 h => ?_)
            refine j_istore_n X (L' := [(2, .int x10), (4, .int v4), (3, .int c3), (0, .ref (ad 68)), (1, .int c1)]) ex10 rfl (by decide) rfl dX8_sortsOf_95 ?_
            refine nm_elim h (fun x11 ex11 h => ?_)
            refine j_iinc1 X (L' := [(4, .int x11), (2, .int x10), (3, .int c3), (0, .ref (ad 68)), (1, .int c1)]) 1 rfl (q := 1) (by decide) ex11 (by decide) rfl dX8_sortsOf_96 ?_
            refine j_goto X (tgt := 16) (by decide) dX8_sortsOf_99 ?_
            exact J.sub [0, 2, 1, 3, 4] rfl (ih x11 x10 h)
          clear h
          refine j_icmp_ne X (tgt := 88) (by decide) dX8_sortsOf_80 (fun c => ?_) (fun c => ?_)
          · have hr := (if_neg c).symm.trans hr
            refine j_iconst X (v := 1) (by decide) dX8_sortsOf_88 ?_
            refine j_iload X 0 rfl dX8_sortsOf_89 ?_
            refine j_ishl X dX8_sortsOf_91 ?_
            refine j_iconst X (v := -1) (by decide) dX8_sortsOf_92 ?_
            refine j_ixor X dX8_sortsOf_93 ?_
            cases hr
            exact J.sub [0, 1, 2, 3] rfl hJ8
          · have hr := (if_pos c).symm.trans hr
            refine j_bipush X (v := 63) (by decide) dX8_sortsOf_83 ?_
            refine j_goto X (tgt := 94) (by decide) dX8_sortsOf_85 ?_
            cases hr
            exact J.sub [0, 1, 2, 3] rfl hJ8
        clear h
        refine j_icmp_ne X (tgt := 79) (by decide) dX8_sortsOf_72 (fun c => ?_) (fun c => ?_)
        · have hr := (if_neg c).symm.trans hr
          refine j_iconst X (v := 0) (by decide) dX8_sortsOf_79 ?_
          cases hr
          exact J.sub [0, 1, 3, 4] rfl hJ6
        · have hr := (if_pos c).symm.trans hr
          refine j_iconst X (v := 1) (by decide) dX8_sortsOf_75 ?_
          refine j_goto X (tgt := 80) (by decide) dX8_sortsOf_76 ?_
          cases hr
          exact J.sub [0, 1, 3, 4] rfl hJ6
set_option maxHeartbeats 4000000 in
set_option maxRecDepth 100000 in
theorem jl_X8_sortsOf_L5 {Γ : Cx} {E : Ev} {ad : Nat → Nat} (X : XC Γ E rm_X8_sortsOf cX8_sortsOf 5 RX8)   {c1 : Int32} {σ : Sg} {kx : Unit → Option (Int32)} {r : Int32} (Y : XQ Γ E ad (some .int) (some (.int r), σ))  : ∀ n (v3 : Int32) (v2 : Int32), m_X8_sortsOf_L5 c1 σ kx n v3 v2 = some r → J Γ E 5 ad RF 85 σ 0 0 5 [(3, .int v3), (2, .int v2), (0, .ref (ad 68)), (1, .int c1)] [] := by
  intro n
  induction n with
  | zero =>
    intro v3 v2 h
    cases h
  | succ n ih =>
    intro v3 v2 h
    rw [m_X8_sortsOf_L5.eq_2] at h
    refine j_iload_n X 0 rfl rfl dX8_sortsOf_5 ?_
    refine j_aload_n X 2 rfl rfl dX8_sortsOf_6 ?_
    refine j_geti X cf6 pk_68 pl_68 20 rfl ⟨rfl, rfl⟩ bw_774 dX8_sortsOf_7 ?_
    refine j_icmp_ge X (tgt := 108) (by decide) dX8_sortsOf_10 (fun c => ?_) (fun c => ?_)
    · have h := (if_pos c).symm.trans h
      refine j_iload_n X 1 rfl rfl dX8_sortsOf_108 ?_
      exact j_iret X Y rfl (ret_pi h) dX8_sortsOf_109
    · have h := (if_neg c).symm.trans h
      refine j_iconst X (v := 0) (by decide) dX8_sortsOf_13 ?_
      refine nm_elim h (fun x3 ex3 h => ?_)
      refine j_istore X (L' := [(4, .int x3), (3, .int v3), (2, .int v2), (0, .ref (ad 68)), (1, .int c1)]) ex3 (by decide) rfl dX8_sortsOf_14 ?_
      refine J.sub [0, 1, 2, 3, 4] rfl ?_
      refine jl_X8_sortsOf_L16 X  (fun x12 h => ?_) 1000 x3 v2 h
      refine nm_elim h (fun x13 ex13 h => ?_)
      refine j_iinc1 X (L' := [(3, .int x13), (2, .int x12), (0, .ref (ad 68)), (1, .int c1)]) 0 rfl (q := 1) (by decide) ex13 (by decide) rfl dX8_sortsOf_102 ?_
      refine j_goto X (tgt := 5) (by decide) dX8_sortsOf_105 ?_
      exact J.sub [0, 1, 2, 3] rfl (ih x13 x12 h)
set_option maxHeartbeats 4000000 in
set_option maxRecDepth 100000 in
theorem c_X8_sortsOf (l : Launch) (E : Ev) (ad : Nat → Nat)   {a1 : Int32} {σ : Sg} {r : Int32} (h : m_X8_sortsOf a1 σ = some r) : Met l yX8_sortsOf (wY yX8_sortsOf cX8_sortsOf 5 (some .int)) rm_X8_sortsOf (va_Pc [.ref (ad 68), .int a1] (PreU E ad RF 85 σ)) (QcN E ad (some (.int r), σ)) 0 0 (EA E) := by
  refine met_of (L0 := [(0, .ref (ad 68)), (1, .int a1)]) rfl (Nat.le_of_ble_eq_true rfl) rfl (fun Γ X Y => ?_)
  have X : XC Γ E rm_X8_sortsOf cX8_sortsOf 5 RX8 := X
  unfold m_X8_sortsOf at h
  refine j_bipush X (v := 63) (by decide) dX8_sortsOf_0 ?_
  refine nm_elim h (fun x1 ex1 h => ?_)
  refine j_istore_n X (L' := [(2, .int x1), (0, .ref (ad 68)), (1, .int a1)]) ex1 rfl (by decide) rfl dX8_sortsOf_2 ?_
  refine j_iconst X (v := 0) (by decide) dX8_sortsOf_3 ?_
  refine nm_elim h (fun x2 ex2 h => ?_)
  refine j_istore_n X (L' := [(3, .int x2), (2, .int x1), (0, .ref (ad 68)), (1, .int a1)]) ex2 rfl (by decide) rfl dX8_sortsOf_4 ?_
  refine J.sub [0, 1, 2, 3] rfl ?_
  exact jl_X8_sortsOf_L5 X  Y 1000 x2 x1 h

abbrev rm_X8_kinds : Room := { frames := 3, cells := 0, slots := 0, locals := 69 }
set_option maxHeartbeats 4000000 in
set_option maxRecDepth 100000 in
theorem c_X8_kinds (l : Launch) (E : Ev) (ad : Nat → Nat)   {a1 : Int32} {σ : Sg} {r : Int32 × Sg} (h : m_X8_kinds a1 σ = some r) : Met l yX8_kinds (wY yX8_kinds cX8_kinds 2 (some .int)) rm_X8_kinds (va_Pc [.ref (ad 68), .int a1] (PreU E ad RF 85 σ)) (QcN E ad (some (.int r.1), r.2)) 0 0 (EA E) := by
  refine met_of (L0 := [(0, .ref (ad 68)), (1, .int a1)]) rfl (Nat.le_of_ble_eq_true rfl) rfl (fun Γ X Y => ?_)
  have X : XC Γ E rm_X8_kinds cX8_kinds 2 RX8 := X
  unfold m_X8_kinds at h
  refine j_aload_n X 0 rfl rfl dX8_kinds_0 ?_
  refine j_iload_n X 1 rfl rfl dX8_kinds_1 ?_
  refine bd1_elim h (fun r1 hc2 h => ?_)
  refine j_callVi X (As := [.int a1]) (rest := []) mf_X8_isEar bw_1013 bw_1015 bs_44 ⟨rfl, rfl⟩ ⟨Nat.le_of_ble_eq_true rfl, Nat.le_of_ble_eq_true rfl⟩ cf6 pk_68 pl_68 (c_X8_isEar Γ.2.1 E ad  hc2) rfl rfl (Nat.le_of_ble_eq_true rfl) dX8_kinds_2 ?_
  refine j_if_eq X (tgt := 16) (by decide) dX8_kinds_5 (fun c => ?_) (fun c => ?_)
  · have h := (if_pos c).symm.trans h
    refine j_aload_n X 0 rfl rfl dX8_kinds_16 ?_
    refine bd2_elim h (fun r3 σ4 hc5 h => ?_)
    refine j_callVi X (As := []) (rest := []) mf_X8_bad bw_859 bw_861 bs_20 ⟨rfl, rfl⟩ ⟨Nat.le_of_ble_eq_true rfl, Nat.le_of_ble_eq_true rfl⟩ cf6 pk_68 pl_68 (c_X8_bad Γ.2.1 E ad  hc5) rfl rfl (Nat.le_of_ble_eq_true rfl) dX8_kinds_17 ?_
    exact j_iret X Y rfl (ret_wi h) dX8_kinds_20
  · have h := (if_neg c).symm.trans h
    refine j_aload_n X 0 rfl rfl dX8_kinds_8 ?_
    refine j_iload_n X 1 rfl rfl dX8_kinds_9 ?_
    refine bd1_elim h (fun r6 hc7 h => ?_)
    refine j_callVi X (As := [.int a1]) (rest := []) mf_X8_sortsOf bw_1120 bw_1122 bs_51 ⟨rfl, rfl⟩ ⟨Nat.le_of_ble_eq_true rfl, Nat.le_of_ble_eq_true rfl⟩ cf6 pk_68 pl_68 (c_X8_sortsOf Γ.2.1 E ad  hc7) rfl rfl (Nat.le_of_ble_eq_true rfl) dX8_kinds_10 ?_
    refine j_goto X (tgt := 20) (by decide) dX8_kinds_13 ?_
    exact j_iret X Y rfl (ret_wi h) dX8_kinds_20

abbrev rm_X8_ask : Room := { frames := 3, cells := 0, slots := 0, locals := 69 }
set_option maxHeartbeats 4000000 in
set_option maxRecDepth 100000 in
theorem jl_X8_ask_L56 {β : Type} {Γ : Cx} {E : Ev} {ad : Nat → Nat} (X : XC Γ E rm_X8_ask cX8_ask 8 RX8)   {c5 : Int32} {c4 : Int32} {c3 : Int32} {c2 : Int32} {σ : Sg} {kx : Int32 → Option (β)} {r : β}  (hkx : ∀ (v6 : Int32), kx v6 = some r → J Γ E 8 ad RF 85 σ 0 0 107 [(6, .int v6), (5, .int c5), (4, .int c4), (3, .int c3), (2, .int c2)] []) : ∀ n (v7 : Int32) (v6 : Int32), m_X8_ask_L56 c5 c4 c3 c2 σ kx n v7 v6 = some r → J Γ E 8 ad RF 85 σ 0 0 56 [(7, .int v7), (6, .int v6), (5, .int c5), (4, .int c4), (3, .int c3), (2, .int c2)] [] := by
  intro n
  induction n with
  | zero =>
    intro v7 v6 h
    cases h
  | succ n ih =>
    intro v7 v6 h
    rw [m_X8_ask_L56.eq_2] at h
    refine j_iload X 0 rfl dX8_ask_56 ?_
    refine j_bipush X (v := 6) (by decide) dX8_ask_58 ?_
    refine j_icmp_ge X (tgt := 107) (by decide) dX8_ask_60 (fun c => ?_) (fun c => ?_)
    · have h := (if_pos c).symm.trans h
      exact J.sub [1, 2, 3, 4, 5] rfl (hkx v6 h)
    · have h := (if_neg c).symm.trans h
      refine j_iload X 1 rfl dX8_ask_63 ?_
      refine j_iload_n X 5 rfl rfl dX8_ask_65 ?_
      refine j_iload X 0 rfl dX8_ask_66 ?_
      refine j_ishr X dX8_ask_68 ?_
      refine j_iconst X (v := 1) (by decide) dX8_ask_69 ?_
      refine j_iand X dX8_ask_70 ?_
      refine j_iconst X (v := 1) (by decide) dX8_ask_71 ?_
      refine bd1_elim h (fun o15 hr h => ?_)
      have hJ14 : J Γ E 8 ad RF 85 σ 0 0 98 [(7, .int v7), (5, .int c5), (4, .int c4), (3, .int c3), (2, .int c2)] [.int o15, .int v6] := by
        refine j_iadd X dX8_ask_98 ?_
        refine nm_elim h (fun x16 ex16 h => ?_)
        refine j_istore X (L' := [(6, .int x16), (7, .int v7), (5, .int c5), (4, .int c4), (3, .int c3), (2, .int c2)]) ex16 (by decide) rfl dX8_ask_99 ?_
        refine nm_elim h (fun x17 ex17 h => ?_)
        refine j_iinc1 X (L' := [(7, .int x17), (6, .int x16), (5, .int c5), (4, .int c4), (3, .int c3), (2, .int c2)]) 1 rfl (q := 1) (by decide) ex17 (by decide) rfl dX8_ask_101 ?_
        refine j_goto X (tgt := 56) (by decide) dX8_ask_104 ?_
        exact J.sub [0, 1, 2, 3, 4, 5] rfl (ih x17 x16 h)
      clear h
      refine j_icmp_ne X (tgt := 97) (by decide) dX8_ask_72 (fun c => ?_) (fun c => ?_)
      · have hr := (if_neg c).symm.trans hr
        refine j_iconst X (v := 0) (by decide) dX8_ask_97 ?_
        cases hr
        exact J.sub [0, 2, 3, 4, 5] rfl hJ14
      · have hr := (if_pos c).symm.trans hr
        refine j_iload X 0 rfl dX8_ask_75 ?_
        refine j_iload X 2 rfl dX8_ask_77 ?_
        refine j_bipush X (v := 100) (by decide) dX8_ask_79 ?_
        refine j_idiv X (by decide) dX8_ask_81 ?_
        refine j_iload X 2 rfl dX8_ask_82 ?_
        refine j_bipush X (v := 100) (by decide) dX8_ask_84 ?_
        refine j_irem X (by decide) dX8_ask_86 ?_
        refine bd1_elim hr (fun r18 hc19 hr => ?_)
        refine j_callSi X (As := [.int v7, .int (c5 / (100 : Int32)), .int (c5 - c5 / (100 : Int32) * (100 : Int32))]) (rest := [.int v6]) mf_X8_hearsBy bw_983 bw_984 ⟨rfl, rfl⟩ ⟨Nat.le_of_ble_eq_true rfl, Nat.le_of_ble_eq_true rfl⟩ (c_X8_hearsBy Γ.2.1 E ad  hc19) rfl rfl (Nat.le_of_ble_eq_true rfl) dX8_ask_87 ?_
        refine j_if_eq X (tgt := 97) (by decide) dX8_ask_90 (fun c => ?_) (fun c => ?_)
        · have hr := (if_pos c).symm.trans hr
          refine j_iconst X (v := 0) (by decide) dX8_ask_97 ?_
          cases hr
          exact J.sub [0, 2, 3, 4, 5] rfl hJ14
        · have hr := (if_neg c).symm.trans hr
          refine j_iconst X (v := 1) (by decide) dX8_ask_93 ?_
          refine j_goto X (tgt := 98) (by decide) dX8_ask_94 ?_
          cases hr
          exact J.sub [0, 2, 3, 4, 5] rfl hJ14
set_option maxHeartbeats 4000000 in
set_option maxRecDepth 100000 in
theorem jl_X8_ask_L28 {Γ : Cx} {E : Ev} {ad : Nat → Nat} (X : XC Γ E rm_X8_ask cX8_ask 8 RX8)   {c2 : Int32} {σ : Sg} {kx : Unit → Option (Int32 × Sg)} {r : Int32 × Sg} (Y : XQ Γ E ad (some .int) (some (.int r.1), r.2))  : ∀ n (v5 : Int32) (v4 : Int32) (v3 : Int32), m_X8_ask_L28 c2 σ kx n v5 v4 v3 = some r → J Γ E 8 ad RF 85 σ 0 0 28 [(5, .int v5), (4, .int v4), (3, .int v3), (2, .int c2)] [] := by
  intro n
  induction n with
  | zero =>
    intro v5 v4 v3 h
    cases h
  | succ n ih =>
    intro v5 v4 v3 h
    rw [m_X8_ask_L28.eq_2] at h
    refine j_iload X 0 rfl dX8_ask_28 ?_
    refine j_sipush X (v := 961) (by decide) dX8_ask_30 ?_
    refine j_icmp_ge X (tgt := 168) (by decide) dX8_ask_33 (fun c => ?_) (fun c => ?_)
    · have h := (if_pos c).symm.trans h
      refine j_iload_n X 2 rfl rfl dX8_ask_168 ?_
      exact j_iret X Y rfl (ret_wi h) dX8_ask_169
    · have h := (if_neg c).symm.trans h
      refine j_iload_n X 3 rfl rfl dX8_ask_36 ?_
      refine j_if_eq X (tgt := 168) (by decide) dX8_ask_37 (fun c => ?_) (fun c => ?_)
      · have h := (if_pos c).symm.trans h
        refine j_iload_n X 2 rfl rfl dX8_ask_168 ?_
        exact j_iret X Y rfl (ret_wi h) dX8_ask_169
      · have h := (if_neg c).symm.trans h
        refine j_iload X 0 rfl dX8_ask_40 ?_
        refine j_bipush X (v := 100) (by decide) dX8_ask_42 ?_
        refine j_irem X (by decide) dX8_ask_44 ?_
        refine j_bipush X (v := 60) (by decide) dX8_ask_45 ?_
        refine bd2_elim h (fun o9 o10 hr h => ?_)
        have hJ8 : J Γ E 8 ad RF 85 σ 0 0 162 [(5, .int v5), (2, .int c2), (3, .int o9), (4, .int o10)] [] := by
          refine nm_elim h (fun x11 ex11 h => ?_)
          refine j_iinc1 X (L' := [(5, .int x11), (2, .int c2), (3, .int o9), (4, .int o10)]) 0 rfl (q := 1) (by decide) ex11 (by decide) rfl dX8_ask_162 ?_
          refine j_goto X (tgt := 28) (by decide) dX8_ask_165 ?_
          exact J.sub [0, 3, 2, 1] rfl (ih x11 o10 o9 h)
        clear h
        refine j_icmp_gt X (tgt := 162) (by decide) dX8_ask_47 (fun c => ?_) (fun c => ?_)
        · have hr := (if_pos c).symm.trans hr
          cases hr
          exact J.sub [0, 3, 2, 1] rfl hJ8
        · have hr := (if_neg c).symm.trans hr
          refine j_iconst X (v := 0) (by decide) dX8_ask_50 ?_
          refine nm_elim hr (fun x12 ex12 hr => ?_)
          refine j_istore X (L' := [(6, .int x12), (5, .int v5), (4, .int v4), (3, .int v3), (2, .int c2)]) ex12 (by decide) rfl dX8_ask_51 ?_
          refine j_iconst X (v := 0) (by decide) dX8_ask_53 ?_
          refine nm_elim hr (fun x13 ex13 hr => ?_)
          refine j_istore X (L' := [(7, .int x13), (6, .int x12), (5, .int v5), (4, .int v4), (3, .int v3), (2, .int c2)]) ex13 (by decide) rfl dX8_ask_54 ?_
          refine J.sub [0, 1, 2, 3, 4, 5] rfl ?_
          refine jl_X8_ask_L56 X  (fun x20 hr => ?_) 1000 x13 x12 hr
          refine j_iconst X (v := 2) (by decide) dX8_ask_107 ?_
          refine j_iload X 0 rfl dX8_ask_108 ?_
          refine j_imul X dX8_ask_110 ?_
          refine j_iload_n X 4 rfl rfl dX8_ask_111 ?_
          refine bd1_elim hr (fun r21 hc22 hr => ?_)
          refine j_callSi X (As := [.int c2]) (rest := [.int ((2 : Int32) * x20)]) mf_X8_many bw_1026 bw_1027 ⟨rfl, rfl⟩ ⟨Nat.le_of_ble_eq_true rfl, Nat.le_of_ble_eq_true rfl⟩ (c_X8_many Γ.2.1 E ad  hc22) rfl rfl (Nat.le_of_ble_eq_true rfl) dX8_ask_112 ?_
          refine bd1_elim hr (fun o24 hr hr => ?_)
          have hJ23 : J Γ E 8 ad RF 85 σ 0 0 130 [(5, .int v5), (4, .int v4), (3, .int v3), (2, .int c2)] [.int o24] := by
            refine j_istore X (L' := [(7, .int o24), (5, .int v5), (4, .int v4), (3, .int v3), (2, .int c2)]) rfl (by decide) rfl dX8_ask_130 ?_
            refine j_iload X 0 rfl dX8_ask_132 ?_
            refine j_iload X 2 rfl dX8_ask_134 ?_
            refine bd1_elim hr (fun o26 hr hr => ?_)
            have hJ25 : J Γ E 8 ad RF 85 σ 0 0 145 [(7, .int o24), (5, .int v5), (4, .int v4), (2, .int c2)] [.int o26] := by
              refine j_istore_n X (L' := [(3, .int o26), (7, .int o24), (5, .int v5), (4, .int v4), (2, .int c2)]) rfl rfl (by decide) rfl dX8_ask_145 ?_
              refine j_iload X 1 rfl dX8_ask_146 ?_
              refine j_iload X 3 rfl dX8_ask_148 ?_
              refine bd1_elim hr (fun o28 hr hr => ?_)
              have hJ27 : J Γ E 8 ad RF 85 σ 0 0 160 [(3, .int o26), (5, .int v5), (2, .int c2)] [.int o28] := by
                refine j_istore X (L' := [(4, .int o28), (3, .int o26), (5, .int v5), (2, .int c2)]) rfl (by decide) rfl dX8_ask_160 ?_
                cases hr
                exact J.sub [2, 3, 1, 0] rfl hJ8
              clear hr
              refine j_icmp_ge X (tgt := 158) (by decide) dX8_ask_150 (fun c => ?_) (fun c => ?_)
              · have hr := (if_pos c).symm.trans hr
                refine j_iload X 3 rfl dX8_ask_158 ?_
                cases hr
                exact J.sub [0, 2, 4] rfl hJ27
              · have hr := (if_neg c).symm.trans hr
                refine j_iload X 1 rfl dX8_ask_153 ?_
                refine j_goto X (tgt := 160) (by decide) dX8_ask_155 ?_
                cases hr
                exact J.sub [0, 2, 4] rfl hJ27
            clear hr
            refine j_icmp_ge X (tgt := 144) (by decide) dX8_ask_136 (fun c => ?_) (fun c => ?_)
            · have hr := (if_pos c).symm.trans hr
              refine j_iload_n X 3 rfl rfl dX8_ask_144 ?_
              cases hr
              exact J.sub [0, 1, 2, 4] rfl hJ25
            · have hr := (if_neg c).symm.trans hr
              refine j_iload X 1 rfl dX8_ask_139 ?_
              refine j_goto X (tgt := 145) (by decide) dX8_ask_141 ?_
              cases hr
              exact J.sub [0, 1, 2, 4] rfl hJ25
          clear hr
          refine j_icmp_le X (tgt := 123) (by decide) dX8_ask_115 (fun c => ?_) (fun c => ?_)
          · have hr := (if_pos c).symm.trans hr
            refine j_iload_n X 4 rfl rfl dX8_ask_123 ?_
            refine bd1_elim hr (fun r29 hc30 hr => ?_)
            refine j_callSi X (As := [.int c2]) (rest := []) mf_X8_many bw_1026 bw_1027 ⟨rfl, rfl⟩ ⟨Nat.le_of_ble_eq_true rfl, Nat.le_of_ble_eq_true rfl⟩ (c_X8_many Γ.2.1 E ad  hc30) rfl rfl (Nat.le_of_ble_eq_true rfl) dX8_ask_124 ?_
            refine j_iload X 0 rfl dX8_ask_127 ?_
            refine j_isub X dX8_ask_129 ?_
            cases hr
            exact J.sub [1, 2, 3, 4] rfl hJ23
          · have hr := (if_neg c).symm.trans hr
            refine j_iload X 0 rfl dX8_ask_118 ?_
            refine j_goto X (tgt := 130) (by decide) dX8_ask_120 ?_
            cases hr
            exact J.sub [1, 2, 3, 4] rfl hJ23
set_option maxHeartbeats 4000000 in
set_option maxRecDepth 100000 in
theorem c_X8_ask (l : Launch) (E : Ev) (ad : Nat → Nat)   {a1 : Int32} {σ : Sg} {r : Int32 × Sg} (h : m_X8_ask a1 σ = some r) : Met l yX8_ask (wY yX8_ask cX8_ask 8 (some .int)) rm_X8_ask (va_Pc [.ref (ad 68), .int a1] (PreU E ad RF 85 σ)) (QcN E ad (some (.int r.1), r.2)) 0 0 (EA E) := by
  refine met_of (L0 := [(0, .ref (ad 68)), (1, .int a1)]) rfl (Nat.le_of_ble_eq_true rfl) rfl (fun Γ X Y => ?_)
  have X : XC Γ E rm_X8_ask cX8_ask 8 RX8 := X
  unfold m_X8_ask at h
  refine j_aload_n X 0 rfl rfl dX8_ask_0 ?_
  refine j_iload_n X 1 rfl rfl dX8_ask_1 ?_
  refine bd1_elim h (fun r1 hc2 h => ?_)
  refine j_callVi X (As := [.int a1]) (rest := []) mf_X8_isEar bw_1013 bw_1015 bs_44 ⟨rfl, rfl⟩ ⟨Nat.le_of_ble_eq_true rfl, Nat.le_of_ble_eq_true rfl⟩ cf6 pk_68 pl_68 (c_X8_isEar Γ.2.1 E ad  hc2) rfl rfl (Nat.le_of_ble_eq_true rfl) dX8_ask_2 ?_
  refine j_if_ne X (tgt := 13) (by decide) dX8_ask_5 (fun c => ?_) (fun c => ?_)
  · have h := (if_neg c).symm.trans h
    refine j_aload_n X 0 rfl rfl dX8_ask_13 ?_
    refine j_iload_n X 1 rfl rfl dX8_ask_14 ?_
    refine bd1_elim h (fun r3 hc4 h => ?_)
    refine j_callVi X (As := [.int a1]) (rest := []) mf_X8_sortsOf bw_1120 bw_1122 bs_51 ⟨rfl, rfl⟩ ⟨Nat.le_of_ble_eq_true rfl, Nat.le_of_ble_eq_true rfl⟩ cf6 pk_68 pl_68 (c_X8_sortsOf Γ.2.1 E ad  hc4) rfl rfl (Nat.le_of_ble_eq_true rfl) dX8_ask_15 ?_
    refine j_istore_n X (L' := [(2, .int r3), (0, .ref (ad 68)), (1, .int a1)]) rfl rfl (by decide) rfl dX8_ask_18 ?_
    refine j_iconst X (v := -1) (by decide) dX8_ask_19 ?_
    refine nm_elim h (fun x5 ex5 h => ?_)
    refine j_istore_n X (L' := [(3, .int x5), (2, .int r3), (0, .ref (ad 68)), (1, .int a1)]) ex5 rfl (by decide) rfl dX8_ask_20 ?_
    refine j_bipush X (v := 99) (by decide) dX8_ask_21 ?_
    refine nm_elim h (fun x6 ex6 h => ?_)
    refine j_istore X (L' := [(4, .int x6), (3, .int x5), (2, .int r3), (0, .ref (ad 68)), (1, .int a1)]) ex6 (by decide) rfl dX8_ask_23 ?_
    refine j_iconst X (v := 0) (by decide) dX8_ask_25 ?_
    refine nm_elim h (fun x7 ex7 h => ?_)
    refine j_istore X (L' := [(5, .int x7), (4, .int x6), (3, .int x5), (2, .int r3), (0, .ref (ad 68)), (1, .int a1)]) ex7 (by decide) rfl dX8_ask_26 ?_
    refine J.sub [0, 1, 2, 3] rfl ?_
    exact jl_X8_ask_L28 X  Y 1000 x7 x6 x5 h
  · have h := (if_pos c).symm.trans h
    refine j_aload_n X 0 rfl rfl dX8_ask_8 ?_
    refine bd2_elim h (fun r31 σ32 hc33 h => ?_)
    refine j_callVi X (As := []) (rest := []) mf_X8_bad bw_859 bw_861 bs_20 ⟨rfl, rfl⟩ ⟨Nat.le_of_ble_eq_true rfl, Nat.le_of_ble_eq_true rfl⟩ cf6 pk_68 pl_68 (c_X8_bad Γ.2.1 E ad  hc33) rfl rfl (Nat.le_of_ble_eq_true rfl) dX8_ask_9 ?_
    exact j_iret X Y rfl (ret_wi h) dX8_ask_12

abbrev rm_X8_gain : Room := { frames := 0, cells := 0, slots := 0, locals := 0 }
set_option maxHeartbeats 4000000 in
set_option maxRecDepth 100000 in
theorem c_X8_gain (l : Launch) (E : Ev) (ad : Nat → Nat)   {a1 : Int32} {a2 : Int32} {a3 : Int32} {σ : Sg} {r : Int32} (h : m_X8_gain a1 a2 a3 σ = some r) : Met l yX8_gain (wY yX8_gain cX8_gain 4 (some .int)) rm_X8_gain (va_Pc [.ref (ad 68), .int a1, .int a2, .int a3] (PreU E ad RF 85 σ)) (QcN E ad (some (.int r), σ)) 0 0 (EA E) := by
  refine met_of (L0 := [(0, .ref (ad 68)), (1, .int a1), (2, .int a2), (3, .int a3)]) rfl (Nat.le_of_ble_eq_true rfl) rfl (fun Γ X Y => ?_)
  have X : XC Γ E rm_X8_gain cX8_gain 4 RX8 := X
  unfold m_X8_gain at h
  refine j_aload_n X 0 rfl rfl dX8_gain_0 ?_
  refine j_getr X cf6 pk_68 pl_68 21 rfl ⟨rfl, rfl⟩ 81 rfl bw_775 dX8_gain_1 ?_
  refine j_iconst X (v := 4) (by decide) dX8_gain_4 ?_
  refine j_iload_n X 1 rfl rfl dX8_gain_5 ?_
  refine j_imul X dX8_gain_6 ?_
  refine j_iload_n X 2 rfl rfl dX8_gain_7 ?_
  refine j_iadd X dX8_gain_8 ?_
  refine gd_elim h (fun g h => ?_)
  refine j_iald X pk_81 pl_81 g dX8_gain_9 ?_
  refine j_iload_n X 2 rfl rfl dX8_gain_10 ?_
  refine j_iload_n X 3 rfl rfl dX8_gain_11 ?_
  refine bd1_elim h (fun o2 hr h => ?_)
  have hJ1 : J Γ E 4 ad RF 85 σ 0 0 20 [] [.int o2, .int (σ.1 81 (((4 : Int32) * a1) + a2).toNatClampNeg)] := by
    refine j_isub X dX8_gain_20 ?_
    exact j_iret X Y rfl (ret_pi h) dX8_gain_21
  clear h
  refine j_icmp_ne X (tgt := 19) (by decide) dX8_gain_12 (fun c => ?_) (fun c => ?_)
  · have hr := (if_neg c).symm.trans hr
    refine j_iconst X (v := 0) (by decide) dX8_gain_19 ?_
    cases hr
    exact J.sub [] rfl hJ1
  · have hr := (if_pos c).symm.trans hr
    refine j_iconst X (v := 1) (by decide) dX8_gain_15 ?_
    refine j_goto X (tgt := 20) (by decide) dX8_gain_16 ?_
    cases hr
    exact J.sub [] rfl hJ1

abbrev rm_X8_rests : Room := { frames := 1, cells := 0, slots := 0, locals := 23 }
set_option maxHeartbeats 4000000 in
set_option maxRecDepth 100000 in
theorem jl_X8_rests_L5 {Γ : Cx} {E : Ev} {ad : Nat → Nat} (X : XC Γ E rm_X8_rests cX8_rests 5 RX8)   {c1 : Int32} {c2 : Int32} {σ : Sg} {kx : Unit → Option (Int32)} {r : Int32} (Y : XQ Γ E ad (some .boolean) (some (.int r), σ))  : ∀ n (v4 : Int32) (v3 : Int32), m_X8_rests_L5 c1 c2 σ kx n v4 v3 = some r → J Γ E 5 ad RF 85 σ 0 0 5 [(4, .int v4), (3, .int v3), (0, .ref (ad 68)), (1, .int c1), (2, .int c2)] [] := by
  intro n
  induction n with
  | zero =>
    intro v4 v3 h
    cases h
  | succ n ih =>
    intro v4 v3 h
    rw [m_X8_rests_L5.eq_2] at h
    refine j_iload X 0 rfl dX8_rests_5 ?_
    refine j_iconst X (v := 4) (by decide) dX8_rests_7 ?_
    refine j_icmp_ge X (tgt := 63) (by decide) dX8_rests_8 (fun c => ?_) (fun c => ?_)
    · have h := (if_pos c).symm.trans h
      refine j_iload_n X 1 rfl rfl dX8_rests_63 ?_
      refine gd_elim h (fun g h => ?_)
      exact j_iret X Y (gb_nar g) (ret_pi h) dX8_rests_64
    · have h := (if_neg c).symm.trans h
      refine j_iload_n X 1 rfl rfl dX8_rests_11 ?_
      refine bd1_elim h (fun o4 hr h => ?_)
      have hJ3 : J Γ E 5 ad RF 85 σ 0 0 56 [(4, .int v4), (0, .ref (ad 68)), (1, .int c1), (2, .int c2)] [.int o4] := by
        refine j_istore_n X (L' := [(3, .int o4), (4, .int v4), (0, .ref (ad 68)), (1, .int c1), (2, .int c2)]) rfl rfl (by decide) rfl dX8_rests_56 ?_
        refine nm_elim h (fun x5 ex5 h => ?_)
        refine j_iinc1 X (L' := [(4, .int x5), (3, .int o4), (0, .ref (ad 68)), (1, .int c1), (2, .int c2)]) 1 rfl (q := 1) (by decide) ex5 (by decide) rfl dX8_rests_57 ?_
        refine j_goto X (tgt := 5) (by decide) dX8_rests_60 ?_
        exact J.sub [0, 1, 2, 3, 4] rfl (ih x5 o4 h)
      clear h
      refine j_if_eq X (tgt := 55) (by decide) dX8_rests_12 (fun c => ?_) (fun c => ?_)
      · have hr := (if_pos c).symm.trans hr
        refine j_iconst X (v := 0) (by decide) dX8_rests_55 ?_
        cases hr
        exact J.sub [0, 2, 3, 4] rfl hJ3
      · have hr := (if_neg c).symm.trans hr
        refine j_aload_n X 2 rfl rfl dX8_rests_15 ?_
        refine j_iconst X (v := 0) (by decide) dX8_rests_16 ?_
        refine j_iload X 0 rfl dX8_rests_17 ?_
        refine j_iload_n X 4 rfl rfl dX8_rests_19 ?_
        refine bd1_elim hr (fun r6 hc7 hr => ?_)
        refine j_callVi X (As := [.int (0 : Int32), .int v4, .int c2]) (rest := []) mf_X8_gain bw_1136 bw_1138 bs_53 ⟨rfl, rfl⟩ ⟨Nat.le_of_ble_eq_true rfl, Nat.le_of_ble_eq_true rfl⟩ cf6 pk_68 pl_68 (c_X8_gain Γ.2.1 E ad  hc7) rfl rfl (Nat.le_of_ble_eq_true rfl) dX8_rests_20 ?_
        refine j_aload_n X 2 rfl rfl dX8_rests_23 ?_
        refine j_iconst X (v := 0) (by decide) dX8_rests_24 ?_
        refine j_iload_n X 3 rfl rfl dX8_rests_25 ?_
        refine j_iload_n X 4 rfl rfl dX8_rests_26 ?_
        refine bd1_elim hr (fun r8 hc9 hr => ?_)
        refine j_callVi X (As := [.int (0 : Int32), .int c1, .int c2]) (rest := [.int r6]) mf_X8_gain bw_1136 bw_1138 bs_53 ⟨rfl, rfl⟩ ⟨Nat.le_of_ble_eq_true rfl, Nat.le_of_ble_eq_true rfl⟩ cf6 pk_68 pl_68 (c_X8_gain Γ.2.1 E ad  hc9) rfl rfl (Nat.le_of_ble_eq_true rfl) dX8_rests_27 ?_
        refine j_icmp_gt X (tgt := 55) (by decide) dX8_rests_30 (fun c => ?_) (fun c => ?_)
        · have hr := (if_pos c).symm.trans hr
          refine j_iconst X (v := 0) (by decide) dX8_rests_55 ?_
          cases hr
          exact J.sub [0, 2, 3, 4] rfl hJ3
        · have hr := (if_neg c).symm.trans hr
          refine j_aload_n X 2 rfl rfl dX8_rests_33 ?_
          refine j_iconst X (v := 1) (by decide) dX8_rests_34 ?_
          refine j_iload X 0 rfl dX8_rests_35 ?_
          refine j_iload_n X 3 rfl rfl dX8_rests_37 ?_
          refine bd1_elim hr (fun r10 hc11 hr => ?_)
          refine j_callVi X (As := [.int (1 : Int32), .int v4, .int c1]) (rest := []) mf_X8_gain bw_1136 bw_1138 bs_53 ⟨rfl, rfl⟩ ⟨Nat.le_of_ble_eq_true rfl, Nat.le_of_ble_eq_true rfl⟩ cf6 pk_68 pl_68 (c_X8_gain Γ.2.1 E ad  hc11) rfl rfl (Nat.le_of_ble_eq_true rfl) dX8_rests_38 ?_
          refine j_aload_n X 2 rfl rfl dX8_rests_41 ?_
          refine j_iconst X (v := 1) (by decide) dX8_rests_42 ?_
          refine j_iload_n X 4 rfl rfl dX8_rests_43 ?_
          refine j_iload_n X 3 rfl rfl dX8_rests_44 ?_
          refine bd1_elim hr (fun r12 hc13 hr => ?_)
          refine j_callVi X (As := [.int (1 : Int32), .int c2, .int c1]) (rest := [.int r10]) mf_X8_gain bw_1136 bw_1138 bs_53 ⟨rfl, rfl⟩ ⟨Nat.le_of_ble_eq_true rfl, Nat.le_of_ble_eq_true rfl⟩ cf6 pk_68 pl_68 (c_X8_gain Γ.2.1 E ad  hc13) rfl rfl (Nat.le_of_ble_eq_true rfl) dX8_rests_45 ?_
          refine j_icmp_gt X (tgt := 55) (by decide) dX8_rests_48 (fun c => ?_) (fun c => ?_)
          · have hr := (if_pos c).symm.trans hr
            refine j_iconst X (v := 0) (by decide) dX8_rests_55 ?_
            cases hr
            exact J.sub [0, 2, 3, 4] rfl hJ3
          · have hr := (if_neg c).symm.trans hr
            refine j_iconst X (v := 1) (by decide) dX8_rests_51 ?_
            refine j_goto X (tgt := 56) (by decide) dX8_rests_52 ?_
            cases hr
            exact J.sub [0, 2, 3, 4] rfl hJ3
set_option maxHeartbeats 4000000 in
set_option maxRecDepth 100000 in
theorem c_X8_rests (l : Launch) (E : Ev) (ad : Nat → Nat)   {a1 : Int32} {a2 : Int32} {σ : Sg} {r : Int32} (h : m_X8_rests a1 a2 σ = some r) : Met l yX8_rests (wY yX8_rests cX8_rests 5 (some .boolean)) rm_X8_rests (va_Pc [.ref (ad 68), .int a1, .int a2] (PreU E ad RF 85 σ)) (QcN E ad (some (.int r), σ)) 0 0 (EA E) := by
  refine met_of (L0 := [(0, .ref (ad 68)), (1, .int a1), (2, .int a2)]) rfl (Nat.le_of_ble_eq_true rfl) rfl (fun Γ X Y => ?_)
  have X : XC Γ E rm_X8_rests cX8_rests 5 RX8 := X
  unfold m_X8_rests at h
  refine j_iconst X (v := 1) (by decide) dX8_rests_0 ?_
  refine nm_elim h (fun x1 ex1 h => ?_)
  refine j_istore_n X (L' := [(3, .int x1), (0, .ref (ad 68)), (1, .int a1), (2, .int a2)]) ex1 rfl (by decide) rfl dX8_rests_1 ?_
  refine j_iconst X (v := 0) (by decide) dX8_rests_2 ?_
  refine nm_elim h (fun x2 ex2 h => ?_)
  refine j_istore X (L' := [(4, .int x2), (3, .int x1), (0, .ref (ad 68)), (1, .int a1), (2, .int a2)]) ex2 (by decide) rfl dX8_rests_3 ?_
  refine J.sub [0, 1, 2, 3, 4] rfl ?_
  exact jl_X8_rests_L5 X  Y 1000 x2 x1 h

abbrev rm_X8_brothers : Room := { frames := 5, cells := 0, slots := 0, locals := 123 }
set_option maxHeartbeats 4000000 in
set_option maxRecDepth 100000 in
theorem jl_X8_brothers_L33 {β : Type} {Γ : Cx} {E : Ev} {ad : Nat → Nat} (X : XC Γ E rm_X8_brothers cX8_brothers 5 RX8)   {c1 : Int32}  {kx : Sg → Option (β)} {r : β}  (hkx : ∀ (σ : Sg), kx σ = some r → J Γ E 5 ad RF 85 σ 0 0 71 [(0, .ref (ad 68)), (1, .int c1)] []) : ∀ n (v2 : Int32) (σ : Sg), m_X8_brothers_L33 c1 kx n v2 σ = some r → J Γ E 5 ad RF 85 σ 0 0 33 [(2, .int v2), (0, .ref (ad 68)), (1, .int c1)] [] := by
  intro n
  induction n with
  | zero =>
    intro v2 σ h
    cases h
  | succ n ih =>
    intro v2 σ h
    rw [m_X8_brothers_L33.eq_2] at h
    refine j_iload_n X 0 rfl rfl dX8_brothers_33 ?_
    refine j_bipush X (v := 8) (by decide) dX8_brothers_34 ?_
    refine j_icmp_ge X (tgt := 71) (by decide) dX8_brothers_36 (fun c => ?_) (fun c => ?_)
    · have h := (if_pos c).symm.trans h
      exact J.sub [1, 2] rfl (hkx σ h)
    · have h := (if_neg c).symm.trans h
      refine j_aload_n X 1 rfl rfl dX8_brothers_39 ?_
      refine j_getr X cf6 pk_68 pl_68 21 rfl ⟨rfl, rfl⟩ 81 rfl bw_775 dX8_brothers_40 ?_
      refine j_iload_n X 0 rfl rfl dX8_brothers_43 ?_
      refine j_aload_n X 1 rfl rfl dX8_brothers_44 ?_
      refine j_iload_n X 0 rfl rfl dX8_brothers_45 ?_
      refine j_iconst X (v := 4) (by decide) dX8_brothers_46 ?_
      refine j_idiv X (by decide) dX8_brothers_47 ?_
      refine j_iload_n X 0 rfl rfl dX8_brothers_48 ?_
      refine j_iconst X (v := 4) (by decide) dX8_brothers_49 ?_
      refine j_irem X (by decide) dX8_brothers_50 ?_
      refine j_aload_n X 1 rfl rfl dX8_brothers_51 ?_
      refine j_iload_n X 0 rfl rfl dX8_brothers_52 ?_
      refine j_iconst X (v := 4) (by decide) dX8_brothers_53 ?_
      refine j_irem X (by decide) dX8_brothers_54 ?_
      refine bd1_elim h (fun r2 hc3 h => ?_)
      refine j_callVi X (As := [.int (v2 - v2 / (4 : Int32) * (4 : Int32))]) (rest := [.int (v2 - v2 / (4 : Int32) * (4 : Int32)), .int (v2 / (4 : Int32)), .ref (ad 68), .int v2, .ref (ad 81)]) mf_X8_minuteOf bw_960 bw_962 bs_36 ⟨rfl, rfl⟩ ⟨Nat.le_of_ble_eq_true rfl, Nat.le_of_ble_eq_true rfl⟩ cf6 pk_68 pl_68 (c_X8_minuteOf Γ.2.1 E ad  hc3) rfl rfl (Nat.le_of_ble_eq_true rfl) dX8_brothers_55 ?_
      refine bd1_elim h (fun r4 hc5 h => ?_)
      refine j_callVi X (As := [.int (v2 / (4 : Int32)), .int (v2 - v2 / (4 : Int32) * (4 : Int32)), .int r2]) (rest := [.int v2, .ref (ad 81)]) mf_X8_heardIn bw_964 bw_966 bs_37 ⟨rfl, rfl⟩ ⟨Nat.le_of_ble_eq_true rfl, Nat.le_of_ble_eq_true rfl⟩ cf6 pk_68 pl_68 (c_X8_heardIn Γ.2.1 E ad  hc5) rfl rfl (Nat.le_of_ble_eq_true rfl) dX8_brothers_58 ?_
      refine bd1_elim h (fun r6 hc7 h => ?_)
      refine j_callSi X (As := [.int r4]) (rest := [.int v2, .ref (ad 81)]) mf_X8_many bw_1026 bw_1027 ⟨rfl, rfl⟩ ⟨Nat.le_of_ble_eq_true rfl, Nat.le_of_ble_eq_true rfl⟩ (c_X8_many Γ.2.1 E ad  hc7) rfl rfl (Nat.le_of_ble_eq_true rfl) dX8_brothers_61 ?_
      refine gd_elim h (fun g h => ?_)
      refine nm_elim h (fun σ8 eσ8 h => ?_)
      refine j_iast X pk_81 pl_81 g eσ8 dX8_brothers_64 ?_
      refine nm_elim h (fun x9 ex9 h => ?_)
      refine j_iinc1 X (L' := [(2, .int x9), (0, .ref (ad 68)), (1, .int c1)]) 0 rfl (q := 1) (by decide) ex9 (by decide) rfl dX8_brothers_65 ?_
      refine j_goto X (tgt := 33) (by decide) dX8_brothers_68 ?_
      exact J.sub [0, 1, 2] rfl (ih x9 σ8 h)
set_option maxHeartbeats 4000000 in
set_option maxRecDepth 100000 in
theorem jl_X8_brothers_L79 {β : Type} {Γ : Cx} {E : Ev} {ad : Nat → Nat} (X : XC Γ E rm_X8_brothers cX8_brothers 5 RX8)   {c1 : Int32} {σ : Sg} {kx : Int32 → Int32 → Option (β)} {r : β}  (hkx : ∀ (v3 : Int32) (v2 : Int32), kx v3 v2 = some r → J Γ E 5 ad RF 85 σ 0 0 132 [(3, .int v3), (2, .int v2), (1, .int c1)] []) : ∀ n (v4 : Int32) (v3 : Int32) (v2 : Int32), m_X8_brothers_L79 c1 σ kx n v4 v3 v2 = some r → J Γ E 5 ad RF 85 σ 0 0 79 [(4, .int v4), (3, .int v3), (2, .int v2), (0, .ref (ad 68)), (1, .int c1)] [] := by
  intro n
  induction n with
  | zero =>
    intro v4 v3 v2 h
    cases h
  | succ n ih =>
    intro v4 v3 v2 h
    rw [m_X8_brothers_L79.eq_2] at h
    refine j_iload X 0 rfl dX8_brothers_79 ?_
    refine j_bipush X (v := 16) (by decide) dX8_brothers_81 ?_
    refine j_icmp_ge X (tgt := 132) (by decide) dX8_brothers_83 (fun c => ?_) (fun c => ?_)
    · have h := (if_pos c).symm.trans h
      exact J.sub [1, 2, 4] rfl (hkx v3 v2 h)
    · have h := (if_neg c).symm.trans h
      refine j_aload_n X 3 rfl rfl dX8_brothers_86 ?_
      refine j_iload X 0 rfl dX8_brothers_87 ?_
      refine j_iconst X (v := 4) (by decide) dX8_brothers_89 ?_
      refine j_idiv X (by decide) dX8_brothers_90 ?_
      refine j_iload X 0 rfl dX8_brothers_91 ?_
      refine j_iconst X (v := 4) (by decide) dX8_brothers_93 ?_
      refine j_irem X (by decide) dX8_brothers_94 ?_
      refine bd1_elim h (fun r14 hc15 h => ?_)
      refine j_callVi X (As := [.int (v4 / (4 : Int32)), .int (v4 - v4 / (4 : Int32) * (4 : Int32))]) (rest := []) mf_X8_rests bw_1132 bw_1134 bs_52 ⟨rfl, rfl⟩ ⟨Nat.le_of_ble_eq_true rfl, Nat.le_of_ble_eq_true rfl⟩ cf6 pk_68 pl_68 (c_X8_rests Γ.2.1 E ad  hc15) rfl rfl (Nat.le_of_ble_eq_true rfl) dX8_brothers_95 ?_
      refine bd2_elim h (fun o17 o18 hr h => ?_)
      have hJ16 : J Γ E 5 ad RF 85 σ 0 0 126 [(4, .int v4), (0, .ref (ad 68)), (1, .int c1), (2, .int o17), (3, .int o18)] [] := by
        refine nm_elim h (fun x19 ex19 h => ?_)
        refine j_iinc1 X (L' := [(4, .int x19), (0, .ref (ad 68)), (1, .int c1), (2, .int o17), (3, .int o18)]) 0 rfl (q := 1) (by decide) ex19 (by decide) rfl dX8_brothers_126 ?_
        refine j_goto X (tgt := 79) (by decide) dX8_brothers_129 ?_
        exact J.sub [0, 4, 3, 1, 2] rfl (ih x19 o18 o17 h)
      clear h
      refine j_if_eq X (tgt := 126) (by decide) dX8_brothers_98 (fun c => ?_) (fun c => ?_)
      · have hr := (if_pos c).symm.trans hr
        cases hr
        exact J.sub [0, 3, 4, 2, 1] rfl hJ16
      · have hr := (if_neg c).symm.trans hr
        refine j_iload_n X 2 rfl rfl dX8_brothers_101 ?_
        refine j_iload_n X 4 rfl rfl dX8_brothers_102 ?_
        refine bd1_elim hr (fun o21 hr hr => ?_)
        have hJ20 : J Γ E 5 ad RF 85 σ 0 0 122 [(4, .int v4), (2, .int v2), (0, .ref (ad 68)), (1, .int c1)] [.int o21] := by
          refine j_istore_n X (L' := [(3, .int o21), (4, .int v4), (2, .int v2), (0, .ref (ad 68)), (1, .int c1)]) rfl rfl (by decide) rfl dX8_brothers_122 ?_
          refine nm_elim hr (fun x22 ex22 hr => ?_)
          refine j_iinc1 X (L' := [(2, .int x22), (3, .int o21), (4, .int v4), (0, .ref (ad 68)), (1, .int c1)]) 2 rfl (q := 1) (by decide) ex22 (by decide) rfl dX8_brothers_123 ?_
          cases hr
          exact J.sub [2, 3, 4, 0, 1] rfl hJ16
        clear hr
        refine j_icmp_ne X (tgt := 121) (by decide) dX8_brothers_103 (fun c => ?_) (fun c => ?_)
        · have hr := (if_neg c).symm.trans hr
          refine j_iload_n X 1 rfl rfl dX8_brothers_121 ?_
          cases hr
          exact J.sub [0, 2, 3, 4] rfl hJ20
        · have hr := (if_pos c).symm.trans hr
          refine j_bipush X (v := 10) (by decide) dX8_brothers_106 ?_
          refine j_iload X 0 rfl dX8_brothers_108 ?_
          refine j_iconst X (v := 4) (by decide) dX8_brothers_110 ?_
          refine j_idiv X (by decide) dX8_brothers_111 ?_
          refine j_imul X dX8_brothers_112 ?_
          refine j_iload X 0 rfl dX8_brothers_113 ?_
          refine j_iconst X (v := 4) (by decide) dX8_brothers_115 ?_
          refine j_irem X (by decide) dX8_brothers_116 ?_
          refine j_iadd X dX8_brothers_117 ?_
          refine j_goto X (tgt := 122) (by decide) dX8_brothers_118 ?_
          cases hr
          exact J.sub [0, 2, 3, 4] rfl hJ20
set_option maxHeartbeats 4000000 in
set_option maxRecDepth 100000 in
theorem c_X8_brothers (l : Launch) (E : Ev) (ad : Nat → Nat)   {a1 : Int32} {σ : Sg} {r : Int32 × Sg} (h : m_X8_brothers a1 σ = some r) : Met l yX8_brothers (wY yX8_brothers cX8_brothers 5 (some .int)) rm_X8_brothers (va_Pc [.ref (ad 68), .int a1] (PreU E ad RF 85 σ)) (QcN E ad (some (.int r.1), r.2)) 0 0 (EA E) := by
  refine met_of (L0 := [(0, .ref (ad 68)), (1, .int a1)]) rfl (Nat.le_of_ble_eq_true rfl) rfl (fun Γ X Y => ?_)
  have X : XC Γ E rm_X8_brothers cX8_brothers 5 RX8 := X
  unfold m_X8_brothers at h
  refine j_iload_n X 1 rfl rfl dX8_brothers_0 ?_
  refine j_iconst X (v := -1) (by decide) dX8_brothers_1 ?_
  refine j_icmp_ge X (tgt := 18) (by decide) dX8_brothers_2 (fun c => ?_) (fun c => ?_)
  · have h := (if_pos c).symm.trans h
    refine j_aload_n X 0 rfl rfl dX8_brothers_18 ?_
    refine j_geti X cf6 pk_68 pl_68 5 rfl ⟨rfl, rfl⟩ bw_759 dX8_brothers_19 ?_
    refine j_iconst X (v := 2) (by decide) dX8_brothers_22 ?_
    refine j_icmp_ge X (tgt := 31) (by decide) dX8_brothers_23 (fun c => ?_) (fun c => ?_)
    · have h := (if_pos c).symm.trans h
      refine j_iconst X (v := 0) (by decide) dX8_brothers_31 ?_
      refine nm_elim h (fun x1 ex1 h => ?_)
      refine j_istore_n X (L' := [(2, .int x1), (0, .ref (ad 68)), (1, .int a1)]) ex1 rfl (by decide) rfl dX8_brothers_32 ?_
      refine J.sub [0, 1, 2] rfl ?_
      refine jl_X8_brothers_L33 X  (fun σ10 h => ?_) 1000 x1 σ h
      refine j_iconst X (v := 0) (by decide) dX8_brothers_71 ?_
      refine nm_elim h (fun x11 ex11 h => ?_)
      refine j_istore_n X (L' := [(2, .int x11), (0, .ref (ad 68)), (1, .int a1)]) ex11 rfl (by decide) rfl dX8_brothers_72 ?_
      refine j_bipush X (v := -5) (by decide) dX8_brothers_73 ?_
      refine nm_elim h (fun x12 ex12 h => ?_)
      refine j_istore_n X (L' := [(3, .int x12), (2, .int x11), (0, .ref (ad 68)), (1, .int a1)]) ex12 rfl (by decide) rfl dX8_brothers_75 ?_
      refine j_iconst X (v := 0) (by decide) dX8_brothers_76 ?_
      refine nm_elim h (fun x13 ex13 h => ?_)
      refine j_istore X (L' := [(4, .int x13), (3, .int x12), (2, .int x11), (0, .ref (ad 68)), (1, .int a1)]) ex13 (by decide) rfl dX8_brothers_77 ?_
      refine J.sub [0, 1, 2, 3, 4] rfl ?_
      refine jl_X8_brothers_L79 X  (fun x23 x24 h => ?_) 1000 x13 x12 x11 h
      refine j_iload_n X 2 rfl rfl dX8_brothers_132 ?_
      refine j_iconst X (v := -1) (by decide) dX8_brothers_133 ?_
      refine j_icmp_ne X (tgt := 141) (by decide) dX8_brothers_134 (fun c => ?_) (fun c => ?_)
      · have h := (if_neg c).symm.trans h
        refine j_iload_n X 0 rfl rfl dX8_brothers_141 ?_
        exact j_iret X Y rfl (ret_wi h) dX8_brothers_142
      · have h := (if_pos c).symm.trans h
        refine j_iload_n X 1 rfl rfl dX8_brothers_137 ?_
        refine j_goto X (tgt := 142) (by decide) dX8_brothers_138 ?_
        exact j_iret X Y rfl (ret_wi h) dX8_brothers_142
    · have h := (if_neg c).symm.trans h
      refine j_aload_n X 0 rfl rfl dX8_brothers_26 ?_
      refine bd2_elim h (fun r25 σ26 hc27 h => ?_)
      refine j_callVi X (As := []) (rest := []) mf_X8_no bw_1005 bw_1007 bs_43 ⟨rfl, rfl⟩ ⟨Nat.le_of_ble_eq_true rfl, Nat.le_of_ble_eq_true rfl⟩ cf6 pk_68 pl_68 (c_X8_no Γ.2.1 E ad  hc27) rfl rfl (Nat.le_of_ble_eq_true rfl) dX8_brothers_27 ?_
      exact j_iret X Y rfl (ret_wi h) dX8_brothers_30
  · have h := (if_neg c).symm.trans h
    refine j_aload_n X 0 rfl rfl dX8_brothers_5 ?_
    refine j_getr X cf6 pk_68 pl_68 0 rfl ⟨rfl, rfl⟩ 69 rfl bw_754 dX8_brothers_6 ?_
    refine j_iconst X (v := 0) (by decide) dX8_brothers_9 ?_
    refine j_dup2 X rfl rfl dX8_brothers_10 ?_
    refine gd_elim h (fun g h => ?_)
    refine j_iald X pk_69 pl_69 g dX8_brothers_11 ?_
    refine j_iconst X (v := 1) (by decide) dX8_brothers_12 ?_
    refine j_iadd X dX8_brothers_13 ?_
    refine gd_elim h (fun g h => ?_)
    refine nm_elim h (fun σ28 eσ28 h => ?_)
    refine j_iast X pk_69 pl_69 g eσ28 dX8_brothers_14 ?_
    refine j_bipush X (v := -10) (by decide) dX8_brothers_15 ?_
    exact j_iret X Y rfl (ret_wi h) dX8_brothers_17

abbrev rm_X8_holds : Room := { frames := 4, cells := 0, slots := 0, locals := 100 }
set_option maxHeartbeats 4000000 in
set_option maxRecDepth 100000 in
theorem jl_X8_holds_L60 {β : Type} {Γ : Cx} {E : Ev} {ad : Nat → Nat} (X : XC Γ E rm_X8_holds cX8_holds 16 RX8)   {c6 : Int64} {c5 : Int32} {c4 : Int32} {c1 : Int32} {c2 : Int32} {c3 : Int32} {σ : Sg} {kx : Int64 → Option (β)} {r : β}  (hkx : ∀ (v8 : Int64), kx v8 = some r → J Γ E 16 ad RF 85 σ 0 0 99 [(8, .long v8), (6, .long c6), (5, .int c5), (4, .int c4), (0, .ref (ad 68)), (1, .int c1), (2, .int c2), (3, .int c3)] []) : ∀ n (v10 : Int32) (v8 : Int64), m_X8_holds_L60 c6 c5 c4 c1 c2 c3 σ kx n v10 v8 = some r → J Γ E 16 ad RF 85 σ 0 0 60 [(10, .int v10), (8, .long v8), (6, .long c6), (5, .int c5), (4, .int c4), (0, .ref (ad 68)), (1, .int c1), (2, .int c2), (3, .int c3)] [] := by
  intro n
  induction n with
  | zero =>
    intro v10 v8 h
    cases h
  | succ n ih =>
    intro v10 v8 h
    rw [m_X8_holds_L60.eq_2] at h
    refine j_iload X 0 rfl dX8_holds_60 ?_
    refine j_aload_n X 5 rfl rfl dX8_holds_62 ?_
    refine j_geti X cf6 pk_68 pl_68 1 rfl ⟨rfl, rfl⟩ bw_755 dX8_holds_63 ?_
    refine j_icmp_ge X (tgt := 99) (by decide) dX8_holds_66 (fun c => ?_) (fun c => ?_)
    · have h := (if_pos c).symm.trans h
      exact J.sub [1, 2, 3, 4, 5, 6, 7, 8] rfl (hkx v8 h)
    · have h := (if_neg c).symm.trans h
      refine j_lload X 1 rfl dX8_holds_69 ?_
      refine j_aload_n X 5 rfl rfl dX8_holds_71 ?_
      refine j_getr X cf6 pk_68 pl_68 3 rfl ⟨rfl, rfl⟩ 71 rfl bw_757 dX8_holds_72 ?_
      refine j_iload X 0 rfl dX8_holds_75 ?_
      refine gd_elim h (fun g h => ?_)
      refine j_iald X pk_71 pl_71 g dX8_holds_77 ?_
      refine j_iload X 4 rfl dX8_holds_78 ?_
      refine bd1_elim h (fun o20 hr h => ?_)
      have hJ19 : J Γ E 16 ad RF 85 σ 0 0 90 [(10, .int v10), (6, .long c6), (5, .int c5), (4, .int c4), (0, .ref (ad 68)), (1, .int c1), (2, .int c2), (3, .int c3)] [.long o20, .long v8] := by
        refine j_lmul X dX8_holds_90 ?_
        refine nm_elim h (fun x21 ex21 h => ?_)
        refine j_lstore X (L' := [(8, .long x21), (10, .int v10), (6, .long c6), (5, .int c5), (4, .int c4), (0, .ref (ad 68)), (1, .int c1), (2, .int c2), (3, .int c3)]) ex21 (by decide) rfl dX8_holds_91 ?_
        refine nm_elim h (fun x22 ex22 h => ?_)
        refine j_iinc1 X (L' := [(10, .int x22), (8, .long x21), (6, .long c6), (5, .int c5), (4, .int c4), (0, .ref (ad 68)), (1, .int c1), (2, .int c2), (3, .int c3)]) 1 rfl (q := 1) (by decide) ex22 (by decide) rfl dX8_holds_93 ?_
        refine j_goto X (tgt := 60) (by decide) dX8_holds_96 ?_
        exact J.sub [0, 1, 2, 3, 4, 5, 6, 7, 8] rfl (ih x22 x21 h)
      clear h
      refine j_icmp_ne X (tgt := 89) (by decide) dX8_holds_80 (fun c => ?_) (fun c => ?_)
      · have hr := (if_neg c).symm.trans hr
        refine j_lconst X (v := 1) (by decide) dX8_holds_89 ?_
        cases hr
        exact J.sub [0, 2, 3, 4, 5, 6, 7, 8] rfl hJ19
      · have hr := (if_pos c).symm.trans hr
        refine j_ldc2 X (v := 10) bw_1144 dX8_holds_83 ?_
        refine j_goto X (tgt := 90) (by decide) dX8_holds_86 ?_
        cases hr
        exact J.sub [0, 2, 3, 4, 5, 6, 7, 8] rfl hJ19
set_option maxHeartbeats 4000000 in
set_option maxRecDepth 100000 in
theorem jl_X8_holds_L119 {β : Type} {Γ : Cx} {E : Ev} {ad : Nat → Nat} (X : XC Γ E rm_X8_holds cX8_holds 16 RX8)   {c10 : Int32} {c8 : Int64} {c6 : Int64} {c5 : Int32} {c4 : Int32} {c1 : Int32} {c2 : Int32} {c3 : Int32} {σ : Sg} {kx : Int64 → Option (β)} {r : β}  (hkx : ∀ (v11 : Int64), kx v11 = some r → J Γ E 16 ad RF 85 σ 0 0 209 [(11, .long v11), (10, .int c10), (8, .long c8), (6, .long c6), (5, .int c5), (4, .int c4), (0, .ref (ad 68)), (1, .int c1), (2, .int c2), (3, .int c3)] []) : ∀ n (v13 : Int32) (v11 : Int64), m_X8_holds_L119 c10 c8 c6 c5 c4 c1 c2 c3 σ kx n v13 v11 = some r → J Γ E 16 ad RF 85 σ 0 0 119 [(13, .int v13), (11, .long v11), (10, .int c10), (8, .long c8), (6, .long c6), (5, .int c5), (4, .int c4), (0, .ref (ad 68)), (1, .int c1), (2, .int c2), (3, .int c3)] [] := by
  intro n
  induction n with
  | zero =>
    intro v13 v11 h
    cases h
  | succ n ih =>
    intro v13 v11 h
    rw [m_X8_holds_L119.eq_2] at h
    refine j_iload X 0 rfl dX8_holds_119 ?_
    refine j_aload_n X 7 rfl rfl dX8_holds_121 ?_
    refine j_geti X cf6 pk_68 pl_68 1 rfl ⟨rfl, rfl⟩ bw_755 dX8_holds_122 ?_
    refine j_icmp_ge X (tgt := 209) (by decide) dX8_holds_125 (fun c => ?_) (fun c => ?_)
    · have h := (if_pos c).symm.trans h
      exact J.sub [1, 2, 3, 4, 5, 6, 7, 8, 9, 10] rfl (hkx v11 h)
    · have h := (if_neg c).symm.trans h
      refine j_aload_n X 7 rfl rfl dX8_holds_128 ?_
      refine j_getr X cf6 pk_68 pl_68 3 rfl ⟨rfl, rfl⟩ 71 rfl bw_757 dX8_holds_129 ?_
      refine j_iload X 0 rfl dX8_holds_132 ?_
      refine gd_elim h (fun g h => ?_)
      refine j_iald X pk_71 pl_71 g dX8_holds_134 ?_
      refine j_iload X 6 rfl dX8_holds_135 ?_
      refine bd1_elim h (fun o28 hr h => ?_)
      have hJ27 : J Γ E 16 ad RF 85 σ 0 0 145 [(13, .int v13), (11, .long v11), (10, .int c10), (8, .long c8), (6, .long c6), (5, .int c5), (4, .int c4), (0, .ref (ad 68)), (1, .int c1), (2, .int c2), (3, .int c3)] [.int o28] := by
        refine j_istore X (L' := [(14, .int o28), (13, .int v13), (11, .long v11), (10, .int c10), (8, .long c8), (6, .long c6), (5, .int c5), (4, .int c4), (0, .ref (ad 68)), (1, .int c1), (2, .int c2), (3, .int c3)]) rfl (by decide) rfl dX8_holds_145 ?_
        refine j_iload X 3 rfl dX8_holds_147 ?_
        refine j_iload X 1 rfl dX8_holds_149 ?_
        refine j_ishr X dX8_holds_151 ?_
        refine j_iconst X (v := 1) (by decide) dX8_holds_152 ?_
        refine j_iand X dX8_holds_153 ?_
        refine j_iconst X (v := 1) (by decide) dX8_holds_154 ?_
        refine bd1_elim h (fun o30 hr h => ?_)
        have hJ29 : J Γ E 16 ad RF 85 σ 0 0 163 [(14, .int o28), (13, .int v13), (11, .long v11), (10, .int c10), (8, .long c8), (6, .long c6), (5, .int c5), (4, .int c4), (0, .ref (ad 68)), (1, .int c1), (2, .int c2), (3, .int c3)] [.int o30] := by
          refine j_istore X (L' := [(15, .int o30), (14, .int o28), (13, .int v13), (11, .long v11), (10, .int c10), (8, .long c8), (6, .long c6), (5, .int c5), (4, .int c4), (0, .ref (ad 68)), (1, .int c1), (2, .int c2), (3, .int c3)]) rfl (by decide) rfl dX8_holds_163 ?_
          refine j_lload X 3 rfl dX8_holds_165 ?_
          refine j_iload X 1 rfl dX8_holds_167 ?_
          refine bd1_elim h (fun o32 hr h => ?_)
          have hJ31 : J Γ E 16 ad RF 85 σ 0 0 200 [(13, .int v13), (10, .int c10), (8, .long c8), (6, .long c6), (5, .int c5), (4, .int c4), (0, .ref (ad 68)), (1, .int c1), (2, .int c2), (3, .int c3)] [.long o32, .long v11] := by
            refine j_lmul X dX8_holds_200 ?_
            refine nm_elim h (fun x33 ex33 h => ?_)
            refine j_lstore X (L' := [(11, .long x33), (13, .int v13), (10, .int c10), (8, .long c8), (6, .long c6), (5, .int c5), (4, .int c4), (0, .ref (ad 68)), (1, .int c1), (2, .int c2), (3, .int c3)]) ex33 (by decide) rfl dX8_holds_201 ?_
            refine nm_elim h (fun x34 ex34 h => ?_)
            refine j_iinc1 X (L' := [(13, .int x34), (11, .long x33), (10, .int c10), (8, .long c8), (6, .long c6), (5, .int c5), (4, .int c4), (0, .ref (ad 68)), (1, .int c1), (2, .int c2), (3, .int c3)]) 1 rfl (q := 1) (by decide) ex34 (by decide) rfl dX8_holds_203 ?_
            refine j_goto X (tgt := 119) (by decide) dX8_holds_206 ?_
            exact J.sub [0, 1, 2, 3, 4, 5, 6, 7, 8, 9, 10] rfl (ih x34 x33 h)
          clear h
          refine j_if_eq X (tgt := 190) (by decide) dX8_holds_169 (fun c => ?_) (fun c => ?_)
          · have hr := (if_pos c).symm.trans hr
            refine j_iload X 0 rfl dX8_holds_190 ?_
            refine j_if_eq X (tgt := 199) (by decide) dX8_holds_192 (fun c => ?_) (fun c => ?_)
            · have hr := (if_pos c).symm.trans hr
              refine j_lconst X (v := 0) (by decide) dX8_holds_199 ?_
              cases hr
              exact J.sub [2, 4, 5, 6, 7, 8, 9, 10, 11, 12] rfl hJ31
            · have hr := (if_neg c).symm.trans hr
              refine j_lconst X (v := 1) (by decide) dX8_holds_195 ?_
              refine j_goto X (tgt := 200) (by decide) dX8_holds_196 ?_
              cases hr
              exact J.sub [2, 4, 5, 6, 7, 8, 9, 10, 11, 12] rfl hJ31
          · have hr := (if_neg c).symm.trans hr
            refine j_iload X 0 rfl dX8_holds_172 ?_
            refine j_if_eq X (tgt := 185) (by decide) dX8_holds_174 (fun c => ?_) (fun c => ?_)
            · have hr := (if_pos c).symm.trans hr
              refine j_iload_n X 12 rfl rfl dX8_holds_185 ?_
              refine j_i2l X dX8_holds_186 ?_
              refine j_goto X (tgt := 200) (by decide) dX8_holds_187 ?_
              cases hr
              exact J.sub [2, 4, 5, 6, 7, 8, 9, 10, 11, 12] rfl hJ31
            · have hr := (if_neg c).symm.trans hr
              refine j_bipush X (v := 10) (by decide) dX8_holds_177 ?_
              refine j_iload_n X 12 rfl rfl dX8_holds_179 ?_
              refine j_isub X dX8_holds_180 ?_
              refine j_i2l X dX8_holds_181 ?_
              refine j_goto X (tgt := 200) (by decide) dX8_holds_182 ?_
              cases hr
              exact J.sub [2, 4, 5, 6, 7, 8, 9, 10, 11, 12] rfl hJ31
        clear h
        refine j_icmp_ne X (tgt := 162) (by decide) dX8_holds_155 (fun c => ?_) (fun c => ?_)
        · have hr := (if_neg c).symm.trans hr
          refine j_iconst X (v := 0) (by decide) dX8_holds_162 ?_
          cases hr
          exact J.sub [0, 1, 2, 3, 4, 5, 6, 7, 8, 9, 10, 11] rfl hJ29
        · have hr := (if_pos c).symm.trans hr
          refine j_iconst X (v := 1) (by decide) dX8_holds_158 ?_
          refine j_goto X (tgt := 163) (by decide) dX8_holds_159 ?_
          cases hr
          exact J.sub [0, 1, 2, 3, 4, 5, 6, 7, 8, 9, 10, 11] rfl hJ29
      clear h
      refine j_icmp_ne X (tgt := 144) (by decide) dX8_holds_137 (fun c => ?_) (fun c => ?_)
      · have hr := (if_neg c).symm.trans hr
        refine j_iconst X (v := 0) (by decide) dX8_holds_144 ?_
        cases hr
        exact J.sub [0, 1, 2, 3, 4, 5, 6, 7, 8, 9, 10] rfl hJ27
      · have hr := (if_pos c).symm.trans hr
        refine j_iconst X (v := 1) (by decide) dX8_holds_140 ?_
        refine j_goto X (tgt := 145) (by decide) dX8_holds_141 ?_
        cases hr
        exact J.sub [0, 1, 2, 3, 4, 5, 6, 7, 8, 9, 10] rfl hJ27
set_option maxHeartbeats 4000000 in
set_option maxRecDepth 100000 in
theorem jl_X8_holds_L102 {β : Type} {Γ : Cx} {E : Ev} {ad : Nat → Nat} (X : XC Γ E rm_X8_holds cX8_holds 16 RX8)   {c8 : Int64} {c5 : Int32} {c4 : Int32} {c1 : Int32} {c2 : Int32} {c3 : Int32} {σ : Sg} {kx : Int64 → Option (β)} {r : β}  (hkx : ∀ (v6 : Int64), kx v6 = some r → J Γ E 16 ad RF 85 σ 0 0 268 [(8, .long c8), (6, .long v6), (0, .ref (ad 68))] []) : ∀ n (v10 : Int32) (v6 : Int64), m_X8_holds_L102 c8 c5 c4 c1 c2 c3 σ kx n v10 v6 = some r → J Γ E 16 ad RF 85 σ 0 0 102 [(10, .int v10), (8, .long c8), (6, .long v6), (5, .int c5), (4, .int c4), (0, .ref (ad 68)), (1, .int c1), (2, .int c2), (3, .int c3)] [] := by
  intro n
  induction n with
  | zero =>
    intro v10 v6 h
    cases h
  | succ n ih =>
    intro v10 v6 h
    rw [m_X8_holds_L102.eq_2] at h
    refine j_iload X 0 rfl dX8_holds_102 ?_
    refine j_iconst X (v := 1) (by decide) dX8_holds_104 ?_
    refine j_aload_n X 5 rfl rfl dX8_holds_105 ?_
    refine j_geti X cf6 pk_68 pl_68 1 rfl ⟨rfl, rfl⟩ bw_755 dX8_holds_106 ?_
    refine j_ishl X dX8_holds_109 ?_
    refine j_icmp_ge X (tgt := 268) (by decide) dX8_holds_110 (fun c => ?_) (fun c => ?_)
    · have h := (if_pos c).symm.trans h
      exact J.sub [1, 2, 5] rfl (hkx v6 h)
    · have h := (if_neg c).symm.trans h
      refine j_lconst X (v := 1) (by decide) dX8_holds_113 ?_
      refine nm_elim h (fun x25 ex25 h => ?_)
      refine j_lstore X (L' := [(11, .long x25), (10, .int v10), (8, .long c8), (6, .long v6), (5, .int c5), (4, .int c4), (0, .ref (ad 68)), (1, .int c1), (2, .int c2), (3, .int c3)]) ex25 (by decide) rfl dX8_holds_114 ?_
      refine j_iconst X (v := 0) (by decide) dX8_holds_116 ?_
      refine nm_elim h (fun x26 ex26 h => ?_)
      refine j_istore X (L' := [(13, .int x26), (11, .long x25), (10, .int v10), (8, .long c8), (6, .long v6), (5, .int c5), (4, .int c4), (0, .ref (ad 68)), (1, .int c1), (2, .int c2), (3, .int c3)]) ex26 (by decide) rfl dX8_holds_117 ?_
      refine J.sub [0, 1, 2, 3, 4, 5, 6, 7, 8, 9, 10] rfl ?_
      refine jl_X8_holds_L119 X  (fun x35 h => ?_) 1000 x26 x25 h
      refine j_lload X 3 rfl dX8_holds_209 ?_
      refine j_lload X 0 rfl dX8_holds_211 ?_
      refine j_lconst X (v := 0) (by decide) dX8_holds_213 ?_
      refine j_lcmp X dX8_holds_214 ?_
      refine bd1_elim h (fun o37 hr h => ?_)
      have hJ36 : J Γ E 16 ad RF 85 σ 0 0 259 [(10, .int v10), (8, .long c8), (5, .int c5), (4, .int c4), (0, .ref (ad 68)), (1, .int c1), (2, .int c2), (3, .int c3)] [.long o37, .long v6] := by
        refine j_ladd X dX8_holds_259 ?_
        refine nm_elim h (fun x38 ex38 h => ?_)
        refine j_lstore X (L' := [(6, .long x38), (10, .int v10), (8, .long c8), (5, .int c5), (4, .int c4), (0, .ref (ad 68)), (1, .int c1), (2, .int c2), (3, .int c3)]) ex38 (by decide) rfl dX8_holds_260 ?_
        refine nm_elim h (fun x39 ex39 h => ?_)
        refine j_iinc1 X (L' := [(10, .int x39), (6, .long x38), (8, .long c8), (5, .int c5), (4, .int c4), (0, .ref (ad 68)), (1, .int c1), (2, .int c2), (3, .int c3)]) 1 rfl (q := 1) (by decide) ex39 (by decide) rfl dX8_holds_262 ?_
        refine j_goto X (tgt := 102) (by decide) dX8_holds_265 ?_
        exact J.sub [0, 2, 1, 3, 4, 5, 6, 7, 8] rfl (ih x39 x38 h)
      clear h
      refine j_if_le X (tgt := 258) (by decide) dX8_holds_215 (fun c => ?_) (fun c => ?_)
      · have hr := (if_pos c).symm.trans hr
        refine j_lconst X (v := 0) (by decide) dX8_holds_258 ?_
        cases hr
        exact J.sub [1, 2, 4, 5, 6, 7, 8, 9] rfl hJ36
      · have hr := (if_neg c).symm.trans hr
        refine j_aload_n X 6 rfl rfl dX8_holds_218 ?_
        refine j_getr X cf6 pk_68 pl_68 3 rfl ⟨rfl, rfl⟩ 71 rfl bw_757 dX8_holds_219 ?_
        refine j_iload_n X 8 rfl rfl dX8_holds_222 ?_
        refine gd_elim hr (fun g hr => ?_)
        refine j_iald X pk_71 pl_71 g dX8_holds_223 ?_
        refine j_iload X 5 rfl dX8_holds_224 ?_
        refine j_icmp_ne X (tgt := 258) (by decide) dX8_holds_226 (fun c => ?_) (fun c => ?_)
        · have hr := (if_neg c).symm.trans hr
          refine j_lconst X (v := 0) (by decide) dX8_holds_258 ?_
          cases hr
          exact J.sub [1, 2, 4, 5, 6, 7, 8, 9] rfl hJ36
        · have hr := (if_pos c).symm.trans hr
          refine j_aload_n X 6 rfl rfl dX8_holds_229 ?_
          refine j_aload_n X 6 rfl rfl dX8_holds_230 ?_
          refine j_getr X cf6 pk_68 pl_68 6 rfl ⟨rfl, rfl⟩ 73 rfl bw_760 dX8_holds_231 ?_
          refine j_iload_n X 7 rfl rfl dX8_holds_234 ?_
          refine gd_elim hr (fun g hr => ?_)
          refine j_iald X pk_73 pl_73 g dX8_holds_235 ?_
          refine j_iload X 1 rfl dX8_holds_236 ?_
          refine j_iload X 5 rfl dX8_holds_238 ?_
          refine j_iload X 4 rfl dX8_holds_240 ?_
          refine bd1_elim hr (fun r40 hc41 hr => ?_)
          refine j_callVi X (As := [.int (σ.1 73 c1.toNatClampNeg), .int v10, .int c4, .int c5]) (rest := [.long v6]) mf_X8_heardOf bw_968 bw_970 bs_38 ⟨rfl, rfl⟩ ⟨Nat.le_of_ble_eq_true rfl, Nat.le_of_ble_eq_true rfl⟩ cf6 pk_68 pl_68 (c_X8_heardOf Γ.2.1 E ad  hc41) rfl rfl (Nat.le_of_ble_eq_true rfl) dX8_holds_242 ?_
          refine j_iload_n X 8 rfl rfl dX8_holds_245 ?_
          refine j_ishr X dX8_holds_246 ?_
          refine j_iconst X (v := 1) (by decide) dX8_holds_247 ?_
          refine j_iand X dX8_holds_248 ?_
          refine j_iconst X (v := 1) (by decide) dX8_holds_249 ?_
          refine j_icmp_ne X (tgt := 258) (by decide) dX8_holds_250 (fun c => ?_) (fun c => ?_)
          · have hr := (if_neg c).symm.trans hr
            refine j_lconst X (v := 0) (by decide) dX8_holds_258 ?_
            cases hr
            exact J.sub [1, 2, 4, 5, 6, 7, 8, 9] rfl hJ36
          · have hr := (if_pos c).symm.trans hr
            refine j_lload X 0 rfl dX8_holds_253 ?_
            refine j_goto X (tgt := 259) (by decide) dX8_holds_255 ?_
            cases hr
            exact J.sub [1, 2, 4, 5, 6, 7, 8, 9] rfl hJ36
set_option maxHeartbeats 4000000 in
set_option maxRecDepth 100000 in
theorem jl_X8_holds_L276 {β : Type} {Γ : Cx} {E : Ev} {ad : Nat → Nat} (X : XC Γ E rm_X8_holds cX8_holds 16 RX8)   {c8 : Int64} {c6 : Int64} {σ : Sg} {kx : Int64 → Option (β)} {r : β}  (hkx : ∀ (v10 : Int64), kx v10 = some r → J Γ E 16 ad RF 85 σ 0 0 301 [(10, .long v10), (8, .long c8), (6, .long c6), (0, .ref (ad 68))] []) : ∀ n (v12 : Int64) (v10 : Int64), m_X8_holds_L276 c8 c6 σ kx n v12 v10 = some r → J Γ E 16 ad RF 85 σ 0 0 276 [(12, .long v12), (10, .long v10), (8, .long c8), (6, .long c6), (0, .ref (ad 68))] [] := by
  intro n
  induction n with
  | zero =>
    intro v12 v10 h
    cases h
  | succ n ih =>
    intro v12 v10 h
    rw [m_X8_holds_L276.eq_2] at h
    refine j_lload X 0 rfl dX8_holds_276 ?_
    refine j_lconst X (v := 0) (by decide) dX8_holds_278 ?_
    refine j_lcmp X dX8_holds_279 ?_
    refine j_if_eq X (tgt := 301) (by decide) dX8_holds_280 (fun c => ?_) (fun c => ?_)
    · have h := (if_pos c).symm.trans h
      exact J.sub [1, 2, 3, 4] rfl (hkx v10 h)
    · have h := (if_neg c).symm.trans h
      refine j_lload X 1 rfl dX8_holds_283 ?_
      refine j_lload X 0 rfl dX8_holds_285 ?_
      refine gd_elim h (fun g h => ?_)
      refine j_lrem X g dX8_holds_287 ?_
      refine nm_elim h (fun x43 ex43 h => ?_)
      refine j_lstore X (L' := [(14, .long x43), (12, .long v12), (10, .long v10), (8, .long c8), (6, .long c6), (0, .ref (ad 68))]) ex43 (by decide) rfl dX8_holds_288 ?_
      refine j_lload X 1 rfl dX8_holds_290 ?_
      refine j_lstore X (L' := [(10, .long v12), (14, .long x43), (12, .long v12), (8, .long c8), (6, .long c6), (0, .ref (ad 68))]) rfl (by decide) rfl dX8_holds_292 ?_
      refine j_lload X 1 rfl dX8_holds_294 ?_
      refine j_lstore X (L' := [(12, .long x43), (10, .long v12), (14, .long x43), (8, .long c8), (6, .long c6), (0, .ref (ad 68))]) rfl (by decide) rfl dX8_holds_296 ?_
      refine j_goto X (tgt := 276) (by decide) dX8_holds_298 ?_
      exact J.sub [0, 1, 3, 4, 5] rfl (ih x43 v12 h)
set_option maxHeartbeats 4000000 in
set_option maxRecDepth 100000 in
theorem c_X8_holds (l : Launch) (E : Ev) (ad : Nat → Nat)   {a1 : Int32} {a2 : Int32} {a3 : Int32} {σ : Sg} {r : Int32 × Sg} (h : m_X8_holds a1 a2 a3 σ = some r) : Met l yX8_holds (wY yX8_holds cX8_holds 16 (some .int)) rm_X8_holds (va_Pc [.ref (ad 68), .int a1, .int a2, .int a3] (PreU E ad RF 85 σ)) (QcN E ad (some (.int r.1), r.2)) 0 0 (EA E) := by
  refine met_of (L0 := [(0, .ref (ad 68)), (1, .int a1), (2, .int a2), (3, .int a3)]) rfl (Nat.le_of_ble_eq_true rfl) rfl (fun Γ X Y => ?_)
  have X : XC Γ E rm_X8_holds cX8_holds 16 RX8 := X
  unfold m_X8_holds at h
  refine j_aload_n X 0 rfl rfl dX8_holds_0 ?_
  refine j_iload_n X 1 rfl rfl dX8_holds_1 ?_
  refine bd1_elim h (fun r1 hc2 h => ?_)
  refine j_callVi X (As := [.int a1]) (rest := []) mf_X8_isEar bw_1013 bw_1015 bs_44 ⟨rfl, rfl⟩ ⟨Nat.le_of_ble_eq_true rfl, Nat.le_of_ble_eq_true rfl⟩ cf6 pk_68 pl_68 (c_X8_isEar Γ.2.1 E ad  hc2) rfl rfl (Nat.le_of_ble_eq_true rfl) dX8_holds_2 ?_
  refine j_if_eq X (tgt := 28) (by decide) dX8_holds_5 (fun c => ?_) (fun c => ?_)
  · have h := (if_pos c).symm.trans h
    refine j_aload_n X 0 rfl rfl dX8_holds_28 ?_
    refine bd2_elim h (fun r3 σ4 hc5 h => ?_)
    refine j_callVi X (As := []) (rest := []) mf_X8_bad bw_859 bw_861 bs_20 ⟨rfl, rfl⟩ ⟨Nat.le_of_ble_eq_true rfl, Nat.le_of_ble_eq_true rfl⟩ cf6 pk_68 pl_68 (c_X8_bad Γ.2.1 E ad  hc5) rfl rfl (Nat.le_of_ble_eq_true rfl) dX8_holds_29 ?_
    exact j_iret X Y rfl (ret_wi h) dX8_holds_32
  · have h := (if_neg c).symm.trans h
    refine j_aload_n X 0 rfl rfl dX8_holds_8 ?_
    refine j_iload_n X 2 rfl rfl dX8_holds_9 ?_
    refine bd1_elim h (fun r6 hc7 h => ?_)
    refine j_callVi X (As := [.int a2]) (rest := []) mf_X8_isSaying bw_1037 bw_1039 bs_46 ⟨rfl, rfl⟩ ⟨Nat.le_of_ble_eq_true rfl, Nat.le_of_ble_eq_true rfl⟩ cf6 pk_68 pl_68 (c_X8_isSaying Γ.2.1 E ad  hc7) rfl rfl (Nat.le_of_ble_eq_true rfl) dX8_holds_10 ?_
    refine j_if_eq X (tgt := 28) (by decide) dX8_holds_13 (fun c => ?_) (fun c => ?_)
    · have h := (if_pos c).symm.trans h
      refine j_aload_n X 0 rfl rfl dX8_holds_28 ?_
      refine bd2_elim h (fun r8 σ9 hc10 h => ?_)
      refine j_callVi X (As := []) (rest := []) mf_X8_bad bw_859 bw_861 bs_20 ⟨rfl, rfl⟩ ⟨Nat.le_of_ble_eq_true rfl, Nat.le_of_ble_eq_true rfl⟩ cf6 pk_68 pl_68 (c_X8_bad Γ.2.1 E ad  hc10) rfl rfl (Nat.le_of_ble_eq_true rfl) dX8_holds_29 ?_
      exact j_iret X Y rfl (ret_wi h) dX8_holds_32
    · have h := (if_neg c).symm.trans h
      refine j_iload_n X 3 rfl rfl dX8_holds_16 ?_
      refine j_i2l X dX8_holds_17 ?_
      refine j_lconst X (v := 0) (by decide) dX8_holds_18 ?_
      refine j_ldc2 X (v := 10) bw_1144 dX8_holds_19 ?_
      refine bd1_elim h (fun r11 hc12 h => ?_)
      refine j_callSi X (As := [.long (Int32.toInt64 a3), .long (0 : Int64), .long (10 : Int64)]) (rest := []) mf_X8_in bw_842 bw_843 ⟨rfl, rfl⟩ ⟨Nat.le_of_ble_eq_true rfl, Nat.le_of_ble_eq_true rfl⟩ (c_X8_in Γ.2.1 E ad  hc12) rfl rfl (Nat.le_of_ble_eq_true rfl) dX8_holds_22 ?_
      refine j_if_ne X (tgt := 33) (by decide) dX8_holds_25 (fun c => ?_) (fun c => ?_)
      · have h := (if_neg c).symm.trans h
        refine j_aload_n X 0 rfl rfl dX8_holds_33 ?_
        refine j_getr X cf6 pk_68 pl_68 7 rfl ⟨rfl, rfl⟩ 74 rfl bw_761 dX8_holds_34 ?_
        refine j_iconst X (v := 5) (by decide) dX8_holds_37 ?_
        refine j_iload_n X 1 rfl rfl dX8_holds_38 ?_
        refine j_iadd X dX8_holds_39 ?_
        refine gd_elim h (fun g h => ?_)
        refine j_iald X pk_74 pl_74 g dX8_holds_40 ?_
        refine nm_elim h (fun x13 ex13 h => ?_)
        refine j_istore X (L' := [(4, .int x13), (0, .ref (ad 68)), (1, .int a1), (2, .int a2), (3, .int a3)]) ex13 (by decide) rfl dX8_holds_41 ?_
        refine j_aload_n X 1 rfl rfl dX8_holds_43 ?_
        refine j_iload X 0 rfl dX8_holds_44 ?_
        refine bd1_elim h (fun r14 hc15 h => ?_)
        refine j_callVi X (As := [.int x13]) (rest := []) mf_X8_minuteOf bw_960 bw_962 bs_36 ⟨rfl, rfl⟩ ⟨Nat.le_of_ble_eq_true rfl, Nat.le_of_ble_eq_true rfl⟩ cf6 pk_68 pl_68 (c_X8_minuteOf Γ.2.1 E ad  hc15) rfl rfl (Nat.le_of_ble_eq_true rfl) dX8_holds_46 ?_
        refine j_istore X (L' := [(5, .int r14), (4, .int x13), (0, .ref (ad 68)), (1, .int a1), (2, .int a2), (3, .int a3)]) rfl (by decide) rfl dX8_holds_49 ?_
        refine j_lconst X (v := 0) (by decide) dX8_holds_51 ?_
        refine nm_elim h (fun x16 ex16 h => ?_)
        refine j_lstore X (L' := [(6, .long x16), (5, .int r14), (4, .int x13), (0, .ref (ad 68)), (1, .int a1), (2, .int a2), (3, .int a3)]) ex16 (by decide) rfl dX8_holds_52 ?_
        refine j_lconst X (v := 1) (by decide) dX8_holds_54 ?_
        refine nm_elim h (fun x17 ex17 h => ?_)
        refine j_lstore X (L' := [(8, .long x17), (6, .long x16), (5, .int r14), (4, .int x13), (0, .ref (ad 68)), (1, .int a1), (2, .int a2), (3, .int a3)]) ex17 (by decide) rfl dX8_holds_55 ?_
        refine j_iconst X (v := 0) (by decide) dX8_holds_57 ?_
        refine nm_elim h (fun x18 ex18 h => ?_)
        refine j_istore X (L' := [(10, .int x18), (8, .long x17), (6, .long x16), (5, .int r14), (4, .int x13), (0, .ref (ad 68)), (1, .int a1), (2, .int a2), (3, .int a3)]) ex18 (by decide) rfl dX8_holds_58 ?_
        refine J.sub [0, 1, 2, 3, 4, 5, 6, 7, 8] rfl ?_
        refine jl_X8_holds_L60 X  (fun x23 h => ?_) 1000 x18 x17 h
        refine j_iconst X (v := 0) (by decide) dX8_holds_99 ?_
        refine nm_elim h (fun x24 ex24 h => ?_)
        refine j_istore X (L' := [(10, .int x24), (8, .long x23), (6, .long x16), (5, .int r14), (4, .int x13), (0, .ref (ad 68)), (1, .int a1), (2, .int a2), (3, .int a3)]) ex24 (by decide) rfl dX8_holds_100 ?_
        refine J.sub [0, 1, 2, 3, 4, 5, 6, 7, 8] rfl ?_
        refine jl_X8_holds_L102 X  (fun x42 h => ?_) 1000 x24 x16 h
        refine j_lload X 1 rfl dX8_holds_268 ?_
        refine j_lstore X (L' := [(10, .long x42), (8, .long x23), (6, .long x42), (0, .ref (ad 68))]) rfl (by decide) rfl dX8_holds_270 ?_
        refine j_lload X 1 rfl dX8_holds_272 ?_
        refine j_lstore X (L' := [(12, .long x23), (10, .long x42), (8, .long x23), (6, .long x42), (0, .ref (ad 68))]) rfl (by decide) rfl dX8_holds_274 ?_
        refine J.sub [0, 1, 2, 3, 4] rfl ?_
        refine jl_X8_holds_L276 X  (fun x44 h => ?_) 1000 x23 x42 h
        refine j_aload_n X 3 rfl rfl dX8_holds_301 ?_
        refine j_lload X 2 rfl dX8_holds_302 ?_
        refine j_lload X 0 rfl dX8_holds_304 ?_
        refine gd_elim h (fun g h => ?_)
        refine j_ldiv X g dX8_holds_306 ?_
        refine nm_elim h (fun σ45 eσ45 h => ?_)
        refine j_putl X cf6 pk_68 pl_68 22 rfl ⟨rfl, rfl⟩ rfl rfl rfl eσ45 bw_776 dX8_holds_307 ?_
        refine j_aload_n X 3 rfl rfl dX8_holds_310 ?_
        refine j_lload X 1 rfl dX8_holds_311 ?_
        refine j_lload X 0 rfl dX8_holds_313 ?_
        refine gd_elim h (fun g h => ?_)
        refine j_ldiv X g dX8_holds_315 ?_
        refine nm_elim h (fun σ46 eσ46 h => ?_)
        refine j_putl X cf6 pk_68 pl_68 23 rfl ⟨rfl, rfl⟩ rfl rfl rfl eσ46 bw_777 dX8_holds_316 ?_
        refine j_iconst X (v := 1) (by decide) dX8_holds_319 ?_
        exact j_iret X Y rfl (ret_wi h) dX8_holds_320
      · have h := (if_pos c).symm.trans h
        refine j_aload_n X 0 rfl rfl dX8_holds_28 ?_
        refine bd2_elim h (fun r47 σ48 hc49 h => ?_)
        refine j_callVi X (As := []) (rest := []) mf_X8_bad bw_859 bw_861 bs_20 ⟨rfl, rfl⟩ ⟨Nat.le_of_ble_eq_true rfl, Nat.le_of_ble_eq_true rfl⟩ cf6 pk_68 pl_68 (c_X8_bad Γ.2.1 E ad  hc49) rfl rfl (Nat.le_of_ble_eq_true rfl) dX8_holds_29 ?_
        exact j_iret X Y rfl (ret_wi h) dX8_holds_32

abbrev rm_X8_jobs : Room := { frames := 7, cells := 0, slots := 0, locals := 165 }
set_option maxHeartbeats 4000000 in
set_option maxRecDepth 100000 in
theorem jl_X8_jobs_L31 {β : Type} {Γ : Cx} {E : Ev} {ad : Nat → Nat} (X : XC Γ E rm_X8_jobs cX8_jobs 8 RX8)   {c1 : Int32} {c2 : Int32}  {kx : Sg → Option (β)} {r : β}  (hkx : ∀ (σ : Sg), kx σ = some r → J Γ E 8 ad RF 85 σ 0 0 55 [(0, .ref (ad 68)), (1, .int c1), (2, .int c2)] []) : ∀ n (v3 : Int32) (σ : Sg), m_X8_jobs_L31 c1 c2 kx n v3 σ = some r → J Γ E 8 ad RF 85 σ 0 0 31 [(3, .int v3), (0, .ref (ad 68)), (1, .int c1), (2, .int c2)] [] := by
  intro n
  induction n with
  | zero =>
    intro v3 σ h
    cases h
  | succ n ih =>
    intro v3 σ h
    rw [m_X8_jobs_L31.eq_2] at h
    refine j_iload_n X 0 rfl rfl dX8_jobs_31 ?_
    refine j_bipush X (v := 11) (by decide) dX8_jobs_32 ?_
    refine j_icmp_ge X (tgt := 55) (by decide) dX8_jobs_34 (fun c => ?_) (fun c => ?_)
    · have h := (if_pos c).symm.trans h
      exact J.sub [1, 2, 3] rfl (hkx σ h)
    · have h := (if_neg c).symm.trans h
      refine j_aload_n X 1 rfl rfl dX8_jobs_37 ?_
      refine j_getr X cf6 pk_68 pl_68 24 rfl ⟨rfl, rfl⟩ 82 rfl bw_778 dX8_jobs_38 ?_
      refine j_iload_n X 0 rfl rfl dX8_jobs_41 ?_
      refine j_aload_n X 1 rfl rfl dX8_jobs_42 ?_
      refine j_getr X cf6 pk_68 pl_68 7 rfl ⟨rfl, rfl⟩ 74 rfl bw_761 dX8_jobs_43 ?_
      refine j_iload_n X 0 rfl rfl dX8_jobs_46 ?_
      refine gd_elim h (fun g h => ?_)
      refine j_iald X pk_74 pl_74 g dX8_jobs_47 ?_
      refine gd_elim h (fun g h => ?_)
      refine nm_elim h (fun σ9 eσ9 h => ?_)
      refine j_iast X pk_82 pl_82 g eσ9 dX8_jobs_48 ?_
      refine nm_elim h (fun x10 ex10 h => ?_)
      refine j_iinc1 X (L' := [(3, .int x10), (0, .ref (ad 68)), (1, .int c1), (2, .int c2)]) 0 rfl (q := 1) (by decide) ex10 (by decide) rfl dX8_jobs_49 ?_
      refine j_goto X (tgt := 31) (by decide) dX8_jobs_52 ?_
      exact J.sub [0, 1, 2, 3] rfl (ih x10 σ9 h)
set_option maxHeartbeats 4000000 in
set_option maxRecDepth 100000 in
theorem jl_X8_jobs_L61 {β : Type} {Γ : Cx} {E : Ev} {ad : Nat → Nat} (X : XC Γ E rm_X8_jobs cX8_jobs 8 RX8)   {c2 : Int32}  {kx : Sg → Option (β)} {r : β}  (hkx : ∀ (σ : Sg), kx σ = some r → J Γ E 8 ad RF 85 σ 0 0 172 [(0, .ref (ad 68))] []) : ∀ n (v5 : Int32) (v3 : Int64) (σ : Sg), m_X8_jobs_L61 c2 kx n v5 v3 σ = some r → J Γ E 8 ad RF 85 σ 0 0 61 [(5, .int v5), (3, .long v3), (0, .ref (ad 68)), (2, .int c2)] [] := by
  intro n
  induction n with
  | zero =>
    intro v5 v3 σ h
    cases h
  | succ n ih =>
    intro v5 v3 σ h
    rw [m_X8_jobs_L61.eq_2] at h
    refine j_iload X 0 rfl dX8_jobs_61 ?_
    refine j_iload_n X 3 rfl rfl dX8_jobs_63 ?_
    refine j_icmp_ge X (tgt := 172) (by decide) dX8_jobs_64 (fun c => ?_) (fun c => ?_)
    · have h := (if_pos c).symm.trans h
      exact J.sub [2] rfl (hkx σ h)
    · have h := (if_neg c).symm.trans h
      refine j_lload_n X 1 rfl rfl dX8_jobs_67 ?_
      refine j_ldc2 X (v := 1103515245) bw_1151 dX8_jobs_68 ?_
      refine j_lmul X dX8_jobs_71 ?_
      refine j_ldc2 X (v := 12345) bw_1152 dX8_jobs_72 ?_
      refine j_ladd X dX8_jobs_75 ?_
      refine j_ldc2 X (v := 2147483648) bw_1153 dX8_jobs_76 ?_
      refine j_lrem X (by decide) dX8_jobs_79 ?_
      refine nm_elim h (fun x14 ex14 h => ?_)
      refine j_lstore_n X (L' := [(3, .long x14), (5, .int v5), (0, .ref (ad 68)), (2, .int c2)]) ex14 rfl (by decide) rfl dX8_jobs_80 ?_
      refine j_lload_n X 0 rfl rfl dX8_jobs_81 ?_
      refine j_ldc2 X (v := 65536) bw_1154 dX8_jobs_82 ?_
      refine j_ldiv X (by decide) dX8_jobs_85 ?_
      refine j_ldc2 X (v := 3) bw_857 dX8_jobs_86 ?_
      refine j_lrem X (by decide) dX8_jobs_89 ?_
      refine j_l2i X dX8_jobs_90 ?_
      refine nm_elim h (fun x15 ex15 h => ?_)
      refine j_istore X (L' := [(6, .int x15), (3, .long x14), (5, .int v5), (0, .ref (ad 68)), (2, .int c2)]) ex15 (by decide) rfl dX8_jobs_91 ?_
      refine j_lload_n X 1 rfl rfl dX8_jobs_93 ?_
      refine j_ldc2 X (v := 1048576) bw_1155 dX8_jobs_94 ?_
      refine j_ldiv X (by decide) dX8_jobs_97 ?_
      refine j_ldc2 X (v := 4) bw_1156 dX8_jobs_98 ?_
      refine j_lrem X (by decide) dX8_jobs_101 ?_
      refine j_l2i X dX8_jobs_102 ?_
      refine nm_elim h (fun x16 ex16 h => ?_)
      refine j_istore X (L' := [(7, .int x16), (6, .int x15), (3, .long x14), (5, .int v5), (0, .ref (ad 68)), (2, .int c2)]) ex16 (by decide) rfl dX8_jobs_103 ?_
      refine j_aload_n X 4 rfl rfl dX8_jobs_105 ?_
      refine j_iload X 1 rfl dX8_jobs_106 ?_
      refine bd1_elim h (fun r17 hc18 h => ?_)
      refine j_callVi X (As := [.int x15]) (rest := []) mf_X8_isEar bw_1013 bw_1015 bs_44 ⟨rfl, rfl⟩ ⟨Nat.le_of_ble_eq_true rfl, Nat.le_of_ble_eq_true rfl⟩ cf6 pk_68 pl_68 (c_X8_isEar Γ.2.1 E ad  hc18) rfl rfl (Nat.le_of_ble_eq_true rfl) dX8_jobs_108 ?_
      refine bd1_elim h (fun σ20 hr h => ?_)
      have hJ19 : J Γ E 8 ad RF 85 σ20 0 0 162 [(3, .long x14), (5, .int v5), (0, .ref (ad 68)), (2, .int c2)] [] := by
        refine j_aload_n X 2 rfl rfl dX8_jobs_162 ?_
        refine bd1_elim h (fun σ21 hc22 h => ?_)
        refine j_callVv X (As := []) (rest := []) mf_X8_goesBy bw_952 bw_954 bs_34 ⟨rfl, rfl⟩ ⟨Nat.le_of_ble_eq_true rfl, Nat.le_of_ble_eq_true rfl⟩ cf6 pk_68 pl_68 (c_X8_goesBy Γ.2.1 E ad  hc22) rfl rfl (Nat.le_of_ble_eq_true rfl) dX8_jobs_163 ?_
        refine nm_elim h (fun x23 ex23 h => ?_)
        refine j_iinc1 X (L' := [(5, .int x23), (3, .long x14), (0, .ref (ad 68)), (2, .int c2)]) 1 rfl (q := 1) (by decide) ex23 (by decide) rfl dX8_jobs_166 ?_
        refine j_goto X (tgt := 61) (by decide) dX8_jobs_169 ?_
        exact J.sub [0, 1, 2, 3] rfl (ih x23 x14 σ21 h)
      clear h
      refine j_if_eq X (tgt := 162) (by decide) dX8_jobs_111 (fun c => ?_) (fun c => ?_)
      · have hr := (if_pos c).symm.trans hr
        cases hr
        exact J.sub [2, 3, 4, 5] rfl hJ19
      · have hr := (if_neg c).symm.trans hr
        refine j_aload_n X 4 rfl rfl dX8_jobs_114 ?_
        refine j_getr X cf6 pk_68 pl_68 7 rfl ⟨rfl, rfl⟩ 74 rfl bw_761 dX8_jobs_115 ?_
        refine j_iconst X (v := 5) (by decide) dX8_jobs_118 ?_
        refine j_iload X 1 rfl dX8_jobs_119 ?_
        refine j_iadd X dX8_jobs_121 ?_
        refine j_iload X 0 rfl dX8_jobs_122 ?_
        refine gd_elim hr (fun g hr => ?_)
        refine nm_elim hr (fun σ24 eσ24 hr => ?_)
        refine j_iast X pk_74 pl_74 g eσ24 dX8_jobs_124 ?_
        refine j_aload_n X 4 rfl rfl dX8_jobs_125 ?_
        refine j_getr X cf6 pk_68 pl_68 7 rfl ⟨rfl, rfl⟩ 74 rfl bw_761 dX8_jobs_126 ?_
        refine j_iconst X (v := 1) (by decide) dX8_jobs_129 ?_
        refine j_iload X 0 rfl dX8_jobs_130 ?_
        refine j_iadd X dX8_jobs_132 ?_
        refine j_aload_n X 4 rfl rfl dX8_jobs_133 ?_
        refine j_iload X 0 rfl dX8_jobs_134 ?_
        refine bd1_elim hr (fun r25 hc26 hr => ?_)
        refine j_callVi X (As := [.int x16]) (rest := [.int ((1 : Int32) + x16), .ref (ad 74)]) mf_X8_minuteOf bw_960 bw_962 bs_36 ⟨rfl, rfl⟩ ⟨Nat.le_of_ble_eq_true rfl, Nat.le_of_ble_eq_true rfl⟩ cf6 pk_68 pl_68 (c_X8_minuteOf Γ.2.1 E ad  hc26) rfl rfl (Nat.le_of_ble_eq_true rfl) dX8_jobs_136 ?_
        refine j_iconst X (v := -1) (by decide) dX8_jobs_139 ?_
        refine bd1_elim hr (fun o28 hr hr => ?_)
        have hJ27 : J Γ E 8 ad RF 85 σ24 0 0 161 [(3, .long x14), (5, .int v5), (0, .ref (ad 68)), (2, .int c2)] [.int o28, .int ((1 : Int32) + x16), .ref (ad 74)] := by
          refine gd_elim hr (fun g hr => ?_)
          refine nm_elim hr (fun σ29 eσ29 hr => ?_)
          refine j_iast X pk_74 pl_74 g eσ29 dX8_jobs_161 ?_
          cases hr
          exact J.sub [0, 1, 2, 3] rfl hJ19
        clear hr
        refine j_icmp_ne X (tgt := 152) (by decide) dX8_jobs_140 (fun c => ?_) (fun c => ?_)
        · have hr := (if_neg c).symm.trans hr
          refine j_aload_n X 4 rfl rfl dX8_jobs_152 ?_
          refine j_getr X cf6 pk_68 pl_68 7 rfl ⟨rfl, rfl⟩ 74 rfl bw_761 dX8_jobs_153 ?_
          refine j_iconst X (v := 1) (by decide) dX8_jobs_156 ?_
          refine j_iload X 0 rfl dX8_jobs_157 ?_
          refine j_iadd X dX8_jobs_159 ?_
          refine gd_elim hr (fun g hr => ?_)
          refine j_iald X pk_74 pl_74 g dX8_jobs_160 ?_
          cases hr
          exact J.sub [2, 3, 4, 5] rfl hJ27
        · have hr := (if_pos c).symm.trans hr
          refine j_aload_n X 4 rfl rfl dX8_jobs_143 ?_
          refine j_getr X cf6 pk_68 pl_68 7 rfl ⟨rfl, rfl⟩ 74 rfl bw_761 dX8_jobs_144 ?_
          refine j_iconst X (v := 0) (by decide) dX8_jobs_147 ?_
          refine gd_elim hr (fun g hr => ?_)
          refine j_iald X pk_74 pl_74 g dX8_jobs_148 ?_
          refine j_goto X (tgt := 161) (by decide) dX8_jobs_149 ?_
          cases hr
          exact J.sub [2, 3, 4, 5] rfl hJ27
set_option maxHeartbeats 4000000 in
set_option maxRecDepth 100000 in
theorem jl_X8_jobs_L181 {Γ : Cx} {E : Ev} {ad : Nat → Nat} (X : XC Γ E rm_X8_jobs cX8_jobs 8 RX8)   {c5 : Int32}  {kx : Sg → Option (Int32 × Sg)} {r : Int32 × Sg} (Y : XQ Γ E ad (some .int) (some (.int r.1), r.2))  : ∀ n (v6 : Int32) (σ : Sg), m_X8_jobs_L181 c5 kx n v6 σ = some r → J Γ E 8 ad RF 85 σ 0 0 181 [(6, .int v6), (5, .int c5), (0, .ref (ad 68))] [] := by
  intro n
  induction n with
  | zero =>
    intro v6 σ h
    cases h
  | succ n ih =>
    intro v6 σ h
    rw [m_X8_jobs_L181.eq_2] at h
    refine j_iload X 0 rfl dX8_jobs_181 ?_
    refine j_bipush X (v := 11) (by decide) dX8_jobs_183 ?_
    refine j_icmp_ge X (tgt := 208) (by decide) dX8_jobs_185 (fun c => ?_) (fun c => ?_)
    · have h := (if_pos c).symm.trans h
      refine j_iload X 1 rfl dX8_jobs_208 ?_
      exact j_iret X Y rfl (ret_wi h) dX8_jobs_210
    · have h := (if_neg c).symm.trans h
      refine j_aload_n X 2 rfl rfl dX8_jobs_188 ?_
      refine j_getr X cf6 pk_68 pl_68 7 rfl ⟨rfl, rfl⟩ 74 rfl bw_761 dX8_jobs_189 ?_
      refine j_iload X 0 rfl dX8_jobs_192 ?_
      refine j_aload_n X 2 rfl rfl dX8_jobs_194 ?_
      refine j_getr X cf6 pk_68 pl_68 24 rfl ⟨rfl, rfl⟩ 82 rfl bw_778 dX8_jobs_195 ?_
      refine j_iload X 0 rfl dX8_jobs_198 ?_
      refine gd_elim h (fun g h => ?_)
      refine j_iald X pk_82 pl_82 g dX8_jobs_200 ?_
      refine gd_elim h (fun g h => ?_)
      refine nm_elim h (fun σ34 eσ34 h => ?_)
      refine j_iast X pk_74 pl_74 g eσ34 dX8_jobs_201 ?_
      refine nm_elim h (fun x35 ex35 h => ?_)
      refine j_iinc1 X (L' := [(6, .int x35), (5, .int c5), (0, .ref (ad 68))]) 0 rfl (q := 1) (by decide) ex35 (by decide) rfl dX8_jobs_202 ?_
      refine j_goto X (tgt := 181) (by decide) dX8_jobs_205 ?_
      exact J.sub [0, 1, 2] rfl (ih x35 σ34 h)
set_option maxHeartbeats 4000000 in
set_option maxRecDepth 100000 in
theorem c_X8_jobs (l : Launch) (E : Ev) (ad : Nat → Nat)   {a1 : Int32} {a2 : Int32} {σ : Sg} {r : Int32 × Sg} (h : m_X8_jobs a1 a2 σ = some r) : Met l yX8_jobs (wY yX8_jobs cX8_jobs 8 (some .int)) rm_X8_jobs (va_Pc [.ref (ad 68), .int a1, .int a2] (PreU E ad RF 85 σ)) (QcN E ad (some (.int r.1), r.2)) 0 0 (EA E) := by
  refine met_of (L0 := [(0, .ref (ad 68)), (1, .int a1), (2, .int a2)]) rfl (Nat.le_of_ble_eq_true rfl) rfl (fun Γ X Y => ?_)
  have X : XC Γ E rm_X8_jobs cX8_jobs 8 RX8 := X
  unfold m_X8_jobs at h
  refine j_iload_n X 1 rfl rfl dX8_jobs_0 ?_
  refine j_i2l X dX8_jobs_1 ?_
  refine j_lconst X (v := 0) (by decide) dX8_jobs_2 ?_
  refine j_ldc2 X (v := 999999) bw_1149 dX8_jobs_3 ?_
  refine bd1_elim h (fun r1 hc2 h => ?_)
  refine j_callSi X (As := [.long (Int32.toInt64 a1), .long (0 : Int64), .long (999999 : Int64)]) (rest := []) mf_X8_in bw_842 bw_843 ⟨rfl, rfl⟩ ⟨Nat.le_of_ble_eq_true rfl, Nat.le_of_ble_eq_true rfl⟩ (c_X8_in Γ.2.1 E ad  hc2) rfl rfl (Nat.le_of_ble_eq_true rfl) dX8_jobs_6 ?_
  refine j_if_eq X (tgt := 24) (by decide) dX8_jobs_9 (fun c => ?_) (fun c => ?_)
  · have h := (if_pos c).symm.trans h
    refine j_aload_n X 0 rfl rfl dX8_jobs_24 ?_
    refine bd2_elim h (fun r3 σ4 hc5 h => ?_)
    refine j_callVi X (As := []) (rest := []) mf_X8_bad bw_859 bw_861 bs_20 ⟨rfl, rfl⟩ ⟨Nat.le_of_ble_eq_true rfl, Nat.le_of_ble_eq_true rfl⟩ cf6 pk_68 pl_68 (c_X8_bad Γ.2.1 E ad  hc5) rfl rfl (Nat.le_of_ble_eq_true rfl) dX8_jobs_25 ?_
    exact j_iret X Y rfl (ret_wi h) dX8_jobs_28
  · have h := (if_neg c).symm.trans h
    refine j_iload_n X 2 rfl rfl dX8_jobs_12 ?_
    refine j_i2l X dX8_jobs_13 ?_
    refine j_lconst X (v := 0) (by decide) dX8_jobs_14 ?_
    refine j_ldc2 X (v := 60) bw_1150 dX8_jobs_15 ?_
    refine bd1_elim h (fun r6 hc7 h => ?_)
    refine j_callSi X (As := [.long (Int32.toInt64 a2), .long (0 : Int64), .long (60 : Int64)]) (rest := []) mf_X8_in bw_842 bw_843 ⟨rfl, rfl⟩ ⟨Nat.le_of_ble_eq_true rfl, Nat.le_of_ble_eq_true rfl⟩ (c_X8_in Γ.2.1 E ad  hc7) rfl rfl (Nat.le_of_ble_eq_true rfl) dX8_jobs_18 ?_
    refine j_if_ne X (tgt := 29) (by decide) dX8_jobs_21 (fun c => ?_) (fun c => ?_)
    · have h := (if_neg c).symm.trans h
      refine j_iconst X (v := 0) (by decide) dX8_jobs_29 ?_
      refine nm_elim h (fun x8 ex8 h => ?_)
      refine j_istore_n X (L' := [(3, .int x8), (0, .ref (ad 68)), (1, .int a1), (2, .int a2)]) ex8 rfl (by decide) rfl dX8_jobs_30 ?_
      refine J.sub [0, 1, 2, 3] rfl ?_
      refine jl_X8_jobs_L31 X  (fun σ11 h => ?_) 1000 x8 σ h
      refine j_iload_n X 1 rfl rfl dX8_jobs_55 ?_
      refine j_i2l X dX8_jobs_56 ?_
      refine nm_elim h (fun x12 ex12 h => ?_)
      refine j_lstore_n X (L' := [(3, .long x12), (0, .ref (ad 68)), (1, .int a1), (2, .int a2)]) ex12 rfl (by decide) rfl dX8_jobs_57 ?_
      refine j_iconst X (v := 0) (by decide) dX8_jobs_58 ?_
      refine nm_elim h (fun x13 ex13 h => ?_)
      refine j_istore X (L' := [(5, .int x13), (3, .long x12), (0, .ref (ad 68)), (1, .int a1), (2, .int a2)]) ex13 (by decide) rfl dX8_jobs_59 ?_
      refine J.sub [0, 1, 2, 4] rfl ?_
      refine jl_X8_jobs_L61 X  (fun σ30 h => ?_) 1000 x13 x12 σ11 h
      refine j_aload_n X 0 rfl rfl dX8_jobs_172 ?_
      refine bd1_elim h (fun r31 hc32 h => ?_)
      refine j_callVi X (As := []) (rest := []) mf_X8_knownByAll bw_1022 bw_1024 bs_45 ⟨rfl, rfl⟩ ⟨Nat.le_of_ble_eq_true rfl, Nat.le_of_ble_eq_true rfl⟩ cf6 pk_68 pl_68 (c_X8_knownByAll Γ.2.1 E ad  hc32) rfl rfl (Nat.le_of_ble_eq_true rfl) dX8_jobs_173 ?_
      refine j_istore X (L' := [(5, .int r31), (0, .ref (ad 68))]) rfl (by decide) rfl dX8_jobs_176 ?_
      refine j_iconst X (v := 0) (by decide) dX8_jobs_178 ?_
      refine nm_elim h (fun x33 ex33 h => ?_)
      refine j_istore X (L' := [(6, .int x33), (5, .int r31), (0, .ref (ad 68))]) ex33 (by decide) rfl dX8_jobs_179 ?_
      refine J.sub [0, 1, 2] rfl ?_
      exact jl_X8_jobs_L181 X  Y 1000 x33 σ30 h
    · have h := (if_pos c).symm.trans h
      refine j_aload_n X 0 rfl rfl dX8_jobs_24 ?_
      refine bd2_elim h (fun r37 σ38 hc39 h => ?_)
      refine j_callVi X (As := []) (rest := []) mf_X8_bad bw_859 bw_861 bs_20 ⟨rfl, rfl⟩ ⟨Nat.le_of_ble_eq_true rfl, Nat.le_of_ble_eq_true rfl⟩ cf6 pk_68 pl_68 (c_X8_bad Γ.2.1 E ad  hc39) rfl rfl (Nat.le_of_ble_eq_true rfl) dX8_jobs_25 ?_
      exact j_iret X Y rfl (ret_wi h) dX8_jobs_28

abbrev rm_X8_part : Room := { frames := 1, cells := 0, slots := 0, locals := 20 }
set_option maxHeartbeats 4000000 in
set_option maxRecDepth 100000 in
theorem c_X8_part (l : Launch) (E : Ev) (ad : Nat → Nat)   {a1 : Int32} {σ : Sg} {r : Int64 × Sg} (h : m_X8_part a1 σ = some r) : Met l yX8_part (wY yX8_part cX8_part 2 (some .long)) rm_X8_part (va_Pc [.ref (ad 68), .int a1] (PreU E ad RF 85 σ)) (QcN E ad (some (.long r.1), r.2)) 0 0 (EA E) := by
  refine met_of (L0 := [(0, .ref (ad 68)), (1, .int a1)]) rfl (Nat.le_of_ble_eq_true rfl) rfl (fun Γ X Y => ?_)
  have X : XC Γ E rm_X8_part cX8_part 2 RX8 := X
  unfold m_X8_part at h
  refine j_iload_n X 1 rfl rfl dX8_part_0 ?_
  refine j_if_ne X (tgt := 11) (by decide) dX8_part_1 (fun c => ?_) (fun c => ?_)
  · have h := (if_neg c).symm.trans h
    refine j_iload_n X 1 rfl rfl dX8_part_11 ?_
    refine j_iconst X (v := 1) (by decide) dX8_part_12 ?_
    refine j_icmp_ne X (tgt := 23) (by decide) dX8_part_13 (fun c => ?_) (fun c => ?_)
    · have h := (if_neg c).symm.trans h
      refine j_aload_n X 0 rfl rfl dX8_part_23 ?_
      refine bd2_elim h (fun r1 σ2 hc3 h => ?_)
      refine j_callVi X (As := []) (rest := []) mf_X8_bad bw_859 bw_861 bs_20 ⟨rfl, rfl⟩ ⟨Nat.le_of_ble_eq_true rfl, Nat.le_of_ble_eq_true rfl⟩ cf6 pk_68 pl_68 (c_X8_bad Γ.2.1 E ad  hc3) rfl rfl (Nat.le_of_ble_eq_true rfl) dX8_part_24 ?_
      refine j_i2l X dX8_part_27 ?_
      exact j_lret X Y (ret_wl h) dX8_part_28
    · have h := (if_pos c).symm.trans h
      refine j_aload_n X 0 rfl rfl dX8_part_16 ?_
      refine j_getl X cf6 pk_68 pl_68 23 rfl ⟨rfl, rfl⟩ bw_777 dX8_part_17 ?_
      refine j_goto X (tgt := 28) (by decide) dX8_part_20 ?_
      exact j_lret X Y (ret_wl h) dX8_part_28
  · have h := (if_pos c).symm.trans h
    refine j_aload_n X 0 rfl rfl dX8_part_4 ?_
    refine j_getl X cf6 pk_68 pl_68 22 rfl ⟨rfl, rfl⟩ bw_776 dX8_part_5 ?_
    refine j_goto X (tgt := 28) (by decide) dX8_part_8 ?_
    exact j_lret X Y (ret_wl h) dX8_part_28

abbrev rm_X8_moves : Room := { frames := 0, cells := 0, slots := 0, locals := 0 }
set_option maxHeartbeats 4000000 in
set_option maxRecDepth 100000 in
theorem c_X8_moves (l : Launch) (E : Ev) (ad : Nat → Nat)   {a1 : Int32} {a2 : Int32} {a3 : Int32} {σ : Sg} {r : Int32 × Sg} (h : m_X8_moves a1 a2 a3 σ = some r) : Met l yX8_moves (wY yX8_moves cX8_moves 4 (some .int)) rm_X8_moves (va_Pc [.ref (ad 68), .int a1, .int a2, .int a3] (PreU E ad RF 85 σ)) (QcN E ad (some (.int r.1), r.2)) 0 0 (EA E) := by
  refine met_of (L0 := [(0, .ref (ad 68)), (1, .int a1), (2, .int a2), (3, .int a3)]) rfl (Nat.le_of_ble_eq_true rfl) rfl (fun Γ X Y => ?_)
  have X : XC Γ E rm_X8_moves cX8_moves 4 RX8 := X
  unfold m_X8_moves at h
  refine j_aload_n X 0 rfl rfl dX8_moves_0 ?_
  refine j_getr X cf6 pk_68 pl_68 25 rfl ⟨rfl, rfl⟩ 83 rfl bw_779 dX8_moves_1 ?_
  refine j_iload_n X 2 rfl rfl dX8_moves_4 ?_
  refine j_iload_n X 1 rfl rfl dX8_moves_5 ?_
  refine bd1_elim h (fun o2 hr h => ?_)
  have hJ1 : J Γ E 4 ad RF 85 σ 0 0 19 [(0, .ref (ad 68)), (2, .int a2)] [.int o2, .int a2, .ref (ad 83)] := by
    refine gd_elim h (fun g h => ?_)
    refine nm_elim h (fun σ3 eσ3 h => ?_)
    refine j_iast X pk_83 pl_83 g eσ3 dX8_moves_19 ?_
    refine j_aload_n X 0 rfl rfl dX8_moves_20 ?_
    refine j_getr X cf6 pk_68 pl_68 25 rfl ⟨rfl, rfl⟩ 83 rfl bw_779 dX8_moves_21 ?_
    refine j_iload_n X 1 rfl rfl dX8_moves_24 ?_
    refine gd_elim h (fun g h => ?_)
    refine j_iald X pk_83 pl_83 g dX8_moves_25 ?_
    exact j_iret X Y rfl (ret_wi h) dX8_moves_26
  clear h
  refine j_if_eq X (tgt := 13) (by decide) dX8_moves_6 (fun c => ?_) (fun c => ?_)
  · have hr := (if_pos c).symm.trans hr
    refine j_aload_n X 0 rfl rfl dX8_moves_13 ?_
    refine j_getr X cf6 pk_68 pl_68 25 rfl ⟨rfl, rfl⟩ 83 rfl bw_779 dX8_moves_14 ?_
    refine j_iload_n X 2 rfl rfl dX8_moves_17 ?_
    refine gd_elim hr (fun g hr => ?_)
    refine j_iald X pk_83 pl_83 g dX8_moves_18 ?_
    cases hr
    exact J.sub [0, 2] rfl hJ1
  · have hr := (if_neg c).symm.trans hr
    refine j_iload_n X 3 rfl rfl dX8_moves_9 ?_
    refine j_goto X (tgt := 19) (by decide) dX8_moves_10 ?_
    cases hr
    exact J.sub [0, 2] rfl hJ1

abbrev rm_X8_moveRow : Room := { frames := 1, cells := 0, slots := 0, locals := 23 }
set_option maxHeartbeats 4000000 in
set_option maxRecDepth 100000 in
theorem jl_X8_moveRow_L3 {Γ : Cx} {E : Ev} {ad : Nat → Nat} (X : XC Γ E rm_X8_moveRow cX8_moveRow 6 RX8) {k3 : Nat} (hl3 : lay k3 = 7) {c1 : Int32} {c2 : Int32} {c4 : Int32}  {kx : Sg → Option (Sg)} {r : Sg} (Y : XQ Γ E ad none (none, r))  : ∀ n (v5 : Int32) (σ : Sg), m_X8_moveRow_L3 k3 c1 c2 c4 kx n v5 σ = some r → J Γ E 6 ad RF 85 σ 0 0 3 [(5, .int v5), (0, .ref (ad 68)), (1, .int c1), (2, .int c2), (3, .ref (ad k3)), (4, .int c4)] [] := by
  intro n
  induction n with
  | zero =>
    intro v5 σ h
    cases h
  | succ n ih =>
    intro v5 σ h
    rw [m_X8_moveRow_L3.eq_2] at h
    refine j_iload X 0 rfl dX8_moveRow_3 ?_
    refine j_iload X 5 rfl dX8_moveRow_5 ?_
    refine j_icmp_ge X (tgt := 33) (by decide) dX8_moveRow_7 (fun c => ?_) (fun c => ?_)
    · have h := (if_pos c).symm.trans h
      exact j_vret X Y (ret_wv h) dX8_moveRow_33
    · have h := (if_neg c).symm.trans h
      refine j_aload_n X 4 rfl rfl dX8_moveRow_10 ?_
      refine j_iload X 0 rfl dX8_moveRow_11 ?_
      refine j_aload_n X 1 rfl rfl dX8_moveRow_13 ?_
      refine j_iload_n X 2 rfl rfl dX8_moveRow_14 ?_
      refine j_iload_n X 3 rfl rfl dX8_moveRow_15 ?_
      refine j_iload X 0 rfl dX8_moveRow_16 ?_
      refine j_iadd X dX8_moveRow_18 ?_
      refine j_aload_n X 4 rfl rfl dX8_moveRow_19 ?_
      refine j_iload X 0 rfl dX8_moveRow_20 ?_
      refine gd_elim h (fun g h => ?_)
      refine j_iald X (lay_lt hl3 (by decide)) hl3 g dX8_moveRow_22 ?_
      refine bd2_elim h (fun r2 σ3 hc4 h => ?_)
      refine j_callVi X (As := [.int c1, .int (c2 + v5), .int (σ.1 k3 v5.toNatClampNeg)]) (rest := [.int v5, .ref (ad k3)]) mf_X8_moves bw_1169 bw_1171 bs_55 ⟨rfl, rfl⟩ ⟨Nat.le_of_ble_eq_true rfl, Nat.le_of_ble_eq_true rfl⟩ cf6 pk_68 pl_68 (c_X8_moves Γ.2.1 E ad  hc4) rfl rfl (Nat.le_of_ble_eq_true rfl) dX8_moveRow_23 ?_
      refine gd_elim h (fun g h => ?_)
      refine nm_elim h (fun σ5 eσ5 h => ?_)
      refine j_iast X (lay_lt hl3 (by decide)) hl3 g eσ5 dX8_moveRow_26 ?_
      refine nm_elim h (fun x6 ex6 h => ?_)
      refine j_iinc1 X (L' := [(5, .int x6), (0, .ref (ad 68)), (1, .int c1), (2, .int c2), (3, .ref (ad k3)), (4, .int c4)]) 0 rfl (q := 1) (by decide) ex6 (by decide) rfl dX8_moveRow_27 ?_
      refine j_goto X (tgt := 3) (by decide) dX8_moveRow_30 ?_
      exact J.sub [0, 1, 2, 3, 4, 5] rfl (ih x6 σ5 h)
set_option maxHeartbeats 4000000 in
set_option maxRecDepth 100000 in
theorem c_X8_moveRow (l : Launch) (E : Ev) (ad : Nat → Nat) {k3 : Nat} (hl3 : lay k3 = 7) {a1 : Int32} {a2 : Int32} {a4 : Int32} {σ : Sg} {r : Sg} (h : m_X8_moveRow a1 a2 k3 a4 σ = some r) : Met l yX8_moveRow (wY yX8_moveRow cX8_moveRow 6 none) rm_X8_moveRow (va_Pc [.ref (ad 68), .int a1, .int a2, .ref (ad k3), .int a4] (PreU E ad RF 85 σ)) (QcN E ad (none, r)) 0 0 (EA E) := by
  refine met_of (L0 := [(0, .ref (ad 68)), (1, .int a1), (2, .int a2), (3, .ref (ad k3)), (4, .int a4)]) rfl (Nat.le_of_ble_eq_true rfl) rfl (fun Γ X Y => ?_)
  have X : XC Γ E rm_X8_moveRow cX8_moveRow 6 RX8 := X
  unfold m_X8_moveRow at h
  refine j_iconst X (v := 0) (by decide) dX8_moveRow_0 ?_
  refine nm_elim h (fun x1 ex1 h => ?_)
  refine j_istore X (L' := [(5, .int x1), (0, .ref (ad 68)), (1, .int a1), (2, .int a2), (3, .ref (ad k3)), (4, .int a4)]) ex1 (by decide) rfl dX8_moveRow_1 ?_
  refine J.sub [0, 1, 2, 3, 4, 5] rfl ?_
  exact jl_X8_moveRow_L3 X hl3 Y 1000 x1 σ h

abbrev rm_X8_moveAll : Room := { frames := 2, cells := 0, slots := 0, locals := 48 }
set_option maxHeartbeats 4000000 in
set_option maxRecDepth 100000 in
theorem c_X8_moveAll (l : Launch) (E : Ev) (ad : Nat → Nat)   {a1 : Int32} {a2 : Int32} {σ : Sg} {r : Sg} (h : m_X8_moveAll a1 a2 σ = some r) : Met l yX8_moveAll (wY yX8_moveAll cX8_moveAll 3 none) rm_X8_moveAll (va_Pc [.ref (ad 68), .int a1, .int a2] (PreU E ad RF 85 σ)) (QcN E ad (none, r)) 0 0 (EA E) := by
  refine met_of (L0 := [(0, .ref (ad 68)), (1, .int a1), (2, .int a2)]) rfl (Nat.le_of_ble_eq_true rfl) rfl (fun Γ X Y => ?_)
  have X : XC Γ E rm_X8_moveAll cX8_moveAll 3 RX8 := X
  unfold m_X8_moveAll at h
  refine j_aload_n X 0 rfl rfl dX8_moveAll_0 ?_
  refine j_aload_n X 0 rfl rfl dX8_moveAll_1 ?_
  refine j_iload_n X 1 rfl rfl dX8_moveAll_2 ?_
  refine j_iload_n X 2 rfl rfl dX8_moveAll_3 ?_
  refine j_aload_n X 0 rfl rfl dX8_moveAll_4 ?_
  refine j_geti X cf6 pk_68 pl_68 1 rfl ⟨rfl, rfl⟩ bw_755 dX8_moveAll_5 ?_
  refine bd2_elim h (fun r1 σ2 hc3 h => ?_)
  refine j_callVi X (As := [.int a1, .int a2, .int (σ.1 68 1)]) (rest := [.ref (ad 68)]) mf_X8_moves bw_1169 bw_1171 bs_55 ⟨rfl, rfl⟩ ⟨Nat.le_of_ble_eq_true rfl, Nat.le_of_ble_eq_true rfl⟩ cf6 pk_68 pl_68 (c_X8_moves Γ.2.1 E ad  hc3) rfl rfl (Nat.le_of_ble_eq_true rfl) dX8_moveAll_8 ?_
  refine nm_elim h (fun σ4 eσ4 h => ?_)
  refine j_puti X cf6 pk_68 pl_68 1 rfl ⟨rfl, rfl⟩ (.inl rfl) rfl rfl eσ4 bw_755 dX8_moveAll_11 ?_
  refine j_aload_n X 0 rfl rfl dX8_moveAll_14 ?_
  refine j_aload_n X 0 rfl rfl dX8_moveAll_15 ?_
  refine j_iload_n X 1 rfl rfl dX8_moveAll_16 ?_
  refine j_iload_n X 2 rfl rfl dX8_moveAll_17 ?_
  refine j_iconst X (v := 1) (by decide) dX8_moveAll_18 ?_
  refine j_iadd X dX8_moveAll_19 ?_
  refine j_aload_n X 0 rfl rfl dX8_moveAll_20 ?_
  refine j_geti X cf6 pk_68 pl_68 5 rfl ⟨rfl, rfl⟩ bw_759 dX8_moveAll_21 ?_
  refine bd2_elim h (fun r5 σ6 hc7 h => ?_)
  refine j_callVi X (As := [.int a1, .int (a2 + (1 : Int32)), .int (σ4.1 68 5)]) (rest := [.ref (ad 68)]) mf_X8_moves bw_1169 bw_1171 bs_55 ⟨rfl, rfl⟩ ⟨Nat.le_of_ble_eq_true rfl, Nat.le_of_ble_eq_true rfl⟩ cf6 pk_68 pl_68 (c_X8_moves Γ.2.1 E ad  hc7) rfl rfl (Nat.le_of_ble_eq_true rfl) dX8_moveAll_24 ?_
  refine nm_elim h (fun σ8 eσ8 h => ?_)
  refine j_puti X cf6 pk_68 pl_68 5 rfl ⟨rfl, rfl⟩ (.inl rfl) rfl rfl eσ8 bw_759 dX8_moveAll_27 ?_
  refine j_aload_n X 0 rfl rfl dX8_moveAll_30 ?_
  refine j_aload_n X 0 rfl rfl dX8_moveAll_31 ?_
  refine j_iload_n X 1 rfl rfl dX8_moveAll_32 ?_
  refine j_iload_n X 2 rfl rfl dX8_moveAll_33 ?_
  refine j_iconst X (v := 2) (by decide) dX8_moveAll_34 ?_
  refine j_iadd X dX8_moveAll_35 ?_
  refine j_aload_n X 0 rfl rfl dX8_moveAll_36 ?_
  refine j_geti X cf6 pk_68 pl_68 16 rfl ⟨rfl, rfl⟩ bw_770 dX8_moveAll_37 ?_
  refine bd2_elim h (fun r9 σ10 hc11 h => ?_)
  refine j_callVi X (As := [.int a1, .int (a2 + (2 : Int32)), .int (σ8.1 68 16)]) (rest := [.ref (ad 68)]) mf_X8_moves bw_1169 bw_1171 bs_55 ⟨rfl, rfl⟩ ⟨Nat.le_of_ble_eq_true rfl, Nat.le_of_ble_eq_true rfl⟩ cf6 pk_68 pl_68 (c_X8_moves Γ.2.1 E ad  hc11) rfl rfl (Nat.le_of_ble_eq_true rfl) dX8_moveAll_40 ?_
  refine nm_elim h (fun σ12 eσ12 h => ?_)
  refine j_puti X cf6 pk_68 pl_68 16 rfl ⟨rfl, rfl⟩ (.inl rfl) rfl rfl eσ12 bw_770 dX8_moveAll_43 ?_
  refine j_aload_n X 0 rfl rfl dX8_moveAll_46 ?_
  refine j_aload_n X 0 rfl rfl dX8_moveAll_47 ?_
  refine j_iload_n X 1 rfl rfl dX8_moveAll_48 ?_
  refine j_iload_n X 2 rfl rfl dX8_moveAll_49 ?_
  refine j_iconst X (v := 3) (by decide) dX8_moveAll_50 ?_
  refine j_iadd X dX8_moveAll_51 ?_
  refine j_aload_n X 0 rfl rfl dX8_moveAll_52 ?_
  refine j_geti X cf6 pk_68 pl_68 18 rfl ⟨rfl, rfl⟩ bw_772 dX8_moveAll_53 ?_
  refine bd2_elim h (fun r13 σ14 hc15 h => ?_)
  refine j_callVi X (As := [.int a1, .int (a2 + (3 : Int32)), .int (σ12.1 68 18)]) (rest := [.ref (ad 68)]) mf_X8_moves bw_1169 bw_1171 bs_55 ⟨rfl, rfl⟩ ⟨Nat.le_of_ble_eq_true rfl, Nat.le_of_ble_eq_true rfl⟩ cf6 pk_68 pl_68 (c_X8_moves Γ.2.1 E ad  hc15) rfl rfl (Nat.le_of_ble_eq_true rfl) dX8_moveAll_56 ?_
  refine nm_elim h (fun σ16 eσ16 h => ?_)
  refine j_puti X cf6 pk_68 pl_68 18 rfl ⟨rfl, rfl⟩ (.inl rfl) rfl rfl eσ16 bw_772 dX8_moveAll_59 ?_
  refine j_aload_n X 0 rfl rfl dX8_moveAll_62 ?_
  refine j_aload_n X 0 rfl rfl dX8_moveAll_63 ?_
  refine j_iload_n X 1 rfl rfl dX8_moveAll_64 ?_
  refine j_iload_n X 2 rfl rfl dX8_moveAll_65 ?_
  refine j_iconst X (v := 4) (by decide) dX8_moveAll_66 ?_
  refine j_iadd X dX8_moveAll_67 ?_
  refine j_aload_n X 0 rfl rfl dX8_moveAll_68 ?_
  refine j_geti X cf6 pk_68 pl_68 20 rfl ⟨rfl, rfl⟩ bw_774 dX8_moveAll_69 ?_
  refine bd2_elim h (fun r17 σ18 hc19 h => ?_)
  refine j_callVi X (As := [.int a1, .int (a2 + (4 : Int32)), .int (σ16.1 68 20)]) (rest := [.ref (ad 68)]) mf_X8_moves bw_1169 bw_1171 bs_55 ⟨rfl, rfl⟩ ⟨Nat.le_of_ble_eq_true rfl, Nat.le_of_ble_eq_true rfl⟩ cf6 pk_68 pl_68 (c_X8_moves Γ.2.1 E ad  hc19) rfl rfl (Nat.le_of_ble_eq_true rfl) dX8_moveAll_72 ?_
  refine nm_elim h (fun σ20 eσ20 h => ?_)
  refine j_puti X cf6 pk_68 pl_68 20 rfl ⟨rfl, rfl⟩ (.inl rfl) rfl rfl eσ20 bw_774 dX8_moveAll_75 ?_
  refine j_aload_n X 0 rfl rfl dX8_moveAll_78 ?_
  refine j_aload_n X 0 rfl rfl dX8_moveAll_79 ?_
  refine j_iload_n X 1 rfl rfl dX8_moveAll_80 ?_
  refine j_iload_n X 2 rfl rfl dX8_moveAll_81 ?_
  refine j_iconst X (v := 5) (by decide) dX8_moveAll_82 ?_
  refine j_iadd X dX8_moveAll_83 ?_
  refine j_aload_n X 0 rfl rfl dX8_moveAll_84 ?_
  refine j_geti X cf6 pk_68 pl_68 14 rfl ⟨rfl, rfl⟩ bw_768 dX8_moveAll_85 ?_
  refine bd2_elim h (fun r21 σ22 hc23 h => ?_)
  refine j_callVi X (As := [.int a1, .int (a2 + (5 : Int32)), .int (σ20.1 68 14)]) (rest := [.ref (ad 68)]) mf_X8_moves bw_1169 bw_1171 bs_55 ⟨rfl, rfl⟩ ⟨Nat.le_of_ble_eq_true rfl, Nat.le_of_ble_eq_true rfl⟩ cf6 pk_68 pl_68 (c_X8_moves Γ.2.1 E ad  hc23) rfl rfl (Nat.le_of_ble_eq_true rfl) dX8_moveAll_88 ?_
  refine nm_elim h (fun σ24 eσ24 h => ?_)
  refine j_puti X cf6 pk_68 pl_68 14 rfl ⟨rfl, rfl⟩ (.inl rfl) rfl rfl eσ24 bw_768 dX8_moveAll_91 ?_
  refine j_aload_n X 0 rfl rfl dX8_moveAll_94 ?_
  refine j_iload_n X 1 rfl rfl dX8_moveAll_95 ?_
  refine j_iload_n X 2 rfl rfl dX8_moveAll_96 ?_
  refine j_bipush X (v := 6) (by decide) dX8_moveAll_97 ?_
  refine j_iadd X dX8_moveAll_99 ?_
  refine j_aload_n X 0 rfl rfl dX8_moveAll_100 ?_
  refine j_getr X cf6 pk_68 pl_68 2 rfl ⟨rfl, rfl⟩ 70 rfl bw_756 dX8_moveAll_101 ?_
  refine j_bipush X (v := 8) (by decide) dX8_moveAll_104 ?_
  refine bd1_elim h (fun σ25 hc26 h => ?_)
  refine j_callVv X (As := [.int a1, .int (a2 + (6 : Int32)), .ref (ad 70), .int (8 : Int32)]) (rest := []) mf_X8_moveRow bw_1173 bw_1175 bs_56 ⟨rfl, rfl⟩ ⟨Nat.le_of_ble_eq_true rfl, Nat.le_of_ble_eq_true rfl⟩ cf6 pk_68 pl_68 (c_X8_moveRow Γ.2.1 E ad pl_70 hc26) rfl rfl (Nat.le_of_ble_eq_true rfl) dX8_moveAll_106 ?_
  refine j_aload_n X 0 rfl rfl dX8_moveAll_109 ?_
  refine j_iload_n X 1 rfl rfl dX8_moveAll_110 ?_
  refine j_iload_n X 2 rfl rfl dX8_moveAll_111 ?_
  refine j_bipush X (v := 14) (by decide) dX8_moveAll_112 ?_
  refine j_iadd X dX8_moveAll_114 ?_
  refine j_aload_n X 0 rfl rfl dX8_moveAll_115 ?_
  refine j_getr X cf6 pk_68 pl_68 3 rfl ⟨rfl, rfl⟩ 71 rfl bw_757 dX8_moveAll_116 ?_
  refine j_bipush X (v := 8) (by decide) dX8_moveAll_119 ?_
  refine bd1_elim h (fun σ27 hc28 h => ?_)
  refine j_callVv X (As := [.int a1, .int (a2 + (14 : Int32)), .ref (ad 71), .int (8 : Int32)]) (rest := []) mf_X8_moveRow bw_1173 bw_1175 bs_56 ⟨rfl, rfl⟩ ⟨Nat.le_of_ble_eq_true rfl, Nat.le_of_ble_eq_true rfl⟩ cf6 pk_68 pl_68 (c_X8_moveRow Γ.2.1 E ad pl_71 hc28) rfl rfl (Nat.le_of_ble_eq_true rfl) dX8_moveAll_121 ?_
  refine j_aload_n X 0 rfl rfl dX8_moveAll_124 ?_
  refine j_iload_n X 1 rfl rfl dX8_moveAll_125 ?_
  refine j_iload_n X 2 rfl rfl dX8_moveAll_126 ?_
  refine j_bipush X (v := 22) (by decide) dX8_moveAll_127 ?_
  refine j_iadd X dX8_moveAll_129 ?_
  refine j_aload_n X 0 rfl rfl dX8_moveAll_130 ?_
  refine j_getr X cf6 pk_68 pl_68 4 rfl ⟨rfl, rfl⟩ 72 rfl bw_758 dX8_moveAll_131 ?_
  refine j_bipush X (v := 8) (by decide) dX8_moveAll_134 ?_
  refine bd1_elim h (fun σ29 hc30 h => ?_)
  refine j_callVv X (As := [.int a1, .int (a2 + (22 : Int32)), .ref (ad 72), .int (8 : Int32)]) (rest := []) mf_X8_moveRow bw_1173 bw_1175 bs_56 ⟨rfl, rfl⟩ ⟨Nat.le_of_ble_eq_true rfl, Nat.le_of_ble_eq_true rfl⟩ cf6 pk_68 pl_68 (c_X8_moveRow Γ.2.1 E ad pl_72 hc30) rfl rfl (Nat.le_of_ble_eq_true rfl) dX8_moveAll_136 ?_
  refine j_aload_n X 0 rfl rfl dX8_moveAll_139 ?_
  refine j_iload_n X 1 rfl rfl dX8_moveAll_140 ?_
  refine j_iload_n X 2 rfl rfl dX8_moveAll_141 ?_
  refine j_bipush X (v := 30) (by decide) dX8_moveAll_142 ?_
  refine j_iadd X dX8_moveAll_144 ?_
  refine j_aload_n X 0 rfl rfl dX8_moveAll_145 ?_
  refine j_getr X cf6 pk_68 pl_68 6 rfl ⟨rfl, rfl⟩ 73 rfl bw_760 dX8_moveAll_146 ?_
  refine j_iconst X (v := 3) (by decide) dX8_moveAll_149 ?_
  refine bd1_elim h (fun σ31 hc32 h => ?_)
  refine j_callVv X (As := [.int a1, .int (a2 + (30 : Int32)), .ref (ad 73), .int (3 : Int32)]) (rest := []) mf_X8_moveRow bw_1173 bw_1175 bs_56 ⟨rfl, rfl⟩ ⟨Nat.le_of_ble_eq_true rfl, Nat.le_of_ble_eq_true rfl⟩ cf6 pk_68 pl_68 (c_X8_moveRow Γ.2.1 E ad pl_73 hc32) rfl rfl (Nat.le_of_ble_eq_true rfl) dX8_moveAll_150 ?_
  refine j_aload_n X 0 rfl rfl dX8_moveAll_153 ?_
  refine j_iload_n X 1 rfl rfl dX8_moveAll_154 ?_
  refine j_iload_n X 2 rfl rfl dX8_moveAll_155 ?_
  refine j_bipush X (v := 33) (by decide) dX8_moveAll_156 ?_
  refine j_iadd X dX8_moveAll_158 ?_
  refine j_aload_n X 0 rfl rfl dX8_moveAll_159 ?_
  refine j_getr X cf6 pk_68 pl_68 7 rfl ⟨rfl, rfl⟩ 74 rfl bw_761 dX8_moveAll_160 ?_
  refine j_bipush X (v := 11) (by decide) dX8_moveAll_163 ?_
  refine bd1_elim h (fun σ33 hc34 h => ?_)
  refine j_callVv X (As := [.int a1, .int (a2 + (33 : Int32)), .ref (ad 74), .int (11 : Int32)]) (rest := []) mf_X8_moveRow bw_1173 bw_1175 bs_56 ⟨rfl, rfl⟩ ⟨Nat.le_of_ble_eq_true rfl, Nat.le_of_ble_eq_true rfl⟩ cf6 pk_68 pl_68 (c_X8_moveRow Γ.2.1 E ad pl_74 hc34) rfl rfl (Nat.le_of_ble_eq_true rfl) dX8_moveAll_165 ?_
  refine j_aload_n X 0 rfl rfl dX8_moveAll_168 ?_
  refine j_iload_n X 1 rfl rfl dX8_moveAll_169 ?_
  refine j_iload_n X 2 rfl rfl dX8_moveAll_170 ?_
  refine j_bipush X (v := 44) (by decide) dX8_moveAll_171 ?_
  refine j_iadd X dX8_moveAll_173 ?_
  refine j_aload_n X 0 rfl rfl dX8_moveAll_174 ?_
  refine j_getr X cf6 pk_68 pl_68 15 rfl ⟨rfl, rfl⟩ 78 rfl bw_769 dX8_moveAll_175 ?_
  refine j_bipush X (v := 15) (by decide) dX8_moveAll_178 ?_
  refine bd1_elim h (fun σ35 hc36 h => ?_)
  refine j_callVv X (As := [.int a1, .int (a2 + (44 : Int32)), .ref (ad 78), .int (15 : Int32)]) (rest := []) mf_X8_moveRow bw_1173 bw_1175 bs_56 ⟨rfl, rfl⟩ ⟨Nat.le_of_ble_eq_true rfl, Nat.le_of_ble_eq_true rfl⟩ cf6 pk_68 pl_68 (c_X8_moveRow Γ.2.1 E ad pl_78 hc36) rfl rfl (Nat.le_of_ble_eq_true rfl) dX8_moveAll_180 ?_
  refine j_aload_n X 0 rfl rfl dX8_moveAll_183 ?_
  refine j_iload_n X 1 rfl rfl dX8_moveAll_184 ?_
  refine j_iload_n X 2 rfl rfl dX8_moveAll_185 ?_
  refine j_bipush X (v := 59) (by decide) dX8_moveAll_186 ?_
  refine j_iadd X dX8_moveAll_188 ?_
  refine j_aload_n X 0 rfl rfl dX8_moveAll_189 ?_
  refine j_getr X cf6 pk_68 pl_68 17 rfl ⟨rfl, rfl⟩ 79 rfl bw_771 dX8_moveAll_190 ?_
  refine j_bipush X (v := 24) (by decide) dX8_moveAll_193 ?_
  refine bd1_elim h (fun σ37 hc38 h => ?_)
  refine j_callVv X (As := [.int a1, .int (a2 + (59 : Int32)), .ref (ad 79), .int (24 : Int32)]) (rest := []) mf_X8_moveRow bw_1173 bw_1175 bs_56 ⟨rfl, rfl⟩ ⟨Nat.le_of_ble_eq_true rfl, Nat.le_of_ble_eq_true rfl⟩ cf6 pk_68 pl_68 (c_X8_moveRow Γ.2.1 E ad pl_79 hc38) rfl rfl (Nat.le_of_ble_eq_true rfl) dX8_moveAll_195 ?_
  refine j_aload_n X 0 rfl rfl dX8_moveAll_198 ?_
  refine j_iload_n X 1 rfl rfl dX8_moveAll_199 ?_
  refine j_iload_n X 2 rfl rfl dX8_moveAll_200 ?_
  refine j_bipush X (v := 83) (by decide) dX8_moveAll_201 ?_
  refine j_iadd X dX8_moveAll_203 ?_
  refine j_aload_n X 0 rfl rfl dX8_moveAll_204 ?_
  refine j_getr X cf6 pk_68 pl_68 19 rfl ⟨rfl, rfl⟩ 80 rfl bw_773 dX8_moveAll_205 ?_
  refine j_bipush X (v := 24) (by decide) dX8_moveAll_208 ?_
  refine bd1_elim h (fun σ39 hc40 h => ?_)
  refine j_callVv X (As := [.int a1, .int (a2 + (83 : Int32)), .ref (ad 80), .int (24 : Int32)]) (rest := []) mf_X8_moveRow bw_1173 bw_1175 bs_56 ⟨rfl, rfl⟩ ⟨Nat.le_of_ble_eq_true rfl, Nat.le_of_ble_eq_true rfl⟩ cf6 pk_68 pl_68 (c_X8_moveRow Γ.2.1 E ad pl_80 hc40) rfl rfl (Nat.le_of_ble_eq_true rfl) dX8_moveAll_210 ?_
  refine j_aload_n X 0 rfl rfl dX8_moveAll_213 ?_
  refine j_iload_n X 1 rfl rfl dX8_moveAll_214 ?_
  refine j_iload_n X 2 rfl rfl dX8_moveAll_215 ?_
  refine j_bipush X (v := 107) (by decide) dX8_moveAll_216 ?_
  refine j_iadd X dX8_moveAll_218 ?_
  refine j_aload_n X 0 rfl rfl dX8_moveAll_219 ?_
  refine j_getr X cf6 pk_68 pl_68 13 rfl ⟨rfl, rfl⟩ 77 rfl bw_767 dX8_moveAll_220 ?_
  refine j_bipush X (v := 88) (by decide) dX8_moveAll_223 ?_
  refine bd1_elim h (fun σ41 hc42 h => ?_)
  refine j_callVv X (As := [.int a1, .int (a2 + (107 : Int32)), .ref (ad 77), .int (88 : Int32)]) (rest := []) mf_X8_moveRow bw_1173 bw_1175 bs_56 ⟨rfl, rfl⟩ ⟨Nat.le_of_ble_eq_true rfl, Nat.le_of_ble_eq_true rfl⟩ cf6 pk_68 pl_68 (c_X8_moveRow Γ.2.1 E ad pl_77 hc42) rfl rfl (Nat.le_of_ble_eq_true rfl) dX8_moveAll_225 ?_
  exact j_vret X Y (ret_wv h) dX8_moveAll_228
