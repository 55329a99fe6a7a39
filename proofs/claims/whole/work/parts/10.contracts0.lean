/-! ===== CONTRACTS: printed by wip/gen ===== -/
abbrev rm_X6_get : Room := { frames := 0, cells := 0, slots := 0, locals := 0 }
set_option maxHeartbeats 4000000 in
set_option maxRecDepth 100000 in
theorem c_X6_get (l : Launch) (E : Ev) (ad : Nat → Nat) {k0 : Nat} (hl0 : lay k0 = 4) {a1 : Int32} {a2 : Int32} {σ : Sg} {r : Int32} (h : m_X6_get k0 a1 a2 σ = some r) : Met l yX6_get (wY yX6_get cX6_get 4 (some .int)) rm_X6_get (va_Pc [.ref (ad k0), .int a1, .int a2] (PreU E ad RF 85 σ)) (QcN E ad (some (.int r), σ)) 0 0 (EA E) := by
  refine met_of (L0 := [(0, .ref (ad k0)), (1, .int a1), (2, .int a2)]) rfl (Nat.le_of_ble_eq_true rfl) rfl (fun Γ X Y => ?_)
  have X : XC Γ E rm_X6_get cX6_get 4 RX6 := X
  unfold m_X6_get at h
  refine j_iload_n X 1 rfl rfl dX6_get_0 ?_
  refine j_aload_n X 0 rfl rfl dX6_get_1 ?_
  refine j_geti X cf4 (lay_lt hl0 (by decide)) hl0 1 rfl ⟨rfl, rfl⟩ bw_40 dX6_get_2 ?_
  refine j_imul X dX6_get_5 ?_
  refine j_iload_n X 2 rfl rfl dX6_get_6 ?_
  refine j_iadd X dX6_get_7 ?_
  refine nm_elim h (fun x1 ex1 h => ?_)
  refine j_istore_n X (L' := [(3, .int x1), (0, .ref (ad k0)), (1, .int a1), (2, .int a2)]) ex1 rfl (by decide) rfl dX6_get_8 ?_
  refine j_iload_n X 3 rfl rfl dX6_get_9 ?_
  refine j_if_lt X (tgt := 41) (by decide) dX6_get_10 (fun c => ?_) (fun c => ?_)
  · have h := (if_pos c).symm.trans h
    refine j_iconst X (v := 0) (by decide) dX6_get_41 ?_
    exact j_iret X Y rfl (ret_pi h) dX6_get_42
  · have h := (if_neg c).symm.trans h
    refine j_iload_n X 3 rfl rfl dX6_get_13 ?_
    refine j_aload_n X 1 rfl rfl dX6_get_14 ?_
    refine j_geti X cf4 (lay_lt hl0 (by decide)) hl0 1 rfl ⟨rfl, rfl⟩ bw_40 dX6_get_15 ?_
    refine j_icmp_ge X (tgt := 41) (by decide) dX6_get_18 (fun c => ?_) (fun c => ?_)
    · have h := (if_pos c).symm.trans h
      refine j_iconst X (v := 0) (by decide) dX6_get_41 ?_
      exact j_iret X Y rfl (ret_pi h) dX6_get_42
    · have h := (if_neg c).symm.trans h
      refine j_iload_n X 0 rfl rfl dX6_get_21 ?_
      refine j_if_lt X (tgt := 41) (by decide) dX6_get_22 (fun c => ?_) (fun c => ?_)
      · have h := (if_pos c).symm.trans h
        refine j_iconst X (v := 0) (by decide) dX6_get_41 ?_
        exact j_iret X Y rfl (ret_pi h) dX6_get_42
      · have h := (if_neg c).symm.trans h
        refine j_iload_n X 0 rfl rfl dX6_get_25 ?_
        refine j_aload_n X 1 rfl rfl dX6_get_26 ?_
        refine j_getr X cf4 (lay_lt hl0 (by decide)) hl0 2 rfl ⟨rfl, rfl⟩ (k0 + 1) (RF_R hl0) bw_41 dX6_get_27 ?_
        refine j_alen X (lay_lt (lay_R hl0) (by decide)) (lay_R hl0) dX6_get_30 ?_
        refine j_icmp_ge X (tgt := 41) (by decide) dX6_get_31 (fun c => ?_) (fun c => ?_)
        · have h := (if_pos c).symm.trans h
          refine j_iconst X (v := 0) (by decide) dX6_get_41 ?_
          exact j_iret X Y rfl (ret_pi h) dX6_get_42
        · have h := (if_neg c).symm.trans h
          refine j_aload_n X 1 rfl rfl dX6_get_34 ?_
          refine j_getr X cf4 (lay_lt hl0 (by decide)) hl0 2 rfl ⟨rfl, rfl⟩ (k0 + 1) (RF_R hl0) bw_41 dX6_get_35 ?_
          refine j_iload_n X 0 rfl rfl dX6_get_38 ?_
          refine gd_elim h (fun g h => ?_)
          refine j_iald X (lay_lt (lay_R hl0) (by decide)) (lay_R hl0) g dX6_get_39 ?_
          exact j_iret X Y rfl (ret_pi h) dX6_get_40

abbrev rm_X2_sayingsOfRoom : Room := { frames := 1, cells := 0, slots := 0, locals := 23 }
set_option maxHeartbeats 4000000 in
set_option maxRecDepth 100000 in
theorem jl_X2_sayingsOfRoom_L4 {Γ : Cx} {E : Ev} {ad : Nat → Nat} (X : XC Γ E rm_X2_sayingsOfRoom cX2_sayingsOfRoom 4 RX2) {k0 : Nat} (hl0 : lay k0 = 1) {c1 : Int32} {σ : Sg} {kx : Unit → Option (Int32)} {r : Int32} (Y : XQ Γ E ad (some .int) (some (.int r), σ))  : ∀ n (v3 : Int32) (v2 : Int32), m_X2_sayingsOfRoom_L4 k0 c1 σ kx n v3 v2 = some r → J Γ E 4 ad RF 85 σ 0 0 4 [(3, .int v3), (2, .int v2), (0, .ref (ad k0)), (1, .int c1)] [] := by
  intro n
  induction n with
  | zero =>
    intro v3 v2 h
    cases h
  | succ n ih =>
    intro v3 v2 h
    rw [m_X2_sayingsOfRoom_L4.eq_2] at h
    refine j_iload_n X 0 rfl rfl dX2_sayingsOfRoom_4 ?_
    refine j_aload_n X 2 rfl rfl dX2_sayingsOfRoom_5 ?_
    refine j_getr X cf1 (lay_lt hl0 (by decide)) hl0 1 rfl ⟨rfl, rfl⟩ (k0 + 1) (RF_H1 hl0) bw_60 dX2_sayingsOfRoom_6 ?_
    refine j_geti X cf4 (lay_lt (lay_H1 hl0) (by decide)) (lay_H1 hl0) 3 rfl ⟨rfl, rfl⟩ bw_47 dX2_sayingsOfRoom_9 ?_
    refine j_icmp_ge X (tgt := 40) (by decide) dX2_sayingsOfRoom_12 (fun c => ?_) (fun c => ?_)
    · have h := (if_pos c).symm.trans h
      refine j_iload_n X 1 rfl rfl dX2_sayingsOfRoom_40 ?_
      exact j_iret X Y rfl (ret_pi h) dX2_sayingsOfRoom_41
    · have h := (if_neg c).symm.trans h
      refine j_aload_n X 2 rfl rfl dX2_sayingsOfRoom_15 ?_
      refine j_getr X cf1 (lay_lt hl0 (by decide)) hl0 1 rfl ⟨rfl, rfl⟩ (k0 + 1) (RF_H1 hl0) bw_60 dX2_sayingsOfRoom_16 ?_
      refine j_iload_n X 0 rfl rfl dX2_sayingsOfRoom_19 ?_
      refine j_iconst X (v := 1) (by decide) dX2_sayingsOfRoom_20 ?_
      refine bd1_elim h (fun r3 hc4 h => ?_)
      refine j_callVi X (As := [.int v3, .int (1 : Int32)]) (rest := []) mf_X6_get bw_382 bw_281 bs_341 ⟨rfl, rfl⟩ ⟨Nat.le_of_ble_eq_true rfl, Nat.le_of_ble_eq_true rfl⟩ cf4 (lay_lt (lay_H1 hl0) (by decide)) (lay_H1 hl0) (c_X6_get Γ.2.1 E ad (lay_H1 hl0) hc4) rfl rfl (Nat.le_of_ble_eq_true rfl) dX2_sayingsOfRoom_21 ?_
      refine j_iload_n X 3 rfl rfl dX2_sayingsOfRoom_24 ?_
      refine bd1_elim h (fun o6 hr h => ?_)
      have hJ5 : J Γ E 4 ad RF 85 σ 0 0 34 [(3, .int v3), (0, .ref (ad k0)), (1, .int c1), (2, .int o6)] [] := by
        refine nm_elim h (fun x7 ex7 h => ?_)
        refine j_iinc1 X (L' := [(3, .int x7), (0, .ref (ad k0)), (1, .int c1), (2, .int o6)]) 0 rfl (q := 1) (by decide) ex7 (by decide) rfl dX2_sayingsOfRoom_34 ?_
        refine j_goto X (tgt := 4) (by decide) dX2_sayingsOfRoom_37 ?_
        exact J.sub [0, 3, 1, 2] rfl (ih x7 o6 h)
      clear h
      refine j_icmp_ne X (tgt := 34) (by decide) dX2_sayingsOfRoom_25 (fun c => ?_) (fun c => ?_)
      · have hr := (if_neg c).symm.trans hr
        cases hr
        exact J.sub [0, 2, 3, 1] rfl hJ5
      · have hr := (if_pos c).symm.trans hr
        refine j_iload_n X 1 rfl rfl dX2_sayingsOfRoom_28 ?_
        refine j_iconst X (v := 1) (by decide) dX2_sayingsOfRoom_29 ?_
        refine j_iload_n X 0 rfl rfl dX2_sayingsOfRoom_30 ?_
        refine j_ishl X dX2_sayingsOfRoom_31 ?_
        refine j_ior X dX2_sayingsOfRoom_32 ?_
        refine nm_elim hr (fun x8 ex8 hr => ?_)
        refine j_istore_n X (L' := [(2, .int x8), (3, .int v3), (0, .ref (ad k0)), (1, .int c1)]) ex8 rfl (by decide) rfl dX2_sayingsOfRoom_33 ?_
        cases hr
        exact J.sub [1, 2, 3, 0] rfl hJ5
set_option maxHeartbeats 4000000 in
set_option maxRecDepth 100000 in
theorem c_X2_sayingsOfRoom (l : Launch) (E : Ev) (ad : Nat → Nat) {k0 : Nat} (hl0 : lay k0 = 1) {a1 : Int32} {σ : Sg} {r : Int32} (h : m_X2_sayingsOfRoom k0 a1 σ = some r) : Met l yX2_sayingsOfRoom (wY yX2_sayingsOfRoom cX2_sayingsOfRoom 4 (some .int)) rm_X2_sayingsOfRoom (va_Pc [.ref (ad k0), .int a1] (PreU E ad RF 85 σ)) (QcN E ad (some (.int r), σ)) 0 0 (EA E) := by
  refine met_of (L0 := [(0, .ref (ad k0)), (1, .int a1)]) rfl (Nat.le_of_ble_eq_true rfl) rfl (fun Γ X Y => ?_)
  have X : XC Γ E rm_X2_sayingsOfRoom cX2_sayingsOfRoom 4 RX2 := X
  unfold m_X2_sayingsOfRoom at h
  refine j_iconst X (v := 0) (by decide) dX2_sayingsOfRoom_0 ?_
  refine nm_elim h (fun x1 ex1 h => ?_)
  refine j_istore_n X (L' := [(2, .int x1), (0, .ref (ad k0)), (1, .int a1)]) ex1 rfl (by decide) rfl dX2_sayingsOfRoom_1 ?_
  refine j_iconst X (v := 0) (by decide) dX2_sayingsOfRoom_2 ?_
  refine nm_elim h (fun x2 ex2 h => ?_)
  refine j_istore_n X (L' := [(3, .int x2), (2, .int x1), (0, .ref (ad k0)), (1, .int a1)]) ex2 rfl (by decide) rfl dX2_sayingsOfRoom_3 ?_
  refine J.sub [0, 1, 2, 3] rfl ?_
  exact jl_X2_sayingsOfRoom_L4 X hl0 Y 1000 x2 x1 h

abbrev rm_X7_isIn : Room := { frames := 0, cells := 0, slots := 0, locals := 0 }
set_option maxHeartbeats 4000000 in
set_option maxRecDepth 100000 in
theorem c_X7_isIn (l : Launch) (E : Ev) (ad : Nat → Nat)   {a0 : Int32} {a1 : Int32} {σ : Sg} {r : Int32} (h : m_X7_isIn a0 a1 σ = some r) : Met l yX7_isIn (wY yX7_isIn cX7_isIn 2 (some .boolean)) rm_X7_isIn (va_Pc [.int a0, .int a1] (PreU E ad RF 85 σ)) (QcN E ad (some (.int r), σ)) 0 0 (EA E) := by
  refine met_of (L0 := [(0, .int a0), (1, .int a1)]) rfl (Nat.le_of_ble_eq_true rfl) rfl (fun Γ X Y => ?_)
  have X : XC Γ E rm_X7_isIn cX7_isIn 2 RX7 := X
  unfold m_X7_isIn at h
  refine j_iload_n X 0 rfl rfl dX7_isIn_0 ?_
  refine j_iload_n X 1 rfl rfl dX7_isIn_1 ?_
  refine j_ishr X dX7_isIn_2 ?_
  refine j_iconst X (v := 1) (by decide) dX7_isIn_3 ?_
  refine j_iand X dX7_isIn_4 ?_
  refine j_iconst X (v := 1) (by decide) dX7_isIn_5 ?_
  refine j_icmp_ne X (tgt := 13) (by decide) dX7_isIn_6 (fun c => ?_) (fun c => ?_)
  · have h := (if_neg c).symm.trans h
    refine j_iconst X (v := 0) (by decide) dX7_isIn_13 ?_
    exact j_iret X Y rfl (ret_pi h) dX7_isIn_14
  · have h := (if_pos c).symm.trans h
    refine j_iconst X (v := 1) (by decide) dX7_isIn_9 ?_
    refine j_goto X (tgt := 14) (by decide) dX7_isIn_10 ?_
    exact j_iret X Y rfl (ret_pi h) dX7_isIn_14

abbrev rm_X3_loudness : Room := { frames := 0, cells := 0, slots := 0, locals := 0 }
set_option maxHeartbeats 4000000 in
set_option maxRecDepth 100000 in
theorem c_X3_loudness (l : Launch) (E : Ev) (ad : Nat → Nat)   {a0 : Int32} {a1 : Int32} {a2 : Int32} {σ : Sg} {r : Int32} (h : m_X3_loudness a0 a1 a2 σ = some r) : Met l yX3_loudness (wY yX3_loudness cX3_loudness 7 (some .int)) rm_X3_loudness (va_Pc [.int a0, .int a1, .int a2] (PreU E ad RF 85 σ)) (QcN E ad (some (.int r), σ)) 0 0 (EA E) := by
  refine met_of (L0 := [(0, .int a0), (1, .int a1), (2, .int a2)]) rfl (Nat.le_of_ble_eq_true rfl) rfl (fun Γ X Y => ?_)
  have X : XC Γ E rm_X3_loudness cX3_loudness 7 RX3 := X
  unfold m_X3_loudness at h
  refine j_iload_n X 1 rfl rfl dX3_loudness_0 ?_
  refine j_iload_n X 2 rfl rfl dX3_loudness_1 ?_
  refine j_iconst X (v := 4) (by decide) dX3_loudness_2 ?_
  refine j_idiv X (by decide) dX3_loudness_3 ?_
  refine j_isub X dX3_loudness_4 ?_
  refine nm_elim h (fun x1 ex1 h => ?_)
  refine j_istore_n X (L' := [(3, .int x1), (0, .int a0), (1, .int a1), (2, .int a2)]) ex1 rfl (by decide) rfl dX3_loudness_5 ?_
  refine j_iload_n X 0 rfl rfl dX3_loudness_6 ?_
  refine bd1_elim h (fun o3 hr h => ?_)
  have hJ2 : J Γ E 7 ad RF 85 σ 0 0 15 [(0, .int a0), (2, .int a2)] [.int o3] := by
    refine j_istore X (L' := [(4, .int o3), (0, .int a0), (2, .int a2)]) rfl (by decide) rfl dX3_loudness_15 ?_
    refine j_iload X 0 rfl dX3_loudness_17 ?_
    refine j_iconst X (v := 1) (by decide) dX3_loudness_19 ?_
    refine j_iadd X dX3_loudness_20 ?_
    refine j_iconst X (v := 2) (by decide) dX3_loudness_21 ?_
    refine j_idiv X (by decide) dX3_loudness_22 ?_
    refine nm_elim h (fun x4 ex4 h => ?_)
    refine j_istore X (L' := [(5, .int x4), (4, .int o3), (0, .int a0), (2, .int a2)]) ex4 (by decide) rfl dX3_loudness_23 ?_
    refine j_iload_n X 3 rfl rfl dX3_loudness_25 ?_
    refine j_iconst X (v := 2) (by decide) dX3_loudness_26 ?_
    refine bd1_elim h (fun o6 hr h => ?_)
    have hJ5 : J Γ E 7 ad RF 85 σ 0 0 39 [(5, .int x4), (4, .int o3), (0, .int a0), (2, .int a2)] [.int o6] := by
      refine j_istore X (L' := [(6, .int o6), (5, .int x4), (4, .int o3), (0, .int a0), (2, .int a2)]) rfl (by decide) rfl dX3_loudness_39 ?_
      refine j_iload_n X 3 rfl rfl dX3_loudness_41 ?_
      by_cases c0 : a0 = 1
      · have h := (if_pos c0).symm.trans h
        refine j_tableIn X (tgt := 76) (by rw [c0]; decide) (by rw [c0]; decide) (by rw [c0]; rfl) (by decide) dX3_loudness_42 ?_
        refine j_iload X 1 rfl dX3_loudness_76 ?_
        exact j_iret X Y rfl (ret_pi h) dX3_loudness_78
      · have h := (if_neg c0).symm.trans h
        by_cases c1 : a0 = 2
        · have h := (if_pos c1).symm.trans h
          refine j_tableIn X (tgt := 79) (by rw [c1]; decide) (by rw [c1]; decide) (by rw [c1]; rfl) (by decide) dX3_loudness_42 ?_
          refine j_iload X 0 rfl dX3_loudness_79 ?_
          exact j_iret X Y rfl (ret_pi h) dX3_loudness_81
        · have h := (if_neg c1).symm.trans h
          by_cases c2 : a0 = 3
          · have h := (if_pos c2).symm.trans h
            refine j_tableIn X (tgt := 82) (by rw [c2]; decide) (by rw [c2]; decide) (by rw [c2]; rfl) (by decide) dX3_loudness_42 ?_
            refine j_iload_n X 4 rfl rfl dX3_loudness_82 ?_
            refine j_bipush X (v := 20) (by decide) dX3_loudness_83 ?_
            refine j_icmp_lt X (tgt := 95) (by decide) dX3_loudness_85 (fun c => ?_) (fun c => ?_)
            · have h := (if_pos c).symm.trans h
              refine j_iload X 1 rfl dX3_loudness_95 ?_
              exact j_iret X Y rfl (ret_pi h) dX3_loudness_97
            · have h := (if_neg c).symm.trans h
              refine j_iload X 1 rfl dX3_loudness_88 ?_
              refine j_iconst X (v := 3) (by decide) dX3_loudness_90 ?_
              refine j_iadd X dX3_loudness_91 ?_
              refine j_goto X (tgt := 97) (by decide) dX3_loudness_92 ?_
              exact j_iret X Y rfl (ret_pi h) dX3_loudness_97
          · have h := (if_neg c2).symm.trans h
            by_cases c3 : a0 = 4
            · have h := (if_pos c3).symm.trans h
              refine j_tableIn X (tgt := 98) (by rw [c3]; decide) (by rw [c3]; decide) (by rw [c3]; rfl) (by decide) dX3_loudness_42 ?_
              refine j_iload_n X 4 rfl rfl dX3_loudness_98 ?_
              refine j_iconst X (v := 5) (by decide) dX3_loudness_99 ?_
              refine j_irem X (by decide) dX3_loudness_100 ?_
              refine j_if_ne X (tgt := 109) (by decide) dX3_loudness_101 (fun c => ?_) (fun c => ?_)
              · have h := (if_neg c).symm.trans h
                refine j_iconst X (v := 0) (by decide) dX3_loudness_109 ?_
                exact j_iret X Y rfl (ret_pi h) dX3_loudness_110
              · have h := (if_pos c).symm.trans h
                refine j_iload X 2 rfl dX3_loudness_104 ?_
                refine j_goto X (tgt := 110) (by decide) dX3_loudness_106 ?_
                exact j_iret X Y rfl (ret_pi h) dX3_loudness_110
            · have h := (if_neg c3).symm.trans h
              by_cases c4 : a0 = 5
              · have h := (if_pos c4).symm.trans h
                refine j_tableIn X (tgt := 111) (by rw [c4]; decide) (by rw [c4]; decide) (by rw [c4]; rfl) (by decide) dX3_loudness_42 ?_
                refine j_iload_n X 4 rfl rfl dX3_loudness_111 ?_
                refine j_iconst X (v := 2) (by decide) dX3_loudness_112 ?_
                refine j_irem X (by decide) dX3_loudness_113 ?_
                refine j_if_ne X (tgt := 122) (by decide) dX3_loudness_114 (fun c => ?_) (fun c => ?_)
                · have h := (if_neg c).symm.trans h
                  refine j_iconst X (v := 0) (by decide) dX3_loudness_122 ?_
                  exact j_iret X Y rfl (ret_pi h) dX3_loudness_123
                · have h := (if_pos c).symm.trans h
                  refine j_iload X 0 rfl dX3_loudness_117 ?_
                  refine j_goto X (tgt := 123) (by decide) dX3_loudness_119 ?_
                  exact j_iret X Y rfl (ret_pi h) dX3_loudness_123
              · have h := (if_neg c4).symm.trans h
                refine j_tableOut X (tgt := 124) (sw_out (x := a0) (lo := 1) (hi := 5) (fun z h1 h2 => by rcases (by omega : z = 1 ∨ z = 2 ∨ z = 3 ∨ z = 4 ∨ z = 5) with rfl | rfl | rfl | rfl | rfl <;> first | exact c0 | exact c1 | exact c2 | exact c3 | exact c4)) (by decide) dX3_loudness_42 ?_
                refine j_iload X 2 rfl dX3_loudness_124 ?_
                exact j_iret X Y rfl (ret_pi h) dX3_loudness_126
    clear h
    refine j_icmp_gt X (tgt := 37) (by decide) dX3_loudness_27 (fun c => ?_) (fun c => ?_)
    · have hr := (if_pos c).symm.trans hr
      refine j_iload X 1 rfl dX3_loudness_37 ?_
      cases hr
      exact J.sub [0, 1, 2, 3] rfl hJ5
    · have hr := (if_neg c).symm.trans hr
      refine j_iload X 1 rfl dX3_loudness_30 ?_
      refine j_iconst X (v := 4) (by decide) dX3_loudness_32 ?_
      refine j_iadd X dX3_loudness_33 ?_
      refine j_goto X (tgt := 39) (by decide) dX3_loudness_34 ?_
      cases hr
      exact J.sub [0, 1, 2, 3] rfl hJ5
  clear h
  refine j_if_le X (tgt := 14) (by decide) dX3_loudness_7 (fun c => ?_) (fun c => ?_)
  · have hr := (if_pos c).symm.trans hr
    refine j_iconst X (v := 0) (by decide) dX3_loudness_14 ?_
    cases hr
    exact J.sub [1, 3] rfl hJ2
  · have hr := (if_neg c).symm.trans hr
    refine j_iload_n X 0 rfl rfl dX3_loudness_10 ?_
    refine j_goto X (tgt := 15) (by decide) dX3_loudness_11 ?_
    cases hr
    exact J.sub [1, 3] rfl hJ2

abbrev rm_X2_loudnessOfSet : Room := { frames := 1, cells := 0, slots := 0, locals := 26 }
set_option maxHeartbeats 4000000 in
set_option maxRecDepth 100000 in
theorem jl_X2_loudnessOfSet_L5 {Γ : Cx} {E : Ev} {ad : Nat → Nat} (X : XC Γ E rm_X2_loudnessOfSet cX2_loudnessOfSet 5 RX2) {k0 : Nat} (hl0 : lay k0 = 1) {c1 : Int32} {c2 : Int32} {σ : Sg} {kx : Unit → Option (Int32)} {r : Int32} (Y : XQ Γ E ad (some .int) (some (.int r), σ))  : ∀ n (v4 : Int32) (v3 : Int32), m_X2_loudnessOfSet_L5 k0 c1 c2 σ kx n v4 v3 = some r → J Γ E 5 ad RF 85 σ 0 0 5 [(4, .int v4), (3, .int v3), (0, .ref (ad k0)), (1, .int c1), (2, .int c2)] [] := by
  intro n
  induction n with
  | zero =>
    intro v4 v3 h
    cases h
  | succ n ih =>
    intro v4 v3 h
    rw [m_X2_loudnessOfSet_L5.eq_2] at h
    refine j_iload X 0 rfl dX2_loudnessOfSet_5 ?_
    refine j_aload_n X 2 rfl rfl dX2_loudnessOfSet_7 ?_
    refine j_getr X cf1 (lay_lt hl0 (by decide)) hl0 1 rfl ⟨rfl, rfl⟩ (k0 + 1) (RF_H1 hl0) bw_60 dX2_loudnessOfSet_8 ?_
    refine j_geti X cf4 (lay_lt (lay_H1 hl0) (by decide)) (lay_H1 hl0) 3 rfl ⟨rfl, rfl⟩ bw_47 dX2_loudnessOfSet_11 ?_
    refine j_icmp_ge X (tgt := 59) (by decide) dX2_loudnessOfSet_14 (fun c => ?_) (fun c => ?_)
    · have h := (if_pos c).symm.trans h
      refine j_iload_n X 1 rfl rfl dX2_loudnessOfSet_59 ?_
      exact j_iret X Y rfl (ret_pi h) dX2_loudnessOfSet_60
    · have h := (if_neg c).symm.trans h
      refine j_iload_n X 3 rfl rfl dX2_loudnessOfSet_17 ?_
      refine j_iload X 0 rfl dX2_loudnessOfSet_18 ?_
      refine bd1_elim h (fun r3 hc4 h => ?_)
      refine j_callSNi X (As := [.int c1, .int v4]) (rest := []) mf_X7_isIn (by simp [nestL]) bw_407 ⟨rfl, rfl⟩ ⟨Nat.le_of_ble_eq_true rfl, Nat.le_of_ble_eq_true rfl⟩ (c_X7_isIn Γ.2.1 E ad  hc4) rfl rfl (Nat.le_of_ble_eq_true rfl) dX2_loudnessOfSet_20 ?_
      refine bd1_elim h (fun o6 hr h => ?_)
      have hJ5 : J Γ E 5 ad RF 85 σ 0 0 53 [(4, .int v4), (0, .ref (ad k0)), (1, .int c1), (2, .int c2), (3, .int o6)] [] := by
        refine nm_elim h (fun x7 ex7 h => ?_)
        refine j_iinc1 X (L' := [(4, .int x7), (0, .ref (ad k0)), (1, .int c1), (2, .int c2), (3, .int o6)]) 0 rfl (q := 1) (by decide) ex7 (by decide) rfl dX2_loudnessOfSet_53 ?_
        refine j_goto X (tgt := 5) (by decide) dX2_loudnessOfSet_56 ?_
        exact J.sub [0, 4, 1, 2, 3] rfl (ih x7 o6 h)
      clear h
      refine j_if_eq X (tgt := 53) (by decide) dX2_loudnessOfSet_23 (fun c => ?_) (fun c => ?_)
      · have hr := (if_pos c).symm.trans hr
        cases hr
        exact J.sub [0, 2, 3, 4, 1] rfl hJ5
      · have hr := (if_neg c).symm.trans hr
        refine j_iload_n X 1 rfl rfl dX2_loudnessOfSet_26 ?_
        refine j_aload_n X 2 rfl rfl dX2_loudnessOfSet_27 ?_
        refine j_getr X cf1 (lay_lt hl0 (by decide)) hl0 1 rfl ⟨rfl, rfl⟩ (k0 + 1) (RF_H1 hl0) bw_60 dX2_loudnessOfSet_28 ?_
        refine j_iload X 0 rfl dX2_loudnessOfSet_31 ?_
        refine j_iconst X (v := 0) (by decide) dX2_loudnessOfSet_33 ?_
        refine bd1_elim hr (fun r8 hc9 hr => ?_)
        refine j_callVi X (As := [.int v4, .int (0 : Int32)]) (rest := [.int v3]) mf_X6_get bw_382 bw_281 bs_341 ⟨rfl, rfl⟩ ⟨Nat.le_of_ble_eq_true rfl, Nat.le_of_ble_eq_true rfl⟩ cf4 (lay_lt (lay_H1 hl0) (by decide)) (lay_H1 hl0) (c_X6_get Γ.2.1 E ad (lay_H1 hl0) hc9) rfl rfl (Nat.le_of_ble_eq_true rfl) dX2_loudnessOfSet_34 ?_
        refine j_aload_n X 2 rfl rfl dX2_loudnessOfSet_37 ?_
        refine j_getr X cf1 (lay_lt hl0 (by decide)) hl0 1 rfl ⟨rfl, rfl⟩ (k0 + 1) (RF_H1 hl0) bw_60 dX2_loudnessOfSet_38 ?_
        refine j_iload X 0 rfl dX2_loudnessOfSet_41 ?_
        refine j_iconst X (v := 2) (by decide) dX2_loudnessOfSet_43 ?_
        refine bd1_elim hr (fun r10 hc11 hr => ?_)
        refine j_callVi X (As := [.int v4, .int (2 : Int32)]) (rest := [.int r8, .int v3]) mf_X6_get bw_382 bw_281 bs_341 ⟨rfl, rfl⟩ ⟨Nat.le_of_ble_eq_true rfl, Nat.le_of_ble_eq_true rfl⟩ cf4 (lay_lt (lay_H1 hl0) (by decide)) (lay_H1 hl0) (c_X6_get Γ.2.1 E ad (lay_H1 hl0) hc11) rfl rfl (Nat.le_of_ble_eq_true rfl) dX2_loudnessOfSet_44 ?_
        refine j_iload_n X 4 rfl rfl dX2_loudnessOfSet_47 ?_
        refine bd1_elim hr (fun r12 hc13 hr => ?_)
        refine j_callSi X (As := [.int r8, .int r10, .int c2]) (rest := [.int v3]) mf_X3_loudness bw_409 bw_410 ⟨rfl, rfl⟩ ⟨Nat.le_of_ble_eq_true rfl, Nat.le_of_ble_eq_true rfl⟩ (c_X3_loudness Γ.2.1 E ad  hc13) rfl rfl (Nat.le_of_ble_eq_true rfl) dX2_loudnessOfSet_48 ?_
        refine j_iadd X dX2_loudnessOfSet_51 ?_
        refine nm_elim hr (fun x14 ex14 hr => ?_)
        refine j_istore_n X (L' := [(3, .int x14), (4, .int v4), (0, .ref (ad k0)), (1, .int c1), (2, .int c2)]) ex14 rfl (by decide) rfl dX2_loudnessOfSet_52 ?_
        cases hr
        exact J.sub [1, 2, 3, 4, 0] rfl hJ5
set_option maxHeartbeats 4000000 in
set_option maxRecDepth 100000 in
theorem c_X2_loudnessOfSet (l : Launch) (E : Ev) (ad : Nat → Nat) {k0 : Nat} (hl0 : lay k0 = 1) {a1 : Int32} {a2 : Int32} {σ : Sg} {r : Int32} (h : m_X2_loudnessOfSet k0 a1 a2 σ = some r) : Met l yX2_loudnessOfSet (wY yX2_loudnessOfSet cX2_loudnessOfSet 5 (some .int)) rm_X2_loudnessOfSet (va_Pc [.ref (ad k0), .int a1, .int a2] (PreU E ad RF 85 σ)) (QcN E ad (some (.int r), σ)) 0 0 (EA E) := by
  refine met_of (L0 := [(0, .ref (ad k0)), (1, .int a1), (2, .int a2)]) rfl (Nat.le_of_ble_eq_true rfl) rfl (fun Γ X Y => ?_)
  have X : XC Γ E rm_X2_loudnessOfSet cX2_loudnessOfSet 5 RX2 := X
  unfold m_X2_loudnessOfSet at h
  refine j_iconst X (v := 0) (by decide) dX2_loudnessOfSet_0 ?_
  refine nm_elim h (fun x1 ex1 h => ?_)
  refine j_istore_n X (L' := [(3, .int x1), (0, .ref (ad k0)), (1, .int a1), (2, .int a2)]) ex1 rfl (by decide) rfl dX2_loudnessOfSet_1 ?_
  refine j_iconst X (v := 0) (by decide) dX2_loudnessOfSet_2 ?_
  refine nm_elim h (fun x2 ex2 h => ?_)
  refine j_istore X (L' := [(4, .int x2), (3, .int x1), (0, .ref (ad k0)), (1, .int a1), (2, .int a2)]) ex2 (by decide) rfl dX2_loudnessOfSet_3 ?_
  refine J.sub [0, 1, 2, 3, 4] rfl ?_
  exact jl_X2_loudnessOfSet_L5 X hl0 Y 1000 x2 x1 h

abbrev rm_X0_fitsTold : Room := { frames := 2, cells := 0, slots := 0, locals := 50 }
set_option maxHeartbeats 4000000 in
set_option maxRecDepth 100000 in
theorem jl_X0_fitsTold_L2 {Γ : Cx} {E : Ev} {ad : Nat → Nat} (X : XC Γ E rm_X0_fitsTold cX0_fitsTold 5 RX0) {k0 : Nat} (hl0 : lay k0 = 1) {c1 : Int32} {c2 : Int32} {σ : Sg} {kx : Unit → Option (Int32)} {r : Int32} (Y : XQ Γ E ad (some .boolean) (some (.int r), σ))  : ∀ n (v3 : Int32), m_X0_fitsTold_L2 k0 c1 c2 σ kx n v3 = some r → J Γ E 5 ad RF 85 σ 0 0 2 [(3, .int v3), (0, .ref (ad k0)), (1, .int c1), (2, .int c2)] [] := by
  intro n
  induction n with
  | zero =>
    intro v3 h
    cases h
  | succ n ih =>
    intro v3 h
    rw [m_X0_fitsTold_L2.eq_2] at h
    refine j_iload_n X 0 rfl rfl dX0_fitsTold_2 ?_
    refine j_aload_n X 1 rfl rfl dX0_fitsTold_3 ?_
    refine j_getr X cf1 (lay_lt hl0 (by decide)) hl0 4 rfl ⟨rfl, rfl⟩ (k0 + 7) (RF_H4 hl0) bw_72 dX0_fitsTold_4 ?_
    refine j_geti X cf4 (lay_lt (lay_H4 hl0) (by decide)) (lay_H4 hl0) 3 rfl ⟨rfl, rfl⟩ bw_44 dX0_fitsTold_7 ?_
    refine j_icmp_ge X (tgt := 72) (by decide) dX0_fitsTold_10 (fun c => ?_) (fun c => ?_)
    · have h := (if_pos c).symm.trans h
      refine j_iconst X (v := 1) (by decide) dX0_fitsTold_72 ?_
      exact j_iret X Y rfl (ret_pi h) dX0_fitsTold_73
    · have h := (if_neg c).symm.trans h
      refine j_aload_n X 1 rfl rfl dX0_fitsTold_13 ?_
      refine j_getr X cf1 (lay_lt hl0 (by decide)) hl0 4 rfl ⟨rfl, rfl⟩ (k0 + 7) (RF_H4 hl0) bw_72 dX0_fitsTold_14 ?_
      refine j_iload_n X 0 rfl rfl dX0_fitsTold_17 ?_
      refine j_iconst X (v := 0) (by decide) dX0_fitsTold_18 ?_
      refine bd1_elim h (fun r2 hc3 h => ?_)
      refine j_callVi X (As := [.int v3, .int (0 : Int32)]) (rest := []) mf_X6_get bw_580 bw_281 bs_341 ⟨rfl, rfl⟩ ⟨Nat.le_of_ble_eq_true rfl, Nat.le_of_ble_eq_true rfl⟩ cf4 (lay_lt (lay_H4 hl0) (by decide)) (lay_H4 hl0) (c_X6_get Γ.2.1 E ad (lay_H4 hl0) hc3) rfl rfl (Nat.le_of_ble_eq_true rfl) dX0_fitsTold_19 ?_
      refine j_iload_n X 2 rfl rfl dX0_fitsTold_22 ?_
      refine bd1_elim h (fun o5 hr h => ?_)
      have hJ4 : J Γ E 5 ad RF 85 σ 0 0 31 [(3, .int v3), (0, .ref (ad k0)), (1, .int c1), (2, .int c2)] [.int o5] := by
        refine j_istore X (L' := [(4, .int o5), (3, .int v3), (0, .ref (ad k0)), (1, .int c1), (2, .int c2)]) rfl (by decide) rfl dX0_fitsTold_31 ?_
        refine j_iload X 0 rfl dX0_fitsTold_33 ?_
        refine j_if_eq X (tgt := 66) (by decide) dX0_fitsTold_35 (fun c => ?_) (fun c => ?_)
        · have h := (if_pos c).symm.trans h
          refine nm_elim h (fun x6 ex6 h => ?_)
          refine j_iinc1 X (L' := [(3, .int x6), (4, .int o5), (0, .ref (ad k0)), (1, .int c1), (2, .int c2)]) 1 rfl (q := 1) (by decide) ex6 (by decide) rfl dX0_fitsTold_66 ?_
          refine j_goto X (tgt := 2) (by decide) dX0_fitsTold_69 ?_
          exact J.sub [0, 2, 3, 4] rfl (ih x6 h)
        · have h := (if_neg c).symm.trans h
          refine j_aload_n X 2 rfl rfl dX0_fitsTold_38 ?_
          refine j_iload_n X 4 rfl rfl dX0_fitsTold_39 ?_
          refine j_aload_n X 2 rfl rfl dX0_fitsTold_40 ?_
          refine j_getr X cf1 (lay_lt hl0 (by decide)) hl0 4 rfl ⟨rfl, rfl⟩ (k0 + 7) (RF_H4 hl0) bw_72 dX0_fitsTold_41 ?_
          refine j_iload_n X 1 rfl rfl dX0_fitsTold_44 ?_
          refine j_iconst X (v := 1) (by decide) dX0_fitsTold_45 ?_
          refine bd1_elim h (fun r7 hc8 h => ?_)
          refine j_callVi X (As := [.int v3, .int (1 : Int32)]) (rest := [.int c2, .ref (ad k0)]) mf_X6_get bw_580 bw_281 bs_341 ⟨rfl, rfl⟩ ⟨Nat.le_of_ble_eq_true rfl, Nat.le_of_ble_eq_true rfl⟩ cf4 (lay_lt (lay_H4 hl0) (by decide)) (lay_H4 hl0) (c_X6_get Γ.2.1 E ad (lay_H4 hl0) hc8) rfl rfl (Nat.le_of_ble_eq_true rfl) dX0_fitsTold_46 ?_
          refine bd1_elim h (fun r9 hc10 h => ?_)
          refine j_callVi X (As := [.int c2, .int r7]) (rest := []) mf_X2_loudnessOfSet bw_581 bw_403 bs_463 ⟨rfl, rfl⟩ ⟨Nat.le_of_ble_eq_true rfl, Nat.le_of_ble_eq_true rfl⟩ cf1 (lay_lt hl0 (by decide)) hl0 (c_X2_loudnessOfSet Γ.2.1 E ad hl0 hc10) rfl rfl (Nat.le_of_ble_eq_true rfl) dX0_fitsTold_49 ?_
          refine j_aload_n X 2 rfl rfl dX0_fitsTold_52 ?_
          refine j_getr X cf1 (lay_lt hl0 (by decide)) hl0 4 rfl ⟨rfl, rfl⟩ (k0 + 7) (RF_H4 hl0) bw_72 dX0_fitsTold_53 ?_
          refine j_iload_n X 1 rfl rfl dX0_fitsTold_56 ?_
          refine j_iconst X (v := 2) (by decide) dX0_fitsTold_57 ?_
          refine bd1_elim h (fun r11 hc12 h => ?_)
          refine j_callVi X (As := [.int v3, .int (2 : Int32)]) (rest := [.int r9]) mf_X6_get bw_580 bw_281 bs_341 ⟨rfl, rfl⟩ ⟨Nat.le_of_ble_eq_true rfl, Nat.le_of_ble_eq_true rfl⟩ cf4 (lay_lt (lay_H4 hl0) (by decide)) (lay_H4 hl0) (c_X6_get Γ.2.1 E ad (lay_H4 hl0) hc12) rfl rfl (Nat.le_of_ble_eq_true rfl) dX0_fitsTold_58 ?_
          refine j_icmp_eq X (tgt := 66) (by decide) dX0_fitsTold_61 (fun c => ?_) (fun c => ?_)
          · have h := (if_pos c).symm.trans h
            refine nm_elim h (fun x13 ex13 h => ?_)
            refine j_iinc1 X (L' := [(3, .int x13), (4, .int o5), (0, .ref (ad k0)), (1, .int c1), (2, .int c2)]) 1 rfl (q := 1) (by decide) ex13 (by decide) rfl dX0_fitsTold_66 ?_
            refine j_goto X (tgt := 2) (by decide) dX0_fitsTold_69 ?_
            exact J.sub [0, 2, 3, 4] rfl (ih x13 h)
          · have h := (if_neg c).symm.trans h
            refine j_iconst X (v := 0) (by decide) dX0_fitsTold_64 ?_
            exact j_iret X Y rfl (ret_pi h) dX0_fitsTold_65
      clear h
      refine j_icmp_ne X (tgt := 30) (by decide) dX0_fitsTold_23 (fun c => ?_) (fun c => ?_)
      · have hr := (if_neg c).symm.trans hr
        refine j_iconst X (v := 0) (by decide) dX0_fitsTold_30 ?_
        cases hr
        exact J.sub [0, 1, 2, 3] rfl hJ4
      · have hr := (if_pos c).symm.trans hr
        refine j_iconst X (v := 1) (by decide) dX0_fitsTold_26 ?_
        refine j_goto X (tgt := 31) (by decide) dX0_fitsTold_27 ?_
        cases hr
        exact J.sub [0, 1, 2, 3] rfl hJ4
set_option maxHeartbeats 4000000 in
set_option maxRecDepth 100000 in
theorem c_X0_fitsTold (l : Launch) (E : Ev) (ad : Nat → Nat) {k0 : Nat} (hl0 : lay k0 = 1) {a1 : Int32} {a2 : Int32} {σ : Sg} {r : Int32} (h : m_X0_fitsTold k0 a1 a2 σ = some r) : Met l yX0_fitsTold (wY yX0_fitsTold cX0_fitsTold 5 (some .boolean)) rm_X0_fitsTold (va_Pc [.ref (ad k0), .int a1, .int a2] (PreU E ad RF 85 σ)) (QcN E ad (some (.int r), σ)) 0 0 (EA E) := by
  refine met_of (L0 := [(0, .ref (ad k0)), (1, .int a1), (2, .int a2)]) rfl (Nat.le_of_ble_eq_true rfl) rfl (fun Γ X Y => ?_)
  have X : XC Γ E rm_X0_fitsTold cX0_fitsTold 5 RX0 := X
  unfold m_X0_fitsTold at h
  refine j_iconst X (v := 0) (by decide) dX0_fitsTold_0 ?_
  refine nm_elim h (fun x1 ex1 h => ?_)
  refine j_istore_n X (L' := [(3, .int x1), (0, .ref (ad k0)), (1, .int a1), (2, .int a2)]) ex1 rfl (by decide) rfl dX0_fitsTold_1 ?_
  refine J.sub [0, 1, 2, 3] rfl ?_
  exact jl_X0_fitsTold_L2 X hl0 Y 1000 x1 h

abbrev rm_X0_setsSaid : Room := { frames := 3, cells := 0, slots := 0, locals := 74 }
set_option maxHeartbeats 4000000 in
set_option maxRecDepth 100000 in
theorem jl_X0_setsSaid_L18 {β : Type} {Γ : Cx} {E : Ev} {ad : Nat → Nat} (X : XC Γ E rm_X0_setsSaid cX0_setsSaid 8 RX0) {k0 : Nat} (hl0 : lay k0 = 1) {c3 : Int32} {c1 : Int32} {c2 : Int32} {σ : Sg} {kx : Int32 → Int32 → Int32 → Option (β)} {r : β}  (hkx : ∀ (v6 : Int32) (v5 : Int32) (v4 : Int32), kx v6 v5 v4 = some r → J Γ E 8 ad RF 85 σ 0 0 68 [(6, .int v6), (5, .int v5), (4, .int v4), (2, .int c2)] []) : ∀ n (v7 : Int32) (v6 : Int32) (v5 : Int32) (v4 : Int32), m_X0_setsSaid_L18 k0 c3 c1 c2 σ kx n v7 v6 v5 v4 = some r → J Γ E 8 ad RF 85 σ 0 0 18 [(7, .int v7), (6, .int v6), (5, .int v5), (4, .int v4), (3, .int c3), (0, .ref (ad k0)), (1, .int c1), (2, .int c2)] [] := by
  intro n
  induction n with
  | zero =>
    intro v7 v6 v5 v4 h
    cases h
  | succ n ih =>
    intro v7 v6 v5 v4 h
    rw [m_X0_setsSaid_L18.eq_2] at h
    refine j_iload X 0 rfl dX0_setsSaid_18 ?_
    refine j_sipush X (v := 256) (by decide) dX0_setsSaid_20 ?_
    refine j_icmp_ge X (tgt := 68) (by decide) dX0_setsSaid_23 (fun c => ?_) (fun c => ?_)
    · have h := (if_pos c).symm.trans h
      exact J.sub [1, 2, 3, 7] rfl (hkx v6 v5 v4 h)
    · have h := (if_neg c).symm.trans h
      refine j_iload X 0 rfl dX0_setsSaid_26 ?_
      refine j_iload_n X 4 rfl rfl dX0_setsSaid_28 ?_
      refine j_iand X dX0_setsSaid_29 ?_
      refine j_iload X 0 rfl dX0_setsSaid_30 ?_
      refine bd3_elim h (fun o7 o8 o9 hr h => ?_)
      have hJ6 : J Γ E 8 ad RF 85 σ 0 0 62 [(7, .int v7), (3, .int c3), (0, .ref (ad k0)), (1, .int c1), (2, .int c2), (4, .int o7), (5, .int o8), (6, .int o9)] [] := by
        refine nm_elim h (fun x10 ex10 h => ?_)
        refine j_iinc1 X (L' := [(7, .int x10), (3, .int c3), (0, .ref (ad k0)), (1, .int c1), (2, .int c2), (4, .int o7), (5, .int o8), (6, .int o9)]) 0 rfl (q := 1) (by decide) ex10 (by decide) rfl dX0_setsSaid_62 ?_
        refine j_goto X (tgt := 18) (by decide) dX0_setsSaid_65 ?_
        exact J.sub [0, 7, 6, 5, 1, 2, 3, 4] rfl (ih x10 o9 o8 o7 h)
      clear h
      refine j_icmp_ne X (tgt := 62) (by decide) dX0_setsSaid_32 (fun c => ?_) (fun c => ?_)
      · have hr := (if_neg c).symm.trans hr
        cases hr
        exact J.sub [0, 4, 5, 6, 7, 3, 2, 1] rfl hJ6
      · have hr := (if_pos c).symm.trans hr
        refine j_aload_n X 5 rfl rfl dX0_setsSaid_35 ?_
        refine j_iload_n X 6 rfl rfl dX0_setsSaid_36 ?_
        refine j_iload X 0 rfl dX0_setsSaid_37 ?_
        refine bd1_elim hr (fun r11 hc12 hr => ?_)
        refine j_callSi X (As := [.ref (ad k0), .int c1, .int v7]) (rest := []) mf_X0_fitsTold bw_577 bw_578 ⟨rfl, rfl⟩ ⟨Nat.le_of_ble_eq_true rfl, Nat.le_of_ble_eq_true rfl⟩ (c_X0_fitsTold Γ.2.1 E ad hl0 hc12) rfl rfl (Nat.le_of_ble_eq_true rfl) dX0_setsSaid_39 ?_
        refine j_if_eq X (tgt := 62) (by decide) dX0_setsSaid_42 (fun c => ?_) (fun c => ?_)
        · have hr := (if_pos c).symm.trans hr
          cases hr
          exact J.sub [0, 4, 5, 6, 7, 3, 2, 1] rfl hJ6
        · have hr := (if_neg c).symm.trans hr
          refine nm_elim hr (fun x13 ex13 hr => ?_)
          refine j_iinc1 X (L' := [(4, .int x13), (7, .int v7), (6, .int v6), (5, .int v5), (3, .int c3), (0, .ref (ad k0)), (1, .int c1), (2, .int c2)]) 3 rfl (q := 1) (by decide) ex13 (by decide) rfl dX0_setsSaid_45 ?_
          refine j_iload X 3 rfl dX0_setsSaid_48 ?_
          refine j_iload X 1 rfl dX0_setsSaid_50 ?_
          refine j_iand X dX0_setsSaid_52 ?_
          refine nm_elim hr (fun x14 ex14 hr => ?_)
          refine j_istore X (L' := [(5, .int x14), (4, .int x13), (7, .int v7), (6, .int v6), (3, .int c3), (0, .ref (ad k0)), (1, .int c1), (2, .int c2)]) ex14 (by decide) rfl dX0_setsSaid_53 ?_
          refine j_iload X 3 rfl dX0_setsSaid_55 ?_
          refine j_iload X 2 rfl dX0_setsSaid_57 ?_
          refine j_ior X dX0_setsSaid_59 ?_
          refine nm_elim hr (fun x15 ex15 hr => ?_)
          refine j_istore X (L' := [(6, .int x15), (5, .int x14), (4, .int x13), (7, .int v7), (3, .int c3), (0, .ref (ad k0)), (1, .int c1), (2, .int c2)]) ex15 (by decide) rfl dX0_setsSaid_60 ?_
          cases hr
          exact J.sub [3, 4, 5, 6, 7, 2, 1, 0] rfl hJ6
set_option maxHeartbeats 4000000 in
set_option maxRecDepth 100000 in
theorem c_X0_setsSaid (l : Launch) (E : Ev) (ad : Nat → Nat) {k0 : Nat} (hl0 : lay k0 = 1) {a1 : Int32} {a2 : Int32} {σ : Sg} {r : Int32} (h : m_X0_setsSaid k0 a1 a2 σ = some r) : Met l yX0_setsSaid (wY yX0_setsSaid cX0_setsSaid 8 (some .int)) rm_X0_setsSaid (va_Pc [.ref (ad k0), .int a1, .int a2] (PreU E ad RF 85 σ)) (QcN E ad (some (.int r), σ)) 0 0 (EA E) := by
  refine met_of (L0 := [(0, .ref (ad k0)), (1, .int a1), (2, .int a2)]) rfl (Nat.le_of_ble_eq_true rfl) rfl (fun Γ X Y => ?_)
  have X : XC Γ E rm_X0_setsSaid cX0_setsSaid 8 RX0 := X
  unfold m_X0_setsSaid at h
  refine j_aload_n X 0 rfl rfl dX0_setsSaid_0 ?_
  refine j_iload_n X 1 rfl rfl dX0_setsSaid_1 ?_
  refine bd1_elim h (fun r1 hc2 h => ?_)
  refine j_callVi X (As := [.int a1]) (rest := []) mf_X2_sayingsOfRoom bw_576 bw_399 bs_459 ⟨rfl, rfl⟩ ⟨Nat.le_of_ble_eq_true rfl, Nat.le_of_ble_eq_true rfl⟩ cf1 (lay_lt hl0 (by decide)) hl0 (c_X2_sayingsOfRoom Γ.2.1 E ad hl0 hc2) rfl rfl (Nat.le_of_ble_eq_true rfl) dX0_setsSaid_2 ?_
  refine j_istore_n X (L' := [(3, .int r1), (0, .ref (ad k0)), (1, .int a1), (2, .int a2)]) rfl rfl (by decide) rfl dX0_setsSaid_5 ?_
  refine j_iconst X (v := 0) (by decide) dX0_setsSaid_6 ?_
  refine nm_elim h (fun x3 ex3 h => ?_)
  refine j_istore X (L' := [(4, .int x3), (3, .int r1), (0, .ref (ad k0)), (1, .int a1), (2, .int a2)]) ex3 (by decide) rfl dX0_setsSaid_7 ?_
  refine j_iload_n X 1 rfl rfl dX0_setsSaid_9 ?_
  refine j_istore X (L' := [(5, .int r1), (4, .int x3), (3, .int r1), (0, .ref (ad k0)), (1, .int a1), (2, .int a2)]) rfl (by decide) rfl dX0_setsSaid_10 ?_
  refine j_iconst X (v := 0) (by decide) dX0_setsSaid_12 ?_
  refine nm_elim h (fun x4 ex4 h => ?_)
  refine j_istore X (L' := [(6, .int x4), (5, .int r1), (4, .int x3), (3, .int r1), (0, .ref (ad k0)), (1, .int a1), (2, .int a2)]) ex4 (by decide) rfl dX0_setsSaid_13 ?_
  refine j_iconst X (v := 0) (by decide) dX0_setsSaid_15 ?_
  refine nm_elim h (fun x5 ex5 h => ?_)
  refine j_istore X (L' := [(7, .int x5), (6, .int x4), (5, .int r1), (4, .int x3), (3, .int r1), (0, .ref (ad k0)), (1, .int a1), (2, .int a2)]) ex5 (by decide) rfl dX0_setsSaid_16 ?_
  refine J.sub [0, 1, 2, 3, 4, 5, 6, 7] rfl ?_
  refine jl_X0_setsSaid_L18 X hl0 (fun x16 x17 x18 h => ?_) 1000 x5 x4 r1 x3 h
  refine j_iload_n X 3 rfl rfl dX0_setsSaid_68 ?_
  refine j_if_ne X (tgt := 75) (by decide) dX0_setsSaid_69 (fun c => ?_) (fun c => ?_)
  · have h := (if_neg c).symm.trans h
    refine j_iload_n X 3 rfl rfl dX0_setsSaid_75 ?_
    refine j_iconst X (v := 1) (by decide) dX0_setsSaid_76 ?_
    refine j_icmp_ne X (tgt := 92) (by decide) dX0_setsSaid_77 (fun c => ?_) (fun c => ?_)
    · have h := (if_neg c).symm.trans h
      refine j_iload X 0 rfl dX0_setsSaid_92 ?_
      exact j_iret X Y rfl (ret_pi h) dX0_setsSaid_94
    · have h := (if_pos c).symm.trans h
      refine j_iload X 2 rfl dX0_setsSaid_80 ?_
      refine j_if_ne X (tgt := 89) (by decide) dX0_setsSaid_82 (fun c => ?_) (fun c => ?_)
      · have h := (if_neg c).symm.trans h
        refine j_iload X 1 rfl dX0_setsSaid_89 ?_
        exact j_iret X Y rfl (ret_pi h) dX0_setsSaid_91
      · have h := (if_pos c).symm.trans h
        refine j_iconst X (v := -1) (by decide) dX0_setsSaid_85 ?_
        refine j_goto X (tgt := 91) (by decide) dX0_setsSaid_86 ?_
        exact j_iret X Y rfl (ret_pi h) dX0_setsSaid_91
  · have h := (if_pos c).symm.trans h
    refine j_iload X 2 rfl dX0_setsSaid_72 ?_
    exact j_iret X Y rfl (ret_pi h) dX0_setsSaid_74

abbrev rm_X0_fitsNotes : Room := { frames := 1, cells := 0, slots := 0, locals := 26 }
set_option maxHeartbeats 4000000 in
set_option maxRecDepth 100000 in
theorem jl_X0_fitsNotes_L2 {Γ : Cx} {E : Ev} {ad : Nat → Nat} (X : XC Γ E rm_X0_fitsNotes cX0_fitsNotes 5 RX0) {k0 : Nat} (hl0 : lay k0 = 1) {c1 : Int32} {c2 : Int32} {σ : Sg} {kx : Unit → Option (Int32)} {r : Int32} (Y : XQ Γ E ad (some .boolean) (some (.int r), σ))  : ∀ n (v3 : Int32), m_X0_fitsNotes_L2 k0 c1 c2 σ kx n v3 = some r → J Γ E 5 ad RF 85 σ 0 0 2 [(3, .int v3), (0, .ref (ad k0)), (1, .int c1), (2, .int c2)] [] := by
  intro n
  induction n with
  | zero =>
    intro v3 h
    cases h
  | succ n ih =>
    intro v3 h
    rw [m_X0_fitsNotes_L2.eq_2] at h
    refine j_iload_n X 0 rfl rfl dX0_fitsNotes_2 ?_
    refine j_aload_n X 1 rfl rfl dX0_fitsNotes_3 ?_
    refine j_getr X cf1 (lay_lt hl0 (by decide)) hl0 5 rfl ⟨rfl, rfl⟩ (k0 + 9) (RF_H5 hl0) bw_75 dX0_fitsNotes_4 ?_
    refine j_geti X cf4 (lay_lt (lay_H5 hl0) (by decide)) (lay_H5 hl0) 3 rfl ⟨rfl, rfl⟩ bw_44 dX0_fitsNotes_7 ?_
    refine j_icmp_ge X (tgt := 72) (by decide) dX0_fitsNotes_10 (fun c => ?_) (fun c => ?_)
    · have h := (if_pos c).symm.trans h
      refine j_iconst X (v := 1) (by decide) dX0_fitsNotes_72 ?_
      exact j_iret X Y rfl (ret_pi h) dX0_fitsNotes_73
    · have h := (if_neg c).symm.trans h
      refine j_iload_n X 3 rfl rfl dX0_fitsNotes_13 ?_
      refine j_aload_n X 1 rfl rfl dX0_fitsNotes_14 ?_
      refine j_getr X cf1 (lay_lt hl0 (by decide)) hl0 5 rfl ⟨rfl, rfl⟩ (k0 + 9) (RF_H5 hl0) bw_75 dX0_fitsNotes_15 ?_
      refine j_iload_n X 0 rfl rfl dX0_fitsNotes_18 ?_
      refine j_iconst X (v := 1) (by decide) dX0_fitsNotes_19 ?_
      refine bd1_elim h (fun r2 hc3 h => ?_)
      refine j_callVi X (As := [.int v3, .int (1 : Int32)]) (rest := [.int c2]) mf_X6_get bw_580 bw_281 bs_341 ⟨rfl, rfl⟩ ⟨Nat.le_of_ble_eq_true rfl, Nat.le_of_ble_eq_true rfl⟩ cf4 (lay_lt (lay_H5 hl0) (by decide)) (lay_H5 hl0) (c_X6_get Γ.2.1 E ad (lay_H5 hl0) hc3) rfl rfl (Nat.le_of_ble_eq_true rfl) dX0_fitsNotes_20 ?_
      refine j_aload_n X 1 rfl rfl dX0_fitsNotes_23 ?_
      refine j_getr X cf1 (lay_lt hl0 (by decide)) hl0 5 rfl ⟨rfl, rfl⟩ (k0 + 9) (RF_H5 hl0) bw_75 dX0_fitsNotes_24 ?_
      refine j_iload_n X 0 rfl rfl dX0_fitsNotes_27 ?_
      refine j_iconst X (v := 2) (by decide) dX0_fitsNotes_28 ?_
      refine bd1_elim h (fun r4 hc5 h => ?_)
      refine j_callVi X (As := [.int v3, .int (2 : Int32)]) (rest := [.int r2, .int c2]) mf_X6_get bw_580 bw_281 bs_341 ⟨rfl, rfl⟩ ⟨Nat.le_of_ble_eq_true rfl, Nat.le_of_ble_eq_true rfl⟩ cf4 (lay_lt (lay_H5 hl0) (by decide)) (lay_H5 hl0) (c_X6_get Γ.2.1 E ad (lay_H5 hl0) hc5) rfl rfl (Nat.le_of_ble_eq_true rfl) dX0_fitsNotes_29 ?_
      refine bd1_elim h (fun r6 hc7 h => ?_)
      refine j_callSi X (As := [.int c2, .int r2, .int r4]) (rest := []) mf_X3_loudness bw_604 bw_410 ⟨rfl, rfl⟩ ⟨Nat.le_of_ble_eq_true rfl, Nat.le_of_ble_eq_true rfl⟩ (c_X3_loudness Γ.2.1 E ad  hc7) rfl rfl (Nat.le_of_ble_eq_true rfl) dX0_fitsNotes_32 ?_
      refine j_istore X (L' := [(4, .int r6), (3, .int v3), (0, .ref (ad k0)), (1, .int c1), (2, .int c2)]) rfl (by decide) rfl dX0_fitsNotes_35 ?_
      refine j_aload_n X 2 rfl rfl dX0_fitsNotes_37 ?_
      refine j_getr X cf1 (lay_lt hl0 (by decide)) hl0 5 rfl ⟨rfl, rfl⟩ (k0 + 9) (RF_H5 hl0) bw_75 dX0_fitsNotes_38 ?_
      refine j_iload_n X 1 rfl rfl dX0_fitsNotes_41 ?_
      refine j_iconst X (v := 0) (by decide) dX0_fitsNotes_42 ?_
      refine bd1_elim h (fun r8 hc9 h => ?_)
      refine j_callVi X (As := [.int v3, .int (0 : Int32)]) (rest := []) mf_X6_get bw_580 bw_281 bs_341 ⟨rfl, rfl⟩ ⟨Nat.le_of_ble_eq_true rfl, Nat.le_of_ble_eq_true rfl⟩ cf4 (lay_lt (lay_H5 hl0) (by decide)) (lay_H5 hl0) (c_X6_get Γ.2.1 E ad (lay_H5 hl0) hc9) rfl rfl (Nat.le_of_ble_eq_true rfl) dX0_fitsNotes_43 ?_
      refine j_iload_n X 3 rfl rfl dX0_fitsNotes_46 ?_
      refine j_icmp_ne X (tgt := 66) (by decide) dX0_fitsNotes_47 (fun c => ?_) (fun c => ?_)
      · have h := (if_neg c).symm.trans h
        refine nm_elim h (fun x10 ex10 h => ?_)
        refine j_iinc1 X (L' := [(3, .int x10), (4, .int r6), (0, .ref (ad k0)), (1, .int c1), (2, .int c2)]) 1 rfl (q := 1) (by decide) ex10 (by decide) rfl dX0_fitsNotes_66 ?_
        refine j_goto X (tgt := 2) (by decide) dX0_fitsNotes_69 ?_
        exact J.sub [0, 2, 3, 4] rfl (ih x10 h)
      · have h := (if_pos c).symm.trans h
        refine j_iload X 0 rfl dX0_fitsNotes_50 ?_
        refine j_aload_n X 2 rfl rfl dX0_fitsNotes_52 ?_
        refine j_getr X cf1 (lay_lt hl0 (by decide)) hl0 5 rfl ⟨rfl, rfl⟩ (k0 + 9) (RF_H5 hl0) bw_75 dX0_fitsNotes_53 ?_
        refine j_iload_n X 1 rfl rfl dX0_fitsNotes_56 ?_
        refine j_iconst X (v := 3) (by decide) dX0_fitsNotes_57 ?_
        refine bd1_elim h (fun r11 hc12 h => ?_)
        refine j_callVi X (As := [.int v3, .int (3 : Int32)]) (rest := [.int r6]) mf_X6_get bw_580 bw_281 bs_341 ⟨rfl, rfl⟩ ⟨Nat.le_of_ble_eq_true rfl, Nat.le_of_ble_eq_true rfl⟩ cf4 (lay_lt (lay_H5 hl0) (by decide)) (lay_H5 hl0) (c_X6_get Γ.2.1 E ad (lay_H5 hl0) hc12) rfl rfl (Nat.le_of_ble_eq_true rfl) dX0_fitsNotes_58 ?_
        refine j_icmp_eq X (tgt := 66) (by decide) dX0_fitsNotes_61 (fun c => ?_) (fun c => ?_)
        · have h := (if_pos c).symm.trans h
          refine nm_elim h (fun x13 ex13 h => ?_)
          refine j_iinc1 X (L' := [(3, .int x13), (4, .int r6), (0, .ref (ad k0)), (1, .int c1), (2, .int c2)]) 1 rfl (q := 1) (by decide) ex13 (by decide) rfl dX0_fitsNotes_66 ?_
          refine j_goto X (tgt := 2) (by decide) dX0_fitsNotes_69 ?_
          exact J.sub [0, 2, 3, 4] rfl (ih x13 h)
        · have h := (if_neg c).symm.trans h
          refine j_iconst X (v := 0) (by decide) dX0_fitsNotes_64 ?_
          exact j_iret X Y rfl (ret_pi h) dX0_fitsNotes_65
set_option maxHeartbeats 4000000 in
set_option maxRecDepth 100000 in
theorem c_X0_fitsNotes (l : Launch) (E : Ev) (ad : Nat → Nat) {k0 : Nat} (hl0 : lay k0 = 1) {a1 : Int32} {a2 : Int32} {σ : Sg} {r : Int32} (h : m_X0_fitsNotes k0 a1 a2 σ = some r) : Met l yX0_fitsNotes (wY yX0_fitsNotes cX0_fitsNotes 5 (some .boolean)) rm_X0_fitsNotes (va_Pc [.ref (ad k0), .int a1, .int a2] (PreU E ad RF 85 σ)) (QcN E ad (some (.int r), σ)) 0 0 (EA E) := by
  refine met_of (L0 := [(0, .ref (ad k0)), (1, .int a1), (2, .int a2)]) rfl (Nat.le_of_ble_eq_true rfl) rfl (fun Γ X Y => ?_)
  have X : XC Γ E rm_X0_fitsNotes cX0_fitsNotes 5 RX0 := X
  unfold m_X0_fitsNotes at h
  refine j_iconst X (v := 0) (by decide) dX0_fitsNotes_0 ?_
  refine nm_elim h (fun x1 ex1 h => ?_)
  refine j_istore_n X (L' := [(3, .int x1), (0, .ref (ad k0)), (1, .int a1), (2, .int a2)]) ex1 rfl (by decide) rfl dX0_fitsNotes_1 ?_
  refine J.sub [0, 1, 2, 3] rfl ?_
  exact jl_X0_fitsNotes_L2 X hl0 Y 1000 x1 h

abbrev rm_X0_sayingKinds : Room := { frames := 2, cells := 0, slots := 0, locals := 50 }
set_option maxHeartbeats 4000000 in
set_option maxRecDepth 100000 in
theorem jl_X0_sayingKinds_L4 {Γ : Cx} {E : Ev} {ad : Nat → Nat} (X : XC Γ E rm_X0_sayingKinds cX0_sayingKinds 4 RX0) {k0 : Nat} (hl0 : lay k0 = 1) {c1 : Int32} {σ : Sg} {kx : Unit → Option (Int32)} {r : Int32} (Y : XQ Γ E ad (some .int) (some (.int r), σ))  : ∀ n (v3 : Int32) (v2 : Int32), m_X0_sayingKinds_L4 k0 c1 σ kx n v3 v2 = some r → J Γ E 4 ad RF 85 σ 0 0 4 [(3, .int v3), (2, .int v2), (0, .ref (ad k0)), (1, .int c1)] [] := by
  intro n
  induction n with
  | zero =>
    intro v3 v2 h
    cases h
  | succ n ih =>
    intro v3 v2 h
    rw [m_X0_sayingKinds_L4.eq_2] at h
    refine j_iload_n X 0 rfl rfl dX0_sayingKinds_4 ?_
    refine j_bipush X (v := 6) (by decide) dX0_sayingKinds_5 ?_
    refine j_icmp_ge X (tgt := 31) (by decide) dX0_sayingKinds_7 (fun c => ?_) (fun c => ?_)
    · have h := (if_pos c).symm.trans h
      refine j_iload_n X 1 rfl rfl dX0_sayingKinds_31 ?_
      exact j_iret X Y rfl (ret_pi h) dX0_sayingKinds_32
    · have h := (if_neg c).symm.trans h
      refine j_aload_n X 2 rfl rfl dX0_sayingKinds_10 ?_
      refine j_iload_n X 3 rfl rfl dX0_sayingKinds_11 ?_
      refine j_iload_n X 0 rfl rfl dX0_sayingKinds_12 ?_
      refine bd1_elim h (fun r3 hc4 h => ?_)
      refine j_callSi X (As := [.ref (ad k0), .int c1, .int v3]) (rest := []) mf_X0_fitsNotes bw_601 bw_602 ⟨rfl, rfl⟩ ⟨Nat.le_of_ble_eq_true rfl, Nat.le_of_ble_eq_true rfl⟩ (c_X0_fitsNotes Γ.2.1 E ad hl0 hc4) rfl rfl (Nat.le_of_ble_eq_true rfl) dX0_sayingKinds_13 ?_
      refine bd1_elim h (fun o6 hr h => ?_)
      have hJ5 : J Γ E 4 ad RF 85 σ 0 0 25 [(3, .int v3), (0, .ref (ad k0)), (1, .int c1), (2, .int o6)] [] := by
        refine nm_elim h (fun x7 ex7 h => ?_)
        refine j_iinc1 X (L' := [(3, .int x7), (0, .ref (ad k0)), (1, .int c1), (2, .int o6)]) 0 rfl (q := 1) (by decide) ex7 (by decide) rfl dX0_sayingKinds_25 ?_
        refine j_goto X (tgt := 4) (by decide) dX0_sayingKinds_28 ?_
        exact J.sub [0, 3, 1, 2] rfl (ih x7 o6 h)
      clear h
      refine j_if_eq X (tgt := 25) (by decide) dX0_sayingKinds_16 (fun c => ?_) (fun c => ?_)
      · have hr := (if_pos c).symm.trans hr
        cases hr
        exact J.sub [0, 2, 3, 1] rfl hJ5
      · have hr := (if_neg c).symm.trans hr
        refine j_iload_n X 1 rfl rfl dX0_sayingKinds_19 ?_
        refine j_iconst X (v := 1) (by decide) dX0_sayingKinds_20 ?_
        refine j_iload_n X 0 rfl rfl dX0_sayingKinds_21 ?_
        refine j_ishl X dX0_sayingKinds_22 ?_
        refine j_ior X dX0_sayingKinds_23 ?_
        refine nm_elim hr (fun x8 ex8 hr => ?_)
        refine j_istore_n X (L' := [(2, .int x8), (3, .int v3), (0, .ref (ad k0)), (1, .int c1)]) ex8 rfl (by decide) rfl dX0_sayingKinds_24 ?_
        cases hr
        exact J.sub [1, 2, 3, 0] rfl hJ5
set_option maxHeartbeats 4000000 in
set_option maxRecDepth 100000 in
theorem c_X0_sayingKinds (l : Launch) (E : Ev) (ad : Nat → Nat) {k0 : Nat} (hl0 : lay k0 = 1) {a1 : Int32} {σ : Sg} {r : Int32} (h : m_X0_sayingKinds k0 a1 σ = some r) : Met l yX0_sayingKinds (wY yX0_sayingKinds cX0_sayingKinds 4 (some .int)) rm_X0_sayingKinds (va_Pc [.ref (ad k0), .int a1] (PreU E ad RF 85 σ)) (QcN E ad (some (.int r), σ)) 0 0 (EA E) := by
  refine met_of (L0 := [(0, .ref (ad k0)), (1, .int a1)]) rfl (Nat.le_of_ble_eq_true rfl) rfl (fun Γ X Y => ?_)
  have X : XC Γ E rm_X0_sayingKinds cX0_sayingKinds 4 RX0 := X
  unfold m_X0_sayingKinds at h
  refine j_iconst X (v := 0) (by decide) dX0_sayingKinds_0 ?_
  refine nm_elim h (fun x1 ex1 h => ?_)
  refine j_istore_n X (L' := [(2, .int x1), (0, .ref (ad k0)), (1, .int a1)]) ex1 rfl (by decide) rfl dX0_sayingKinds_1 ?_
  refine j_iconst X (v := 0) (by decide) dX0_sayingKinds_2 ?_
  refine nm_elim h (fun x2 ex2 h => ?_)
  refine j_istore_n X (L' := [(3, .int x2), (2, .int x1), (0, .ref (ad k0)), (1, .int a1)]) ex2 rfl (by decide) rfl dX0_sayingKinds_3 ?_
  refine J.sub [0, 1, 2, 3] rfl ?_
  exact jl_X0_sayingKinds_L4 X hl0 Y 1000 x2 x1 h

abbrev rm_X0_asLoudAs : Room := { frames := 1, cells := 0, slots := 0, locals := 26 }
set_option maxHeartbeats 4000000 in
set_option maxRecDepth 100000 in
theorem jl_X0_asLoudAs_L14 {Γ : Cx} {E : Ev} {ad : Nat → Nat} (X : XC Γ E rm_X0_asLoudAs cX0_asLoudAs 7 RX0)   {c4 : Int32} {c1 : Int32} {c2 : Int32} {c3 : Int32} {σ : Sg} {kx : Unit → Option (Int32)} {r : Int32} (Y : XQ Γ E ad (some .int) (some (.int r), σ))  : ∀ n (v6 : Int32) (v5 : Int32), m_X0_asLoudAs_L14 c4 c1 c2 c3 σ kx n v6 v5 = some r → J Γ E 7 ad RF 85 σ 0 0 14 [(6, .int v6), (5, .int v5), (4, .int c4), (1, .int c1), (2, .int c2), (3, .int c3)] [] := by
  intro n
  induction n with
  | zero =>
    intro v6 v5 h
    cases h
  | succ n ih =>
    intro v6 v5 h
    rw [m_X0_asLoudAs_L14.eq_2] at h
    refine j_iload X 0 rfl dX0_asLoudAs_14 ?_
    refine j_bipush X (v := 6) (by decide) dX0_asLoudAs_16 ?_
    refine j_icmp_ge X (tgt := 51) (by decide) dX0_asLoudAs_18 (fun c => ?_) (fun c => ?_)
    · have h := (if_pos c).symm.trans h
      refine j_iload X 1 rfl dX0_asLoudAs_51 ?_
      exact j_iret X Y rfl (ret_pi h) dX0_asLoudAs_53
    · have h := (if_neg c).symm.trans h
      refine j_iload_n X 3 rfl rfl dX0_asLoudAs_21 ?_
      refine j_iload X 0 rfl dX0_asLoudAs_22 ?_
      refine bd1_elim h (fun r5 hc6 h => ?_)
      refine j_callSNi X (As := [.int c1, .int v6]) (rest := []) mf_X7_isIn (by simp [nestL]) bw_407 ⟨rfl, rfl⟩ ⟨Nat.le_of_ble_eq_true rfl, Nat.le_of_ble_eq_true rfl⟩ (c_X7_isIn Γ.2.1 E ad  hc6) rfl rfl (Nat.le_of_ble_eq_true rfl) dX0_asLoudAs_24 ?_
      refine bd1_elim h (fun o8 hr h => ?_)
      have hJ7 : J Γ E 7 ad RF 85 σ 0 0 45 [(6, .int v6), (4, .int c4), (1, .int c1), (2, .int c2), (3, .int c3), (5, .int o8)] [] := by
        refine nm_elim h (fun x9 ex9 h => ?_)
        refine j_iinc1 X (L' := [(6, .int x9), (4, .int c4), (1, .int c1), (2, .int c2), (3, .int c3), (5, .int o8)]) 0 rfl (q := 1) (by decide) ex9 (by decide) rfl dX0_asLoudAs_45 ?_
        refine j_goto X (tgt := 14) (by decide) dX0_asLoudAs_48 ?_
        exact J.sub [0, 5, 1, 2, 3, 4] rfl (ih x9 o8 h)
      clear h
      refine j_if_eq X (tgt := 45) (by decide) dX0_asLoudAs_27 (fun c => ?_) (fun c => ?_)
      · have hr := (if_pos c).symm.trans hr
        cases hr
        exact J.sub [0, 2, 3, 4, 5, 1] rfl hJ7
      · have hr := (if_neg c).symm.trans hr
        refine j_iload X 0 rfl dX0_asLoudAs_30 ?_
        refine j_iload_n X 4 rfl rfl dX0_asLoudAs_32 ?_
        refine j_iload_n X 5 rfl rfl dX0_asLoudAs_33 ?_
        refine bd1_elim hr (fun r10 hc11 hr => ?_)
        refine j_callSi X (As := [.int v6, .int c2, .int c3]) (rest := []) mf_X3_loudness bw_604 bw_410 ⟨rfl, rfl⟩ ⟨Nat.le_of_ble_eq_true rfl, Nat.le_of_ble_eq_true rfl⟩ (c_X3_loudness Γ.2.1 E ad  hc11) rfl rfl (Nat.le_of_ble_eq_true rfl) dX0_asLoudAs_34 ?_
        refine j_iload X 2 rfl dX0_asLoudAs_37 ?_
        refine j_icmp_ne X (tgt := 45) (by decide) dX0_asLoudAs_39 (fun c => ?_) (fun c => ?_)
        · have hr := (if_neg c).symm.trans hr
          cases hr
          exact J.sub [0, 2, 3, 4, 5, 1] rfl hJ7
        · have hr := (if_pos c).symm.trans hr
          refine nm_elim hr (fun x12 ex12 hr => ?_)
          refine j_iinc1 X (L' := [(5, .int x12), (6, .int v6), (4, .int c4), (1, .int c1), (2, .int c2), (3, .int c3)]) 1 rfl (q := 1) (by decide) ex12 (by decide) rfl dX0_asLoudAs_42 ?_
          cases hr
          exact J.sub [1, 2, 3, 4, 5, 0] rfl hJ7
set_option maxHeartbeats 4000000 in
set_option maxRecDepth 100000 in
theorem c_X0_asLoudAs (l : Launch) (E : Ev) (ad : Nat → Nat)   {a0 : Int32} {a1 : Int32} {a2 : Int32} {a3 : Int32} {σ : Sg} {r : Int32} (h : m_X0_asLoudAs a0 a1 a2 a3 σ = some r) : Met l yX0_asLoudAs (wY yX0_asLoudAs cX0_asLoudAs 7 (some .int)) rm_X0_asLoudAs (va_Pc [.int a0, .int a1, .int a2, .int a3] (PreU E ad RF 85 σ)) (QcN E ad (some (.int r), σ)) 0 0 (EA E) := by
  refine met_of (L0 := [(0, .int a0), (1, .int a1), (2, .int a2), (3, .int a3)]) rfl (Nat.le_of_ble_eq_true rfl) rfl (fun Γ X Y => ?_)
  have X : XC Γ E rm_X0_asLoudAs cX0_asLoudAs 7 RX0 := X
  unfold m_X0_asLoudAs at h
  refine j_iload_n X 0 rfl rfl dX0_asLoudAs_0 ?_
  refine j_iload_n X 2 rfl rfl dX0_asLoudAs_1 ?_
  refine j_iload_n X 3 rfl rfl dX0_asLoudAs_2 ?_
  refine bd1_elim h (fun r1 hc2 h => ?_)
  refine j_callSi X (As := [.int a0, .int a2, .int a3]) (rest := []) mf_X3_loudness bw_604 bw_410 ⟨rfl, rfl⟩ ⟨Nat.le_of_ble_eq_true rfl, Nat.le_of_ble_eq_true rfl⟩ (c_X3_loudness Γ.2.1 E ad  hc2) rfl rfl (Nat.le_of_ble_eq_true rfl) dX0_asLoudAs_3 ?_
  refine j_istore X (L' := [(4, .int r1), (0, .int a0), (1, .int a1), (2, .int a2), (3, .int a3)]) rfl (by decide) rfl dX0_asLoudAs_6 ?_
  refine j_iconst X (v := 0) (by decide) dX0_asLoudAs_8 ?_
  refine nm_elim h (fun x3 ex3 h => ?_)
  refine j_istore X (L' := [(5, .int x3), (4, .int r1), (0, .int a0), (1, .int a1), (2, .int a2), (3, .int a3)]) ex3 (by decide) rfl dX0_asLoudAs_9 ?_
  refine j_iconst X (v := 0) (by decide) dX0_asLoudAs_11 ?_
  refine nm_elim h (fun x4 ex4 h => ?_)
  refine j_istore X (L' := [(6, .int x4), (5, .int x3), (4, .int r1), (0, .int a0), (1, .int a1), (2, .int a2), (3, .int a3)]) ex4 (by decide) rfl dX0_asLoudAs_12 ?_
  refine J.sub [0, 1, 2, 4, 5, 6] rfl ?_
  exact jl_X0_asLoudAs_L14 X  Y 1000 x4 x3 h

abbrev rm_X0_mostAlike : Room := { frames := 2, cells := 0, slots := 0, locals := 52 }
set_option maxHeartbeats 4000000 in
set_option maxRecDepth 100000 in
theorem jl_X0_mostAlike_L5 {Γ : Cx} {E : Ev} {ad : Nat → Nat} (X : XC Γ E rm_X0_mostAlike cX0_mostAlike 5 RX0)   {c0 : Int32} {c1 : Int32} {c2 : Int32} {σ : Sg} {kx : Unit → Option (Int32)} {r : Int32} (Y : XQ Γ E ad (some .int) (some (.int r), σ))  : ∀ n (v4 : Int32) (v3 : Int32), m_X0_mostAlike_L5 c0 c1 c2 σ kx n v4 v3 = some r → J Γ E 5 ad RF 85 σ 0 0 5 [(4, .int v4), (3, .int v3), (0, .int c0), (1, .int c1), (2, .int c2)] [] := by
  intro n
  induction n with
  | zero =>
    intro v4 v3 h
    cases h
  | succ n ih =>
    intro v4 v3 h
    rw [m_X0_mostAlike_L5.eq_2] at h
    refine j_iload X 0 rfl dX0_mostAlike_5 ?_
    refine j_bipush X (v := 6) (by decide) dX0_mostAlike_7 ?_
    refine j_icmp_ge X (tgt := 40) (by decide) dX0_mostAlike_9 (fun c => ?_) (fun c => ?_)
    · have h := (if_pos c).symm.trans h
      refine j_iload_n X 1 rfl rfl dX0_mostAlike_40 ?_
      exact j_iret X Y rfl (ret_pi h) dX0_mostAlike_41
    · have h := (if_neg c).symm.trans h
      refine j_iload_n X 2 rfl rfl dX0_mostAlike_12 ?_
      refine j_iload X 0 rfl dX0_mostAlike_13 ?_
      refine bd1_elim h (fun r3 hc4 h => ?_)
      refine j_callSNi X (As := [.int c0, .int v4]) (rest := []) mf_X7_isIn (by simp [nestL]) bw_407 ⟨rfl, rfl⟩ ⟨Nat.le_of_ble_eq_true rfl, Nat.le_of_ble_eq_true rfl⟩ (c_X7_isIn Γ.2.1 E ad  hc4) rfl rfl (Nat.le_of_ble_eq_true rfl) dX0_mostAlike_15 ?_
      refine bd1_elim h (fun o6 hr h => ?_)
      have hJ5 : J Γ E 5 ad RF 85 σ 0 0 34 [(4, .int v4), (0, .int c0), (1, .int c1), (2, .int c2), (3, .int o6)] [] := by
        refine nm_elim h (fun x7 ex7 h => ?_)
        refine j_iinc1 X (L' := [(4, .int x7), (0, .int c0), (1, .int c1), (2, .int c2), (3, .int o6)]) 0 rfl (q := 1) (by decide) ex7 (by decide) rfl dX0_mostAlike_34 ?_
        refine j_goto X (tgt := 5) (by decide) dX0_mostAlike_37 ?_
        exact J.sub [0, 4, 1, 2, 3] rfl (ih x7 o6 h)
      clear h
      refine j_if_eq X (tgt := 34) (by decide) dX0_mostAlike_18 (fun c => ?_) (fun c => ?_)
      · have hr := (if_pos c).symm.trans hr
        cases hr
        exact J.sub [0, 2, 3, 4, 1] rfl hJ5
      · have hr := (if_neg c).symm.trans hr
        refine j_iload_n X 1 rfl rfl dX0_mostAlike_21 ?_
        refine j_iload X 0 rfl dX0_mostAlike_22 ?_
        refine j_iload_n X 2 rfl rfl dX0_mostAlike_24 ?_
        refine j_iload_n X 3 rfl rfl dX0_mostAlike_25 ?_
        refine j_iload_n X 4 rfl rfl dX0_mostAlike_26 ?_
        refine bd1_elim hr (fun r8 hc9 hr => ?_)
        refine j_callSi X (As := [.int v4, .int c0, .int c1, .int c2]) (rest := [.int v3]) mf_X0_asLoudAs bw_617 bw_618 ⟨rfl, rfl⟩ ⟨Nat.le_of_ble_eq_true rfl, Nat.le_of_ble_eq_true rfl⟩ (c_X0_asLoudAs Γ.2.1 E ad  hc9) rfl rfl (Nat.le_of_ble_eq_true rfl) dX0_mostAlike_27 ?_
        refine nm_elim hr (fun x10 ex10 hr => ?_)
        refine j_mmax X bw_620 bw_37 bw_4 bw_38 ⟨Nat.le_of_ble_eq_true rfl, Nat.le_of_ble_eq_true rfl⟩ dX0_mostAlike_30 ?_
        refine j_topi ex10 ?_
        refine j_istore_n X (L' := [(3, .int x10), (4, .int v4), (0, .int c0), (1, .int c1), (2, .int c2)]) rfl rfl (by decide) rfl dX0_mostAlike_33 ?_
        cases hr
        exact J.sub [1, 2, 3, 4, 0] rfl hJ5
set_option maxHeartbeats 4000000 in
set_option maxRecDepth 100000 in
theorem c_X0_mostAlike (l : Launch) (E : Ev) (ad : Nat → Nat)   {a0 : Int32} {a1 : Int32} {a2 : Int32} {σ : Sg} {r : Int32} (h : m_X0_mostAlike a0 a1 a2 σ = some r) : Met l yX0_mostAlike (wY yX0_mostAlike cX0_mostAlike 5 (some .int)) rm_X0_mostAlike (va_Pc [.int a0, .int a1, .int a2] (PreU E ad RF 85 σ)) (QcN E ad (some (.int r), σ)) 0 0 (EA E) := by
  refine met_of (L0 := [(0, .int a0), (1, .int a1), (2, .int a2)]) rfl (Nat.le_of_ble_eq_true rfl) rfl (fun Γ X Y => ?_)
  have X : XC Γ E rm_X0_mostAlike cX0_mostAlike 5 RX0 := X
  unfold m_X0_mostAlike at h
  refine j_iconst X (v := 0) (by decide) dX0_mostAlike_0 ?_
  refine nm_elim h (fun x1 ex1 h => ?_)
  refine j_istore_n X (L' := [(3, .int x1), (0, .int a0), (1, .int a1), (2, .int a2)]) ex1 rfl (by decide) rfl dX0_mostAlike_1 ?_
  refine j_iconst X (v := 0) (by decide) dX0_mostAlike_2 ?_
  refine nm_elim h (fun x2 ex2 h => ?_)
  refine j_istore X (L' := [(4, .int x2), (3, .int x1), (0, .int a0), (1, .int a1), (2, .int a2)]) ex2 (by decide) rfl dX0_mostAlike_3 ?_
  refine J.sub [0, 1, 2, 3, 4] rfl ?_
  exact jl_X0_mostAlike_L5 X  Y 1000 x2 x1 h

abbrev rm_X0_nextLook : Room := { frames := 3, cells := 0, slots := 0, locals := 76 }
set_option maxHeartbeats 4000000 in
set_option maxRecDepth 100000 in
theorem jl_X0_nextLook_L32 {Γ : Cx} {E : Ev} {ad : Nat → Nat} (X : XC Γ E rm_X0_nextLook cX0_nextLook 8 RX0) {k0 : Nat} (hl0 : lay k0 = 1) {c3 : Int32} {c2 : Int32} {σ : Sg} {kx : Unit → Option (Int32)} {r : Int32} (Y : XQ Γ E ad (some .int) (some (.int r), σ))  : ∀ n (v6 : Int32) (v5 : Int32) (v4 : Int32), m_X0_nextLook_L32 k0 c3 c2 σ kx n v6 v5 v4 = some r → J Γ E 8 ad RF 85 σ 0 0 32 [(6, .int v6), (5, .int v5), (4, .int v4), (3, .int c3), (2, .int c2)] [] := by
  intro n
  induction n with
  | zero =>
    intro v6 v5 v4 h
    cases h
  | succ n ih =>
    intro v6 v5 v4 h
    rw [m_X0_nextLook_L32.eq_2] at h
    refine j_iload X 0 rfl dX0_nextLook_32 ?_
    refine j_bipush X (v := 30) (by decide) dX0_nextLook_34 ?_
    refine j_icmp_ge X (tgt := 69) (by decide) dX0_nextLook_36 (fun c => ?_) (fun c => ?_)
    · have h := (if_pos c).symm.trans h
      refine j_iload X 1 rfl dX0_nextLook_69 ?_
      exact j_iret X Y rfl (ret_pi h) dX0_nextLook_71
    · have h := (if_neg c).symm.trans h
      refine j_iload_n X 4 rfl rfl dX0_nextLook_39 ?_
      refine j_iload_n X 3 rfl rfl dX0_nextLook_40 ?_
      refine j_iload X 0 rfl dX0_nextLook_41 ?_
      refine bd1_elim h (fun r8 hc9 h => ?_)
      refine j_callSi X (As := [.int c2, .int c3, .int v6]) (rest := []) mf_X0_mostAlike bw_613 bw_614 ⟨rfl, rfl⟩ ⟨Nat.le_of_ble_eq_true rfl, Nat.le_of_ble_eq_true rfl⟩ (c_X0_mostAlike Γ.2.1 E ad  hc9) rfl rfl (Nat.le_of_ble_eq_true rfl) dX0_nextLook_43 ?_
      refine j_istore X (L' := [(7, .int r8), (6, .int v6), (5, .int v5), (4, .int v4), (3, .int c3), (2, .int c2)]) rfl (by decide) rfl dX0_nextLook_46 ?_
      refine j_iload X 0 rfl dX0_nextLook_48 ?_
      refine j_iload X 3 rfl dX0_nextLook_50 ?_
      refine bd2_elim h (fun o11 o12 hr h => ?_)
      have hJ10 : J Γ E 8 ad RF 85 σ 0 0 63 [(6, .int v6), (3, .int c3), (2, .int c2), (4, .int o11), (5, .int o12)] [] := by
        refine nm_elim h (fun x13 ex13 h => ?_)
        refine j_iinc1 X (L' := [(6, .int x13), (3, .int c3), (2, .int c2), (4, .int o11), (5, .int o12)]) 0 rfl (q := 1) (by decide) ex13 (by decide) rfl dX0_nextLook_63 ?_
        refine j_goto X (tgt := 32) (by decide) dX0_nextLook_66 ?_
        exact J.sub [0, 4, 3, 1, 2] rfl (ih x13 o12 o11 h)
      clear h
      refine j_icmp_ge X (tgt := 63) (by decide) dX0_nextLook_52 (fun c => ?_) (fun c => ?_)
      · have hr := (if_pos c).symm.trans hr
        cases hr
        exact J.sub [1, 4, 5, 3, 2] rfl hJ10
      · have hr := (if_neg c).symm.trans hr
        refine j_iload X 0 rfl dX0_nextLook_55 ?_
        refine j_istore X (L' := [(4, .int r8), (7, .int r8), (6, .int v6), (5, .int v5), (3, .int c3), (2, .int c2)]) rfl (by decide) rfl dX0_nextLook_57 ?_
        refine j_iload X 2 rfl dX0_nextLook_59 ?_
        refine j_istore X (L' := [(5, .int v6), (4, .int r8), (7, .int r8), (6, .int v6), (3, .int c3), (2, .int c2)]) rfl (by decide) rfl dX0_nextLook_61 ?_
        cases hr
        exact J.sub [3, 4, 5, 1, 0] rfl hJ10
set_option maxHeartbeats 4000000 in
set_option maxRecDepth 100000 in
theorem c_X0_nextLook (l : Launch) (E : Ev) (ad : Nat → Nat) {k0 : Nat} (hl0 : lay k0 = 1) {a1 : Int32} {σ : Sg} {r : Int32} (h : m_X0_nextLook k0 a1 σ = some r) : Met l yX0_nextLook (wY yX0_nextLook cX0_nextLook 8 (some .int)) rm_X0_nextLook (va_Pc [.ref (ad k0), .int a1] (PreU E ad RF 85 σ)) (QcN E ad (some (.int r), σ)) 0 0 (EA E) := by
  refine met_of (L0 := [(0, .ref (ad k0)), (1, .int a1)]) rfl (Nat.le_of_ble_eq_true rfl) rfl (fun Γ X Y => ?_)
  have X : XC Γ E rm_X0_nextLook cX0_nextLook 8 RX0 := X
  unfold m_X0_nextLook at h
  refine j_aload_n X 0 rfl rfl dX0_nextLook_0 ?_
  refine j_iload_n X 1 rfl rfl dX0_nextLook_1 ?_
  refine bd1_elim h (fun r1 hc2 h => ?_)
  refine j_callSi X (As := [.ref (ad k0), .int a1]) (rest := []) mf_X0_sayingKinds bw_612 bw_599 ⟨rfl, rfl⟩ ⟨Nat.le_of_ble_eq_true rfl, Nat.le_of_ble_eq_true rfl⟩ (c_X0_sayingKinds Γ.2.1 E ad hl0 hc2) rfl rfl (Nat.le_of_ble_eq_true rfl) dX0_nextLook_2 ?_
  refine j_istore_n X (L' := [(2, .int r1), (0, .ref (ad k0)), (1, .int a1)]) rfl rfl (by decide) rfl dX0_nextLook_5 ?_
  refine j_iload_n X 0 rfl rfl dX0_nextLook_6 ?_
  refine j_if_ne X (tgt := 12) (by decide) dX0_nextLook_7 (fun c => ?_) (fun c => ?_)
  · have h := (if_neg c).symm.trans h
    refine j_aload_n X 1 rfl rfl dX0_nextLook_12 ?_
    refine j_getr X cf1 (lay_lt hl0 (by decide)) hl0 1 rfl ⟨rfl, rfl⟩ (k0 + 1) (RF_H1 hl0) bw_64 dX0_nextLook_13 ?_
    refine j_iload_n X 2 rfl rfl dX0_nextLook_16 ?_
    refine j_iconst X (v := 2) (by decide) dX0_nextLook_17 ?_
    refine bd1_elim h (fun r3 hc4 h => ?_)
    refine j_callVi X (As := [.int a1, .int (2 : Int32)]) (rest := []) mf_X6_get bw_580 bw_281 bs_341 ⟨rfl, rfl⟩ ⟨Nat.le_of_ble_eq_true rfl, Nat.le_of_ble_eq_true rfl⟩ cf4 (lay_lt (lay_H1 hl0) (by decide)) (lay_H1 hl0) (c_X6_get Γ.2.1 E ad (lay_H1 hl0) hc4) rfl rfl (Nat.le_of_ble_eq_true rfl) dX0_nextLook_18 ?_
    refine j_istore_n X (L' := [(3, .int r3), (2, .int r1), (0, .ref (ad k0)), (1, .int a1)]) rfl rfl (by decide) rfl dX0_nextLook_21 ?_
    refine j_bipush X (v := 7) (by decide) dX0_nextLook_22 ?_
    refine nm_elim h (fun x5 ex5 h => ?_)
    refine j_istore X (L' := [(4, .int x5), (3, .int r3), (2, .int r1), (0, .ref (ad k0)), (1, .int a1)]) ex5 (by decide) rfl dX0_nextLook_24 ?_
    refine j_iconst X (v := -1) (by decide) dX0_nextLook_26 ?_
    refine nm_elim h (fun x6 ex6 h => ?_)
    refine j_istore X (L' := [(5, .int x6), (4, .int x5), (3, .int r3), (2, .int r1), (0, .ref (ad k0)), (1, .int a1)]) ex6 (by decide) rfl dX0_nextLook_27 ?_
    refine j_iconst X (v := 0) (by decide) dX0_nextLook_29 ?_
    refine nm_elim h (fun x7 ex7 h => ?_)
    refine j_istore X (L' := [(6, .int x7), (5, .int x6), (4, .int x5), (3, .int r3), (2, .int r1), (0, .ref (ad k0)), (1, .int a1)]) ex7 (by decide) rfl dX0_nextLook_30 ?_
    refine J.sub [0, 1, 2, 3, 4] rfl ?_
    exact jl_X0_nextLook_L32 X hl0 Y 1000 x7 x6 x5 h
  · have h := (if_pos c).symm.trans h
    refine j_iconst X (v := -1) (by decide) dX0_nextLook_10 ?_
    exact j_iret X Y rfl (ret_pi h) dX0_nextLook_11

abbrev rm_X3_heard : Room := { frames := 0, cells := 0, slots := 0, locals := 0 }
set_option maxHeartbeats 4000000 in
set_option maxRecDepth 100000 in
theorem c_X3_heard (l : Launch) (E : Ev) (ad : Nat → Nat)   {a0 : Int32} {a1 : Int32} {a2 : Int32} {σ : Sg} {r : Int32} (h : m_X3_heard a0 a1 a2 σ = some r) : Met l yX3_heard (wY yX3_heard cX3_heard 7 (some .int)) rm_X3_heard (va_Pc [.int a0, .int a1, .int a2] (PreU E ad RF 85 σ)) (QcN E ad (some (.int r), σ)) 0 0 (EA E) := by
  refine met_of (L0 := [(0, .int a0), (1, .int a1), (2, .int a2)]) rfl (Nat.le_of_ble_eq_true rfl) rfl (fun Γ X Y => ?_)
  have X : XC Γ E rm_X3_heard cX3_heard 7 RX3 := X
  unfold m_X3_heard at h
  refine j_iload_n X 1 rfl rfl dX3_heard_0 ?_
  refine j_iload_n X 2 rfl rfl dX3_heard_1 ?_
  refine j_iconst X (v := 4) (by decide) dX3_heard_2 ?_
  refine j_idiv X (by decide) dX3_heard_3 ?_
  refine j_isub X dX3_heard_4 ?_
  refine nm_elim h (fun x1 ex1 h => ?_)
  refine j_istore_n X (L' := [(3, .int x1), (0, .int a0), (1, .int a1), (2, .int a2)]) ex1 rfl (by decide) rfl dX3_heard_5 ?_
  refine j_iload_n X 0 rfl rfl dX3_heard_6 ?_
  refine j_iconst X (v := 3) (by decide) dX3_heard_7 ?_
  refine j_isub X dX3_heard_8 ?_
  refine nm_elim h (fun x2 ex2 h => ?_)
  refine j_istore X (L' := [(4, .int x2), (3, .int x1), (0, .int a0), (1, .int a1), (2, .int a2)]) ex2 (by decide) rfl dX3_heard_9 ?_
  refine j_iload_n X 3 rfl rfl dX3_heard_11 ?_
  refine j_iconst X (v := 1) (by decide) dX3_heard_12 ?_
  refine bd1_elim h (fun o4 hr h => ?_)
  have hJ3 : J Γ E 7 ad RF 85 σ 0 0 21 [(4, .int x2), (3, .int x1), (0, .int a0), (1, .int a1), (2, .int a2)] [.int o4] := by
    refine j_istore X (L' := [(5, .int o4), (4, .int x2), (3, .int x1), (0, .int a0), (1, .int a1), (2, .int a2)]) rfl (by decide) rfl dX3_heard_21 ?_
    refine j_iload_n X 2 rfl rfl dX3_heard_23 ?_
    refine j_iload X 0 rfl dX3_heard_24 ?_
    refine j_iadd X dX3_heard_26 ?_
    refine nm_elim h (fun x5 ex5 h => ?_)
    refine j_istore X (L' := [(6, .int x5), (5, .int o4), (4, .int x2), (3, .int x1), (0, .int a0), (1, .int a1), (2, .int a2)]) ex5 (by decide) rfl dX3_heard_27 ?_
    refine j_iload_n X 4 rfl rfl dX3_heard_29 ?_
    by_cases c0 : a0 = 1
    · have h := (if_pos c0).symm.trans h
      refine j_tableIn X (tgt := 64) (by rw [c0]; decide) (by rw [c0]; decide) (by rw [c0]; rfl) (by decide) dX3_heard_30 ?_
      refine j_iload X 2 rfl dX3_heard_64 ?_
      exact j_iret X Y rfl (ret_pi h) dX3_heard_66
    · have h := (if_neg c0).symm.trans h
      by_cases c1 : a0 = 2
      · have h := (if_pos c1).symm.trans h
        refine j_tableIn X (tgt := 67) (by rw [c1]; decide) (by rw [c1]; decide) (by rw [c1]; rfl) (by decide) dX3_heard_30 ?_
        refine j_iload X 0 rfl dX3_heard_67 ?_
        exact j_iret X Y rfl (ret_pi h) dX3_heard_69
      · have h := (if_neg c1).symm.trans h
        by_cases c2 : a0 = 3
        · have h := (if_pos c2).symm.trans h
          refine j_tableIn X (tgt := 70) (by rw [c2]; decide) (by rw [c2]; decide) (by rw [c2]; rfl) (by decide) dX3_heard_30 ?_
          refine j_iload_n X 6 rfl rfl dX3_heard_70 ?_
          refine j_bipush X (v := 12) (by decide) dX3_heard_71 ?_
          refine j_icmp_le X (tgt := 83) (by decide) dX3_heard_73 (fun c => ?_) (fun c => ?_)
          · have h := (if_pos c).symm.trans h
            refine j_iload X 2 rfl dX3_heard_83 ?_
            exact j_iret X Y rfl (ret_pi h) dX3_heard_85
          · have h := (if_neg c).symm.trans h
            refine j_iload X 2 rfl dX3_heard_76 ?_
            refine j_iconst X (v := 2) (by decide) dX3_heard_78 ?_
            refine j_iadd X dX3_heard_79 ?_
            refine j_goto X (tgt := 85) (by decide) dX3_heard_80 ?_
            exact j_iret X Y rfl (ret_pi h) dX3_heard_85
        · have h := (if_neg c2).symm.trans h
          by_cases c3 : a0 = 4
          · have h := (if_pos c3).symm.trans h
            refine j_tableIn X (tgt := 86) (by rw [c3]; decide) (by rw [c3]; decide) (by rw [c3]; rfl) (by decide) dX3_heard_30 ?_
            refine j_iload X 0 rfl dX3_heard_86 ?_
            refine j_iconst X (v := 4) (by decide) dX3_heard_88 ?_
            refine j_icmp_le X (tgt := 96) (by decide) dX3_heard_89 (fun c => ?_) (fun c => ?_)
            · have h := (if_pos c).symm.trans h
              refine j_iload X 0 rfl dX3_heard_96 ?_
              exact j_iret X Y rfl (ret_pi h) dX3_heard_98
            · have h := (if_neg c).symm.trans h
              refine j_iconst X (v := 4) (by decide) dX3_heard_92 ?_
              refine j_goto X (tgt := 98) (by decide) dX3_heard_93 ?_
              exact j_iret X Y rfl (ret_pi h) dX3_heard_98
          · have h := (if_neg c3).symm.trans h
            by_cases c4 : a0 = 5
            · have h := (if_pos c4).symm.trans h
              refine j_tableIn X (tgt := 99) (by rw [c4]; decide) (by rw [c4]; decide) (by rw [c4]; rfl) (by decide) dX3_heard_30 ?_
              refine j_iload_n X 5 rfl rfl dX3_heard_99 ?_
              refine j_iload_n X 6 rfl rfl dX3_heard_100 ?_
              refine j_iconst X (v := 2) (by decide) dX3_heard_101 ?_
              refine j_idiv X (by decide) dX3_heard_102 ?_
              refine j_iconst X (v := 4) (by decide) dX3_heard_103 ?_
              refine j_idiv X (by decide) dX3_heard_104 ?_
              refine j_isub X dX3_heard_105 ?_
              refine j_iload X 1 rfl dX3_heard_106 ?_
              refine j_iadd X dX3_heard_108 ?_
              exact j_iret X Y rfl (ret_pi h) dX3_heard_109
            · have h := (if_neg c4).symm.trans h
              refine j_tableOut X (tgt := 110) (sw_out (x := a0) (lo := 1) (hi := 5) (fun z h1 h2 => by rcases (by omega : z = 1 ∨ z = 2 ∨ z = 3 ∨ z = 4 ∨ z = 5) with rfl | rfl | rfl | rfl | rfl <;> first | exact c0 | exact c1 | exact c2 | exact c3 | exact c4)) (by decide) dX3_heard_30 ?_
              refine j_iload_n X 3 rfl rfl dX3_heard_110 ?_
              exact j_iret X Y rfl (ret_pi h) dX3_heard_111
  clear h
  refine j_icmp_lt X (tgt := 20) (by decide) dX3_heard_13 (fun c => ?_) (fun c => ?_)
  · have hr := (if_pos c).symm.trans hr
    refine j_iconst X (v := 0) (by decide) dX3_heard_20 ?_
    cases hr
    exact J.sub [0, 1, 2, 3, 4] rfl hJ3
  · have hr := (if_neg c).symm.trans hr
    refine j_iconst X (v := 2) (by decide) dX3_heard_16 ?_
    refine j_goto X (tgt := 21) (by decide) dX3_heard_17 ?_
    cases hr
    exact J.sub [0, 1, 2, 3, 4] rfl hJ3

abbrev rm_X3_hears : Room := { frames := 1, cells := 0, slots := 0, locals := 26 }
set_option maxHeartbeats 4000000 in
set_option maxRecDepth 100000 in
theorem c_X3_hears (l : Launch) (E : Ev) (ad : Nat → Nat)   {a0 : Int32} {a1 : Int32} {a2 : Int32} {σ : Sg} {r : Int32} (h : m_X3_hears a0 a1 a2 σ = some r) : Met l yX3_hears (wY yX3_hears cX3_hears 3 (some .boolean)) rm_X3_hears (va_Pc [.int a0, .int a1, .int a2] (PreU E ad RF 85 σ)) (QcN E ad (some (.int r), σ)) 0 0 (EA E) := by
  refine met_of (L0 := [(0, .int a0), (1, .int a1), (2, .int a2)]) rfl (Nat.le_of_ble_eq_true rfl) rfl (fun Γ X Y => ?_)
  have X : XC Γ E rm_X3_hears cX3_hears 3 RX3 := X
  unfold m_X3_hears at h
  refine j_iload_n X 0 rfl rfl dX3_hears_0 ?_
  refine j_iload_n X 1 rfl rfl dX3_hears_1 ?_
  refine j_iload_n X 2 rfl rfl dX3_hears_2 ?_
  refine bd1_elim h (fun r1 hc2 h => ?_)
  refine j_callSi X (As := [.int a0, .int a1, .int a2]) (rest := []) mf_X3_heard bw_419 bw_420 ⟨rfl, rfl⟩ ⟨Nat.le_of_ble_eq_true rfl, Nat.le_of_ble_eq_true rfl⟩ (c_X3_heard Γ.2.1 E ad  hc2) rfl rfl (Nat.le_of_ble_eq_true rfl) dX3_hears_3 ?_
  refine j_iconst X (v := 1) (by decide) dX3_hears_6 ?_
  refine j_icmp_lt X (tgt := 14) (by decide) dX3_hears_7 (fun c => ?_) (fun c => ?_)
  · have h := (if_pos c).symm.trans h
    refine j_iconst X (v := 0) (by decide) dX3_hears_14 ?_
    exact j_iret X Y rfl (ret_pi h) dX3_hears_15
  · have h := (if_neg c).symm.trans h
    refine j_iconst X (v := 1) (by decide) dX3_hears_10 ?_
    refine j_goto X (tgt := 15) (by decide) dX3_hears_11 ?_
    exact j_iret X Y rfl (ret_pi h) dX3_hears_15

abbrev rm_X0_fitsMarks : Room := { frames := 2, cells := 0, slots := 0, locals := 48 }
set_option maxHeartbeats 4000000 in
set_option maxRecDepth 100000 in
theorem jl_X0_fitsMarks_L2 {Γ : Cx} {E : Ev} {ad : Nat → Nat} (X : XC Γ E rm_X0_fitsMarks cX0_fitsMarks 6 RX0) {k0 : Nat} (hl0 : lay k0 = 1) {c1 : Int32} {c2 : Int32} {σ : Sg} {kx : Unit → Option (Int32)} {r : Int32} (Y : XQ Γ E ad (some .boolean) (some (.int r), σ))  : ∀ n (v3 : Int32), m_X0_fitsMarks_L2 k0 c1 c2 σ kx n v3 = some r → J Γ E 6 ad RF 85 σ 0 0 2 [(3, .int v3), (0, .ref (ad k0)), (1, .int c1), (2, .int c2)] [] := by
  intro n
  induction n with
  | zero =>
    intro v3 h
    cases h
  | succ n ih =>
    intro v3 h
    rw [m_X0_fitsMarks_L2.eq_2] at h
    refine j_iload_n X 0 rfl rfl dX0_fitsMarks_2 ?_
    refine j_aload_n X 1 rfl rfl dX0_fitsMarks_3 ?_
    refine j_getr X cf1 (lay_lt hl0 (by decide)) hl0 6 rfl ⟨rfl, rfl⟩ (k0 + 11) (RF_H6 hl0) bw_78 dX0_fitsMarks_4 ?_
    refine j_geti X cf4 (lay_lt (lay_H6 hl0) (by decide)) (lay_H6 hl0) 3 rfl ⟨rfl, rfl⟩ bw_44 dX0_fitsMarks_7 ?_
    refine j_icmp_ge X (tgt := 85) (by decide) dX0_fitsMarks_10 (fun c => ?_) (fun c => ?_)
    · have h := (if_pos c).symm.trans h
      refine j_iconst X (v := 1) (by decide) dX0_fitsMarks_85 ?_
      exact j_iret X Y rfl (ret_pi h) dX0_fitsMarks_86
    · have h := (if_neg c).symm.trans h
      refine j_iload_n X 3 rfl rfl dX0_fitsMarks_13 ?_
      refine j_aload_n X 1 rfl rfl dX0_fitsMarks_14 ?_
      refine j_getr X cf1 (lay_lt hl0 (by decide)) hl0 6 rfl ⟨rfl, rfl⟩ (k0 + 11) (RF_H6 hl0) bw_78 dX0_fitsMarks_15 ?_
      refine j_iload_n X 0 rfl rfl dX0_fitsMarks_18 ?_
      refine j_iconst X (v := 1) (by decide) dX0_fitsMarks_19 ?_
      refine bd1_elim h (fun r2 hc3 h => ?_)
      refine j_callVi X (As := [.int v3, .int (1 : Int32)]) (rest := [.int c2]) mf_X6_get bw_580 bw_281 bs_341 ⟨rfl, rfl⟩ ⟨Nat.le_of_ble_eq_true rfl, Nat.le_of_ble_eq_true rfl⟩ cf4 (lay_lt (lay_H6 hl0) (by decide)) (lay_H6 hl0) (c_X6_get Γ.2.1 E ad (lay_H6 hl0) hc3) rfl rfl (Nat.le_of_ble_eq_true rfl) dX0_fitsMarks_20 ?_
      refine j_aload_n X 1 rfl rfl dX0_fitsMarks_23 ?_
      refine j_getr X cf1 (lay_lt hl0 (by decide)) hl0 6 rfl ⟨rfl, rfl⟩ (k0 + 11) (RF_H6 hl0) bw_78 dX0_fitsMarks_24 ?_
      refine j_iload_n X 0 rfl rfl dX0_fitsMarks_27 ?_
      refine j_iconst X (v := 2) (by decide) dX0_fitsMarks_28 ?_
      refine bd1_elim h (fun r4 hc5 h => ?_)
      refine j_callVi X (As := [.int v3, .int (2 : Int32)]) (rest := [.int r2, .int c2]) mf_X6_get bw_580 bw_281 bs_341 ⟨rfl, rfl⟩ ⟨Nat.le_of_ble_eq_true rfl, Nat.le_of_ble_eq_true rfl⟩ cf4 (lay_lt (lay_H6 hl0) (by decide)) (lay_H6 hl0) (c_X6_get Γ.2.1 E ad (lay_H6 hl0) hc5) rfl rfl (Nat.le_of_ble_eq_true rfl) dX0_fitsMarks_29 ?_
      refine bd1_elim h (fun r6 hc7 h => ?_)
      refine j_callSi X (As := [.int c2, .int r2, .int r4]) (rest := []) mf_X3_hears bw_631 bw_417 ⟨rfl, rfl⟩ ⟨Nat.le_of_ble_eq_true rfl, Nat.le_of_ble_eq_true rfl⟩ (c_X3_hears Γ.2.1 E ad  hc7) rfl rfl (Nat.le_of_ble_eq_true rfl) dX0_fitsMarks_32 ?_
      refine j_istore X (L' := [(4, .int r6), (3, .int v3), (0, .ref (ad k0)), (1, .int c1), (2, .int c2)]) rfl (by decide) rfl dX0_fitsMarks_35 ?_
      refine j_aload_n X 2 rfl rfl dX0_fitsMarks_37 ?_
      refine j_getr X cf1 (lay_lt hl0 (by decide)) hl0 6 rfl ⟨rfl, rfl⟩ (k0 + 11) (RF_H6 hl0) bw_78 dX0_fitsMarks_38 ?_
      refine j_iload_n X 1 rfl rfl dX0_fitsMarks_41 ?_
      refine j_iconst X (v := 3) (by decide) dX0_fitsMarks_42 ?_
      refine bd1_elim h (fun r8 hc9 h => ?_)
      refine j_callVi X (As := [.int v3, .int (3 : Int32)]) (rest := []) mf_X6_get bw_580 bw_281 bs_341 ⟨rfl, rfl⟩ ⟨Nat.le_of_ble_eq_true rfl, Nat.le_of_ble_eq_true rfl⟩ cf4 (lay_lt (lay_H6 hl0) (by decide)) (lay_H6 hl0) (c_X6_get Γ.2.1 E ad (lay_H6 hl0) hc9) rfl rfl (Nat.le_of_ble_eq_true rfl) dX0_fitsMarks_43 ?_
      refine j_iconst X (v := 1) (by decide) dX0_fitsMarks_46 ?_
      refine bd1_elim h (fun o11 hr h => ?_)
      have hJ10 : J Γ E 6 ad RF 85 σ 0 0 55 [(4, .int r6), (3, .int v3), (0, .ref (ad k0)), (1, .int c1), (2, .int c2)] [.int o11] := by
        refine j_istore X (L' := [(5, .int o11), (4, .int r6), (3, .int v3), (0, .ref (ad k0)), (1, .int c1), (2, .int c2)]) rfl (by decide) rfl dX0_fitsMarks_55 ?_
        refine j_aload_n X 3 rfl rfl dX0_fitsMarks_57 ?_
        refine j_getr X cf1 (lay_lt hl0 (by decide)) hl0 6 rfl ⟨rfl, rfl⟩ (k0 + 11) (RF_H6 hl0) bw_78 dX0_fitsMarks_58 ?_
        refine j_iload_n X 2 rfl rfl dX0_fitsMarks_61 ?_
        refine j_iconst X (v := 0) (by decide) dX0_fitsMarks_62 ?_
        refine bd1_elim h (fun r12 hc13 h => ?_)
        refine j_callVi X (As := [.int v3, .int (0 : Int32)]) (rest := []) mf_X6_get bw_580 bw_281 bs_341 ⟨rfl, rfl⟩ ⟨Nat.le_of_ble_eq_true rfl, Nat.le_of_ble_eq_true rfl⟩ cf4 (lay_lt (lay_H6 hl0) (by decide)) (lay_H6 hl0) (c_X6_get Γ.2.1 E ad (lay_H6 hl0) hc13) rfl rfl (Nat.le_of_ble_eq_true rfl) dX0_fitsMarks_63 ?_
        refine j_iload_n X 4 rfl rfl dX0_fitsMarks_66 ?_
        refine j_icmp_ne X (tgt := 79) (by decide) dX0_fitsMarks_67 (fun c => ?_) (fun c => ?_)
        · have h := (if_neg c).symm.trans h
          refine nm_elim h (fun x14 ex14 h => ?_)
          refine j_iinc1 X (L' := [(3, .int x14), (5, .int o11), (4, .int r6), (0, .ref (ad k0)), (1, .int c1), (2, .int c2)]) 2 rfl (q := 1) (by decide) ex14 (by decide) rfl dX0_fitsMarks_79 ?_
          refine j_goto X (tgt := 2) (by decide) dX0_fitsMarks_82 ?_
          exact J.sub [0, 3, 4, 5] rfl (ih x14 h)
        · have h := (if_pos c).symm.trans h
          refine j_iload X 1 rfl dX0_fitsMarks_70 ?_
          refine j_iload X 0 rfl dX0_fitsMarks_72 ?_
          refine j_icmp_eq X (tgt := 79) (by decide) dX0_fitsMarks_74 (fun c => ?_) (fun c => ?_)
          · have h := (if_pos c).symm.trans h
            refine nm_elim h (fun x15 ex15 h => ?_)
            refine j_iinc1 X (L' := [(3, .int x15), (5, .int o11), (4, .int r6), (0, .ref (ad k0)), (1, .int c1), (2, .int c2)]) 2 rfl (q := 1) (by decide) ex15 (by decide) rfl dX0_fitsMarks_79 ?_
            refine j_goto X (tgt := 2) (by decide) dX0_fitsMarks_82 ?_
            exact J.sub [0, 3, 4, 5] rfl (ih x15 h)
          · have h := (if_neg c).symm.trans h
            refine j_iconst X (v := 0) (by decide) dX0_fitsMarks_77 ?_
            exact j_iret X Y rfl (ret_pi h) dX0_fitsMarks_78
      clear h
      refine j_icmp_ne X (tgt := 54) (by decide) dX0_fitsMarks_47 (fun c => ?_) (fun c => ?_)
      · have hr := (if_neg c).symm.trans hr
        refine j_iconst X (v := 0) (by decide) dX0_fitsMarks_54 ?_
        cases hr
        exact J.sub [0, 1, 2, 3, 4] rfl hJ10
      · have hr := (if_pos c).symm.trans hr
        refine j_iconst X (v := 1) (by decide) dX0_fitsMarks_50 ?_
        refine j_goto X (tgt := 55) (by decide) dX0_fitsMarks_51 ?_
        cases hr
        exact J.sub [0, 1, 2, 3, 4] rfl hJ10
set_option maxHeartbeats 4000000 in
set_option maxRecDepth 100000 in
theorem c_X0_fitsMarks (l : Launch) (E : Ev) (ad : Nat → Nat) {k0 : Nat} (hl0 : lay k0 = 1) {a1 : Int32} {a2 : Int32} {σ : Sg} {r : Int32} (h : m_X0_fitsMarks k0 a1 a2 σ = some r) : Met l yX0_fitsMarks (wY yX0_fitsMarks cX0_fitsMarks 6 (some .boolean)) rm_X0_fitsMarks (va_Pc [.ref (ad k0), .int a1, .int a2] (PreU E ad RF 85 σ)) (QcN E ad (some (.int r), σ)) 0 0 (EA E) := by
  refine met_of (L0 := [(0, .ref (ad k0)), (1, .int a1), (2, .int a2)]) rfl (Nat.le_of_ble_eq_true rfl) rfl (fun Γ X Y => ?_)
  have X : XC Γ E rm_X0_fitsMarks cX0_fitsMarks 6 RX0 := X
  unfold m_X0_fitsMarks at h
  refine j_iconst X (v := 0) (by decide) dX0_fitsMarks_0 ?_
  refine nm_elim h (fun x1 ex1 h => ?_)
  refine j_istore_n X (L' := [(3, .int x1), (0, .ref (ad k0)), (1, .int a1), (2, .int a2)]) ex1 rfl (by decide) rfl dX0_fitsMarks_1 ?_
  refine J.sub [0, 1, 2, 3] rfl ?_
  exact jl_X0_fitsMarks_L2 X hl0 Y 1000 x1 h

abbrev rm_X0_listenerKinds : Room := { frames := 3, cells := 0, slots := 0, locals := 73 }
set_option maxHeartbeats 4000000 in
set_option maxRecDepth 100000 in
theorem jl_X0_listenerKinds_L4 {Γ : Cx} {E : Ev} {ad : Nat → Nat} (X : XC Γ E rm_X0_listenerKinds cX0_listenerKinds 4 RX0) {k0 : Nat} (hl0 : lay k0 = 1) {c1 : Int32} {σ : Sg} {kx : Unit → Option (Int32)} {r : Int32} (Y : XQ Γ E ad (some .int) (some (.int r), σ))  : ∀ n (v3 : Int32) (v2 : Int32), m_X0_listenerKinds_L4 k0 c1 σ kx n v3 v2 = some r → J Γ E 4 ad RF 85 σ 0 0 4 [(3, .int v3), (2, .int v2), (0, .ref (ad k0)), (1, .int c1)] [] := by
  intro n
  induction n with
  | zero =>
    intro v3 v2 h
    cases h
  | succ n ih =>
    intro v3 v2 h
    rw [m_X0_listenerKinds_L4.eq_2] at h
    refine j_iload_n X 0 rfl rfl dX0_listenerKinds_4 ?_
    refine j_bipush X (v := 6) (by decide) dX0_listenerKinds_5 ?_
    refine j_icmp_ge X (tgt := 31) (by decide) dX0_listenerKinds_7 (fun c => ?_) (fun c => ?_)
    · have h := (if_pos c).symm.trans h
      refine j_iload_n X 1 rfl rfl dX0_listenerKinds_31 ?_
      exact j_iret X Y rfl (ret_pi h) dX0_listenerKinds_32
    · have h := (if_neg c).symm.trans h
      refine j_aload_n X 2 rfl rfl dX0_listenerKinds_10 ?_
      refine j_iload_n X 3 rfl rfl dX0_listenerKinds_11 ?_
      refine j_iload_n X 0 rfl rfl dX0_listenerKinds_12 ?_
      refine bd1_elim h (fun r3 hc4 h => ?_)
      refine j_callSi X (As := [.ref (ad k0), .int c1, .int v3]) (rest := []) mf_X0_fitsMarks bw_628 bw_629 ⟨rfl, rfl⟩ ⟨Nat.le_of_ble_eq_true rfl, Nat.le_of_ble_eq_true rfl⟩ (c_X0_fitsMarks Γ.2.1 E ad hl0 hc4) rfl rfl (Nat.le_of_ble_eq_true rfl) dX0_listenerKinds_13 ?_
      refine bd1_elim h (fun o6 hr h => ?_)
      have hJ5 : J Γ E 4 ad RF 85 σ 0 0 25 [(3, .int v3), (0, .ref (ad k0)), (1, .int c1), (2, .int o6)] [] := by
        refine nm_elim h (fun x7 ex7 h => ?_)
        refine j_iinc1 X (L' := [(3, .int x7), (0, .ref (ad k0)), (1, .int c1), (2, .int o6)]) 0 rfl (q := 1) (by decide) ex7 (by decide) rfl dX0_listenerKinds_25 ?_
        refine j_goto X (tgt := 4) (by decide) dX0_listenerKinds_28 ?_
        exact J.sub [0, 3, 1, 2] rfl (ih x7 o6 h)
      clear h
      refine j_if_eq X (tgt := 25) (by decide) dX0_listenerKinds_16 (fun c => ?_) (fun c => ?_)
      · have hr := (if_pos c).symm.trans hr
        cases hr
        exact J.sub [0, 2, 3, 1] rfl hJ5
      · have hr := (if_neg c).symm.trans hr
        refine j_iload_n X 1 rfl rfl dX0_listenerKinds_19 ?_
        refine j_iconst X (v := 1) (by decide) dX0_listenerKinds_20 ?_
        refine j_iload_n X 0 rfl rfl dX0_listenerKinds_21 ?_
        refine j_ishl X dX0_listenerKinds_22 ?_
        refine j_ior X dX0_listenerKinds_23 ?_
        refine nm_elim hr (fun x8 ex8 hr => ?_)
        refine j_istore_n X (L' := [(2, .int x8), (3, .int v3), (0, .ref (ad k0)), (1, .int c1)]) ex8 rfl (by decide) rfl dX0_listenerKinds_24 ?_
        cases hr
        exact J.sub [1, 2, 3, 0] rfl hJ5
set_option maxHeartbeats 4000000 in
set_option maxRecDepth 100000 in
theorem c_X0_listenerKinds (l : Launch) (E : Ev) (ad : Nat → Nat) {k0 : Nat} (hl0 : lay k0 = 1) {a1 : Int32} {σ : Sg} {r : Int32} (h : m_X0_listenerKinds k0 a1 σ = some r) : Met l yX0_listenerKinds (wY yX0_listenerKinds cX0_listenerKinds 4 (some .int)) rm_X0_listenerKinds (va_Pc [.ref (ad k0), .int a1] (PreU E ad RF 85 σ)) (QcN E ad (some (.int r), σ)) 0 0 (EA E) := by
  refine met_of (L0 := [(0, .ref (ad k0)), (1, .int a1)]) rfl (Nat.le_of_ble_eq_true rfl) rfl (fun Γ X Y => ?_)
  have X : XC Γ E rm_X0_listenerKinds cX0_listenerKinds 4 RX0 := X
  unfold m_X0_listenerKinds at h
  refine j_iconst X (v := 0) (by decide) dX0_listenerKinds_0 ?_
  refine nm_elim h (fun x1 ex1 h => ?_)
  refine j_istore_n X (L' := [(2, .int x1), (0, .ref (ad k0)), (1, .int a1)]) ex1 rfl (by decide) rfl dX0_listenerKinds_1 ?_
  refine j_iconst X (v := 0) (by decide) dX0_listenerKinds_2 ?_
  refine nm_elim h (fun x2 ex2 h => ?_)
  refine j_istore_n X (L' := [(3, .int x2), (2, .int x1), (0, .ref (ad k0)), (1, .int a1)]) ex2 rfl (by decide) rfl dX0_listenerKinds_3 ?_
  refine J.sub [0, 1, 2, 3] rfl ?_
  exact jl_X0_listenerKinds_L4 X hl0 Y 1000 x2 x1 h

abbrev rm_J6_bitCount_0f7a4 : Room := { frames := 0, cells := 0, slots := 0, locals := 0 }
set_option maxHeartbeats 4000000 in
set_option maxRecDepth 100000 in
theorem c_J6_bitCount_0f7a4 (l : Launch) (E : Ev) (ad : Nat → Nat)   {a0 : Int32} {σ : Sg} {r : Int32} (h : m_J6_bitCount_0f7a4 a0 σ = some r) : Met l yJ6_bitCount_0f7a4 (wY yJ6_bitCount_0f7a4 cJ6_bitCount_0f7a4 1 (some .int)) rm_J6_bitCount_0f7a4 (va_Pc [.int a0] (PreU E ad RF 85 σ)) (QcN E ad (some (.int r), σ)) 0 0 (EA E) := by
  refine met_of (L0 := [(0, .int a0)]) rfl (Nat.le_of_ble_eq_true rfl) rfl (fun Γ X Y => ?_)
  have X : XC Γ E rm_J6_bitCount_0f7a4 cJ6_bitCount_0f7a4 1 RJ6 := X
  unfold m_J6_bitCount_0f7a4 at h
  refine j_iload_n X 0 rfl rfl dJ6_bitCount_0f7a4_0 ?_
  refine j_iload_n X 0 rfl rfl dJ6_bitCount_0f7a4_1 ?_
  refine j_iconst X (v := 1) (by decide) dJ6_bitCount_0f7a4_2 ?_
  refine j_iushr X dJ6_bitCount_0f7a4_3 ?_
  refine j_ldcw X (v := 1431655765) bw_484 dJ6_bitCount_0f7a4_4 ?_
  refine j_iand X dJ6_bitCount_0f7a4_7 ?_
  refine j_isub X dJ6_bitCount_0f7a4_8 ?_
  refine nm_elim h (fun x1 ex1 h => ?_)
  refine j_istore_n X (L' := [(0, .int x1)]) ex1 rfl (by decide) rfl dJ6_bitCount_0f7a4_9 ?_
  refine j_iload_n X 0 rfl rfl dJ6_bitCount_0f7a4_10 ?_
  refine j_ldcw X (v := 858993459) bw_485 dJ6_bitCount_0f7a4_11 ?_
  refine j_iand X dJ6_bitCount_0f7a4_14 ?_
  refine j_iload_n X 0 rfl rfl dJ6_bitCount_0f7a4_15 ?_
  refine j_iconst X (v := 2) (by decide) dJ6_bitCount_0f7a4_16 ?_
  refine j_iushr X dJ6_bitCount_0f7a4_17 ?_
  refine j_ldcw X (v := 858993459) bw_485 dJ6_bitCount_0f7a4_18 ?_
  refine j_iand X dJ6_bitCount_0f7a4_21 ?_
  refine j_iadd X dJ6_bitCount_0f7a4_22 ?_
  refine nm_elim h (fun x2 ex2 h => ?_)
  refine j_istore_n X (L' := [(0, .int x2)]) ex2 rfl (by decide) rfl dJ6_bitCount_0f7a4_23 ?_
  refine j_iload_n X 0 rfl rfl dJ6_bitCount_0f7a4_24 ?_
  refine j_iload_n X 0 rfl rfl dJ6_bitCount_0f7a4_25 ?_
  refine j_iconst X (v := 4) (by decide) dJ6_bitCount_0f7a4_26 ?_
  refine j_iushr X dJ6_bitCount_0f7a4_27 ?_
  refine j_iadd X dJ6_bitCount_0f7a4_28 ?_
  refine j_ldcw X (v := 252645135) bw_486 dJ6_bitCount_0f7a4_29 ?_
  refine j_iand X dJ6_bitCount_0f7a4_32 ?_
  refine nm_elim h (fun x3 ex3 h => ?_)
  refine j_istore_n X (L' := [(0, .int x3)]) ex3 rfl (by decide) rfl dJ6_bitCount_0f7a4_33 ?_
  refine j_iload_n X 0 rfl rfl dJ6_bitCount_0f7a4_34 ?_
  refine j_iload_n X 0 rfl rfl dJ6_bitCount_0f7a4_35 ?_
  refine j_bipush X (v := 8) (by decide) dJ6_bitCount_0f7a4_36 ?_
  refine j_iushr X dJ6_bitCount_0f7a4_38 ?_
  refine j_iadd X dJ6_bitCount_0f7a4_39 ?_
  refine nm_elim h (fun x4 ex4 h => ?_)
  refine j_istore_n X (L' := [(0, .int x4)]) ex4 rfl (by decide) rfl dJ6_bitCount_0f7a4_40 ?_
  refine j_iload_n X 0 rfl rfl dJ6_bitCount_0f7a4_41 ?_
  refine j_iload_n X 0 rfl rfl dJ6_bitCount_0f7a4_42 ?_
  refine j_bipush X (v := 16) (by decide) dJ6_bitCount_0f7a4_43 ?_
  refine j_iushr X dJ6_bitCount_0f7a4_45 ?_
  refine j_iadd X dJ6_bitCount_0f7a4_46 ?_
  refine nm_elim h (fun x5 ex5 h => ?_)
  refine j_istore_n X (L' := [(0, .int x5)]) ex5 rfl (by decide) rfl dJ6_bitCount_0f7a4_47 ?_
  refine j_iload_n X 0 rfl rfl dJ6_bitCount_0f7a4_48 ?_
  refine j_bipush X (v := 63) (by decide) dJ6_bitCount_0f7a4_49 ?_
  refine j_iand X dJ6_bitCount_0f7a4_51 ?_
  exact j_iret X Y rfl (ret_pi h) dJ6_bitCount_0f7a4_52

abbrev rm_X0_greaterPart : Room := { frames := 2, cells := 0, slots := 0, locals := 48 }
set_option maxHeartbeats 4000000 in
set_option maxRecDepth 100000 in
theorem jl_X0_greaterPart_L5 {β : Type} {Γ : Cx} {E : Ev} {ad : Nat → Nat} (X : XC Γ E rm_X0_greaterPart cX0_greaterPart 5 RX0)   {c0 : Int32} {c1 : Int32} {c2 : Int32} {σ : Sg} {kx : Int32 → Option (β)} {r : β}  (hkx : ∀ (v3 : Int32), kx v3 = some r → J Γ E 5 ad RF 85 σ 0 0 40 [(3, .int v3), (0, .int c0)] []) : ∀ n (v4 : Int32) (v3 : Int32), m_X0_greaterPart_L5 c0 c1 c2 σ kx n v4 v3 = some r → J Γ E 5 ad RF 85 σ 0 0 5 [(4, .int v4), (3, .int v3), (0, .int c0), (1, .int c1), (2, .int c2)] [] := by
  intro n
  induction n with
  | zero =>
    intro v4 v3 h
    cases h
  | succ n ih =>
    intro v4 v3 h
    rw [m_X0_greaterPart_L5.eq_2] at h
    refine j_iload X 0 rfl dX0_greaterPart_5 ?_
    refine j_bipush X (v := 6) (by decide) dX0_greaterPart_7 ?_
    refine j_icmp_ge X (tgt := 40) (by decide) dX0_greaterPart_9 (fun c => ?_) (fun c => ?_)
    · have h := (if_pos c).symm.trans h
      exact J.sub [1, 2] rfl (hkx v3 h)
    · have h := (if_neg c).symm.trans h
      refine j_iload_n X 2 rfl rfl dX0_greaterPart_12 ?_
      refine j_iload X 0 rfl dX0_greaterPart_13 ?_
      refine bd1_elim h (fun r3 hc4 h => ?_)
      refine j_callSNi X (As := [.int c0, .int v4]) (rest := []) mf_X7_isIn (by simp [nestL]) bw_407 ⟨rfl, rfl⟩ ⟨Nat.le_of_ble_eq_true rfl, Nat.le_of_ble_eq_true rfl⟩ (c_X7_isIn Γ.2.1 E ad  hc4) rfl rfl (Nat.le_of_ble_eq_true rfl) dX0_greaterPart_15 ?_
      refine bd1_elim h (fun o6 hr h => ?_)
      have hJ5 : J Γ E 5 ad RF 85 σ 0 0 34 [(4, .int v4), (0, .int c0), (1, .int c1), (2, .int c2), (3, .int o6)] [] := by
        refine nm_elim h (fun x7 ex7 h => ?_)
        refine j_iinc1 X (L' := [(4, .int x7), (0, .int c0), (1, .int c1), (2, .int c2), (3, .int o6)]) 0 rfl (q := 1) (by decide) ex7 (by decide) rfl dX0_greaterPart_34 ?_
        refine j_goto X (tgt := 5) (by decide) dX0_greaterPart_37 ?_
        exact J.sub [0, 4, 1, 2, 3] rfl (ih x7 o6 h)
      clear h
      refine j_if_eq X (tgt := 34) (by decide) dX0_greaterPart_18 (fun c => ?_) (fun c => ?_)
      · have hr := (if_pos c).symm.trans hr
        cases hr
        exact J.sub [0, 2, 3, 4, 1] rfl hJ5
      · have hr := (if_neg c).symm.trans hr
        refine j_iload X 0 rfl dX0_greaterPart_21 ?_
        refine j_iload_n X 3 rfl rfl dX0_greaterPart_23 ?_
        refine j_iload_n X 4 rfl rfl dX0_greaterPart_24 ?_
        refine bd1_elim hr (fun r8 hc9 hr => ?_)
        refine j_callSi X (As := [.int v4, .int c1, .int c2]) (rest := []) mf_X3_hears bw_631 bw_417 ⟨rfl, rfl⟩ ⟨Nat.le_of_ble_eq_true rfl, Nat.le_of_ble_eq_true rfl⟩ (c_X3_hears Γ.2.1 E ad  hc9) rfl rfl (Nat.le_of_ble_eq_true rfl) dX0_greaterPart_25 ?_
        refine j_if_eq X (tgt := 34) (by decide) dX0_greaterPart_28 (fun c => ?_) (fun c => ?_)
        · have hr := (if_pos c).symm.trans hr
          cases hr
          exact J.sub [0, 2, 3, 4, 1] rfl hJ5
        · have hr := (if_neg c).symm.trans hr
          refine nm_elim hr (fun x10 ex10 hr => ?_)
          refine j_iinc1 X (L' := [(3, .int x10), (4, .int v4), (0, .int c0), (1, .int c1), (2, .int c2)]) 1 rfl (q := 1) (by decide) ex10 (by decide) rfl dX0_greaterPart_31 ?_
          cases hr
          exact J.sub [1, 2, 3, 4, 0] rfl hJ5
set_option maxHeartbeats 4000000 in
set_option maxRecDepth 100000 in
theorem c_X0_greaterPart (l : Launch) (E : Ev) (ad : Nat → Nat)   {a0 : Int32} {a1 : Int32} {a2 : Int32} {σ : Sg} {r : Int32} (h : m_X0_greaterPart a0 a1 a2 σ = some r) : Met l yX0_greaterPart (wY yX0_greaterPart cX0_greaterPart 5 (some .int)) rm_X0_greaterPart (va_Pc [.int a0, .int a1, .int a2] (PreU E ad RF 85 σ)) (QcN E ad (some (.int r), σ)) 0 0 (EA E) := by
  refine met_of (L0 := [(0, .int a0), (1, .int a1), (2, .int a2)]) rfl (Nat.le_of_ble_eq_true rfl) rfl (fun Γ X Y => ?_)
  have X : XC Γ E rm_X0_greaterPart cX0_greaterPart 5 RX0 := X
  unfold m_X0_greaterPart at h
  refine j_iconst X (v := 0) (by decide) dX0_greaterPart_0 ?_
  refine nm_elim h (fun x1 ex1 h => ?_)
  refine j_istore_n X (L' := [(3, .int x1), (0, .int a0), (1, .int a1), (2, .int a2)]) ex1 rfl (by decide) rfl dX0_greaterPart_1 ?_
  refine j_iconst X (v := 0) (by decide) dX0_greaterPart_2 ?_
  refine nm_elim h (fun x2 ex2 h => ?_)
  refine j_istore X (L' := [(4, .int x2), (3, .int x1), (0, .int a0), (1, .int a1), (2, .int a2)]) ex2 (by decide) rfl dX0_greaterPart_3 ?_
  refine J.sub [0, 1, 2, 3, 4] rfl ?_
  refine jl_X0_greaterPart_L5 X  (fun x11 h => ?_) 1000 x2 x1 h
  refine j_iload_n X 0 rfl rfl dX0_greaterPart_40 ?_
  refine j_iload_n X 1 rfl rfl dX0_greaterPart_41 ?_
  refine bd1_elim h (fun r12 hc13 h => ?_)
  refine j_callSi X (As := [.int a0]) (rest := [.int x11]) mf_J6_bitCount_0f7a4 bw_643 bw_482 ⟨rfl, rfl⟩ ⟨Nat.le_of_ble_eq_true rfl, Nat.le_of_ble_eq_true rfl⟩ (c_J6_bitCount_0f7a4 Γ.2.1 E ad  hc13) rfl rfl (Nat.le_of_ble_eq_true rfl) dX0_greaterPart_42 ?_
  refine j_iload_n X 0 rfl rfl dX0_greaterPart_45 ?_
  refine j_isub X dX0_greaterPart_46 ?_
  refine nm_elim h (fun x14 ex14 h => ?_)
  refine j_mmax X bw_620 bw_37 bw_4 bw_38 ⟨Nat.le_of_ble_eq_true rfl, Nat.le_of_ble_eq_true rfl⟩ dX0_greaterPart_47 ?_
  refine j_topi ex14 ?_
  exact j_iret X Y rfl (ret_pi h) dX0_greaterPart_50

abbrev rm_X0_nextQuestion : Room := { frames := 4, cells := 0, slots := 0, locals := 96 }
set_option maxHeartbeats 4000000 in
set_option maxRecDepth 100000 in
theorem jl_X0_nextQuestion_L31 {β : Type} {Γ : Cx} {E : Ev} {ad : Nat → Nat} (X : XC Γ E rm_X0_nextQuestion cX0_nextQuestion 8 RX0) {k0 : Nat} (hl0 : lay k0 = 1) {c5 : Int32} {c2 : Int32} {σ : Sg} {kx : Int32 → Int32 → Option (β)} {r : β}  (hkx : ∀ (v4 : Int32) (v3 : Int32), kx v4 v3 = some r → J Γ E 8 ad RF 85 σ 0 0 73 [(5, .int c5), (4, .int v4), (3, .int v3), (2, .int c2)] []) : ∀ n (v6 : Int32) (v4 : Int32) (v3 : Int32), m_X0_nextQuestion_L31 k0 c5 c2 σ kx n v6 v4 v3 = some r → J Γ E 8 ad RF 85 σ 0 0 31 [(6, .int v6), (5, .int c5), (4, .int v4), (3, .int v3), (2, .int c2)] [] := by
  intro n
  induction n with
  | zero =>
    intro v6 v4 v3 h
    cases h
  | succ n ih =>
    intro v6 v4 v3 h
    rw [m_X0_nextQuestion_L31.eq_2] at h
    refine j_iload X 0 rfl dX0_nextQuestion_31 ?_
    refine j_bipush X (v := 60) (by decide) dX0_nextQuestion_33 ?_
    refine j_icmp_gt X (tgt := 73) (by decide) dX0_nextQuestion_35 (fun c => ?_) (fun c => ?_)
    · have h := (if_pos c).symm.trans h
      exact J.sub [1, 2, 3, 4] rfl (hkx v4 v3 h)
    · have h := (if_neg c).symm.trans h
      refine j_iload_n X 4 rfl rfl dX0_nextQuestion_38 ?_
      refine j_iload X 1 rfl dX0_nextQuestion_39 ?_
      refine j_iload X 0 rfl dX0_nextQuestion_41 ?_
      refine bd1_elim h (fun r7 hc8 h => ?_)
      refine j_callSi X (As := [.int c2, .int c5, .int v6]) (rest := []) mf_X0_greaterPart bw_640 bw_641 ⟨rfl, rfl⟩ ⟨Nat.le_of_ble_eq_true rfl, Nat.le_of_ble_eq_true rfl⟩ (c_X0_greaterPart Γ.2.1 E ad  hc8) rfl rfl (Nat.le_of_ble_eq_true rfl) dX0_nextQuestion_43 ?_
      refine j_istore X (L' := [(7, .int r7), (6, .int v6), (5, .int c5), (4, .int v4), (3, .int v3), (2, .int c2)]) rfl (by decide) rfl dX0_nextQuestion_46 ?_
      refine j_iload X 0 rfl dX0_nextQuestion_48 ?_
      refine j_iload_n X 4 rfl rfl dX0_nextQuestion_50 ?_
      refine bd2_elim h (fun o10 o11 hr h => ?_)
      have hJ9 : J Γ E 8 ad RF 85 σ 0 0 67 [(6, .int v6), (5, .int c5), (2, .int c2), (3, .int o10), (4, .int o11)] [] := by
        refine nm_elim h (fun x12 ex12 h => ?_)
        refine j_iinc1 X (L' := [(6, .int x12), (5, .int c5), (2, .int c2), (3, .int o10), (4, .int o11)]) 0 rfl (q := 1) (by decide) ex12 (by decide) rfl dX0_nextQuestion_67 ?_
        refine j_goto X (tgt := 31) (by decide) dX0_nextQuestion_70 ?_
        exact J.sub [0, 1, 4, 3, 2] rfl (ih x12 o11 o10 h)
      clear h
      refine j_icmp_ge X (tgt := 67) (by decide) dX0_nextQuestion_51 (fun c => ?_) (fun c => ?_)
      · have hr := (if_pos c).symm.trans hr
        cases hr
        exact J.sub [1, 2, 5, 4, 3] rfl hJ9
      · have hr := (if_neg c).symm.trans hr
        refine j_iload X 0 rfl dX0_nextQuestion_54 ?_
        refine j_istore_n X (L' := [(3, .int r7), (7, .int r7), (6, .int v6), (5, .int c5), (4, .int v4), (2, .int c2)]) rfl rfl (by decide) rfl dX0_nextQuestion_56 ?_
        refine j_bipush X (v := 100) (by decide) dX0_nextQuestion_57 ?_
        refine j_iload X 3 rfl dX0_nextQuestion_59 ?_
        refine j_imul X dX0_nextQuestion_61 ?_
        refine j_iload X 2 rfl dX0_nextQuestion_62 ?_
        refine j_iadd X dX0_nextQuestion_64 ?_
        refine nm_elim hr (fun x13 ex13 hr => ?_)
        refine j_istore X (L' := [(4, .int x13), (3, .int r7), (7, .int r7), (6, .int v6), (5, .int c5), (2, .int c2)]) ex13 (by decide) rfl dX0_nextQuestion_65 ?_
        cases hr
        exact J.sub [3, 4, 5, 1, 0] rfl hJ9
set_option maxHeartbeats 4000000 in
set_option maxRecDepth 100000 in
theorem jl_X0_nextQuestion_L21 {Γ : Cx} {E : Ev} {ad : Nat → Nat} (X : XC Γ E rm_X0_nextQuestion cX0_nextQuestion 8 RX0) {k0 : Nat} (hl0 : lay k0 = 1) {c2 : Int32} {σ : Sg} {kx : Unit → Option (Int32)} {r : Int32} (Y : XQ Γ E ad (some .int) (some (.int r), σ))  : ∀ n (v5 : Int32) (v4 : Int32) (v3 : Int32), m_X0_nextQuestion_L21 k0 c2 σ kx n v5 v4 v3 = some r → J Γ E 8 ad RF 85 σ 0 0 21 [(5, .int v5), (4, .int v4), (3, .int v3), (2, .int c2)] [] := by
  intro n
  induction n with
  | zero =>
    intro v5 v4 v3 h
    cases h
  | succ n ih =>
    intro v5 v4 v3 h
    rw [m_X0_nextQuestion_L21.eq_2] at h
    refine j_iload X 0 rfl dX0_nextQuestion_21 ?_
    refine j_bipush X (v := 9) (by decide) dX0_nextQuestion_23 ?_
    refine j_icmp_gt X (tgt := 79) (by decide) dX0_nextQuestion_25 (fun c => ?_) (fun c => ?_)
    · have h := (if_pos c).symm.trans h
      refine j_iload X 1 rfl dX0_nextQuestion_79 ?_
      exact j_iret X Y rfl (ret_pi h) dX0_nextQuestion_81
    · have h := (if_neg c).symm.trans h
      refine j_iconst X (v := 0) (by decide) dX0_nextQuestion_28 ?_
      refine nm_elim h (fun x6 ex6 h => ?_)
      refine j_istore X (L' := [(6, .int x6), (5, .int v5), (4, .int v4), (3, .int v3), (2, .int c2)]) ex6 (by decide) rfl dX0_nextQuestion_29 ?_
      refine J.sub [0, 1, 2, 3, 4] rfl ?_
      refine jl_X0_nextQuestion_L31 X hl0 (fun x14 x15 h => ?_) 1000 x6 v4 v3 h
      refine nm_elim h (fun x16 ex16 h => ?_)
      refine j_iinc1 X (L' := [(5, .int x16), (4, .int x14), (3, .int x15), (2, .int c2)]) 0 rfl (q := 1) (by decide) ex16 (by decide) rfl dX0_nextQuestion_73 ?_
      refine j_goto X (tgt := 21) (by decide) dX0_nextQuestion_76 ?_
      exact J.sub [0, 1, 2, 3] rfl (ih x16 x14 x15 h)
set_option maxHeartbeats 4000000 in
set_option maxRecDepth 100000 in
theorem c_X0_nextQuestion (l : Launch) (E : Ev) (ad : Nat → Nat) {k0 : Nat} (hl0 : lay k0 = 1) {a1 : Int32} {σ : Sg} {r : Int32} (h : m_X0_nextQuestion k0 a1 σ = some r) : Met l yX0_nextQuestion (wY yX0_nextQuestion cX0_nextQuestion 8 (some .int)) rm_X0_nextQuestion (va_Pc [.ref (ad k0), .int a1] (PreU E ad RF 85 σ)) (QcN E ad (some (.int r), σ)) 0 0 (EA E) := by
  refine met_of (L0 := [(0, .ref (ad k0)), (1, .int a1)]) rfl (Nat.le_of_ble_eq_true rfl) rfl (fun Γ X Y => ?_)
  have X : XC Γ E rm_X0_nextQuestion cX0_nextQuestion 8 RX0 := X
  unfold m_X0_nextQuestion at h
  refine j_aload_n X 0 rfl rfl dX0_nextQuestion_0 ?_
  refine j_iload_n X 1 rfl rfl dX0_nextQuestion_1 ?_
  refine bd1_elim h (fun r1 hc2 h => ?_)
  refine j_callSi X (As := [.ref (ad k0), .int a1]) (rest := []) mf_X0_listenerKinds bw_639 bw_626 ⟨rfl, rfl⟩ ⟨Nat.le_of_ble_eq_true rfl, Nat.le_of_ble_eq_true rfl⟩ (c_X0_listenerKinds Γ.2.1 E ad hl0 hc2) rfl rfl (Nat.le_of_ble_eq_true rfl) dX0_nextQuestion_2 ?_
  refine j_istore_n X (L' := [(2, .int r1), (0, .ref (ad k0)), (1, .int a1)]) rfl rfl (by decide) rfl dX0_nextQuestion_5 ?_
  refine j_iload_n X 0 rfl rfl dX0_nextQuestion_6 ?_
  refine j_if_ne X (tgt := 12) (by decide) dX0_nextQuestion_7 (fun c => ?_) (fun c => ?_)
  · have h := (if_neg c).symm.trans h
    refine j_bipush X (v := 7) (by decide) dX0_nextQuestion_12 ?_
    refine nm_elim h (fun x3 ex3 h => ?_)
    refine j_istore_n X (L' := [(3, .int x3), (2, .int r1), (0, .ref (ad k0)), (1, .int a1)]) ex3 rfl (by decide) rfl dX0_nextQuestion_14 ?_
    refine j_iconst X (v := -1) (by decide) dX0_nextQuestion_15 ?_
    refine nm_elim h (fun x4 ex4 h => ?_)
    refine j_istore X (L' := [(4, .int x4), (3, .int x3), (2, .int r1), (0, .ref (ad k0)), (1, .int a1)]) ex4 (by decide) rfl dX0_nextQuestion_16 ?_
    refine j_iconst X (v := 0) (by decide) dX0_nextQuestion_18 ?_
    refine nm_elim h (fun x5 ex5 h => ?_)
    refine j_istore X (L' := [(5, .int x5), (4, .int x4), (3, .int x3), (2, .int r1), (0, .ref (ad k0)), (1, .int a1)]) ex5 (by decide) rfl dX0_nextQuestion_19 ?_
    refine J.sub [0, 1, 2, 3] rfl ?_
    exact jl_X0_nextQuestion_L21 X hl0 Y 1000 x5 x4 x3 h
  · have h := (if_pos c).symm.trans h
    refine j_iconst X (v := -1) (by decide) dX0_nextQuestion_10 ?_
    exact j_iret X Y rfl (ret_pi h) dX0_nextQuestion_11

abbrev rm_X2_isStripped : Room := { frames := 1, cells := 0, slots := 0, locals := 23 }
set_option maxHeartbeats 4000000 in
set_option maxRecDepth 100000 in
theorem c_X2_isStripped (l : Launch) (E : Ev) (ad : Nat → Nat) {k0 : Nat} (hl0 : lay k0 = 1) {a1 : Int32} {σ : Sg} {r : Int32} (h : m_X2_isStripped k0 a1 σ = some r) : Met l yX2_isStripped (wY yX2_isStripped cX2_isStripped 2 (some .boolean)) rm_X2_isStripped (va_Pc [.ref (ad k0), .int a1] (PreU E ad RF 85 σ)) (QcN E ad (some (.int r), σ)) 0 0 (EA E) := by
  refine met_of (L0 := [(0, .ref (ad k0)), (1, .int a1)]) rfl (Nat.le_of_ble_eq_true rfl) rfl (fun Γ X Y => ?_)
  have X : XC Γ E rm_X2_isStripped cX2_isStripped 2 RX2 := X
  unfold m_X2_isStripped at h
  refine j_aload_n X 0 rfl rfl dX2_isStripped_0 ?_
  refine j_getr X cf1 (lay_lt hl0 (by decide)) hl0 3 rfl ⟨rfl, rfl⟩ (k0 + 5) (RF_H3 hl0) bw_70 dX2_isStripped_1 ?_
  refine j_iload_n X 1 rfl rfl dX2_isStripped_4 ?_
  refine j_iconst X (v := 0) (by decide) dX2_isStripped_5 ?_
  refine bd1_elim h (fun r1 hc2 h => ?_)
  refine j_callVi X (As := [.int a1, .int (0 : Int32)]) (rest := []) mf_X6_get bw_382 bw_281 bs_341 ⟨rfl, rfl⟩ ⟨Nat.le_of_ble_eq_true rfl, Nat.le_of_ble_eq_true rfl⟩ cf4 (lay_lt (lay_H3 hl0) (by decide)) (lay_H3 hl0) (c_X6_get Γ.2.1 E ad (lay_H3 hl0) hc2) rfl rfl (Nat.le_of_ble_eq_true rfl) dX2_isStripped_6 ?_
  refine j_if_le X (tgt := 16) (by decide) dX2_isStripped_9 (fun c => ?_) (fun c => ?_)
  · have h := (if_pos c).symm.trans h
    refine j_iconst X (v := 0) (by decide) dX2_isStripped_16 ?_
    exact j_iret X Y rfl (ret_pi h) dX2_isStripped_17
  · have h := (if_neg c).symm.trans h
    refine j_iconst X (v := 1) (by decide) dX2_isStripped_12 ?_
    refine j_goto X (tgt := 17) (by decide) dX2_isStripped_13 ?_
    exact j_iret X Y rfl (ret_pi h) dX2_isStripped_17

abbrev rm_X7_isSpeakingMinute : Room := { frames := 0, cells := 0, slots := 0, locals := 0 }
set_option maxHeartbeats 4000000 in
set_option maxRecDepth 100000 in
theorem c_X7_isSpeakingMinute (l : Launch) (E : Ev) (ad : Nat → Nat)   {a0 : Int32} {σ : Sg} {r : Int32} (h : m_X7_isSpeakingMinute a0 σ = some r) : Met l yX7_isSpeakingMinute (wY yX7_isSpeakingMinute cX7_isSpeakingMinute 1 (some .boolean)) rm_X7_isSpeakingMinute (va_Pc [.int a0] (PreU E ad RF 85 σ)) (QcN E ad (some (.int r), σ)) 0 0 (EA E) := by
  refine met_of (L0 := [(0, .int a0)]) rfl (Nat.le_of_ble_eq_true rfl) rfl (fun Γ X Y => ?_)
  have X : XC Γ E rm_X7_isSpeakingMinute cX7_isSpeakingMinute 1 RX7 := X
  unfold m_X7_isSpeakingMinute at h
  refine j_iload_n X 0 rfl rfl dX7_isSpeakingMinute_0 ?_
  refine j_if_lt X (tgt := 14) (by decide) dX7_isSpeakingMinute_1 (fun c => ?_) (fun c => ?_)
  · have h := (if_pos c).symm.trans h
    refine j_iconst X (v := 0) (by decide) dX7_isSpeakingMinute_14 ?_
    exact j_iret X Y rfl (ret_pi h) dX7_isSpeakingMinute_15
  · have h := (if_neg c).symm.trans h
    refine j_iload_n X 0 rfl rfl dX7_isSpeakingMinute_4 ?_
    refine j_bipush X (v := 30) (by decide) dX7_isSpeakingMinute_5 ?_
    refine j_icmp_ge X (tgt := 14) (by decide) dX7_isSpeakingMinute_7 (fun c => ?_) (fun c => ?_)
    · have h := (if_pos c).symm.trans h
      refine j_iconst X (v := 0) (by decide) dX7_isSpeakingMinute_14 ?_
      exact j_iret X Y rfl (ret_pi h) dX7_isSpeakingMinute_15
    · have h := (if_neg c).symm.trans h
      refine j_iconst X (v := 1) (by decide) dX7_isSpeakingMinute_10 ?_
      refine j_goto X (tgt := 15) (by decide) dX7_isSpeakingMinute_11 ?_
      exact j_iret X Y rfl (ret_pi h) dX7_isSpeakingMinute_15

abbrev rm_X2_roomMinute : Room := { frames := 2, cells := 0, slots := 0, locals := 44 }
set_option maxHeartbeats 4000000 in
set_option maxRecDepth 100000 in
theorem c_X2_roomMinute (l : Launch) (E : Ev) (ad : Nat → Nat) {k0 : Nat} (hl0 : lay k0 = 1) {a1 : Int32} {a2 : Int32} {σ : Sg} {r : Int32} (h : m_X2_roomMinute k0 a1 a2 σ = some r) : Met l yX2_roomMinute (wY yX2_roomMinute cX2_roomMinute 4 (some .int)) rm_X2_roomMinute (va_Pc [.ref (ad k0), .int a1, .int a2] (PreU E ad RF 85 σ)) (QcN E ad (some (.int r), σ)) 0 0 (EA E) := by
  refine met_of (L0 := [(0, .ref (ad k0)), (1, .int a1), (2, .int a2)]) rfl (Nat.le_of_ble_eq_true rfl) rfl (fun Γ X Y => ?_)
  have X : XC Γ E rm_X2_roomMinute cX2_roomMinute 4 RX2 := X
  unfold m_X2_roomMinute at h
  refine j_aload_n X 0 rfl rfl dX2_roomMinute_0 ?_
  refine j_geti X cf1 (lay_lt hl0 (by decide)) hl0 0 rfl ⟨rfl, rfl⟩ bw_58 dX2_roomMinute_1 ?_
  refine j_iload_n X 2 rfl rfl dX2_roomMinute_4 ?_
  refine j_iadd X dX2_roomMinute_5 ?_
  refine j_iconst X (v := 1) (by decide) dX2_roomMinute_6 ?_
  refine j_iadd X dX2_roomMinute_7 ?_
  refine j_aload_n X 0 rfl rfl dX2_roomMinute_8 ?_
  refine j_getr X cf1 (lay_lt hl0 (by decide)) hl0 3 rfl ⟨rfl, rfl⟩ (k0 + 5) (RF_H3 hl0) bw_70 dX2_roomMinute_9 ?_
  refine j_iload_n X 1 rfl rfl dX2_roomMinute_12 ?_
  refine j_iconst X (v := 0) (by decide) dX2_roomMinute_13 ?_
  refine bd1_elim h (fun r1 hc2 h => ?_)
  refine j_callVi X (As := [.int a1, .int (0 : Int32)]) (rest := [.int (((σ.1 k0 0) + a2) + (1 : Int32))]) mf_X6_get bw_382 bw_281 bs_341 ⟨rfl, rfl⟩ ⟨Nat.le_of_ble_eq_true rfl, Nat.le_of_ble_eq_true rfl⟩ cf4 (lay_lt (lay_H3 hl0) (by decide)) (lay_H3 hl0) (c_X6_get Γ.2.1 E ad (lay_H3 hl0) hc2) rfl rfl (Nat.le_of_ble_eq_true rfl) dX2_roomMinute_14 ?_
  refine j_isub X dX2_roomMinute_17 ?_
  refine nm_elim h (fun x3 ex3 h => ?_)
  refine j_istore_n X (L' := [(3, .int x3), (0, .ref (ad k0)), (1, .int a1), (2, .int a2)]) ex3 rfl (by decide) rfl dX2_roomMinute_18 ?_
  refine j_aload_n X 1 rfl rfl dX2_roomMinute_19 ?_
  refine j_iload_n X 2 rfl rfl dX2_roomMinute_20 ?_
  refine bd1_elim h (fun r4 hc5 h => ?_)
  refine j_callVi X (As := [.int a1]) (rest := []) mf_X2_isStripped bw_387 bw_388 bs_448 ⟨rfl, rfl⟩ ⟨Nat.le_of_ble_eq_true rfl, Nat.le_of_ble_eq_true rfl⟩ cf1 (lay_lt hl0 (by decide)) hl0 (c_X2_isStripped Γ.2.1 E ad hl0 hc5) rfl rfl (Nat.le_of_ble_eq_true rfl) dX2_roomMinute_21 ?_
  refine j_if_eq X (tgt := 38) (by decide) dX2_roomMinute_24 (fun c => ?_) (fun c => ?_)
  · have h := (if_pos c).symm.trans h
    refine j_iconst X (v := -1) (by decide) dX2_roomMinute_38 ?_
    exact j_iret X Y rfl (ret_pi h) dX2_roomMinute_39
  · have h := (if_neg c).symm.trans h
    refine j_iload_n X 0 rfl rfl dX2_roomMinute_27 ?_
    refine bd1_elim h (fun r6 hc7 h => ?_)
    refine j_callSNi X (As := [.int x3]) (rest := []) mf_X7_isSpeakingMinute (by simp [nestL]) bw_392 ⟨rfl, rfl⟩ ⟨Nat.le_of_ble_eq_true rfl, Nat.le_of_ble_eq_true rfl⟩ (c_X7_isSpeakingMinute Γ.2.1 E ad  hc7) rfl rfl (Nat.le_of_ble_eq_true rfl) dX2_roomMinute_28 ?_
    refine j_if_eq X (tgt := 38) (by decide) dX2_roomMinute_31 (fun c => ?_) (fun c => ?_)
    · have h := (if_pos c).symm.trans h
      refine j_iconst X (v := -1) (by decide) dX2_roomMinute_38 ?_
      exact j_iret X Y rfl (ret_pi h) dX2_roomMinute_39
    · have h := (if_neg c).symm.trans h
      refine j_iload_n X 0 rfl rfl dX2_roomMinute_34 ?_
      refine j_goto X (tgt := 39) (by decide) dX2_roomMinute_35 ?_
      exact j_iret X Y rfl (ret_pi h) dX2_roomMinute_39

abbrev rm_X1_commonDivisor : Room := { frames := 0, cells := 0, slots := 0, locals := 0 }
set_option maxHeartbeats 4000000 in
set_option maxRecDepth 100000 in
theorem jl_X1_commonDivisor_L9 {Γ : Cx} {E : Ev} {ad : Nat → Nat} (X : XC Γ E rm_X1_commonDivisor cX1_commonDivisor 11 RX1)    {σ : Sg} {kx : Unit → Option (Int64)} {r : Int64} (Y : XQ Γ E ad (some .long) (some (.long r), σ))  : ∀ n (v8 : Int32) (v6 : Int64) (v4 : Int64), m_X1_commonDivisor_L9 σ kx n v8 v6 v4 = some r → J Γ E 11 ad RF 85 σ 0 0 9 [(8, .int v8), (6, .long v6), (4, .long v4)] [] := by
  intro n
  induction n with
  | zero =>
    intro v8 v6 v4 h
    cases h
  | succ n ih =>
    intro v8 v6 v4 h
    rw [m_X1_commonDivisor_L9.eq_2] at h
    refine j_iload X 0 rfl dX1_commonDivisor_9 ?_
    refine j_sipush X (v := 200) (by decide) dX1_commonDivisor_11 ?_
    refine j_icmp_ge X (tgt := 45) (by decide) dX1_commonDivisor_14 (fun c => ?_) (fun c => ?_)
    · have h := (if_pos c).symm.trans h
      refine j_lload X 2 rfl dX1_commonDivisor_45 ?_
      exact j_lret X Y (ret_pl h) dX1_commonDivisor_47
    · have h := (if_neg c).symm.trans h
      refine j_lload X 1 rfl dX1_commonDivisor_17 ?_
      refine j_lconst X (v := 0) (by decide) dX1_commonDivisor_19 ?_
      refine j_lcmp X dX1_commonDivisor_20 ?_
      refine j_if_eq X (tgt := 45) (by decide) dX1_commonDivisor_21 (fun c => ?_) (fun c => ?_)
      · have h := (if_pos c).symm.trans h
        refine j_lload X 2 rfl dX1_commonDivisor_45 ?_
        exact j_lret X Y (ret_pl h) dX1_commonDivisor_47
      · have h := (if_neg c).symm.trans h
        refine j_lload X 2 rfl dX1_commonDivisor_24 ?_
        refine j_lload X 1 rfl dX1_commonDivisor_26 ?_
        refine gd_elim h (fun g h => ?_)
        refine j_lrem X g dX1_commonDivisor_28 ?_
        refine nm_elim h (fun x2 ex2 h => ?_)
        refine j_lstore X (L' := [(9, .long x2), (8, .int v8), (6, .long v6), (4, .long v4)]) ex2 (by decide) rfl dX1_commonDivisor_29 ?_
        refine j_lload X 2 rfl dX1_commonDivisor_31 ?_
        refine j_lstore X (L' := [(4, .long v6), (9, .long x2), (8, .int v8), (6, .long v6)]) rfl (by decide) rfl dX1_commonDivisor_33 ?_
        refine j_lload X 1 rfl dX1_commonDivisor_35 ?_
        refine j_lstore X (L' := [(6, .long x2), (4, .long v6), (9, .long x2), (8, .int v8)]) rfl (by decide) rfl dX1_commonDivisor_37 ?_
        refine nm_elim h (fun x3 ex3 h => ?_)
        refine j_iinc1 X (L' := [(8, .int x3), (6, .long x2), (4, .long v6), (9, .long x2)]) 3 rfl (q := 1) (by decide) ex3 (by decide) rfl dX1_commonDivisor_39 ?_
        refine j_goto X (tgt := 9) (by decide) dX1_commonDivisor_42 ?_
        exact J.sub [0, 1, 2] rfl (ih x3 x2 v6 h)
set_option maxHeartbeats 4000000 in
set_option maxRecDepth 100000 in
theorem c_X1_commonDivisor (l : Launch) (E : Ev) (ad : Nat → Nat)   {a0 : Int64} {a2 : Int64} {σ : Sg} {r : Int64} (h : m_X1_commonDivisor a0 a2 σ = some r) : Met l yX1_commonDivisor (wY yX1_commonDivisor cX1_commonDivisor 11 (some .long)) rm_X1_commonDivisor (va_Pc [.long a0, .long a2] (PreU E ad RF 85 σ)) (QcN E ad (some (.long r), σ)) 0 0 (EA E) := by
  refine met_of (L0 := [(0, .long a0), (2, .long a2)]) rfl (Nat.le_of_ble_eq_true rfl) rfl (fun Γ X Y => ?_)
  have X : XC Γ E rm_X1_commonDivisor cX1_commonDivisor 11 RX1 := X
  unfold m_X1_commonDivisor at h
  refine j_lload_n X 0 rfl rfl dX1_commonDivisor_0 ?_
  refine j_lstore X (L' := [(4, .long a0), (0, .long a0), (2, .long a2)]) rfl (by decide) rfl dX1_commonDivisor_1 ?_
  refine j_lload_n X 2 rfl rfl dX1_commonDivisor_3 ?_
  refine j_lstore X (L' := [(6, .long a2), (4, .long a0), (0, .long a0), (2, .long a2)]) rfl (by decide) rfl dX1_commonDivisor_4 ?_
  refine j_iconst X (v := 0) (by decide) dX1_commonDivisor_6 ?_
  refine nm_elim h (fun x1 ex1 h => ?_)
  refine j_istore X (L' := [(8, .int x1), (6, .long a2), (4, .long a0), (0, .long a0), (2, .long a2)]) ex1 (by decide) rfl dX1_commonDivisor_7 ?_
  refine J.sub [0, 1, 2] rfl ?_
  exact jl_X1_commonDivisor_L9 X  Y 1000 x1 a2 a0 h

abbrev rm_X1_become : Room := { frames := 1, cells := 0, slots := 0, locals := 30 }
set_option maxHeartbeats 4000000 in
set_option maxRecDepth 100000 in
theorem c_X1_become (l : Launch) (E : Ev) (ad : Nat → Nat)   {a1 : Int64} {a3 : Int64} {σ : Sg} {r : Sg} (h : m_X1_become a1 a3 σ = some r) : Met l yX1_become (wY yX1_become cX1_become 7 none) rm_X1_become (va_Pc [.ref (ad 67), .long a1, .long a3] (PreU E ad RF 85 σ)) (QcN E ad (none, r)) 0 0 (EA E) := by
  refine met_of (L0 := [(0, .ref (ad 67)), (1, .long a1), (3, .long a3)]) rfl (Nat.le_of_ble_eq_true rfl) rfl (fun Γ X Y => ?_)
  have X : XC Γ E rm_X1_become cX1_become 7 RX1 := X
  unfold m_X1_become at h
  refine j_lload_n X 1 rfl rfl dX1_become_0 ?_
  refine j_lload_n X 2 rfl rfl dX1_become_1 ?_
  refine bd1_elim h (fun r1 hc2 h => ?_)
  refine j_callSl X (As := [.long a1, .long a3]) (rest := []) mf_X1_commonDivisor bw_674 bw_675 ⟨rfl, rfl⟩ ⟨Nat.le_of_ble_eq_true rfl, Nat.le_of_ble_eq_true rfl⟩ (c_X1_commonDivisor Γ.2.1 E ad  hc2) rfl rfl (Nat.le_of_ble_eq_true rfl) dX1_become_2 ?_
  refine j_lstore X (L' := [(5, .long r1), (0, .ref (ad 67)), (1, .long a1), (3, .long a3)]) rfl (by decide) rfl dX1_become_5 ?_
  refine j_lload X 0 rfl dX1_become_7 ?_
  refine j_lconst X (v := 0) (by decide) dX1_become_9 ?_
  refine j_lcmp X dX1_become_10 ?_
  refine j_if_le X (tgt := 30) (by decide) dX1_become_11 (fun c => ?_) (fun c => ?_)
  · have h := (if_pos c).symm.trans h
    exact j_vret X Y (ret_wv h) dX1_become_30
  · have h := (if_neg c).symm.trans h
    refine j_aload_n X 1 rfl rfl dX1_become_14 ?_
    refine j_lload_n X 2 rfl rfl dX1_become_15 ?_
    refine j_lload X 0 rfl dX1_become_16 ?_
    refine gd_elim h (fun g h => ?_)
    refine j_ldiv X g dX1_become_18 ?_
    refine nm_elim h (fun σ3 eσ3 h => ?_)
    refine j_putl X cf0 pk_67 pl_67 0 rfl ⟨rfl, rfl⟩ rfl rfl rfl eσ3 bw_148 dX1_become_19 ?_
    refine j_aload_n X 1 rfl rfl dX1_become_22 ?_
    refine j_lload_n X 3 rfl rfl dX1_become_23 ?_
    refine j_lload X 0 rfl dX1_become_24 ?_
    refine gd_elim h (fun g h => ?_)
    refine j_ldiv X g dX1_become_26 ?_
    refine nm_elim h (fun σ4 eσ4 h => ?_)
    refine j_putl X cf0 pk_67 pl_67 1 rfl ⟨rfl, rfl⟩ rfl rfl rfl eσ4 bw_150 dX1_become_27 ?_
    exact j_vret X Y (ret_wv h) dX1_become_30

abbrev rm_X2_loudness : Room := { frames := 1, cells := 0, slots := 0, locals := 26 }
set_option maxHeartbeats 4000000 in
set_option maxRecDepth 100000 in
theorem c_X2_loudness (l : Launch) (E : Ev) (ad : Nat → Nat) {k0 : Nat} (hl0 : lay k0 = 1) {a1 : Int32} {a2 : Int32} {σ : Sg} {r : Int32} (h : m_X2_loudness k0 a1 a2 σ = some r) : Met l yX2_loudness (wY yX2_loudness cX2_loudness 3 (some .int)) rm_X2_loudness (va_Pc [.ref (ad k0), .int a1, .int a2] (PreU E ad RF 85 σ)) (QcN E ad (some (.int r), σ)) 0 0 (EA E) := by
  refine met_of (L0 := [(0, .ref (ad k0)), (1, .int a1), (2, .int a2)]) rfl (Nat.le_of_ble_eq_true rfl) rfl (fun Γ X Y => ?_)
  have X : XC Γ E rm_X2_loudness cX2_loudness 3 RX2 := X
  unfold m_X2_loudness at h
  refine j_aload_n X 0 rfl rfl dX2_loudness_0 ?_
  refine j_getr X cf1 (lay_lt hl0 (by decide)) hl0 1 rfl ⟨rfl, rfl⟩ (k0 + 1) (RF_H1 hl0) bw_60 dX2_loudness_1 ?_
  refine j_iload_n X 1 rfl rfl dX2_loudness_4 ?_
  refine j_iconst X (v := 0) (by decide) dX2_loudness_5 ?_
  refine bd1_elim h (fun r1 hc2 h => ?_)
  refine j_callVi X (As := [.int a1, .int (0 : Int32)]) (rest := []) mf_X6_get bw_382 bw_281 bs_341 ⟨rfl, rfl⟩ ⟨Nat.le_of_ble_eq_true rfl, Nat.le_of_ble_eq_true rfl⟩ cf4 (lay_lt (lay_H1 hl0) (by decide)) (lay_H1 hl0) (c_X6_get Γ.2.1 E ad (lay_H1 hl0) hc2) rfl rfl (Nat.le_of_ble_eq_true rfl) dX2_loudness_6 ?_
  refine j_aload_n X 0 rfl rfl dX2_loudness_9 ?_
  refine j_getr X cf1 (lay_lt hl0 (by decide)) hl0 1 rfl ⟨rfl, rfl⟩ (k0 + 1) (RF_H1 hl0) bw_60 dX2_loudness_10 ?_
  refine j_iload_n X 1 rfl rfl dX2_loudness_13 ?_
  refine j_iconst X (v := 2) (by decide) dX2_loudness_14 ?_
  refine bd1_elim h (fun r3 hc4 h => ?_)
  refine j_callVi X (As := [.int a1, .int (2 : Int32)]) (rest := [.int r1]) mf_X6_get bw_382 bw_281 bs_341 ⟨rfl, rfl⟩ ⟨Nat.le_of_ble_eq_true rfl, Nat.le_of_ble_eq_true rfl⟩ cf4 (lay_lt (lay_H1 hl0) (by decide)) (lay_H1 hl0) (c_X6_get Γ.2.1 E ad (lay_H1 hl0) hc4) rfl rfl (Nat.le_of_ble_eq_true rfl) dX2_loudness_15 ?_
  refine j_iload_n X 2 rfl rfl dX2_loudness_18 ?_
  refine bd1_elim h (fun r5 hc6 h => ?_)
  refine j_callSi X (As := [.int r1, .int r3, .int a2]) (rest := []) mf_X3_loudness bw_409 bw_410 ⟨rfl, rfl⟩ ⟨Nat.le_of_ble_eq_true rfl, Nat.le_of_ble_eq_true rfl⟩ (c_X3_loudness Γ.2.1 E ad  hc6) rfl rfl (Nat.le_of_ble_eq_true rfl) dX2_loudness_19 ?_
  exact j_iret X Y rfl (ret_pi h) dX2_loudness_22

abbrev rm_X1_power : Room := { frames := 0, cells := 0, slots := 0, locals := 0 }
set_option maxHeartbeats 4000000 in
set_option maxRecDepth 100000 in
theorem jl_X1_power_L5 {Γ : Cx} {E : Ev} {ad : Nat → Nat} (X : XC Γ E rm_X1_power cX1_power 5 RX1)   {c0 : Int32} {c1 : Int32} {σ : Sg} {kx : Unit → Option (Int64)} {r : Int64} (Y : XQ Γ E ad (some .long) (some (.long r), σ))  : ∀ n (v4 : Int32) (v2 : Int64), m_X1_power_L5 c0 c1 σ kx n v4 v2 = some r → J Γ E 5 ad RF 85 σ 0 0 5 [(4, .int v4), (2, .long v2), (0, .int c0), (1, .int c1)] [] := by
  intro n
  induction n with
  | zero =>
    intro v4 v2 h
    cases h
  | succ n ih =>
    intro v4 v2 h
    rw [m_X1_power_L5.eq_2] at h
    refine j_iload X 0 rfl dX1_power_5 ?_
    refine j_iload_n X 3 rfl rfl dX1_power_7 ?_
    refine j_icmp_ge X (tgt := 22) (by decide) dX1_power_8 (fun c => ?_) (fun c => ?_)
    · have h := (if_pos c).symm.trans h
      refine j_lload_n X 1 rfl rfl dX1_power_22 ?_
      exact j_lret X Y (ret_pl h) dX1_power_23
    · have h := (if_neg c).symm.trans h
      refine j_lload_n X 1 rfl rfl dX1_power_11 ?_
      refine j_iload_n X 2 rfl rfl dX1_power_12 ?_
      refine j_i2l X dX1_power_13 ?_
      refine j_lmul X dX1_power_14 ?_
      refine nm_elim h (fun x3 ex3 h => ?_)
      refine j_lstore_n X (L' := [(2, .long x3), (4, .int v4), (0, .int c0), (1, .int c1)]) ex3 rfl (by decide) rfl dX1_power_15 ?_
      refine nm_elim h (fun x4 ex4 h => ?_)
      refine j_iinc1 X (L' := [(4, .int x4), (2, .long x3), (0, .int c0), (1, .int c1)]) 1 rfl (q := 1) (by decide) ex4 (by decide) rfl dX1_power_16 ?_
      refine j_goto X (tgt := 5) (by decide) dX1_power_19 ?_
      exact J.sub [0, 1, 2, 3] rfl (ih x4 x3 h)
set_option maxHeartbeats 4000000 in
set_option maxRecDepth 100000 in
theorem c_X1_power (l : Launch) (E : Ev) (ad : Nat → Nat)   {a0 : Int32} {a1 : Int32} {σ : Sg} {r : Int64} (h : m_X1_power a0 a1 σ = some r) : Met l yX1_power (wY yX1_power cX1_power 5 (some .long)) rm_X1_power (va_Pc [.int a0, .int a1] (PreU E ad RF 85 σ)) (QcN E ad (some (.long r), σ)) 0 0 (EA E) := by
  refine met_of (L0 := [(0, .int a0), (1, .int a1)]) rfl (Nat.le_of_ble_eq_true rfl) rfl (fun Γ X Y => ?_)
  have X : XC Γ E rm_X1_power cX1_power 5 RX1 := X
  unfold m_X1_power at h
  refine j_lconst X (v := 1) (by decide) dX1_power_0 ?_
  refine nm_elim h (fun x1 ex1 h => ?_)
  refine j_lstore_n X (L' := [(2, .long x1), (0, .int a0), (1, .int a1)]) ex1 rfl (by decide) rfl dX1_power_1 ?_
  refine j_iconst X (v := 0) (by decide) dX1_power_2 ?_
  refine nm_elim h (fun x2 ex2 h => ?_)
  refine j_istore X (L' := [(4, .int x2), (2, .long x1), (0, .int a0), (1, .int a1)]) ex2 (by decide) rfl dX1_power_3 ?_
  refine J.sub [0, 1, 2, 3] rfl ?_
  exact jl_X1_power_L5 X  Y 1000 x2 x1 h

abbrev rm_X1_becomeChance : Room := { frames := 3, cells := 0, slots := 0, locals := 67 }
set_option maxHeartbeats 4000000 in
set_option maxRecDepth 100000 in
theorem jl_X1_becomeChance_L88 {β : Type} {Γ : Cx} {E : Ev} {ad : Nat → Nat} (X : XC Γ E rm_X1_becomeChance cX1_becomeChance 16 RX1) {k1 : Nat} (hl1 : lay k1 = 1) {c10 : Int32} {c9 : Int32} {c8 : Int32} {c7 : Int32} {c6 : Int32} {c3 : Int32} {c4 : Int32} {σ : Sg} {kx : Int64 → Option (β)} {r : β}  (hkx : ∀ (v11 : Int64), kx v11 = some r → J Γ E 16 ad RF 85 σ 0 0 187 [(11, .long v11), (8, .int c8), (0, .ref (ad 67))] []) : ∀ n (v13 : Int32) (v11 : Int64), m_X1_becomeChance_L88 k1 c10 c9 c8 c7 c6 c3 c4 σ kx n v13 v11 = some r → J Γ E 16 ad RF 85 σ 0 0 88 [(13, .int v13), (11, .long v11), (10, .int c10), (9, .int c9), (8, .int c8), (7, .int c7), (6, .int c6), (0, .ref (ad 67)), (1, .ref (ad k1)), (3, .int c3), (4, .int c4)] [] := by
  intro n
  induction n with
  | zero =>
    intro v13 v11 h
    cases h
  | succ n ih =>
    intro v13 v11 h
    rw [m_X1_becomeChance_L88.eq_2] at h
    refine j_iload X 0 rfl dX1_becomeChance_88 ?_
    refine j_sipush X (v := 256) (by decide) dX1_becomeChance_90 ?_
    refine j_icmp_ge X (tgt := 187) (by decide) dX1_becomeChance_93 (fun c => ?_) (fun c => ?_)
    · have h := (if_pos c).symm.trans h
      exact J.sub [1, 4, 7] rfl (hkx v11 h)
    · have h := (if_neg c).symm.trans h
      refine j_iload X 0 rfl dX1_becomeChance_96 ?_
      refine j_iload X 5 rfl dX1_becomeChance_98 ?_
      refine j_iand X dX1_becomeChance_100 ?_
      refine j_iload X 0 rfl dX1_becomeChance_101 ?_
      refine bd1_elim h (fun o20 hr h => ?_)
      have hJ19 : J Γ E 16 ad RF 85 σ 0 0 120 [(13, .int v13), (11, .long v11), (10, .int c10), (9, .int c9), (8, .int c8), (7, .int c7), (6, .int c6), (0, .ref (ad 67)), (1, .ref (ad k1)), (3, .int c3), (4, .int c4)] [.int o20] := by
        refine j_istore X (L' := [(14, .int o20), (13, .int v13), (11, .long v11), (10, .int c10), (9, .int c9), (8, .int c8), (7, .int c7), (6, .int c6), (0, .ref (ad 67)), (1, .ref (ad k1)), (3, .int c3), (4, .int c4)]) rfl (by decide) rfl dX1_becomeChance_120 ?_
        refine j_iload X 0 rfl dX1_becomeChance_122 ?_
        refine bd1_elim h (fun o22 hr h => ?_)
        have hJ21 : J Γ E 16 ad RF 85 σ 0 0 181 [(13, .int v13), (10, .int c10), (9, .int c9), (8, .int c8), (7, .int c7), (6, .int c6), (0, .ref (ad 67)), (1, .ref (ad k1)), (3, .int c3), (4, .int c4), (11, .long o22)] [] := by
          refine nm_elim h (fun x23 ex23 h => ?_)
          refine j_iinc1 X (L' := [(13, .int x23), (10, .int c10), (9, .int c9), (8, .int c8), (7, .int c7), (6, .int c6), (0, .ref (ad 67)), (1, .ref (ad k1)), (3, .int c3), (4, .int c4), (11, .long o22)]) 0 rfl (q := 1) (by decide) ex23 (by decide) rfl dX1_becomeChance_181 ?_
          refine j_goto X (tgt := 88) (by decide) dX1_becomeChance_184 ?_
          exact J.sub [0, 10, 1, 2, 3, 4, 5, 6, 7, 8, 9] rfl (ih x23 o22 h)
        clear h
        refine j_if_eq X (tgt := 181) (by decide) dX1_becomeChance_124 (fun c => ?_) (fun c => ?_)
        · have hr := (if_pos c).symm.trans hr
          cases hr
          exact J.sub [1, 3, 4, 5, 6, 7, 8, 9, 10, 11, 2] rfl hJ21
        · have hr := (if_neg c).symm.trans hr
          refine j_iload X 4 rfl dX1_becomeChance_127 ?_
          refine j_iload X 3 rfl dX1_becomeChance_129 ?_
          refine j_aload_n X 9 rfl rfl dX1_becomeChance_131 ?_
          refine j_iload X 1 rfl dX1_becomeChance_132 ?_
          refine j_iload X 7 rfl dX1_becomeChance_134 ?_
          refine bd1_elim hr (fun r24 hc25 hr => ?_)
          refine j_callVi X (As := [.int v13, .int c6]) (rest := [.int c10, .int c9]) mf_X2_loudnessOfSet bw_681 bw_403 bs_463 ⟨rfl, rfl⟩ ⟨Nat.le_of_ble_eq_true rfl, Nat.le_of_ble_eq_true rfl⟩ cf1 (lay_lt hl1 (by decide)) hl1 (c_X2_loudnessOfSet Γ.2.1 E ad hl1 hc25) rfl rfl (Nat.le_of_ble_eq_true rfl) dX1_becomeChance_136 ?_
          refine j_iload X 3 rfl dX1_becomeChance_139 ?_
          refine j_isub X dX1_becomeChance_141 ?_
          refine bd1_elim hr (fun r26 hc27 hr => ?_)
          refine j_callSi X (As := [.int c9, .int c10, .int (r24 - c10)]) (rest := []) mf_X3_hears bw_682 bw_417 ⟨rfl, rfl⟩ ⟨Nat.le_of_ble_eq_true rfl, Nat.le_of_ble_eq_true rfl⟩ (c_X3_hears Γ.2.1 E ad  hc27) rfl rfl (Nat.le_of_ble_eq_true rfl) dX1_becomeChance_142 ?_
          refine j_if_eq X (tgt := 181) (by decide) dX1_becomeChance_145 (fun c => ?_) (fun c => ?_)
          · have hr := (if_pos c).symm.trans hr
            cases hr
            exact J.sub [1, 3, 4, 5, 6, 7, 8, 9, 10, 11, 2] rfl hJ21
          · have hr := (if_neg c).symm.trans hr
            refine j_iload X 1 rfl dX1_becomeChance_148 ?_
            refine bd1_elim hr (fun r28 hc29 hr => ?_)
            refine j_callSi X (As := [.int v13]) (rest := []) mf_J6_bitCount_0f7a4 bw_678 bw_482 ⟨rfl, rfl⟩ ⟨Nat.le_of_ble_eq_true rfl, Nat.le_of_ble_eq_true rfl⟩ (c_J6_bitCount_0f7a4 Γ.2.1 E ad  hc29) rfl rfl (Nat.le_of_ble_eq_true rfl) dX1_becomeChance_150 ?_
            refine j_istore X (L' := [(15, .int r28), (14, .int o20), (13, .int v13), (11, .long v11), (10, .int c10), (9, .int c9), (8, .int c8), (7, .int c7), (6, .int c6), (0, .ref (ad 67)), (1, .ref (ad k1)), (3, .int c3), (4, .int c4)]) rfl (by decide) rfl dX1_becomeChance_153 ?_
            refine j_lload X 3 rfl dX1_becomeChance_155 ?_
            refine j_iload X 12 rfl dX1_becomeChance_157 ?_
            refine j_iload X 6 rfl dX1_becomeChance_159 ?_
            refine j_iload X 0 rfl dX1_becomeChance_161 ?_
            refine j_isub X dX1_becomeChance_163 ?_
            refine bd1_elim hr (fun r30 hc31 hr => ?_)
            refine j_callSl X (As := [.int c4, .int (c8 - r28)]) (rest := [.long v11]) mf_X1_power bw_683 bw_684 ⟨rfl, rfl⟩ ⟨Nat.le_of_ble_eq_true rfl, Nat.le_of_ble_eq_true rfl⟩ (c_X1_power Γ.2.1 E ad  hc31) rfl rfl (Nat.le_of_ble_eq_true rfl) dX1_becomeChance_164 ?_
            refine j_bipush X (v := 10) (by decide) dX1_becomeChance_167 ?_
            refine j_iload X 12 rfl dX1_becomeChance_169 ?_
            refine j_isub X dX1_becomeChance_171 ?_
            refine j_iload X 0 rfl dX1_becomeChance_172 ?_
            refine bd1_elim hr (fun r32 hc33 hr => ?_)
            refine j_callSl X (As := [.int ((10 : Int32) - c4), .int r28]) (rest := [.long r30, .long v11]) mf_X1_power bw_683 bw_684 ⟨rfl, rfl⟩ ⟨Nat.le_of_ble_eq_true rfl, Nat.le_of_ble_eq_true rfl⟩ (c_X1_power Γ.2.1 E ad  hc33) rfl rfl (Nat.le_of_ble_eq_true rfl) dX1_becomeChance_174 ?_
            refine j_lmul X dX1_becomeChance_177 ?_
            refine j_ladd X dX1_becomeChance_178 ?_
            refine nm_elim hr (fun x34 ex34 hr => ?_)
            refine j_lstore X (L' := [(11, .long x34), (15, .int r28), (14, .int o20), (13, .int v13), (10, .int c10), (9, .int c9), (8, .int c8), (7, .int c7), (6, .int c6), (0, .ref (ad 67)), (1, .ref (ad k1)), (3, .int c3), (4, .int c4)]) ex34 (by decide) rfl dX1_becomeChance_179 ?_
            cases hr
            exact J.sub [3, 4, 5, 6, 7, 8, 9, 10, 11, 12, 0] rfl hJ21
      clear h
      refine j_icmp_ne X (tgt := 119) (by decide) dX1_becomeChance_103 (fun c => ?_) (fun c => ?_)
      · have hr := (if_neg c).symm.trans hr
        refine j_iconst X (v := 0) (by decide) dX1_becomeChance_119 ?_
        cases hr
        exact J.sub [0, 1, 2, 3, 4, 5, 6, 7, 8, 9, 10] rfl hJ19
      · have hr := (if_pos c).symm.trans hr
        refine j_iload X 0 rfl dX1_becomeChance_106 ?_
        refine j_iload_n X 9 rfl rfl dX1_becomeChance_108 ?_
        refine bd1_elim hr (fun r35 hc36 hr => ?_)
        refine j_callSNi X (As := [.int v13, .int c3]) (rest := []) mf_X7_isIn (by simp [nestL]) bw_407 ⟨rfl, rfl⟩ ⟨Nat.le_of_ble_eq_true rfl, Nat.le_of_ble_eq_true rfl⟩ (c_X7_isIn Γ.2.1 E ad  hc36) rfl rfl (Nat.le_of_ble_eq_true rfl) dX1_becomeChance_109 ?_
        refine j_if_eq X (tgt := 119) (by decide) dX1_becomeChance_112 (fun c => ?_) (fun c => ?_)
        · have hr := (if_pos c).symm.trans hr
          refine j_iconst X (v := 0) (by decide) dX1_becomeChance_119 ?_
          cases hr
          exact J.sub [0, 1, 2, 3, 4, 5, 6, 7, 8, 9, 10] rfl hJ19
        · have hr := (if_neg c).symm.trans hr
          refine j_iconst X (v := 1) (by decide) dX1_becomeChance_115 ?_
          refine j_goto X (tgt := 120) (by decide) dX1_becomeChance_116 ?_
          cases hr
          exact J.sub [0, 1, 2, 3, 4, 5, 6, 7, 8, 9, 10] rfl hJ19
set_option maxHeartbeats 4000000 in
set_option maxRecDepth 100000 in
theorem c_X1_becomeChance (l : Launch) (E : Ev) (ad : Nat → Nat) {k1 : Nat} (hl1 : lay k1 = 1) {a2 : Int32} {a3 : Int32} {a4 : Int32} {σ : Sg} {r : Sg} (h : m_X1_becomeChance k1 a2 a3 a4 σ = some r) : Met l yX1_becomeChance (wY yX1_becomeChance cX1_becomeChance 16 none) rm_X1_becomeChance (va_Pc [.ref (ad 67), .ref (ad k1), .int a2, .int a3, .int a4] (PreU E ad RF 85 σ)) (QcN E ad (none, r)) 0 0 (EA E) := by
  refine met_of (L0 := [(0, .ref (ad 67)), (1, .ref (ad k1)), (2, .int a2), (3, .int a3), (4, .int a4)]) rfl (Nat.le_of_ble_eq_true rfl) rfl (fun Γ X Y => ?_)
  have X : XC Γ E rm_X1_becomeChance cX1_becomeChance 16 RX1 := X
  unfold m_X1_becomeChance at h
  refine j_aload_n X 1 rfl rfl dX1_becomeChance_0 ?_
  refine j_getr X cf1 (lay_lt hl1 (by decide)) hl1 2 rfl ⟨rfl, rfl⟩ (k1 + 3) (RF_H2 hl1) bw_67 dX1_becomeChance_1 ?_
  refine j_iload_n X 2 rfl rfl dX1_becomeChance_4 ?_
  refine j_iconst X (v := 1) (by decide) dX1_becomeChance_5 ?_
  refine bd1_elim h (fun r1 hc2 h => ?_)
  refine j_callVi X (As := [.int a2, .int (1 : Int32)]) (rest := []) mf_X6_get bw_668 bw_281 bs_341 ⟨rfl, rfl⟩ ⟨Nat.le_of_ble_eq_true rfl, Nat.le_of_ble_eq_true rfl⟩ cf4 (lay_lt (lay_H2 hl1) (by decide)) (lay_H2 hl1) (c_X6_get Γ.2.1 E ad (lay_H2 hl1) hc2) rfl rfl (Nat.le_of_ble_eq_true rfl) dX1_becomeChance_6 ?_
  refine j_istore X (L' := [(5, .int r1), (0, .ref (ad 67)), (1, .ref (ad k1)), (2, .int a2), (3, .int a3), (4, .int a4)]) rfl (by decide) rfl dX1_becomeChance_9 ?_
  refine j_aload_n X 2 rfl rfl dX1_becomeChance_11 ?_
  refine j_iload X 0 rfl dX1_becomeChance_12 ?_
  refine j_iconst X (v := 0) (by decide) dX1_becomeChance_14 ?_
  refine bd1_elim h (fun r3 hc4 h => ?_)
  refine j_callVi X (As := [.int r1, .int (0 : Int32)]) (rest := []) mf_X2_roomMinute bw_669 bw_384 bs_444 ⟨rfl, rfl⟩ ⟨Nat.le_of_ble_eq_true rfl, Nat.le_of_ble_eq_true rfl⟩ cf1 (lay_lt hl1 (by decide)) hl1 (c_X2_roomMinute Γ.2.1 E ad hl1 hc4) rfl rfl (Nat.le_of_ble_eq_true rfl) dX1_becomeChance_15 ?_
  refine j_istore X (L' := [(6, .int r3), (5, .int r1), (0, .ref (ad 67)), (1, .ref (ad k1)), (2, .int a2), (3, .int a3), (4, .int a4)]) rfl (by decide) rfl dX1_becomeChance_18 ?_
  refine j_iload X 0 rfl dX1_becomeChance_20 ?_
  refine j_iconst X (v := -1) (by decide) dX1_becomeChance_22 ?_
  refine j_icmp_eq X (tgt := 40) (by decide) dX1_becomeChance_23 (fun c => ?_) (fun c => ?_)
  · have h := (if_pos c).symm.trans h
    refine j_aload_n X 2 rfl rfl dX1_becomeChance_40 ?_
    refine j_lconst X (v := 0) (by decide) dX1_becomeChance_41 ?_
    refine j_lconst X (v := 1) (by decide) dX1_becomeChance_42 ?_
    refine bd1_elim h (fun σ5 hc6 h => ?_)
    refine j_callVv X (As := [.long (0 : Int64), .long (1 : Int64)]) (rest := []) mf_X1_become bw_670 bw_672 bs_17 ⟨rfl, rfl⟩ ⟨Nat.le_of_ble_eq_true rfl, Nat.le_of_ble_eq_true rfl⟩ cf0 pk_67 pl_67 (c_X1_become Γ.2.1 E ad  hc6) rfl rfl (Nat.le_of_ble_eq_true rfl) dX1_becomeChance_43 ?_
    exact j_vret X Y (ret_wv h) dX1_becomeChance_46
  · have h := (if_neg c).symm.trans h
    refine j_aload_n X 3 rfl rfl dX1_becomeChance_26 ?_
    refine j_getr X cf1 (lay_lt hl1 (by decide)) hl1 1 rfl ⟨rfl, rfl⟩ (k1 + 1) (RF_H1 hl1) bw_62 dX1_becomeChance_27 ?_
    refine j_iload_n X 5 rfl rfl dX1_becomeChance_30 ?_
    refine j_iconst X (v := 1) (by decide) dX1_becomeChance_31 ?_
    refine bd1_elim h (fun r7 hc8 h => ?_)
    refine j_callVi X (As := [.int a3, .int (1 : Int32)]) (rest := []) mf_X6_get bw_668 bw_281 bs_341 ⟨rfl, rfl⟩ ⟨Nat.le_of_ble_eq_true rfl, Nat.le_of_ble_eq_true rfl⟩ cf4 (lay_lt (lay_H1 hl1) (by decide)) (lay_H1 hl1) (c_X6_get Γ.2.1 E ad (lay_H1 hl1) hc8) rfl rfl (Nat.le_of_ble_eq_true rfl) dX1_becomeChance_32 ?_
    refine j_iload X 1 rfl dX1_becomeChance_35 ?_
    refine j_icmp_eq X (tgt := 47) (by decide) dX1_becomeChance_37 (fun c => ?_) (fun c => ?_)
    · have h := (if_pos c).symm.trans h
      refine j_aload_n X 3 rfl rfl dX1_becomeChance_47 ?_
      refine j_iload X 1 rfl dX1_becomeChance_48 ?_
      refine bd1_elim h (fun r9 hc10 h => ?_)
      refine j_callVi X (As := [.int r1]) (rest := []) mf_X2_sayingsOfRoom bw_677 bw_399 bs_459 ⟨rfl, rfl⟩ ⟨Nat.le_of_ble_eq_true rfl, Nat.le_of_ble_eq_true rfl⟩ cf1 (lay_lt hl1 (by decide)) hl1 (c_X2_sayingsOfRoom Γ.2.1 E ad hl1 hc10) rfl rfl (Nat.le_of_ble_eq_true rfl) dX1_becomeChance_50 ?_
      refine j_istore X (L' := [(7, .int r9), (6, .int r3), (5, .int r1), (0, .ref (ad 67)), (1, .ref (ad k1)), (2, .int a2), (3, .int a3), (4, .int a4)]) rfl (by decide) rfl dX1_becomeChance_53 ?_
      refine j_iload X 0 rfl dX1_becomeChance_55 ?_
      refine bd1_elim h (fun r11 hc12 h => ?_)
      refine j_callSi X (As := [.int r9]) (rest := []) mf_J6_bitCount_0f7a4 bw_678 bw_482 ⟨rfl, rfl⟩ ⟨Nat.le_of_ble_eq_true rfl, Nat.le_of_ble_eq_true rfl⟩ (c_J6_bitCount_0f7a4 Γ.2.1 E ad  hc12) rfl rfl (Nat.le_of_ble_eq_true rfl) dX1_becomeChance_57 ?_
      refine j_istore X (L' := [(8, .int r11), (7, .int r9), (6, .int r3), (5, .int r1), (0, .ref (ad 67)), (1, .ref (ad k1)), (2, .int a2), (3, .int a3), (4, .int a4)]) rfl (by decide) rfl dX1_becomeChance_60 ?_
      refine j_aload_n X 5 rfl rfl dX1_becomeChance_62 ?_
      refine j_getr X cf1 (lay_lt hl1 (by decide)) hl1 2 rfl ⟨rfl, rfl⟩ (k1 + 3) (RF_H2 hl1) bw_67 dX1_becomeChance_63 ?_
      refine j_iload_n X 6 rfl rfl dX1_becomeChance_66 ?_
      refine j_iconst X (v := 0) (by decide) dX1_becomeChance_67 ?_
      refine bd1_elim h (fun r13 hc14 h => ?_)
      refine j_callVi X (As := [.int a2, .int (0 : Int32)]) (rest := []) mf_X6_get bw_668 bw_281 bs_341 ⟨rfl, rfl⟩ ⟨Nat.le_of_ble_eq_true rfl, Nat.le_of_ble_eq_true rfl⟩ cf4 (lay_lt (lay_H2 hl1) (by decide)) (lay_H2 hl1) (c_X6_get Γ.2.1 E ad (lay_H2 hl1) hc14) rfl rfl (Nat.le_of_ble_eq_true rfl) dX1_becomeChance_68 ?_
      refine j_istore X (L' := [(9, .int r13), (8, .int r11), (7, .int r9), (6, .int r3), (5, .int r1), (0, .ref (ad 67)), (1, .ref (ad k1)), (2, .int a2), (3, .int a3), (4, .int a4)]) rfl (by decide) rfl dX1_becomeChance_71 ?_
      refine j_aload_n X 6 rfl rfl dX1_becomeChance_73 ?_
      refine j_iload_n X 8 rfl rfl dX1_becomeChance_74 ?_
      refine j_iload X 3 rfl dX1_becomeChance_75 ?_
      refine bd1_elim h (fun r15 hc16 h => ?_)
      refine j_callVi X (As := [.int a3, .int r3]) (rest := []) mf_X2_loudness bw_679 bw_413 bs_473 ⟨rfl, rfl⟩ ⟨Nat.le_of_ble_eq_true rfl, Nat.le_of_ble_eq_true rfl⟩ cf1 (lay_lt hl1 (by decide)) hl1 (c_X2_loudness Γ.2.1 E ad hl1 hc16) rfl rfl (Nat.le_of_ble_eq_true rfl) dX1_becomeChance_77 ?_
      refine j_istore X (L' := [(10, .int r15), (9, .int r13), (8, .int r11), (7, .int r9), (6, .int r3), (5, .int r1), (0, .ref (ad 67)), (1, .ref (ad k1)), (2, .int a2), (3, .int a3), (4, .int a4)]) rfl (by decide) rfl dX1_becomeChance_80 ?_
      refine j_lconst X (v := 0) (by decide) dX1_becomeChance_82 ?_
      refine nm_elim h (fun x17 ex17 h => ?_)
      refine j_lstore X (L' := [(11, .long x17), (10, .int r15), (9, .int r13), (8, .int r11), (7, .int r9), (6, .int r3), (5, .int r1), (0, .ref (ad 67)), (1, .ref (ad k1)), (2, .int a2), (3, .int a3), (4, .int a4)]) ex17 (by decide) rfl dX1_becomeChance_83 ?_
      refine j_iconst X (v := 0) (by decide) dX1_becomeChance_85 ?_
      refine nm_elim h (fun x18 ex18 h => ?_)
      refine j_istore X (L' := [(13, .int x18), (11, .long x17), (10, .int r15), (9, .int r13), (8, .int r11), (7, .int r9), (6, .int r3), (5, .int r1), (0, .ref (ad 67)), (1, .ref (ad k1)), (2, .int a2), (3, .int a3), (4, .int a4)]) ex18 (by decide) rfl dX1_becomeChance_86 ?_
      refine J.sub [0, 1, 2, 3, 4, 5, 6, 8, 9, 11, 12] rfl ?_
      refine jl_X1_becomeChance_L88 X hl1 (fun x37 h => ?_) 1000 x18 x17 h
      refine j_aload_n X 2 rfl rfl dX1_becomeChance_187 ?_
      refine j_lload X 0 rfl dX1_becomeChance_188 ?_
      refine j_bipush X (v := 10) (by decide) dX1_becomeChance_190 ?_
      refine j_iload X 1 rfl dX1_becomeChance_192 ?_
      refine bd1_elim h (fun r38 hc39 h => ?_)
      refine j_callSl X (As := [.int (10 : Int32), .int r11]) (rest := [.long x37, .ref (ad 67)]) mf_X1_power bw_683 bw_684 ⟨rfl, rfl⟩ ⟨Nat.le_of_ble_eq_true rfl, Nat.le_of_ble_eq_true rfl⟩ (c_X1_power Γ.2.1 E ad  hc39) rfl rfl (Nat.le_of_ble_eq_true rfl) dX1_becomeChance_194 ?_
      refine bd1_elim h (fun σ40 hc41 h => ?_)
      refine j_callVv X (As := [.long x37, .long r38]) (rest := []) mf_X1_become bw_670 bw_672 bs_17 ⟨rfl, rfl⟩ ⟨Nat.le_of_ble_eq_true rfl, Nat.le_of_ble_eq_true rfl⟩ cf0 pk_67 pl_67 (c_X1_become Γ.2.1 E ad  hc41) rfl rfl (Nat.le_of_ble_eq_true rfl) dX1_becomeChance_197 ?_
      exact j_vret X Y (ret_wv h) dX1_becomeChance_200
    · have h := (if_neg c).symm.trans h
      refine j_aload_n X 2 rfl rfl dX1_becomeChance_40 ?_
      refine j_lconst X (v := 0) (by decide) dX1_becomeChance_41 ?_
      refine j_lconst X (v := 1) (by decide) dX1_becomeChance_42 ?_
      refine bd1_elim h (fun σ42 hc43 h => ?_)
      refine j_callVv X (As := [.long (0 : Int64), .long (1 : Int64)]) (rest := []) mf_X1_become bw_670 bw_672 bs_17 ⟨rfl, rfl⟩ ⟨Nat.le_of_ble_eq_true rfl, Nat.le_of_ble_eq_true rfl⟩ cf0 pk_67 pl_67 (c_X1_become Γ.2.1 E ad  hc43) rfl rfl (Nat.le_of_ble_eq_true rfl) dX1_becomeChance_43 ?_
      exact j_vret X Y (ret_wv h) dX1_becomeChance_46

abbrev rm_X6_empty : Room := { frames := 0, cells := 0, slots := 0, locals := 0 }
set_option maxHeartbeats 4000000 in
set_option maxRecDepth 100000 in
theorem c_X6_empty (l : Launch) (E : Ev) (ad : Nat → Nat) {k0 : Nat} (hl0 : lay k0 = 4)  {σ : Sg} {r : Int32 × Sg} (h : m_X6_empty k0 σ = some r) : Met l yX6_empty (wY yX6_empty cX6_empty 2 (some .int)) rm_X6_empty (va_Pc [.ref (ad k0)] (PreU E ad RF 85 σ)) (QcN E ad (some (.int r.1), r.2)) 0 0 (EA E) := by
  refine met_of (L0 := [(0, .ref (ad k0))]) rfl (Nat.le_of_ble_eq_true rfl) rfl (fun Γ X Y => ?_)
  have X : XC Γ E rm_X6_empty cX6_empty 2 RX6 := X
  unfold m_X6_empty at h
  refine j_aload_n X 0 rfl rfl dX6_empty_0 ?_
  refine j_geti X cf4 (lay_lt hl0 (by decide)) hl0 3 rfl ⟨rfl, rfl⟩ bw_42 dX6_empty_1 ?_
  refine nm_elim h (fun x1 ex1 h => ?_)
  refine j_istore_n X (L' := [(1, .int x1), (0, .ref (ad k0))]) ex1 rfl (by decide) rfl dX6_empty_4 ?_
  refine j_aload_n X 1 rfl rfl dX6_empty_5 ?_
  refine j_iconst X (v := 0) (by decide) dX6_empty_6 ?_
  refine nm_elim h (fun σ2 eσ2 h => ?_)
  refine j_puti X cf4 (lay_lt hl0 (by decide)) hl0 3 rfl ⟨rfl, rfl⟩ (.inl rfl) rfl rfl eσ2 bw_42 dX6_empty_7 ?_
  refine j_iload_n X 0 rfl rfl dX6_empty_10 ?_
  exact j_iret X Y rfl (ret_wi h) dX6_empty_11

abbrev rm_X6_set : Room := { frames := 0, cells := 0, slots := 0, locals := 0 }
set_option maxHeartbeats 4000000 in
set_option maxRecDepth 100000 in
theorem c_X6_set (l : Launch) (E : Ev) (ad : Nat → Nat) {k0 : Nat} (hl0 : lay k0 = 4) {a1 : Int32} {a2 : Int32} {a3 : Int32} {σ : Sg} {r : Sg} (h : m_X6_set k0 a1 a2 a3 σ = some r) : Met l yX6_set (wY yX6_set cX6_set 5 none) rm_X6_set (va_Pc [.ref (ad k0), .int a1, .int a2, .int a3] (PreU E ad RF 85 σ)) (QcN E ad (none, r)) 0 0 (EA E) := by
  refine met_of (L0 := [(0, .ref (ad k0)), (1, .int a1), (2, .int a2), (3, .int a3)]) rfl (Nat.le_of_ble_eq_true rfl) rfl (fun Γ X Y => ?_)
  have X : XC Γ E rm_X6_set cX6_set 5 RX6 := X
  unfold m_X6_set at h
  refine j_iload_n X 1 rfl rfl dX6_set_0 ?_
  refine j_aload_n X 0 rfl rfl dX6_set_1 ?_
  refine j_geti X cf4 (lay_lt hl0 (by decide)) hl0 1 rfl ⟨rfl, rfl⟩ bw_40 dX6_set_2 ?_
  refine j_imul X dX6_set_5 ?_
  refine j_iload_n X 2 rfl rfl dX6_set_6 ?_
  refine j_iadd X dX6_set_7 ?_
  refine nm_elim h (fun x1 ex1 h => ?_)
  refine j_istore X (L' := [(4, .int x1), (0, .ref (ad k0)), (1, .int a1), (2, .int a2), (3, .int a3)]) ex1 (by decide) rfl dX6_set_8 ?_
  refine j_iload_n X 3 rfl rfl dX6_set_10 ?_
  refine j_if_lt X (tgt := 45) (by decide) dX6_set_11 (fun c => ?_) (fun c => ?_)
  · have h := (if_pos c).symm.trans h
    exact j_vret X Y (ret_wv h) dX6_set_45
  · have h := (if_neg c).symm.trans h
    refine j_iload_n X 3 rfl rfl dX6_set_14 ?_
    refine j_aload_n X 1 rfl rfl dX6_set_15 ?_
    refine j_geti X cf4 (lay_lt hl0 (by decide)) hl0 1 rfl ⟨rfl, rfl⟩ bw_40 dX6_set_16 ?_
    refine j_icmp_ge X (tgt := 45) (by decide) dX6_set_19 (fun c => ?_) (fun c => ?_)
    · have h := (if_pos c).symm.trans h
      exact j_vret X Y (ret_wv h) dX6_set_45
    · have h := (if_neg c).symm.trans h
      refine j_iload X 0 rfl dX6_set_22 ?_
      refine j_if_lt X (tgt := 45) (by decide) dX6_set_24 (fun c => ?_) (fun c => ?_)
      · have h := (if_pos c).symm.trans h
        exact j_vret X Y (ret_wv h) dX6_set_45
      · have h := (if_neg c).symm.trans h
        refine j_iload X 0 rfl dX6_set_27 ?_
        refine j_aload_n X 1 rfl rfl dX6_set_29 ?_
        refine j_getr X cf4 (lay_lt hl0 (by decide)) hl0 2 rfl ⟨rfl, rfl⟩ (k0 + 1) (RF_R hl0) bw_41 dX6_set_30 ?_
        refine j_alen X (lay_lt (lay_R hl0) (by decide)) (lay_R hl0) dX6_set_33 ?_
        refine j_icmp_ge X (tgt := 45) (by decide) dX6_set_34 (fun c => ?_) (fun c => ?_)
        · have h := (if_pos c).symm.trans h
          exact j_vret X Y (ret_wv h) dX6_set_45
        · have h := (if_neg c).symm.trans h
          refine j_aload_n X 1 rfl rfl dX6_set_37 ?_
          refine j_getr X cf4 (lay_lt hl0 (by decide)) hl0 2 rfl ⟨rfl, rfl⟩ (k0 + 1) (RF_R hl0) bw_41 dX6_set_38 ?_
          refine j_iload X 0 rfl dX6_set_41 ?_
          refine j_iload_n X 4 rfl rfl dX6_set_43 ?_
          refine gd_elim h (fun g h => ?_)
          refine nm_elim h (fun σ2 eσ2 h => ?_)
          refine j_iast X (lay_lt (lay_R hl0) (by decide)) (lay_R hl0) g eσ2 dX6_set_44 ?_
          exact j_vret X Y (ret_wv h) dX6_set_45

abbrev rm_X2_paper : Room := { frames := 1, cells := 0, slots := 0, locals := 24 }
set_option maxHeartbeats 4000000 in
set_option maxRecDepth 100000 in
theorem c_X2_paper (l : Launch) (E : Ev) (ad : Nat → Nat) {k0 : Nat} (hl0 : lay k0 = 1) {a1 : Int32} {σ : Sg} {r : Sg} (h : m_X2_paper k0 a1 σ = some r) : Met l yX2_paper (wY yX2_paper cX2_paper 2 none) rm_X2_paper (va_Pc [.ref (ad k0), .int a1] (PreU E ad RF 85 σ)) (QcN E ad (none, r)) 0 0 (EA E) := by
  refine met_of (L0 := [(0, .ref (ad k0)), (1, .int a1)]) rfl (Nat.le_of_ble_eq_true rfl) rfl (fun Γ X Y => ?_)
  have X : XC Γ E rm_X2_paper cX2_paper 2 RX2 := X
  unfold m_X2_paper at h
  refine j_aload_n X 0 rfl rfl dX2_paper_0 ?_
  refine j_getr X cf1 (lay_lt hl0 (by decide)) hl0 3 rfl ⟨rfl, rfl⟩ (k0 + 5) (RF_H3 hl0) bw_70 dX2_paper_1 ?_
  refine j_iload_n X 1 rfl rfl dX2_paper_4 ?_
  refine j_iconst X (v := 0) (by decide) dX2_paper_5 ?_
  refine j_iconst X (v := 0) (by decide) dX2_paper_6 ?_
  refine bd1_elim h (fun σ1 hc2 h => ?_)
  refine j_callVv X (As := [.int a1, .int (0 : Int32), .int (0 : Int32)]) (rest := []) mf_X6_set bw_210 bw_211 bs_271 ⟨rfl, rfl⟩ ⟨Nat.le_of_ble_eq_true rfl, Nat.le_of_ble_eq_true rfl⟩ cf4 (lay_lt (lay_H3 hl0) (by decide)) (lay_H3 hl0) (c_X6_set Γ.2.1 E ad (lay_H3 hl0) hc2) rfl rfl (Nat.le_of_ble_eq_true rfl) dX2_paper_7 ?_
  exact j_vret X Y (ret_wv h) dX2_paper_10

abbrev rm_X2_reset : Room := { frames := 2, cells := 0, slots := 0, locals := 45 }
set_option maxHeartbeats 4000000 in
set_option maxRecDepth 100000 in
theorem jl_X2_reset_L23 {β : Type} {Γ : Cx} {E : Ev} {ad : Nat → Nat} (X : XC Γ E rm_X2_reset cX2_reset 2 RX2) {k0 : Nat} (hl0 : lay k0 = 1)   {kx : Sg → Option (β)} {r : β}  (hkx : ∀ (σ : Sg), kx σ = some r → J Γ E 2 ad RF 85 σ 0 0 39 [(0, .ref (ad k0))] []) : ∀ n (v1 : Int32) (σ : Sg), m_X2_reset_L23 k0 kx n v1 σ = some r → J Γ E 2 ad RF 85 σ 0 0 23 [(1, .int v1), (0, .ref (ad k0))] [] := by
  intro n
  induction n with
  | zero =>
    intro v1 σ h
    cases h
  | succ n ih =>
    intro v1 σ h
    rw [m_X2_reset_L23.eq_2] at h
    refine j_iload_n X 0 rfl rfl dX2_reset_23 ?_
    refine j_iconst X (v := 4) (by decide) dX2_reset_24 ?_
    refine j_icmp_ge X (tgt := 39) (by decide) dX2_reset_25 (fun c => ?_) (fun c => ?_)
    · have h := (if_pos c).symm.trans h
      exact J.sub [1] rfl (hkx σ h)
    · have h := (if_neg c).symm.trans h
      refine j_aload_n X 1 rfl rfl dX2_reset_28 ?_
      refine j_iload_n X 0 rfl rfl dX2_reset_29 ?_
      refine bd1_elim h (fun σ9 hc10 h => ?_)
      refine j_callVv X (As := [.int v1]) (rest := []) mf_X2_paper bw_206 bw_207 bs_267 ⟨rfl, rfl⟩ ⟨Nat.le_of_ble_eq_true rfl, Nat.le_of_ble_eq_true rfl⟩ cf1 (lay_lt hl0 (by decide)) hl0 (c_X2_paper Γ.2.1 E ad hl0 hc10) rfl rfl (Nat.le_of_ble_eq_true rfl) dX2_reset_30 ?_
      refine nm_elim h (fun x11 ex11 h => ?_)
      refine j_iinc1 X (L' := [(1, .int x11), (0, .ref (ad k0))]) 0 rfl (q := 1) (by decide) ex11 (by decide) rfl dX2_reset_33 ?_
      refine j_goto X (tgt := 23) (by decide) dX2_reset_36 ?_
      exact J.sub [0, 1] rfl (ih x11 σ9 h)
set_option maxHeartbeats 4000000 in
set_option maxRecDepth 100000 in
theorem c_X2_reset (l : Launch) (E : Ev) (ad : Nat → Nat) {k0 : Nat} (hl0 : lay k0 = 1)  {σ : Sg} {r : Sg} (h : m_X2_reset k0 σ = some r) : Met l yX2_reset (wY yX2_reset cX2_reset 2 none) rm_X2_reset (va_Pc [.ref (ad k0)] (PreU E ad RF 85 σ)) (QcN E ad (none, r)) 0 0 (EA E) := by
  refine met_of (L0 := [(0, .ref (ad k0))]) rfl (Nat.le_of_ble_eq_true rfl) rfl (fun Γ X Y => ?_)
  have X : XC Γ E rm_X2_reset cX2_reset 2 RX2 := X
  unfold m_X2_reset at h
  refine j_aload_n X 0 rfl rfl dX2_reset_0 ?_
  refine j_iconst X (v := 0) (by decide) dX2_reset_1 ?_
  refine nm_elim h (fun σ1 eσ1 h => ?_)
  refine j_puti X cf1 (lay_lt hl0 (by decide)) hl0 0 rfl ⟨rfl, rfl⟩ (.inl rfl) rfl rfl eσ1 bw_58 dX2_reset_2 ?_
  refine j_aload_n X 0 rfl rfl dX2_reset_5 ?_
  refine j_getr X cf1 (lay_lt hl0 (by decide)) hl0 1 rfl ⟨rfl, rfl⟩ (k0 + 1) (RF_H1 hl0) bw_60 dX2_reset_6 ?_
  refine bd2_elim h (fun r2 σ3 hc4 h => ?_)
  refine j_callVi X (As := []) (rest := []) mf_X6_empty bw_202 bw_203 bs_263 ⟨rfl, rfl⟩ ⟨Nat.le_of_ble_eq_true rfl, Nat.le_of_ble_eq_true rfl⟩ cf4 (lay_lt (lay_H1 hl0) (by decide)) (lay_H1 hl0) (c_X6_empty Γ.2.1 E ad (lay_H1 hl0) hc4) rfl rfl (Nat.le_of_ble_eq_true rfl) dX2_reset_9 ?_
  refine j_pop X rfl dX2_reset_12 ?_
  refine j_aload_n X 0 rfl rfl dX2_reset_13 ?_
  refine j_getr X cf1 (lay_lt hl0 (by decide)) hl0 2 rfl ⟨rfl, rfl⟩ (k0 + 3) (RF_H2 hl0) bw_65 dX2_reset_14 ?_
  refine bd2_elim h (fun r5 σ6 hc7 h => ?_)
  refine j_callVi X (As := []) (rest := []) mf_X6_empty bw_202 bw_203 bs_263 ⟨rfl, rfl⟩ ⟨Nat.le_of_ble_eq_true rfl, Nat.le_of_ble_eq_true rfl⟩ cf4 (lay_lt (lay_H2 hl0) (by decide)) (lay_H2 hl0) (c_X6_empty Γ.2.1 E ad (lay_H2 hl0) hc7) rfl rfl (Nat.le_of_ble_eq_true rfl) dX2_reset_17 ?_
  refine j_pop X rfl dX2_reset_20 ?_
  refine j_iconst X (v := 0) (by decide) dX2_reset_21 ?_
  refine nm_elim h (fun x8 ex8 h => ?_)
  refine j_istore_n X (L' := [(1, .int x8), (0, .ref (ad k0))]) ex8 rfl (by decide) rfl dX2_reset_22 ?_
  refine J.sub [0, 1] rfl ?_
  refine jl_X2_reset_L23 X hl0 (fun σ12 h => ?_) 1000 x8 σ6 h
  refine j_aload_n X 0 rfl rfl dX2_reset_39 ?_
  refine j_getr X cf1 (lay_lt hl0 (by decide)) hl0 4 rfl ⟨rfl, rfl⟩ (k0 + 7) (RF_H4 hl0) bw_71 dX2_reset_40 ?_
  refine bd2_elim h (fun r13 σ14 hc15 h => ?_)
  refine j_callVi X (As := []) (rest := []) mf_X6_empty bw_202 bw_203 bs_263 ⟨rfl, rfl⟩ ⟨Nat.le_of_ble_eq_true rfl, Nat.le_of_ble_eq_true rfl⟩ cf4 (lay_lt (lay_H4 hl0) (by decide)) (lay_H4 hl0) (c_X6_empty Γ.2.1 E ad (lay_H4 hl0) hc15) rfl rfl (Nat.le_of_ble_eq_true rfl) dX2_reset_43 ?_
  refine j_pop X rfl dX2_reset_46 ?_
  refine j_aload_n X 0 rfl rfl dX2_reset_47 ?_
  refine j_getr X cf1 (lay_lt hl0 (by decide)) hl0 5 rfl ⟨rfl, rfl⟩ (k0 + 9) (RF_H5 hl0) bw_74 dX2_reset_48 ?_
  refine bd2_elim h (fun r16 σ17 hc18 h => ?_)
  refine j_callVi X (As := []) (rest := []) mf_X6_empty bw_202 bw_203 bs_263 ⟨rfl, rfl⟩ ⟨Nat.le_of_ble_eq_true rfl, Nat.le_of_ble_eq_true rfl⟩ cf4 (lay_lt (lay_H5 hl0) (by decide)) (lay_H5 hl0) (c_X6_empty Γ.2.1 E ad (lay_H5 hl0) hc18) rfl rfl (Nat.le_of_ble_eq_true rfl) dX2_reset_51 ?_
  refine j_pop X rfl dX2_reset_54 ?_
  refine j_aload_n X 0 rfl rfl dX2_reset_55 ?_
  refine j_getr X cf1 (lay_lt hl0 (by decide)) hl0 6 rfl ⟨rfl, rfl⟩ (k0 + 11) (RF_H6 hl0) bw_77 dX2_reset_56 ?_
  refine bd2_elim h (fun r19 σ20 hc21 h => ?_)
  refine j_callVi X (As := []) (rest := []) mf_X6_empty bw_202 bw_203 bs_263 ⟨rfl, rfl⟩ ⟨Nat.le_of_ble_eq_true rfl, Nat.le_of_ble_eq_true rfl⟩ cf4 (lay_lt (lay_H6 hl0) (by decide)) (lay_H6 hl0) (c_X6_empty Γ.2.1 E ad (lay_H6 hl0) hc21) rfl rfl (Nat.le_of_ble_eq_true rfl) dX2_reset_59 ?_
  refine j_pop X rfl dX2_reset_62 ?_
  refine j_aload_n X 0 rfl rfl dX2_reset_63 ?_
  refine j_getr X cf1 (lay_lt hl0 (by decide)) hl0 7 rfl ⟨rfl, rfl⟩ (k0 + 13) (RF_H7 hl0) bw_80 dX2_reset_64 ?_
  refine bd2_elim h (fun r22 σ23 hc24 h => ?_)
  refine j_callVi X (As := []) (rest := []) mf_X6_empty bw_202 bw_203 bs_263 ⟨rfl, rfl⟩ ⟨Nat.le_of_ble_eq_true rfl, Nat.le_of_ble_eq_true rfl⟩ cf4 (lay_lt (lay_H7 hl0) (by decide)) (lay_H7 hl0) (c_X6_empty Γ.2.1 E ad (lay_H7 hl0) hc24) rfl rfl (Nat.le_of_ble_eq_true rfl) dX2_reset_67 ?_
  refine j_pop X rfl dX2_reset_70 ?_
  exact j_vret X Y (ret_wv h) dX2_reset_71

abbrev rm_X6_copy : Room := { frames := 1, cells := 0, slots := 0, locals := 21 }
set_option maxHeartbeats 4000000 in
set_option maxRecDepth 100000 in
theorem jl_X6_copy_L7 {β : Type} {Γ : Cx} {E : Ev} {ad : Nat → Nat} (X : XC Γ E rm_X6_copy cX6_copy 3 RX6) {k0 : Nat} {k1 : Nat} (hl0 : lay k0 = 4) (hl1 : lay k1 = 4)   {kx : Sg → Option (β)} {r : β}  (hkx : ∀ (σ : Sg), kx σ = some r → J Γ E 3 ad RF 85 σ 0 0 43 [(0, .ref (ad k0)), (1, .ref (ad k1))] []) : ∀ n (v2 : Int32) (σ : Sg), m_X6_copy_L7 k0 k1 kx n v2 σ = some r → J Γ E 3 ad RF 85 σ 0 0 7 [(2, .int v2), (0, .ref (ad k0)), (1, .ref (ad k1))] [] := by
  intro n
  induction n with
  | zero =>
    intro v2 σ h
    cases h
  | succ n ih =>
    intro v2 σ h
    rw [m_X6_copy_L7.eq_2] at h
    refine j_iload_n X 0 rfl rfl dX6_copy_7 ?_
    refine j_aload_n X 1 rfl rfl dX6_copy_8 ?_
    refine j_getr X cf4 (lay_lt hl0 (by decide)) hl0 2 rfl ⟨rfl, rfl⟩ (k0 + 1) (RF_R hl0) bw_41 dX6_copy_9 ?_
    refine j_alen X (lay_lt (lay_R hl0) (by decide)) (lay_R hl0) dX6_copy_12 ?_
    refine j_icmp_ge X (tgt := 43) (by decide) dX6_copy_13 (fun c => ?_) (fun c => ?_)
    · have h := (if_pos c).symm.trans h
      exact J.sub [1, 2] rfl (hkx σ h)
    · have h := (if_neg c).symm.trans h
      refine j_iload_n X 0 rfl rfl dX6_copy_16 ?_
      refine j_aload_n X 2 rfl rfl dX6_copy_17 ?_
      refine j_getr X cf4 (lay_lt hl1 (by decide)) hl1 2 rfl ⟨rfl, rfl⟩ (k1 + 1) (RF_R hl1) bw_41 dX6_copy_18 ?_
      refine j_alen X (lay_lt (lay_R hl1) (by decide)) (lay_R hl1) dX6_copy_21 ?_
      refine j_icmp_ge X (tgt := 43) (by decide) dX6_copy_22 (fun c => ?_) (fun c => ?_)
      · have h := (if_pos c).symm.trans h
        exact J.sub [1, 2] rfl (hkx σ h)
      · have h := (if_neg c).symm.trans h
        refine j_aload_n X 1 rfl rfl dX6_copy_25 ?_
        refine j_getr X cf4 (lay_lt hl0 (by decide)) hl0 2 rfl ⟨rfl, rfl⟩ (k0 + 1) (RF_R hl0) bw_41 dX6_copy_26 ?_
        refine j_iload_n X 0 rfl rfl dX6_copy_29 ?_
        refine j_aload_n X 2 rfl rfl dX6_copy_30 ?_
        refine j_getr X cf4 (lay_lt hl1 (by decide)) hl1 2 rfl ⟨rfl, rfl⟩ (k1 + 1) (RF_R hl1) bw_41 dX6_copy_31 ?_
        refine j_iload_n X 0 rfl rfl dX6_copy_34 ?_
        refine gd_elim h (fun g h => ?_)
        refine j_iald X (lay_lt (lay_R hl1) (by decide)) (lay_R hl1) g dX6_copy_35 ?_
        refine gd_elim h (fun g h => ?_)
        refine nm_elim h (fun σ2 eσ2 h => ?_)
        refine j_iast X (lay_lt (lay_R hl0) (by decide)) (lay_R hl0) g eσ2 dX6_copy_36 ?_
        refine nm_elim h (fun x3 ex3 h => ?_)
        refine j_iinc1 X (L' := [(2, .int x3), (0, .ref (ad k0)), (1, .ref (ad k1))]) 0 rfl (q := 1) (by decide) ex3 (by decide) rfl dX6_copy_37 ?_
        refine j_goto X (tgt := 7) (by decide) dX6_copy_40 ?_
        exact J.sub [0, 1, 2] rfl (ih x3 σ2 h)
set_option maxHeartbeats 4000000 in
set_option maxRecDepth 100000 in
theorem c_X6_copy (l : Launch) (E : Ev) (ad : Nat → Nat) {k0 : Nat} {k1 : Nat} (hl0 : lay k0 = 4) (hl1 : lay k1 = 4)  {σ : Sg} {r : Sg} (h : m_X6_copy k0 k1 σ = some r) : Met l yX6_copy (wY yX6_copy cX6_copy 3 none) rm_X6_copy (va_Pc [.ref (ad k0), .ref (ad k1)] (PreU E ad RF 85 σ)) (QcN E ad (none, r)) 0 0 (EA E) := by
  refine met_of (L0 := [(0, .ref (ad k0)), (1, .ref (ad k1))]) rfl (Nat.le_of_ble_eq_true rfl) rfl (fun Γ X Y => ?_)
  have X : XC Γ E rm_X6_copy cX6_copy 3 RX6 := X
  unfold m_X6_copy at h
  refine j_aload_n X 1 rfl rfl dX6_copy_0 ?_
  refine j_ifnonnull X (tgt := 5) (by decide) dX6_copy_1 ?_
  refine j_iconst X (v := 0) (by decide) dX6_copy_5 ?_
  refine nm_elim h (fun x1 ex1 h => ?_)
  refine j_istore_n X (L' := [(2, .int x1), (0, .ref (ad k0)), (1, .ref (ad k1))]) ex1 rfl (by decide) rfl dX6_copy_6 ?_
  refine J.sub [0, 1, 2] rfl ?_
  refine jl_X6_copy_L7 X hl0 hl1 (fun σ4 h => ?_) 1000 x1 σ h
  refine j_aload_n X 0 rfl rfl dX6_copy_43 ?_
  refine j_aload_n X 1 rfl rfl dX6_copy_44 ?_
  refine j_geti X cf4 (lay_lt hl1 (by decide)) hl1 3 rfl ⟨rfl, rfl⟩ bw_42 dX6_copy_45 ?_
  refine j_aload_n X 0 rfl rfl dX6_copy_48 ?_
  refine j_geti X cf4 (lay_lt hl0 (by decide)) hl0 0 rfl ⟨rfl, rfl⟩ bw_39 dX6_copy_49 ?_
  refine nm_elim h (fun x5 ex5 h => ?_)
  refine j_mmin X bw_430 bw_431 bw_4 bw_432 ⟨Nat.le_of_ble_eq_true rfl, Nat.le_of_ble_eq_true rfl⟩ dX6_copy_52 ?_
  refine j_topi ex5 ?_
  refine nm_elim h (fun σ6 eσ6 h => ?_)
  refine j_puti X cf4 (lay_lt hl0 (by decide)) hl0 3 rfl ⟨rfl, rfl⟩ (.inl rfl) rfl rfl eσ6 bw_42 dX6_copy_55 ?_
  exact j_vret X Y (ret_wv h) dX6_copy_58

abbrev rm_X2_copy : Room := { frames := 2, cells := 0, slots := 0, locals := 43 }
set_option maxHeartbeats 4000000 in
set_option maxRecDepth 100000 in
theorem c_X2_copy (l : Launch) (E : Ev) (ad : Nat → Nat) {k0 : Nat} {k1 : Nat} (hl0 : lay k0 = 1) (hl1 : lay k1 = 1)  {σ : Sg} {r : Sg} (h : m_X2_copy k0 k1 σ = some r) : Met l yX2_copy (wY yX2_copy cX2_copy 2 none) rm_X2_copy (va_Pc [.ref (ad k0), .ref (ad k1)] (PreU E ad RF 85 σ)) (QcN E ad (none, r)) 0 0 (EA E) := by
  refine met_of (L0 := [(0, .ref (ad k0)), (1, .ref (ad k1))]) rfl (Nat.le_of_ble_eq_true rfl) rfl (fun Γ X Y => ?_)
  have X : XC Γ E rm_X2_copy cX2_copy 2 RX2 := X
  unfold m_X2_copy at h
  refine j_aload_n X 1 rfl rfl dX2_copy_0 ?_
  refine j_ifnonnull X (tgt := 5) (by decide) dX2_copy_1 ?_
  refine j_aload_n X 0 rfl rfl dX2_copy_5 ?_
  refine j_aload_n X 1 rfl rfl dX2_copy_6 ?_
  refine j_geti X cf1 (lay_lt hl1 (by decide)) hl1 0 rfl ⟨rfl, rfl⟩ bw_58 dX2_copy_7 ?_
  refine nm_elim h (fun σ1 eσ1 h => ?_)
  refine j_puti X cf1 (lay_lt hl0 (by decide)) hl0 0 rfl ⟨rfl, rfl⟩ (.inl rfl) rfl rfl eσ1 bw_58 dX2_copy_10 ?_
  refine j_aload_n X 0 rfl rfl dX2_copy_13 ?_
  refine j_getr X cf1 (lay_lt hl0 (by decide)) hl0 1 rfl ⟨rfl, rfl⟩ (k0 + 1) (RF_H1 hl0) bw_60 dX2_copy_14 ?_
  refine j_aload_n X 1 rfl rfl dX2_copy_17 ?_
  refine j_getr X cf1 (lay_lt hl1 (by decide)) hl1 1 rfl ⟨rfl, rfl⟩ (k1 + 1) (RF_H1 hl1) bw_60 dX2_copy_18 ?_
  refine bd1_elim h (fun σ2 hc3 h => ?_)
  refine j_callVv X (As := [.ref (ad (k1 + 1))]) (rest := []) mf_X6_copy bw_426 bw_427 bs_487 ⟨rfl, rfl⟩ ⟨Nat.le_of_ble_eq_true rfl, Nat.le_of_ble_eq_true rfl⟩ cf4 (lay_lt (lay_H1 hl0) (by decide)) (lay_H1 hl0) (c_X6_copy Γ.2.1 E ad (lay_H1 hl0) (lay_H1 hl1) hc3) rfl rfl (Nat.le_of_ble_eq_true rfl) dX2_copy_21 ?_
  refine j_aload_n X 0 rfl rfl dX2_copy_24 ?_
  refine j_getr X cf1 (lay_lt hl0 (by decide)) hl0 2 rfl ⟨rfl, rfl⟩ (k0 + 3) (RF_H2 hl0) bw_65 dX2_copy_25 ?_
  refine j_aload_n X 1 rfl rfl dX2_copy_28 ?_
  refine j_getr X cf1 (lay_lt hl1 (by decide)) hl1 2 rfl ⟨rfl, rfl⟩ (k1 + 3) (RF_H2 hl1) bw_65 dX2_copy_29 ?_
  refine bd1_elim h (fun σ4 hc5 h => ?_)
  refine j_callVv X (As := [.ref (ad (k1 + 3))]) (rest := []) mf_X6_copy bw_426 bw_427 bs_487 ⟨rfl, rfl⟩ ⟨Nat.le_of_ble_eq_true rfl, Nat.le_of_ble_eq_true rfl⟩ cf4 (lay_lt (lay_H2 hl0) (by decide)) (lay_H2 hl0) (c_X6_copy Γ.2.1 E ad (lay_H2 hl0) (lay_H2 hl1) hc5) rfl rfl (Nat.le_of_ble_eq_true rfl) dX2_copy_32 ?_
  refine j_aload_n X 0 rfl rfl dX2_copy_35 ?_
  refine j_getr X cf1 (lay_lt hl0 (by decide)) hl0 3 rfl ⟨rfl, rfl⟩ (k0 + 5) (RF_H3 hl0) bw_70 dX2_copy_36 ?_
  refine j_aload_n X 1 rfl rfl dX2_copy_39 ?_
  refine j_getr X cf1 (lay_lt hl1 (by decide)) hl1 3 rfl ⟨rfl, rfl⟩ (k1 + 5) (RF_H3 hl1) bw_70 dX2_copy_40 ?_
  refine bd1_elim h (fun σ6 hc7 h => ?_)
  refine j_callVv X (As := [.ref (ad (k1 + 5))]) (rest := []) mf_X6_copy bw_426 bw_427 bs_487 ⟨rfl, rfl⟩ ⟨Nat.le_of_ble_eq_true rfl, Nat.le_of_ble_eq_true rfl⟩ cf4 (lay_lt (lay_H3 hl0) (by decide)) (lay_H3 hl0) (c_X6_copy Γ.2.1 E ad (lay_H3 hl0) (lay_H3 hl1) hc7) rfl rfl (Nat.le_of_ble_eq_true rfl) dX2_copy_43 ?_
  refine j_aload_n X 0 rfl rfl dX2_copy_46 ?_
  refine j_getr X cf1 (lay_lt hl0 (by decide)) hl0 4 rfl ⟨rfl, rfl⟩ (k0 + 7) (RF_H4 hl0) bw_71 dX2_copy_47 ?_
  refine j_aload_n X 1 rfl rfl dX2_copy_50 ?_
  refine j_getr X cf1 (lay_lt hl1 (by decide)) hl1 4 rfl ⟨rfl, rfl⟩ (k1 + 7) (RF_H4 hl1) bw_71 dX2_copy_51 ?_
  refine bd1_elim h (fun σ8 hc9 h => ?_)
  refine j_callVv X (As := [.ref (ad (k1 + 7))]) (rest := []) mf_X6_copy bw_426 bw_427 bs_487 ⟨rfl, rfl⟩ ⟨Nat.le_of_ble_eq_true rfl, Nat.le_of_ble_eq_true rfl⟩ cf4 (lay_lt (lay_H4 hl0) (by decide)) (lay_H4 hl0) (c_X6_copy Γ.2.1 E ad (lay_H4 hl0) (lay_H4 hl1) hc9) rfl rfl (Nat.le_of_ble_eq_true rfl) dX2_copy_54 ?_
  refine j_aload_n X 0 rfl rfl dX2_copy_57 ?_
  refine j_getr X cf1 (lay_lt hl0 (by decide)) hl0 5 rfl ⟨rfl, rfl⟩ (k0 + 9) (RF_H5 hl0) bw_74 dX2_copy_58 ?_
  refine j_aload_n X 1 rfl rfl dX2_copy_61 ?_
  refine j_getr X cf1 (lay_lt hl1 (by decide)) hl1 5 rfl ⟨rfl, rfl⟩ (k1 + 9) (RF_H5 hl1) bw_74 dX2_copy_62 ?_
  refine bd1_elim h (fun σ10 hc11 h => ?_)
  refine j_callVv X (As := [.ref (ad (k1 + 9))]) (rest := []) mf_X6_copy bw_426 bw_427 bs_487 ⟨rfl, rfl⟩ ⟨Nat.le_of_ble_eq_true rfl, Nat.le_of_ble_eq_true rfl⟩ cf4 (lay_lt (lay_H5 hl0) (by decide)) (lay_H5 hl0) (c_X6_copy Γ.2.1 E ad (lay_H5 hl0) (lay_H5 hl1) hc11) rfl rfl (Nat.le_of_ble_eq_true rfl) dX2_copy_65 ?_
  refine j_aload_n X 0 rfl rfl dX2_copy_68 ?_
  refine j_getr X cf1 (lay_lt hl0 (by decide)) hl0 6 rfl ⟨rfl, rfl⟩ (k0 + 11) (RF_H6 hl0) bw_77 dX2_copy_69 ?_
  refine j_aload_n X 1 rfl rfl dX2_copy_72 ?_
  refine j_getr X cf1 (lay_lt hl1 (by decide)) hl1 6 rfl ⟨rfl, rfl⟩ (k1 + 11) (RF_H6 hl1) bw_77 dX2_copy_73 ?_
  refine bd1_elim h (fun σ12 hc13 h => ?_)
  refine j_callVv X (As := [.ref (ad (k1 + 11))]) (rest := []) mf_X6_copy bw_426 bw_427 bs_487 ⟨rfl, rfl⟩ ⟨Nat.le_of_ble_eq_true rfl, Nat.le_of_ble_eq_true rfl⟩ cf4 (lay_lt (lay_H6 hl0) (by decide)) (lay_H6 hl0) (c_X6_copy Γ.2.1 E ad (lay_H6 hl0) (lay_H6 hl1) hc13) rfl rfl (Nat.le_of_ble_eq_true rfl) dX2_copy_76 ?_
  refine j_aload_n X 0 rfl rfl dX2_copy_79 ?_
  refine j_getr X cf1 (lay_lt hl0 (by decide)) hl0 7 rfl ⟨rfl, rfl⟩ (k0 + 13) (RF_H7 hl0) bw_80 dX2_copy_80 ?_
  refine j_aload_n X 1 rfl rfl dX2_copy_83 ?_
  refine j_getr X cf1 (lay_lt hl1 (by decide)) hl1 7 rfl ⟨rfl, rfl⟩ (k1 + 13) (RF_H7 hl1) bw_80 dX2_copy_84 ?_
  refine bd1_elim h (fun σ14 hc15 h => ?_)
  refine j_callVv X (As := [.ref (ad (k1 + 13))]) (rest := []) mf_X6_copy bw_426 bw_427 bs_487 ⟨rfl, rfl⟩ ⟨Nat.le_of_ble_eq_true rfl, Nat.le_of_ble_eq_true rfl⟩ cf4 (lay_lt (lay_H7 hl0) (by decide)) (lay_H7 hl0) (c_X6_copy Γ.2.1 E ad (lay_H7 hl0) (lay_H7 hl1) hc15) rfl rfl (Nat.le_of_ble_eq_true rfl) dX2_copy_87 ?_
  exact j_vret X Y (ret_wv h) dX2_copy_90

abbrev rm_X6_isFull : Room := { frames := 0, cells := 0, slots := 0, locals := 0 }
set_option maxHeartbeats 4000000 in
set_option maxRecDepth 100000 in
theorem c_X6_isFull (l : Launch) (E : Ev) (ad : Nat → Nat) {k0 : Nat} (hl0 : lay k0 = 4)  {σ : Sg} {r : Int32} (h : m_X6_isFull k0 σ = some r) : Met l yX6_isFull (wY yX6_isFull cX6_isFull 1 (some .boolean)) rm_X6_isFull (va_Pc [.ref (ad k0)] (PreU E ad RF 85 σ)) (QcN E ad (some (.int r), σ)) 0 0 (EA E) := by
  refine met_of (L0 := [(0, .ref (ad k0))]) rfl (Nat.le_of_ble_eq_true rfl) rfl (fun Γ X Y => ?_)
  have X : XC Γ E rm_X6_isFull cX6_isFull 1 RX6 := X
  unfold m_X6_isFull at h
  refine j_aload_n X 0 rfl rfl dX6_isFull_0 ?_
  refine j_geti X cf4 (lay_lt hl0 (by decide)) hl0 3 rfl ⟨rfl, rfl⟩ bw_42 dX6_isFull_1 ?_
  refine j_aload_n X 0 rfl rfl dX6_isFull_4 ?_
  refine j_geti X cf4 (lay_lt hl0 (by decide)) hl0 0 rfl ⟨rfl, rfl⟩ bw_39 dX6_isFull_5 ?_
  refine j_icmp_lt X (tgt := 15) (by decide) dX6_isFull_8 (fun c => ?_) (fun c => ?_)
  · have h := (if_pos c).symm.trans h
    refine j_iconst X (v := 0) (by decide) dX6_isFull_15 ?_
    exact j_iret X Y rfl (ret_pi h) dX6_isFull_16
  · have h := (if_neg c).symm.trans h
    refine j_iconst X (v := 1) (by decide) dX6_isFull_11 ?_
    refine j_goto X (tgt := 16) (by decide) dX6_isFull_12 ?_
    exact j_iret X Y rfl (ret_pi h) dX6_isFull_16

abbrev rm_X6_add : Room := { frames := 1, cells := 0, slots := 0, locals := 24 }
set_option maxHeartbeats 4000000 in
set_option maxRecDepth 100000 in
theorem c_X6_add (l : Launch) (E : Ev) (ad : Nat → Nat) {k0 : Nat} (hl0 : lay k0 = 4) {a1 : Int32} {a2 : Int32} {a3 : Int32} {a4 : Int32} {σ : Sg} {r : Int32 × Sg} (h : m_X6_add k0 a1 a2 a3 a4 σ = some r) : Met l yX6_add (wY yX6_add cX6_add 6 (some .int)) rm_X6_add (va_Pc [.ref (ad k0), .int a1, .int a2, .int a3, .int a4] (PreU E ad RF 85 σ)) (QcN E ad (some (.int r.1), r.2)) 0 0 (EA E) := by
  refine met_of (L0 := [(0, .ref (ad k0)), (1, .int a1), (2, .int a2), (3, .int a3), (4, .int a4)]) rfl (Nat.le_of_ble_eq_true rfl) rfl (fun Γ X Y => ?_)
  have X : XC Γ E rm_X6_add cX6_add 6 RX6 := X
  unfold m_X6_add at h
  refine j_aload_n X 0 rfl rfl dX6_add_0 ?_
  refine bd1_elim h (fun r1 hc2 h => ?_)
  refine j_callVi X (As := []) (rest := []) mf_X6_isFull bw_247 bw_232 bs_292 ⟨rfl, rfl⟩ ⟨Nat.le_of_ble_eq_true rfl, Nat.le_of_ble_eq_true rfl⟩ cf4 (lay_lt hl0 (by decide)) hl0 (c_X6_isFull Γ.2.1 E ad hl0 hc2) rfl rfl (Nat.le_of_ble_eq_true rfl) dX6_add_1 ?_
  refine j_if_eq X (tgt := 9) (by decide) dX6_add_4 (fun c => ?_) (fun c => ?_)
  · have h := (if_pos c).symm.trans h
    refine j_aload_n X 0 rfl rfl dX6_add_9 ?_
    refine j_geti X cf4 (lay_lt hl0 (by decide)) hl0 3 rfl ⟨rfl, rfl⟩ bw_42 dX6_add_10 ?_
    refine nm_elim h (fun x3 ex3 h => ?_)
    refine j_istore X (L' := [(5, .int x3), (0, .ref (ad k0)), (1, .int a1), (2, .int a2), (3, .int a3), (4, .int a4)]) ex3 (by decide) rfl dX6_add_13 ?_
    refine j_aload_n X 1 rfl rfl dX6_add_15 ?_
    refine j_dup X rfl dX6_add_16 ?_
    refine j_geti X cf4 (lay_lt hl0 (by decide)) hl0 3 rfl ⟨rfl, rfl⟩ bw_42 dX6_add_17 ?_
    refine j_iconst X (v := 1) (by decide) dX6_add_20 ?_
    refine j_iadd X dX6_add_21 ?_
    refine nm_elim h (fun σ4 eσ4 h => ?_)
    refine j_puti X cf4 (lay_lt hl0 (by decide)) hl0 3 rfl ⟨rfl, rfl⟩ (.inl rfl) rfl rfl eσ4 bw_42 dX6_add_22 ?_
    refine j_aload_n X 1 rfl rfl dX6_add_25 ?_
    refine j_iload X 0 rfl dX6_add_26 ?_
    refine j_iconst X (v := 0) (by decide) dX6_add_28 ?_
    refine j_iload_n X 2 rfl rfl dX6_add_29 ?_
    refine bd1_elim h (fun σ5 hc6 h => ?_)
    refine j_callVv X (As := [.int x3, .int (0 : Int32), .int a1]) (rest := []) mf_X6_set bw_248 bw_211 bs_271 ⟨rfl, rfl⟩ ⟨Nat.le_of_ble_eq_true rfl, Nat.le_of_ble_eq_true rfl⟩ cf4 (lay_lt hl0 (by decide)) hl0 (c_X6_set Γ.2.1 E ad hl0 hc6) rfl rfl (Nat.le_of_ble_eq_true rfl) dX6_add_30 ?_
    refine j_aload_n X 1 rfl rfl dX6_add_33 ?_
    refine j_iload X 0 rfl dX6_add_34 ?_
    refine j_iconst X (v := 1) (by decide) dX6_add_36 ?_
    refine j_iload_n X 3 rfl rfl dX6_add_37 ?_
    refine bd1_elim h (fun σ7 hc8 h => ?_)
    refine j_callVv X (As := [.int x3, .int (1 : Int32), .int a2]) (rest := []) mf_X6_set bw_248 bw_211 bs_271 ⟨rfl, rfl⟩ ⟨Nat.le_of_ble_eq_true rfl, Nat.le_of_ble_eq_true rfl⟩ cf4 (lay_lt hl0 (by decide)) hl0 (c_X6_set Γ.2.1 E ad hl0 hc8) rfl rfl (Nat.le_of_ble_eq_true rfl) dX6_add_38 ?_
    refine j_aload_n X 1 rfl rfl dX6_add_41 ?_
    refine j_iload X 0 rfl dX6_add_42 ?_
    refine j_iconst X (v := 2) (by decide) dX6_add_44 ?_
    refine j_iload_n X 4 rfl rfl dX6_add_45 ?_
    refine bd1_elim h (fun σ9 hc10 h => ?_)
    refine j_callVv X (As := [.int x3, .int (2 : Int32), .int a3]) (rest := []) mf_X6_set bw_248 bw_211 bs_271 ⟨rfl, rfl⟩ ⟨Nat.le_of_ble_eq_true rfl, Nat.le_of_ble_eq_true rfl⟩ cf4 (lay_lt hl0 (by decide)) hl0 (c_X6_set Γ.2.1 E ad hl0 hc10) rfl rfl (Nat.le_of_ble_eq_true rfl) dX6_add_46 ?_
    refine j_aload_n X 1 rfl rfl dX6_add_49 ?_
    refine j_iload X 0 rfl dX6_add_50 ?_
    refine j_iconst X (v := 3) (by decide) dX6_add_52 ?_
    refine j_iload X 5 rfl dX6_add_53 ?_
    refine bd1_elim h (fun σ11 hc12 h => ?_)
    refine j_callVv X (As := [.int x3, .int (3 : Int32), .int a4]) (rest := []) mf_X6_set bw_248 bw_211 bs_271 ⟨rfl, rfl⟩ ⟨Nat.le_of_ble_eq_true rfl, Nat.le_of_ble_eq_true rfl⟩ cf4 (lay_lt hl0 (by decide)) hl0 (c_X6_set Γ.2.1 E ad hl0 hc12) rfl rfl (Nat.le_of_ble_eq_true rfl) dX6_add_55 ?_
    refine j_iload X 0 rfl dX6_add_58 ?_
    exact j_iret X Y rfl (ret_wi h) dX6_add_60
  · have h := (if_neg c).symm.trans h
    refine j_iconst X (v := -1) (by decide) dX6_add_7 ?_
    exact j_iret X Y rfl (ret_wi h) dX6_add_8

abbrev rm_X2_addSaying : Room := { frames := 2, cells := 0, slots := 0, locals := 49 }
set_option maxHeartbeats 4000000 in
set_option maxRecDepth 100000 in
theorem c_X2_addSaying (l : Launch) (E : Ev) (ad : Nat → Nat) {k0 : Nat} (hl0 : lay k0 = 1) {a1 : Int32} {a2 : Int32} {a3 : Int32} {σ : Sg} {r : Int32 × Sg} (h : m_X2_addSaying k0 a1 a2 a3 σ = some r) : Met l yX2_addSaying (wY yX2_addSaying cX2_addSaying 4 (some .int)) rm_X2_addSaying (va_Pc [.ref (ad k0), .int a1, .int a2, .int a3] (PreU E ad RF 85 σ)) (QcN E ad (some (.int r.1), r.2)) 0 0 (EA E) := by
  refine met_of (L0 := [(0, .ref (ad k0)), (1, .int a1), (2, .int a2), (3, .int a3)]) rfl (Nat.le_of_ble_eq_true rfl) rfl (fun Γ X Y => ?_)
  have X : XC Γ E rm_X2_addSaying cX2_addSaying 4 RX2 := X
  unfold m_X2_addSaying at h
  refine j_aload_n X 0 rfl rfl dX2_addSaying_0 ?_
  refine j_getr X cf1 (lay_lt hl0 (by decide)) hl0 7 rfl ⟨rfl, rfl⟩ (k0 + 13) (RF_H7 hl0) bw_80 dX2_addSaying_1 ?_
  refine bd2_elim h (fun r1 σ2 hc3 h => ?_)
  refine j_callVi X (As := []) (rest := []) mf_X6_empty bw_202 bw_203 bs_263 ⟨rfl, rfl⟩ ⟨Nat.le_of_ble_eq_true rfl, Nat.le_of_ble_eq_true rfl⟩ cf4 (lay_lt (lay_H7 hl0) (by decide)) (lay_H7 hl0) (c_X6_empty Γ.2.1 E ad (lay_H7 hl0) hc3) rfl rfl (Nat.le_of_ble_eq_true rfl) dX2_addSaying_4 ?_
  refine j_pop X rfl dX2_addSaying_7 ?_
  refine j_aload_n X 0 rfl rfl dX2_addSaying_8 ?_
  refine j_getr X cf1 (lay_lt hl0 (by decide)) hl0 1 rfl ⟨rfl, rfl⟩ (k0 + 1) (RF_H1 hl0) bw_60 dX2_addSaying_9 ?_
  refine j_iload_n X 1 rfl rfl dX2_addSaying_12 ?_
  refine j_iload_n X 2 rfl rfl dX2_addSaying_13 ?_
  refine j_iload_n X 3 rfl rfl dX2_addSaying_14 ?_
  refine j_iconst X (v := 0) (by decide) dX2_addSaying_15 ?_
  refine bd2_elim h (fun r4 σ5 hc6 h => ?_)
  refine j_callVi X (As := [.int a1, .int a2, .int a3, .int (0 : Int32)]) (rest := []) mf_X6_add bw_243 bw_244 bs_304 ⟨rfl, rfl⟩ ⟨Nat.le_of_ble_eq_true rfl, Nat.le_of_ble_eq_true rfl⟩ cf4 (lay_lt (lay_H1 hl0) (by decide)) (lay_H1 hl0) (c_X6_add Γ.2.1 E ad (lay_H1 hl0) hc6) rfl rfl (Nat.le_of_ble_eq_true rfl) dX2_addSaying_16 ?_
  exact j_iret X Y rfl (ret_wi h) dX2_addSaying_19

abbrev rm_X2_addListener : Room := { frames := 2, cells := 0, slots := 0, locals := 49 }
set_option maxHeartbeats 4000000 in
set_option maxRecDepth 100000 in
theorem c_X2_addListener (l : Launch) (E : Ev) (ad : Nat → Nat) {k0 : Nat} (hl0 : lay k0 = 1) {a1 : Int32} {a2 : Int32} {σ : Sg} {r : Int32 × Sg} (h : m_X2_addListener k0 a1 a2 σ = some r) : Met l yX2_addListener (wY yX2_addListener cX2_addListener 3 (some .int)) rm_X2_addListener (va_Pc [.ref (ad k0), .int a1, .int a2] (PreU E ad RF 85 σ)) (QcN E ad (some (.int r.1), r.2)) 0 0 (EA E) := by
  refine met_of (L0 := [(0, .ref (ad k0)), (1, .int a1), (2, .int a2)]) rfl (Nat.le_of_ble_eq_true rfl) rfl (fun Γ X Y => ?_)
  have X : XC Γ E rm_X2_addListener cX2_addListener 3 RX2 := X
  unfold m_X2_addListener at h
  refine j_aload_n X 0 rfl rfl dX2_addListener_0 ?_
  refine j_getr X cf1 (lay_lt hl0 (by decide)) hl0 7 rfl ⟨rfl, rfl⟩ (k0 + 13) (RF_H7 hl0) bw_80 dX2_addListener_1 ?_
  refine bd2_elim h (fun r1 σ2 hc3 h => ?_)
  refine j_callVi X (As := []) (rest := []) mf_X6_empty bw_202 bw_203 bs_263 ⟨rfl, rfl⟩ ⟨Nat.le_of_ble_eq_true rfl, Nat.le_of_ble_eq_true rfl⟩ cf4 (lay_lt (lay_H7 hl0) (by decide)) (lay_H7 hl0) (c_X6_empty Γ.2.1 E ad (lay_H7 hl0) hc3) rfl rfl (Nat.le_of_ble_eq_true rfl) dX2_addListener_4 ?_
  refine j_pop X rfl dX2_addListener_7 ?_
  refine j_aload_n X 0 rfl rfl dX2_addListener_8 ?_
  refine j_getr X cf1 (lay_lt hl0 (by decide)) hl0 2 rfl ⟨rfl, rfl⟩ (k0 + 3) (RF_H2 hl0) bw_65 dX2_addListener_9 ?_
  refine j_iload_n X 1 rfl rfl dX2_addListener_12 ?_
  refine j_iload_n X 2 rfl rfl dX2_addListener_13 ?_
  refine j_iconst X (v := 0) (by decide) dX2_addListener_14 ?_
  refine j_iconst X (v := 0) (by decide) dX2_addListener_15 ?_
  refine bd2_elim h (fun r4 σ5 hc6 h => ?_)
  refine j_callVi X (As := [.int a1, .int a2, .int (0 : Int32), .int (0 : Int32)]) (rest := []) mf_X6_add bw_243 bw_244 bs_304 ⟨rfl, rfl⟩ ⟨Nat.le_of_ble_eq_true rfl, Nat.le_of_ble_eq_true rfl⟩ cf4 (lay_lt (lay_H2 hl0) (by decide)) (lay_H2 hl0) (c_X6_add Γ.2.1 E ad (lay_H2 hl0) hc6) rfl rfl (Nat.le_of_ble_eq_true rfl) dX2_addListener_16 ?_
  exact j_iret X Y rfl (ret_wi h) dX2_addListener_19

abbrev rm_X2_strip : Room := { frames := 1, cells := 0, slots := 0, locals := 24 }
set_option maxHeartbeats 4000000 in
set_option maxRecDepth 100000 in
theorem c_X2_strip (l : Launch) (E : Ev) (ad : Nat → Nat) {k0 : Nat} (hl0 : lay k0 = 1) {a1 : Int32} {σ : Sg} {r : Sg} (h : m_X2_strip k0 a1 σ = some r) : Met l yX2_strip (wY yX2_strip cX2_strip 2 none) rm_X2_strip (va_Pc [.ref (ad k0), .int a1] (PreU E ad RF 85 σ)) (QcN E ad (none, r)) 0 0 (EA E) := by
  refine met_of (L0 := [(0, .ref (ad k0)), (1, .int a1)]) rfl (Nat.le_of_ble_eq_true rfl) rfl (fun Γ X Y => ?_)
  have X : XC Γ E rm_X2_strip cX2_strip 2 RX2 := X
  unfold m_X2_strip at h
  refine j_aload_n X 0 rfl rfl dX2_strip_0 ?_
  refine j_getr X cf1 (lay_lt hl0 (by decide)) hl0 3 rfl ⟨rfl, rfl⟩ (k0 + 5) (RF_H3 hl0) bw_70 dX2_strip_1 ?_
  refine j_iload_n X 1 rfl rfl dX2_strip_4 ?_
  refine j_iconst X (v := 0) (by decide) dX2_strip_5 ?_
  refine j_aload_n X 0 rfl rfl dX2_strip_6 ?_
  refine j_geti X cf1 (lay_lt hl0 (by decide)) hl0 0 rfl ⟨rfl, rfl⟩ bw_58 dX2_strip_7 ?_
  refine j_iconst X (v := 1) (by decide) dX2_strip_10 ?_
  refine j_iadd X dX2_strip_11 ?_
  refine bd1_elim h (fun σ1 hc2 h => ?_)
  refine j_callVv X (As := [.int a1, .int (0 : Int32), .int ((σ.1 k0 0) + (1 : Int32))]) (rest := []) mf_X6_set bw_210 bw_211 bs_271 ⟨rfl, rfl⟩ ⟨Nat.le_of_ble_eq_true rfl, Nat.le_of_ble_eq_true rfl⟩ cf4 (lay_lt (lay_H3 hl0) (by decide)) (lay_H3 hl0) (c_X6_set Γ.2.1 E ad (lay_H3 hl0) hc2) rfl rfl (Nat.le_of_ble_eq_true rfl) dX2_strip_12 ?_
  exact j_vret X Y (ret_wv h) dX2_strip_15

abbrev rm_X2_strippedRooms : Room := { frames := 2, cells := 0, slots := 0, locals := 44 }
set_option maxHeartbeats 4000000 in
set_option maxRecDepth 100000 in
theorem jl_X2_strippedRooms_L4 {Γ : Cx} {E : Ev} {ad : Nat → Nat} (X : XC Γ E rm_X2_strippedRooms cX2_strippedRooms 3 RX2) {k0 : Nat} (hl0 : lay k0 = 1)  {σ : Sg} {kx : Unit → Option (Int32)} {r : Int32} (Y : XQ Γ E ad (some .int) (some (.int r), σ))  : ∀ n (v2 : Int32) (v1 : Int32), m_X2_strippedRooms_L4 k0 σ kx n v2 v1 = some r → J Γ E 3 ad RF 85 σ 0 0 4 [(2, .int v2), (1, .int v1), (0, .ref (ad k0))] [] := by
  intro n
  induction n with
  | zero =>
    intro v2 v1 h
    cases h
  | succ n ih =>
    intro v2 v1 h
    rw [m_X2_strippedRooms_L4.eq_2] at h
    refine j_iload_n X 0 rfl rfl dX2_strippedRooms_4 ?_
    refine j_iconst X (v := 4) (by decide) dX2_strippedRooms_5 ?_
    refine j_icmp_ge X (tgt := 26) (by decide) dX2_strippedRooms_6 (fun c => ?_) (fun c => ?_)
    · have h := (if_pos c).symm.trans h
      refine j_iload_n X 1 rfl rfl dX2_strippedRooms_26 ?_
      exact j_iret X Y rfl (ret_pi h) dX2_strippedRooms_27
    · have h := (if_neg c).symm.trans h
      refine j_aload_n X 2 rfl rfl dX2_strippedRooms_9 ?_
      refine j_iload_n X 0 rfl rfl dX2_strippedRooms_10 ?_
      refine bd1_elim h (fun r3 hc4 h => ?_)
      refine j_callVi X (As := [.int v2]) (rest := []) mf_X2_isStripped bw_387 bw_388 bs_448 ⟨rfl, rfl⟩ ⟨Nat.le_of_ble_eq_true rfl, Nat.le_of_ble_eq_true rfl⟩ cf1 (lay_lt hl0 (by decide)) hl0 (c_X2_isStripped Γ.2.1 E ad hl0 hc4) rfl rfl (Nat.le_of_ble_eq_true rfl) dX2_strippedRooms_11 ?_
      refine bd1_elim h (fun o6 hr h => ?_)
      have hJ5 : J Γ E 3 ad RF 85 σ 0 0 20 [(2, .int v2), (0, .ref (ad k0)), (1, .int o6)] [] := by
        refine nm_elim h (fun x7 ex7 h => ?_)
        refine j_iinc1 X (L' := [(2, .int x7), (0, .ref (ad k0)), (1, .int o6)]) 0 rfl (q := 1) (by decide) ex7 (by decide) rfl dX2_strippedRooms_20 ?_
        refine j_goto X (tgt := 4) (by decide) dX2_strippedRooms_23 ?_
        exact J.sub [0, 2, 1] rfl (ih x7 o6 h)
      clear h
      refine j_if_eq X (tgt := 20) (by decide) dX2_strippedRooms_14 (fun c => ?_) (fun c => ?_)
      · have hr := (if_pos c).symm.trans hr
        cases hr
        exact J.sub [0, 2, 1] rfl hJ5
      · have hr := (if_neg c).symm.trans hr
        refine nm_elim hr (fun x8 ex8 hr => ?_)
        refine j_iinc1 X (L' := [(1, .int x8), (2, .int v2), (0, .ref (ad k0))]) 1 rfl (q := 1) (by decide) ex8 (by decide) rfl dX2_strippedRooms_17 ?_
        cases hr
        exact J.sub [1, 2, 0] rfl hJ5
set_option maxHeartbeats 4000000 in
set_option maxRecDepth 100000 in
theorem c_X2_strippedRooms (l : Launch) (E : Ev) (ad : Nat → Nat) {k0 : Nat} (hl0 : lay k0 = 1)  {σ : Sg} {r : Int32} (h : m_X2_strippedRooms k0 σ = some r) : Met l yX2_strippedRooms (wY yX2_strippedRooms cX2_strippedRooms 3 (some .int)) rm_X2_strippedRooms (va_Pc [.ref (ad k0)] (PreU E ad RF 85 σ)) (QcN E ad (some (.int r), σ)) 0 0 (EA E) := by
  refine met_of (L0 := [(0, .ref (ad k0))]) rfl (Nat.le_of_ble_eq_true rfl) rfl (fun Γ X Y => ?_)
  have X : XC Γ E rm_X2_strippedRooms cX2_strippedRooms 3 RX2 := X
  unfold m_X2_strippedRooms at h
  refine j_iconst X (v := 0) (by decide) dX2_strippedRooms_0 ?_
  refine nm_elim h (fun x1 ex1 h => ?_)
  refine j_istore_n X (L' := [(1, .int x1), (0, .ref (ad k0))]) ex1 rfl (by decide) rfl dX2_strippedRooms_1 ?_
  refine j_iconst X (v := 0) (by decide) dX2_strippedRooms_2 ?_
  refine nm_elim h (fun x2 ex2 h => ?_)
  refine j_istore_n X (L' := [(2, .int x2), (1, .int x1), (0, .ref (ad k0))]) ex2 rfl (by decide) rfl dX2_strippedRooms_3 ?_
  refine J.sub [0, 1, 2] rfl ?_
  exact jl_X2_strippedRooms_L4 X hl0 Y 1000 x2 x1 h

abbrev rm_X2_roomLoudness : Room := { frames := 3, cells := 0, slots := 0, locals := 67 }
set_option maxHeartbeats 4000000 in
set_option maxRecDepth 100000 in
theorem c_X2_roomLoudness (l : Launch) (E : Ev) (ad : Nat → Nat) {k0 : Nat} (hl0 : lay k0 = 1) {a1 : Int32} {σ : Sg} {r : Int32} (h : m_X2_roomLoudness k0 a1 σ = some r) : Met l yX2_roomLoudness (wY yX2_roomLoudness cX2_roomLoudness 3 (some .int)) rm_X2_roomLoudness (va_Pc [.ref (ad k0), .int a1] (PreU E ad RF 85 σ)) (QcN E ad (some (.int r), σ)) 0 0 (EA E) := by
  refine met_of (L0 := [(0, .ref (ad k0)), (1, .int a1)]) rfl (Nat.le_of_ble_eq_true rfl) rfl (fun Γ X Y => ?_)
  have X : XC Γ E rm_X2_roomLoudness cX2_roomLoudness 3 RX2 := X
  unfold m_X2_roomLoudness at h
  refine j_aload_n X 0 rfl rfl dX2_roomLoudness_0 ?_
  refine j_iload_n X 1 rfl rfl dX2_roomLoudness_1 ?_
  refine j_iconst X (v := 0) (by decide) dX2_roomLoudness_2 ?_
  refine bd1_elim h (fun r1 hc2 h => ?_)
  refine j_callVi X (As := [.int a1, .int (0 : Int32)]) (rest := []) mf_X2_roomMinute bw_383 bw_384 bs_444 ⟨rfl, rfl⟩ ⟨Nat.le_of_ble_eq_true rfl, Nat.le_of_ble_eq_true rfl⟩ cf1 (lay_lt hl0 (by decide)) hl0 (c_X2_roomMinute Γ.2.1 E ad hl0 hc2) rfl rfl (Nat.le_of_ble_eq_true rfl) dX2_roomLoudness_3 ?_
  refine j_istore_n X (L' := [(2, .int r1), (0, .ref (ad k0)), (1, .int a1)]) rfl rfl (by decide) rfl dX2_roomLoudness_6 ?_
  refine j_iload_n X 0 rfl rfl dX2_roomLoudness_7 ?_
  refine j_iconst X (v := -1) (by decide) dX2_roomLoudness_8 ?_
  refine j_icmp_ne X (tgt := 16) (by decide) dX2_roomLoudness_9 (fun c => ?_) (fun c => ?_)
  · have h := (if_neg c).symm.trans h
    refine j_aload_n X 1 rfl rfl dX2_roomLoudness_16 ?_
    refine j_aload_n X 1 rfl rfl dX2_roomLoudness_17 ?_
    refine j_iload_n X 2 rfl rfl dX2_roomLoudness_18 ?_
    refine bd1_elim h (fun r3 hc4 h => ?_)
    refine j_callVi X (As := [.int a1]) (rest := [.ref (ad k0)]) mf_X2_sayingsOfRoom bw_398 bw_399 bs_459 ⟨rfl, rfl⟩ ⟨Nat.le_of_ble_eq_true rfl, Nat.le_of_ble_eq_true rfl⟩ cf1 (lay_lt hl0 (by decide)) hl0 (c_X2_sayingsOfRoom Γ.2.1 E ad hl0 hc4) rfl rfl (Nat.le_of_ble_eq_true rfl) dX2_roomLoudness_19 ?_
    refine j_iload_n X 0 rfl rfl dX2_roomLoudness_22 ?_
    refine bd1_elim h (fun r5 hc6 h => ?_)
    refine j_callVi X (As := [.int r3, .int r1]) (rest := []) mf_X2_loudnessOfSet bw_402 bw_403 bs_463 ⟨rfl, rfl⟩ ⟨Nat.le_of_ble_eq_true rfl, Nat.le_of_ble_eq_true rfl⟩ cf1 (lay_lt hl0 (by decide)) hl0 (c_X2_loudnessOfSet Γ.2.1 E ad hl0 hc6) rfl rfl (Nat.le_of_ble_eq_true rfl) dX2_roomLoudness_23 ?_
    exact j_iret X Y rfl (ret_pi h) dX2_roomLoudness_26
  · have h := (if_pos c).symm.trans h
    refine j_iconst X (v := 0) (by decide) dX2_roomLoudness_12 ?_
    refine j_goto X (tgt := 26) (by decide) dX2_roomLoudness_13 ?_
    exact j_iret X Y rfl (ret_pi h) dX2_roomLoudness_26

abbrev rm_X2_heardIn : Room := { frames := 2, cells := 0, slots := 0, locals := 50 }
set_option maxHeartbeats 4000000 in
set_option maxRecDepth 100000 in
theorem jl_X2_heardIn_L40 {Γ : Cx} {E : Ev} {ad : Nat → Nat} (X : XC Γ E rm_X2_heardIn cX2_heardIn 10 RX2) {k0 : Nat} (hl0 : lay k0 = 1) {c6 : Int32} {c5 : Int32} {c4 : Int32} {c3 : Int32} {σ : Sg} {kx : Unit → Option (Int32)} {r : Int32} (Y : XQ Γ E ad (some .int) (some (.int r), σ))  : ∀ n (v8 : Int32) (v7 : Int32), m_X2_heardIn_L40 k0 c6 c5 c4 c3 σ kx n v8 v7 = some r → J Γ E 10 ad RF 85 σ 0 0 40 [(8, .int v8), (7, .int v7), (6, .int c6), (5, .int c5), (4, .int c4), (0, .ref (ad k0)), (3, .int c3)] [] := by
  intro n
  induction n with
  | zero =>
    intro v8 v7 h
    cases h
  | succ n ih =>
    intro v8 v7 h
    rw [m_X2_heardIn_L40.eq_2] at h
    refine j_iload X 0 rfl dX2_heardIn_40 ?_
    refine j_aload_n X 5 rfl rfl dX2_heardIn_42 ?_
    refine j_getr X cf1 (lay_lt hl0 (by decide)) hl0 1 rfl ⟨rfl, rfl⟩ (k0 + 1) (RF_H1 hl0) bw_60 dX2_heardIn_43 ?_
    refine j_geti X cf4 (lay_lt (lay_H1 hl0) (by decide)) (lay_H1 hl0) 3 rfl ⟨rfl, rfl⟩ bw_47 dX2_heardIn_46 ?_
    refine j_icmp_ge X (tgt := 101) (by decide) dX2_heardIn_49 (fun c => ?_) (fun c => ?_)
    · have h := (if_pos c).symm.trans h
      refine j_iload X 1 rfl dX2_heardIn_101 ?_
      exact j_iret X Y rfl (ret_pi h) dX2_heardIn_103
    · have h := (if_neg c).symm.trans h
      refine j_aload_n X 5 rfl rfl dX2_heardIn_52 ?_
      refine j_iload X 0 rfl dX2_heardIn_53 ?_
      refine j_iload_n X 6 rfl rfl dX2_heardIn_55 ?_
      refine bd1_elim h (fun r9 hc10 h => ?_)
      refine j_callVi X (As := [.int v8, .int c3]) (rest := []) mf_X2_loudness bw_412 bw_413 bs_473 ⟨rfl, rfl⟩ ⟨Nat.le_of_ble_eq_true rfl, Nat.le_of_ble_eq_true rfl⟩ cf1 (lay_lt hl0 (by decide)) hl0 (c_X2_loudness Γ.2.1 E ad hl0 hc10) rfl rfl (Nat.le_of_ble_eq_true rfl) dX2_heardIn_56 ?_
      refine j_istore X (L' := [(9, .int r9), (8, .int v8), (7, .int v7), (6, .int c6), (5, .int c5), (4, .int c4), (0, .ref (ad k0)), (3, .int c3)]) rfl (by decide) rfl dX2_heardIn_59 ?_
      refine j_iload X 5 rfl dX2_heardIn_61 ?_
      refine j_iload X 1 rfl dX2_heardIn_63 ?_
      refine bd1_elim h (fun r11 hc12 h => ?_)
      refine j_callSNi X (As := [.int c4, .int v8]) (rest := []) mf_X7_isIn (by simp [nestL]) bw_407 ⟨rfl, rfl⟩ ⟨Nat.le_of_ble_eq_true rfl, Nat.le_of_ble_eq_true rfl⟩ (c_X7_isIn Γ.2.1 E ad  hc12) rfl rfl (Nat.le_of_ble_eq_true rfl) dX2_heardIn_65 ?_
      refine bd1_elim h (fun o14 hr h => ?_)
      have hJ13 : J Γ E 10 ad RF 85 σ 0 0 95 [(8, .int v8), (6, .int c6), (5, .int c5), (4, .int c4), (0, .ref (ad k0)), (3, .int c3), (7, .int o14)] [] := by
        refine nm_elim h (fun x15 ex15 h => ?_)
        refine j_iinc1 X (L' := [(8, .int x15), (6, .int c6), (5, .int c5), (4, .int c4), (0, .ref (ad k0)), (3, .int c3), (7, .int o14)]) 0 rfl (q := 1) (by decide) ex15 (by decide) rfl dX2_heardIn_95 ?_
        refine j_goto X (tgt := 40) (by decide) dX2_heardIn_98 ?_
        exact J.sub [0, 6, 1, 2, 3, 4, 5] rfl (ih x15 o14 h)
      clear h
      refine j_if_eq X (tgt := 95) (by decide) dX2_heardIn_68 (fun c => ?_) (fun c => ?_)
      · have hr := (if_pos c).symm.trans hr
        cases hr
        exact J.sub [1, 3, 4, 5, 6, 7, 2] rfl hJ13
      · have hr := (if_neg c).symm.trans hr
        refine j_iload X 3 rfl dX2_heardIn_71 ?_
        refine j_iload X 0 rfl dX2_heardIn_73 ?_
        refine j_iload X 4 rfl dX2_heardIn_75 ?_
        refine j_iload X 0 rfl dX2_heardIn_77 ?_
        refine j_isub X dX2_heardIn_79 ?_
        refine bd1_elim hr (fun r16 hc17 hr => ?_)
        refine j_callSi X (As := [.int c6, .int r9, .int (c5 - r9)]) (rest := []) mf_X3_hears bw_416 bw_417 ⟨rfl, rfl⟩ ⟨Nat.le_of_ble_eq_true rfl, Nat.le_of_ble_eq_true rfl⟩ (c_X3_hears Γ.2.1 E ad  hc17) rfl rfl (Nat.le_of_ble_eq_true rfl) dX2_heardIn_80 ?_
        refine j_if_eq X (tgt := 95) (by decide) dX2_heardIn_83 (fun c => ?_) (fun c => ?_)
        · have hr := (if_pos c).symm.trans hr
          cases hr
          exact J.sub [1, 3, 4, 5, 6, 7, 2] rfl hJ13
        · have hr := (if_neg c).symm.trans hr
          refine j_iload X 2 rfl dX2_heardIn_86 ?_
          refine j_iconst X (v := 1) (by decide) dX2_heardIn_88 ?_
          refine j_iload X 1 rfl dX2_heardIn_89 ?_
          refine j_ishl X dX2_heardIn_91 ?_
          refine j_ior X dX2_heardIn_92 ?_
          refine nm_elim hr (fun x18 ex18 hr => ?_)
          refine j_istore X (L' := [(7, .int x18), (9, .int r9), (8, .int v8), (6, .int c6), (5, .int c5), (4, .int c4), (0, .ref (ad k0)), (3, .int c3)]) ex18 (by decide) rfl dX2_heardIn_93 ?_
          cases hr
          exact J.sub [2, 3, 4, 5, 6, 7, 0] rfl hJ13
set_option maxHeartbeats 4000000 in
set_option maxRecDepth 100000 in
theorem c_X2_heardIn (l : Launch) (E : Ev) (ad : Nat → Nat) {k0 : Nat} (hl0 : lay k0 = 1) {a1 : Int32} {a2 : Int32} {a3 : Int32} {σ : Sg} {r : Int32} (h : m_X2_heardIn k0 a1 a2 a3 σ = some r) : Met l yX2_heardIn (wY yX2_heardIn cX2_heardIn 10 (some .int)) rm_X2_heardIn (va_Pc [.ref (ad k0), .int a1, .int a2, .int a3] (PreU E ad RF 85 σ)) (QcN E ad (some (.int r), σ)) 0 0 (EA E) := by
  refine met_of (L0 := [(0, .ref (ad k0)), (1, .int a1), (2, .int a2), (3, .int a3)]) rfl (Nat.le_of_ble_eq_true rfl) rfl (fun Γ X Y => ?_)
  have X : XC Γ E rm_X2_heardIn cX2_heardIn 10 RX2 := X
  unfold m_X2_heardIn at h
  refine j_iload_n X 3 rfl rfl dX2_heardIn_0 ?_
  refine j_iconst X (v := -1) (by decide) dX2_heardIn_1 ?_
  refine j_icmp_ne X (tgt := 7) (by decide) dX2_heardIn_2 (fun c => ?_) (fun c => ?_)
  · have h := (if_neg c).symm.trans h
    refine j_aload_n X 0 rfl rfl dX2_heardIn_7 ?_
    refine j_iload_n X 2 rfl rfl dX2_heardIn_8 ?_
    refine bd1_elim h (fun r1 hc2 h => ?_)
    refine j_callVi X (As := [.int a2]) (rest := []) mf_X2_sayingsOfRoom bw_398 bw_399 bs_459 ⟨rfl, rfl⟩ ⟨Nat.le_of_ble_eq_true rfl, Nat.le_of_ble_eq_true rfl⟩ cf1 (lay_lt hl0 (by decide)) hl0 (c_X2_sayingsOfRoom Γ.2.1 E ad hl0 hc2) rfl rfl (Nat.le_of_ble_eq_true rfl) dX2_heardIn_9 ?_
    refine j_istore X (L' := [(4, .int r1), (0, .ref (ad k0)), (1, .int a1), (2, .int a2), (3, .int a3)]) rfl (by decide) rfl dX2_heardIn_12 ?_
    refine j_aload_n X 1 rfl rfl dX2_heardIn_14 ?_
    refine j_iload X 0 rfl dX2_heardIn_15 ?_
    refine j_iload_n X 4 rfl rfl dX2_heardIn_17 ?_
    refine bd1_elim h (fun r3 hc4 h => ?_)
    refine j_callVi X (As := [.int r1, .int a3]) (rest := []) mf_X2_loudnessOfSet bw_402 bw_403 bs_463 ⟨rfl, rfl⟩ ⟨Nat.le_of_ble_eq_true rfl, Nat.le_of_ble_eq_true rfl⟩ cf1 (lay_lt hl0 (by decide)) hl0 (c_X2_loudnessOfSet Γ.2.1 E ad hl0 hc4) rfl rfl (Nat.le_of_ble_eq_true rfl) dX2_heardIn_18 ?_
    refine j_istore X (L' := [(5, .int r3), (4, .int r1), (0, .ref (ad k0)), (1, .int a1), (2, .int a2), (3, .int a3)]) rfl (by decide) rfl dX2_heardIn_21 ?_
    refine j_aload_n X 2 rfl rfl dX2_heardIn_23 ?_
    refine j_getr X cf1 (lay_lt hl0 (by decide)) hl0 2 rfl ⟨rfl, rfl⟩ (k0 + 3) (RF_H2 hl0) bw_65 dX2_heardIn_24 ?_
    refine j_iload_n X 3 rfl rfl dX2_heardIn_27 ?_
    refine j_iconst X (v := 0) (by decide) dX2_heardIn_28 ?_
    refine bd1_elim h (fun r5 hc6 h => ?_)
    refine j_callVi X (As := [.int a1, .int (0 : Int32)]) (rest := []) mf_X6_get bw_382 bw_281 bs_341 ⟨rfl, rfl⟩ ⟨Nat.le_of_ble_eq_true rfl, Nat.le_of_ble_eq_true rfl⟩ cf4 (lay_lt (lay_H2 hl0) (by decide)) (lay_H2 hl0) (c_X6_get Γ.2.1 E ad (lay_H2 hl0) hc6) rfl rfl (Nat.le_of_ble_eq_true rfl) dX2_heardIn_29 ?_
    refine j_istore X (L' := [(6, .int r5), (5, .int r3), (4, .int r1), (0, .ref (ad k0)), (1, .int a1), (2, .int a2), (3, .int a3)]) rfl (by decide) rfl dX2_heardIn_32 ?_
    refine j_iconst X (v := 0) (by decide) dX2_heardIn_34 ?_
    refine nm_elim h (fun x7 ex7 h => ?_)
    refine j_istore X (L' := [(7, .int x7), (6, .int r5), (5, .int r3), (4, .int r1), (0, .ref (ad k0)), (1, .int a1), (2, .int a2), (3, .int a3)]) ex7 (by decide) rfl dX2_heardIn_35 ?_
    refine j_iconst X (v := 0) (by decide) dX2_heardIn_37 ?_
    refine nm_elim h (fun x8 ex8 h => ?_)
    refine j_istore X (L' := [(8, .int x8), (7, .int x7), (6, .int r5), (5, .int r3), (4, .int r1), (0, .ref (ad k0)), (1, .int a1), (2, .int a2), (3, .int a3)]) ex8 (by decide) rfl dX2_heardIn_38 ?_
    refine J.sub [0, 1, 2, 3, 4, 5, 8] rfl ?_
    exact jl_X2_heardIn_L40 X hl0 Y 1000 x8 x7 h
  · have h := (if_pos c).symm.trans h
    refine j_iconst X (v := 0) (by decide) dX2_heardIn_5 ?_
    exact j_iret X Y rfl (ret_pi h) dX2_heardIn_6

abbrev rm_X2_heardNow : Room := { frames := 3, cells := 0, slots := 0, locals := 79 }
set_option maxHeartbeats 4000000 in
set_option maxRecDepth 100000 in
theorem c_X2_heardNow (l : Launch) (E : Ev) (ad : Nat → Nat) {k0 : Nat} (hl0 : lay k0 = 1) {a1 : Int32} {σ : Sg} {r : Int32} (h : m_X2_heardNow k0 a1 σ = some r) : Met l yX2_heardNow (wY yX2_heardNow cX2_heardNow 3 (some .int)) rm_X2_heardNow (va_Pc [.ref (ad k0), .int a1] (PreU E ad RF 85 σ)) (QcN E ad (some (.int r), σ)) 0 0 (EA E) := by
  refine met_of (L0 := [(0, .ref (ad k0)), (1, .int a1)]) rfl (Nat.le_of_ble_eq_true rfl) rfl (fun Γ X Y => ?_)
  have X : XC Γ E rm_X2_heardNow cX2_heardNow 3 RX2 := X
  unfold m_X2_heardNow at h
  refine j_aload_n X 0 rfl rfl dX2_heardNow_0 ?_
  refine j_getr X cf1 (lay_lt hl0 (by decide)) hl0 2 rfl ⟨rfl, rfl⟩ (k0 + 3) (RF_H2 hl0) bw_65 dX2_heardNow_1 ?_
  refine j_iload_n X 1 rfl rfl dX2_heardNow_4 ?_
  refine j_iconst X (v := 1) (by decide) dX2_heardNow_5 ?_
  refine bd1_elim h (fun r1 hc2 h => ?_)
  refine j_callVi X (As := [.int a1, .int (1 : Int32)]) (rest := []) mf_X6_get bw_382 bw_281 bs_341 ⟨rfl, rfl⟩ ⟨Nat.le_of_ble_eq_true rfl, Nat.le_of_ble_eq_true rfl⟩ cf4 (lay_lt (lay_H2 hl0) (by decide)) (lay_H2 hl0) (c_X6_get Γ.2.1 E ad (lay_H2 hl0) hc2) rfl rfl (Nat.le_of_ble_eq_true rfl) dX2_heardNow_6 ?_
  refine j_istore_n X (L' := [(2, .int r1), (0, .ref (ad k0)), (1, .int a1)]) rfl rfl (by decide) rfl dX2_heardNow_9 ?_
  refine j_aload_n X 1 rfl rfl dX2_heardNow_10 ?_
  refine j_iload_n X 2 rfl rfl dX2_heardNow_11 ?_
  refine j_iload_n X 0 rfl rfl dX2_heardNow_12 ?_
  refine j_aload_n X 1 rfl rfl dX2_heardNow_13 ?_
  refine j_iload_n X 0 rfl rfl dX2_heardNow_14 ?_
  refine j_iconst X (v := 0) (by decide) dX2_heardNow_15 ?_
  refine bd1_elim h (fun r3 hc4 h => ?_)
  refine j_callVi X (As := [.int r1, .int (0 : Int32)]) (rest := [.int r1, .int a1, .ref (ad k0)]) mf_X2_roomMinute bw_383 bw_384 bs_444 ⟨rfl, rfl⟩ ⟨Nat.le_of_ble_eq_true rfl, Nat.le_of_ble_eq_true rfl⟩ cf1 (lay_lt hl0 (by decide)) hl0 (c_X2_roomMinute Γ.2.1 E ad hl0 hc4) rfl rfl (Nat.le_of_ble_eq_true rfl) dX2_heardNow_16 ?_
  refine bd1_elim h (fun r5 hc6 h => ?_)
  refine j_callVi X (As := [.int a1, .int r1, .int r3]) (rest := []) mf_X2_heardIn bw_394 bw_395 bs_455 ⟨rfl, rfl⟩ ⟨Nat.le_of_ble_eq_true rfl, Nat.le_of_ble_eq_true rfl⟩ cf1 (lay_lt hl0 (by decide)) hl0 (c_X2_heardIn Γ.2.1 E ad hl0 hc6) rfl rfl (Nat.le_of_ble_eq_true rfl) dX2_heardNow_19 ?_
  exact j_iret X Y rfl (ret_pi h) dX2_heardNow_22

abbrev rm_X2_passMinutes : Room := { frames := 3, cells := 0, slots := 0, locals := 79 }
set_option maxHeartbeats 4000000 in
set_option maxRecDepth 100000 in
theorem jl_X2_passMinutes_L18 {β : Type} {Γ : Cx} {E : Ev} {ad : Nat → Nat} (X : XC Γ E rm_X2_passMinutes cX2_passMinutes 7 RX2) {k0 : Nat} (hl0 : lay k0 = 1) {c3 : Int32} {c1 : Int32} {c2 : Int32}  {kx : Sg → Option (β)} {r : β}  (hkx : ∀ (σ : Sg), kx σ = some r → J Γ E 7 ad RF 85 σ 0 0 88 [(3, .int c3), (0, .ref (ad k0)), (1, .int c1), (2, .int c2)] []) : ∀ n (v4 : Int32) (σ : Sg), m_X2_passMinutes_L18 k0 c3 c1 c2 kx n v4 σ = some r → J Γ E 7 ad RF 85 σ 0 0 18 [(4, .int v4), (3, .int c3), (0, .ref (ad k0)), (1, .int c1), (2, .int c2)] [] := by
  intro n
  induction n with
  | zero =>
    intro v4 σ h
    cases h
  | succ n ih =>
    intro v4 σ h
    rw [m_X2_passMinutes_L18.eq_2] at h
    refine j_iload X 0 rfl dX2_passMinutes_18 ?_
    refine j_aload_n X 2 rfl rfl dX2_passMinutes_20 ?_
    refine j_getr X cf1 (lay_lt hl0 (by decide)) hl0 2 rfl ⟨rfl, rfl⟩ (k0 + 3) (RF_H2 hl0) bw_65 dX2_passMinutes_21 ?_
    refine j_geti X cf4 (lay_lt (lay_H2 hl0) (by decide)) (lay_H2 hl0) 3 rfl ⟨rfl, rfl⟩ bw_47 dX2_passMinutes_24 ?_
    refine j_icmp_ge X (tgt := 88) (by decide) dX2_passMinutes_27 (fun c => ?_) (fun c => ?_)
    · have h := (if_pos c).symm.trans h
      exact J.sub [1, 2, 3, 4] rfl (hkx σ h)
    · have h := (if_neg c).symm.trans h
      refine j_aload_n X 2 rfl rfl dX2_passMinutes_30 ?_
      refine j_getr X cf1 (lay_lt hl0 (by decide)) hl0 2 rfl ⟨rfl, rfl⟩ (k0 + 3) (RF_H2 hl0) bw_65 dX2_passMinutes_31 ?_
      refine j_iload X 0 rfl dX2_passMinutes_34 ?_
      refine j_iconst X (v := 1) (by decide) dX2_passMinutes_36 ?_
      refine bd1_elim h (fun r3 hc4 h => ?_)
      refine j_callVi X (As := [.int v4, .int (1 : Int32)]) (rest := []) mf_X6_get bw_382 bw_281 bs_341 ⟨rfl, rfl⟩ ⟨Nat.le_of_ble_eq_true rfl, Nat.le_of_ble_eq_true rfl⟩ cf4 (lay_lt (lay_H2 hl0) (by decide)) (lay_H2 hl0) (c_X6_get Γ.2.1 E ad (lay_H2 hl0) hc4) rfl rfl (Nat.le_of_ble_eq_true rfl) dX2_passMinutes_37 ?_
      refine j_istore X (L' := [(5, .int r3), (4, .int v4), (3, .int c3), (0, .ref (ad k0)), (1, .int c1), (2, .int c2)]) rfl (by decide) rfl dX2_passMinutes_40 ?_
      refine j_aload_n X 3 rfl rfl dX2_passMinutes_42 ?_
      refine j_iload X 1 rfl dX2_passMinutes_43 ?_
      refine j_iload X 0 rfl dX2_passMinutes_45 ?_
      refine j_aload_n X 3 rfl rfl dX2_passMinutes_47 ?_
      refine j_iload X 0 rfl dX2_passMinutes_48 ?_
      refine j_iconst X (v := 0) (by decide) dX2_passMinutes_50 ?_
      refine bd1_elim h (fun r5 hc6 h => ?_)
      refine j_callVi X (As := [.int r3, .int (0 : Int32)]) (rest := [.int r3, .int v4, .ref (ad k0)]) mf_X2_roomMinute bw_383 bw_384 bs_444 ⟨rfl, rfl⟩ ⟨Nat.le_of_ble_eq_true rfl, Nat.le_of_ble_eq_true rfl⟩ cf1 (lay_lt hl0 (by decide)) hl0 (c_X2_roomMinute Γ.2.1 E ad hl0 hc6) rfl rfl (Nat.le_of_ble_eq_true rfl) dX2_passMinutes_51 ?_
      refine bd1_elim h (fun r7 hc8 h => ?_)
      refine j_callVi X (As := [.int v4, .int r3, .int r5]) (rest := []) mf_X2_heardIn bw_394 bw_395 bs_455 ⟨rfl, rfl⟩ ⟨Nat.le_of_ble_eq_true rfl, Nat.le_of_ble_eq_true rfl⟩ cf1 (lay_lt hl0 (by decide)) hl0 (c_X2_heardIn Γ.2.1 E ad hl0 hc8) rfl rfl (Nat.le_of_ble_eq_true rfl) dX2_passMinutes_54 ?_
      refine j_istore X (L' := [(6, .int r7), (5, .int r3), (4, .int v4), (3, .int c3), (0, .ref (ad k0)), (1, .int c1), (2, .int c2)]) rfl (by decide) rfl dX2_passMinutes_57 ?_
      refine j_aload_n X 4 rfl rfl dX2_passMinutes_59 ?_
      refine j_getr X cf1 (lay_lt hl0 (by decide)) hl0 2 rfl ⟨rfl, rfl⟩ (k0 + 3) (RF_H2 hl0) bw_65 dX2_passMinutes_60 ?_
      refine j_iload X 2 rfl dX2_passMinutes_63 ?_
      refine j_iconst X (v := 2) (by decide) dX2_passMinutes_65 ?_
      refine j_aload_n X 4 rfl rfl dX2_passMinutes_66 ?_
      refine j_getr X cf1 (lay_lt hl0 (by decide)) hl0 2 rfl ⟨rfl, rfl⟩ (k0 + 3) (RF_H2 hl0) bw_65 dX2_passMinutes_67 ?_
      refine j_iload X 2 rfl dX2_passMinutes_70 ?_
      refine j_iconst X (v := 2) (by decide) dX2_passMinutes_72 ?_
      refine bd1_elim h (fun r9 hc10 h => ?_)
      refine j_callVi X (As := [.int v4, .int (2 : Int32)]) (rest := [.int (2 : Int32), .int v4, .ref (ad (k0 + 3))]) mf_X6_get bw_382 bw_281 bs_341 ⟨rfl, rfl⟩ ⟨Nat.le_of_ble_eq_true rfl, Nat.le_of_ble_eq_true rfl⟩ cf4 (lay_lt (lay_H2 hl0) (by decide)) (lay_H2 hl0) (c_X6_get Γ.2.1 E ad (lay_H2 hl0) hc10) rfl rfl (Nat.le_of_ble_eq_true rfl) dX2_passMinutes_73 ?_
      refine j_iload X 0 rfl dX2_passMinutes_76 ?_
      refine j_ior X dX2_passMinutes_78 ?_
      refine bd1_elim h (fun σ11 hc12 h => ?_)
      refine j_callVv X (As := [.int v4, .int (2 : Int32), .int (r9 ||| r7)]) (rest := []) mf_X6_set bw_210 bw_211 bs_271 ⟨rfl, rfl⟩ ⟨Nat.le_of_ble_eq_true rfl, Nat.le_of_ble_eq_true rfl⟩ cf4 (lay_lt (lay_H2 hl0) (by decide)) (lay_H2 hl0) (c_X6_set Γ.2.1 E ad (lay_H2 hl0) hc12) rfl rfl (Nat.le_of_ble_eq_true rfl) dX2_passMinutes_79 ?_
      refine nm_elim h (fun x13 ex13 h => ?_)
      refine j_iinc1 X (L' := [(4, .int x13), (6, .int r7), (5, .int r3), (3, .int c3), (0, .ref (ad k0)), (1, .int c1), (2, .int c2)]) 2 rfl (q := 1) (by decide) ex13 (by decide) rfl dX2_passMinutes_82 ?_
      refine j_goto X (tgt := 18) (by decide) dX2_passMinutes_85 ?_
      exact J.sub [0, 3, 4, 5, 6] rfl (ih x13 σ11 h)
set_option maxHeartbeats 4000000 in
set_option maxRecDepth 100000 in
theorem jl_X2_passMinutes_L2 {Γ : Cx} {E : Ev} {ad : Nat → Nat} (X : XC Γ E rm_X2_passMinutes cX2_passMinutes 7 RX2) {k0 : Nat} (hl0 : lay k0 = 1) {c1 : Int32} {c2 : Int32}  {kx : Sg → Option (Sg)} {r : Sg} (Y : XQ Γ E ad none (none, r))  : ∀ n (v3 : Int32) (σ : Sg), m_X2_passMinutes_L2 k0 c1 c2 kx n v3 σ = some r → J Γ E 7 ad RF 85 σ 0 0 2 [(3, .int v3), (0, .ref (ad k0)), (1, .int c1), (2, .int c2)] [] := by
  intro n
  induction n with
  | zero =>
    intro v3 σ h
    cases h
  | succ n ih =>
    intro v3 σ h
    rw [m_X2_passMinutes_L2.eq_2] at h
    refine j_iload_n X 0 rfl rfl dX2_passMinutes_2 ?_
    refine j_iload_n X 2 rfl rfl dX2_passMinutes_3 ?_
    refine j_icmp_ge X (tgt := 104) (by decide) dX2_passMinutes_4 (fun c => ?_) (fun c => ?_)
    · have h := (if_pos c).symm.trans h
      exact j_vret X Y (ret_wv h) dX2_passMinutes_104
    · have h := (if_neg c).symm.trans h
      refine j_aload_n X 1 rfl rfl dX2_passMinutes_7 ?_
      refine j_geti X cf1 (lay_lt hl0 (by decide)) hl0 0 rfl ⟨rfl, rfl⟩ bw_58 dX2_passMinutes_8 ?_
      refine j_iload_n X 3 rfl rfl dX2_passMinutes_11 ?_
      refine j_icmp_ge X (tgt := 104) (by decide) dX2_passMinutes_12 (fun c => ?_) (fun c => ?_)
      · have h := (if_pos c).symm.trans h
        exact j_vret X Y (ret_wv h) dX2_passMinutes_104
      · have h := (if_neg c).symm.trans h
        refine j_iconst X (v := 0) (by decide) dX2_passMinutes_15 ?_
        refine nm_elim h (fun x2 ex2 h => ?_)
        refine j_istore X (L' := [(4, .int x2), (3, .int v3), (0, .ref (ad k0)), (1, .int c1), (2, .int c2)]) ex2 (by decide) rfl dX2_passMinutes_16 ?_
        refine J.sub [0, 1, 2, 3, 4] rfl ?_
        refine jl_X2_passMinutes_L18 X hl0 (fun σ14 h => ?_) 1000 x2 σ h
        refine j_aload_n X 1 rfl rfl dX2_passMinutes_88 ?_
        refine j_dup X rfl dX2_passMinutes_89 ?_
        refine j_geti X cf1 (lay_lt hl0 (by decide)) hl0 0 rfl ⟨rfl, rfl⟩ bw_58 dX2_passMinutes_90 ?_
        refine j_iconst X (v := 1) (by decide) dX2_passMinutes_93 ?_
        refine j_iadd X dX2_passMinutes_94 ?_
        refine nm_elim h (fun σ15 eσ15 h => ?_)
        refine j_puti X cf1 (lay_lt hl0 (by decide)) hl0 0 rfl ⟨rfl, rfl⟩ (.inl rfl) rfl rfl eσ15 bw_58 dX2_passMinutes_95 ?_
        refine nm_elim h (fun x16 ex16 h => ?_)
        refine j_iinc1 X (L' := [(3, .int x16), (0, .ref (ad k0)), (1, .int c1), (2, .int c2)]) 0 rfl (q := 1) (by decide) ex16 (by decide) rfl dX2_passMinutes_98 ?_
        refine j_goto X (tgt := 2) (by decide) dX2_passMinutes_101 ?_
        exact J.sub [0, 1, 2, 3] rfl (ih x16 σ15 h)
set_option maxHeartbeats 4000000 in
set_option maxRecDepth 100000 in
theorem c_X2_passMinutes (l : Launch) (E : Ev) (ad : Nat → Nat) {k0 : Nat} (hl0 : lay k0 = 1) {a1 : Int32} {a2 : Int32} {σ : Sg} {r : Sg} (h : m_X2_passMinutes k0 a1 a2 σ = some r) : Met l yX2_passMinutes (wY yX2_passMinutes cX2_passMinutes 7 none) rm_X2_passMinutes (va_Pc [.ref (ad k0), .int a1, .int a2] (PreU E ad RF 85 σ)) (QcN E ad (none, r)) 0 0 (EA E) := by
  refine met_of (L0 := [(0, .ref (ad k0)), (1, .int a1), (2, .int a2)]) rfl (Nat.le_of_ble_eq_true rfl) rfl (fun Γ X Y => ?_)
  have X : XC Γ E rm_X2_passMinutes cX2_passMinutes 7 RX2 := X
  unfold m_X2_passMinutes at h
  refine j_iconst X (v := 0) (by decide) dX2_passMinutes_0 ?_
  refine nm_elim h (fun x1 ex1 h => ?_)
  refine j_istore_n X (L' := [(3, .int x1), (0, .ref (ad k0)), (1, .int a1), (2, .int a2)]) ex1 rfl (by decide) rfl dX2_passMinutes_1 ?_
  refine J.sub [0, 1, 2, 3] rfl ?_
  exact jl_X2_passMinutes_L2 X hl0 Y 1000 x1 σ h

abbrev rm_X2_knownByAny : Room := { frames := 1, cells := 0, slots := 0, locals := 23 }
set_option maxHeartbeats 4000000 in
set_option maxRecDepth 100000 in
theorem jl_X2_knownByAny_L4 {Γ : Cx} {E : Ev} {ad : Nat → Nat} (X : XC Γ E rm_X2_knownByAny cX2_knownByAny 3 RX2) {k0 : Nat} (hl0 : lay k0 = 1)  {σ : Sg} {kx : Unit → Option (Int32)} {r : Int32} (Y : XQ Γ E ad (some .int) (some (.int r), σ))  : ∀ n (v2 : Int32) (v1 : Int32), m_X2_knownByAny_L4 k0 σ kx n v2 v1 = some r → J Γ E 3 ad RF 85 σ 0 0 4 [(2, .int v2), (1, .int v1), (0, .ref (ad k0))] [] := by
  intro n
  induction n with
  | zero =>
    intro v2 v1 h
    cases h
  | succ n ih =>
    intro v2 v1 h
    rw [m_X2_knownByAny_L4.eq_2] at h
    refine j_iload_n X 0 rfl rfl dX2_knownByAny_4 ?_
    refine j_aload_n X 2 rfl rfl dX2_knownByAny_5 ?_
    refine j_getr X cf1 (lay_lt hl0 (by decide)) hl0 2 rfl ⟨rfl, rfl⟩ (k0 + 3) (RF_H2 hl0) bw_65 dX2_knownByAny_6 ?_
    refine j_geti X cf4 (lay_lt (lay_H2 hl0) (by decide)) (lay_H2 hl0) 3 rfl ⟨rfl, rfl⟩ bw_47 dX2_knownByAny_9 ?_
    refine j_icmp_ge X (tgt := 33) (by decide) dX2_knownByAny_12 (fun c => ?_) (fun c => ?_)
    · have h := (if_pos c).symm.trans h
      refine j_iload_n X 1 rfl rfl dX2_knownByAny_33 ?_
      refine bd1_elim h (fun r3 hc4 h => ?_)
      refine j_callSi X (As := [.int v1]) (rest := []) mf_J6_bitCount_0f7a4 bw_481 bw_482 ⟨rfl, rfl⟩ ⟨Nat.le_of_ble_eq_true rfl, Nat.le_of_ble_eq_true rfl⟩ (c_J6_bitCount_0f7a4 Γ.2.1 E ad  hc4) rfl rfl (Nat.le_of_ble_eq_true rfl) dX2_knownByAny_34 ?_
      exact j_iret X Y rfl (ret_pi h) dX2_knownByAny_37
    · have h := (if_neg c).symm.trans h
      refine j_iload_n X 1 rfl rfl dX2_knownByAny_15 ?_
      refine j_aload_n X 2 rfl rfl dX2_knownByAny_16 ?_
      refine j_getr X cf1 (lay_lt hl0 (by decide)) hl0 2 rfl ⟨rfl, rfl⟩ (k0 + 3) (RF_H2 hl0) bw_65 dX2_knownByAny_17 ?_
      refine j_iload_n X 0 rfl rfl dX2_knownByAny_20 ?_
      refine j_iconst X (v := 2) (by decide) dX2_knownByAny_21 ?_
      refine bd1_elim h (fun r5 hc6 h => ?_)
      refine j_callVi X (As := [.int v2, .int (2 : Int32)]) (rest := [.int v1]) mf_X6_get bw_382 bw_281 bs_341 ⟨rfl, rfl⟩ ⟨Nat.le_of_ble_eq_true rfl, Nat.le_of_ble_eq_true rfl⟩ cf4 (lay_lt (lay_H2 hl0) (by decide)) (lay_H2 hl0) (c_X6_get Γ.2.1 E ad (lay_H2 hl0) hc6) rfl rfl (Nat.le_of_ble_eq_true rfl) dX2_knownByAny_22 ?_
      refine j_ior X dX2_knownByAny_25 ?_
      refine nm_elim h (fun x7 ex7 h => ?_)
      refine j_istore_n X (L' := [(1, .int x7), (2, .int v2), (0, .ref (ad k0))]) ex7 rfl (by decide) rfl dX2_knownByAny_26 ?_
      refine nm_elim h (fun x8 ex8 h => ?_)
      refine j_iinc1 X (L' := [(2, .int x8), (1, .int x7), (0, .ref (ad k0))]) 1 rfl (q := 1) (by decide) ex8 (by decide) rfl dX2_knownByAny_27 ?_
      refine j_goto X (tgt := 4) (by decide) dX2_knownByAny_30 ?_
      exact J.sub [0, 1, 2] rfl (ih x8 x7 h)
set_option maxHeartbeats 4000000 in
set_option maxRecDepth 100000 in
theorem c_X2_knownByAny (l : Launch) (E : Ev) (ad : Nat → Nat) {k0 : Nat} (hl0 : lay k0 = 1)  {σ : Sg} {r : Int32} (h : m_X2_knownByAny k0 σ = some r) : Met l yX2_knownByAny (wY yX2_knownByAny cX2_knownByAny 3 (some .int)) rm_X2_knownByAny (va_Pc [.ref (ad k0)] (PreU E ad RF 85 σ)) (QcN E ad (some (.int r), σ)) 0 0 (EA E) := by
  refine met_of (L0 := [(0, .ref (ad k0))]) rfl (Nat.le_of_ble_eq_true rfl) rfl (fun Γ X Y => ?_)
  have X : XC Γ E rm_X2_knownByAny cX2_knownByAny 3 RX2 := X
  unfold m_X2_knownByAny at h
  refine j_iconst X (v := 0) (by decide) dX2_knownByAny_0 ?_
  refine nm_elim h (fun x1 ex1 h => ?_)
  refine j_istore_n X (L' := [(1, .int x1), (0, .ref (ad k0))]) ex1 rfl (by decide) rfl dX2_knownByAny_1 ?_
  refine j_iconst X (v := 0) (by decide) dX2_knownByAny_2 ?_
  refine nm_elim h (fun x2 ex2 h => ?_)
  refine j_istore_n X (L' := [(2, .int x2), (1, .int x1), (0, .ref (ad k0))]) ex2 rfl (by decide) rfl dX2_knownByAny_3 ?_
  refine J.sub [0, 1, 2] rfl ?_
  exact jl_X2_knownByAny_L4 X hl0 Y 1000 x2 x1 h
