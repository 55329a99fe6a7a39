/-! ===== CONTRACTS: printed by wip/gen ===== -/
abbrev rm_X6_dropFirst : Room := { frames := 1, cells := 0, slots := 0, locals := 21 }
set_option maxHeartbeats 4000000 in
set_option maxRecDepth 100000 in
theorem jl_X6_dropFirst_L2 {β : Type} {Γ : Cx} {E : Ev} {ad : Nat → Nat} (X : XC Γ E rm_X6_dropFirst cX6_dropFirst 3 RX6) {k0 : Nat} (hl0 : lay k0 = 4)   {kx : Sg → Option (β)} {r : β}  (hkx : ∀ (σ : Sg), kx σ = some r → J Γ E 3 ad RF 85 σ 0 0 49 [(0, .ref (ad k0))] []) : ∀ n (v1 : Int32) (σ : Sg), m_X6_dropFirst_L2 k0 kx n v1 σ = some r → J Γ E 3 ad RF 85 σ 0 0 2 [(1, .int v1), (0, .ref (ad k0))] [] := by
  intro n
  induction n with
  | zero =>
    intro v1 σ h
    cases h
  | succ n ih =>
    intro v1 σ h
    rw [m_X6_dropFirst_L2.eq_2] at h
    refine j_iload_n X 0 rfl rfl dX6_dropFirst_2 ?_
    refine j_aload_n X 1 rfl rfl dX6_dropFirst_3 ?_
    refine j_getr X cf4 (lay_lt hl0 (by decide)) hl0 2 rfl ⟨rfl, rfl⟩ (k0 + 1) (RF_R hl0) bw_41 dX6_dropFirst_4 ?_
    refine j_alen X (lay_lt (lay_R hl0) (by decide)) (lay_R hl0) dX6_dropFirst_7 ?_
    refine j_icmp_ge X (tgt := 49) (by decide) dX6_dropFirst_8 (fun c => ?_) (fun c => ?_)
    · have h := (if_pos c).symm.trans h
      exact J.sub [1] rfl (hkx σ h)
    · have h := (if_neg c).symm.trans h
      refine j_iload_n X 0 rfl rfl dX6_dropFirst_11 ?_
      refine j_aload_n X 1 rfl rfl dX6_dropFirst_12 ?_
      refine j_geti X cf4 (lay_lt hl0 (by decide)) hl0 1 rfl ⟨rfl, rfl⟩ bw_40 dX6_dropFirst_13 ?_
      refine j_iadd X dX6_dropFirst_16 ?_
      refine nm_elim h (fun x2 ex2 h => ?_)
      refine j_istore_n X (L' := [(2, .int x2), (1, .int v1), (0, .ref (ad k0))]) ex2 rfl (by decide) rfl dX6_dropFirst_17 ?_
      refine j_iload_n X 0 rfl rfl dX6_dropFirst_18 ?_
      refine bd1_elim h (fun σ4 hr h => ?_)
      have hJ3 : J Γ E 3 ad RF 85 σ4 0 0 43 [(1, .int v1), (0, .ref (ad k0))] [] := by
        refine nm_elim h (fun x5 ex5 h => ?_)
        refine j_iinc1 X (L' := [(1, .int x5), (0, .ref (ad k0))]) 0 rfl (q := 1) (by decide) ex5 (by decide) rfl dX6_dropFirst_43 ?_
        refine j_goto X (tgt := 2) (by decide) dX6_dropFirst_46 ?_
        exact J.sub [0, 1] rfl (ih x5 σ4 h)
      clear h
      refine j_if_lt X (tgt := 43) (by decide) dX6_dropFirst_19 (fun c => ?_) (fun c => ?_)
      · have hr := (if_pos c).symm.trans hr
        cases hr
        exact J.sub [1, 2] rfl hJ3
      · have hr := (if_neg c).symm.trans hr
        refine j_iload_n X 0 rfl rfl dX6_dropFirst_22 ?_
        refine j_aload_n X 2 rfl rfl dX6_dropFirst_23 ?_
        refine j_getr X cf4 (lay_lt hl0 (by decide)) hl0 2 rfl ⟨rfl, rfl⟩ (k0 + 1) (RF_R hl0) bw_41 dX6_dropFirst_24 ?_
        refine j_alen X (lay_lt (lay_R hl0) (by decide)) (lay_R hl0) dX6_dropFirst_27 ?_
        refine j_icmp_ge X (tgt := 43) (by decide) dX6_dropFirst_28 (fun c => ?_) (fun c => ?_)
        · have hr := (if_pos c).symm.trans hr
          cases hr
          exact J.sub [1, 2] rfl hJ3
        · have hr := (if_neg c).symm.trans hr
          refine j_aload_n X 2 rfl rfl dX6_dropFirst_31 ?_
          refine j_getr X cf4 (lay_lt hl0 (by decide)) hl0 2 rfl ⟨rfl, rfl⟩ (k0 + 1) (RF_R hl0) bw_41 dX6_dropFirst_32 ?_
          refine j_iload_n X 1 rfl rfl dX6_dropFirst_35 ?_
          refine j_aload_n X 2 rfl rfl dX6_dropFirst_36 ?_
          refine j_getr X cf4 (lay_lt hl0 (by decide)) hl0 2 rfl ⟨rfl, rfl⟩ (k0 + 1) (RF_R hl0) bw_41 dX6_dropFirst_37 ?_
          refine j_iload_n X 0 rfl rfl dX6_dropFirst_40 ?_
          refine gd_elim hr (fun g hr => ?_)
          refine j_iald X (lay_lt (lay_R hl0) (by decide)) (lay_R hl0) g dX6_dropFirst_41 ?_
          refine gd_elim hr (fun g hr => ?_)
          refine nm_elim hr (fun σ6 eσ6 hr => ?_)
          refine j_iast X (lay_lt (lay_R hl0) (by decide)) (lay_R hl0) g eσ6 dX6_dropFirst_42 ?_
          cases hr
          exact J.sub [1, 2] rfl hJ3
set_option maxHeartbeats 4000000 in
set_option maxRecDepth 100000 in
theorem c_X6_dropFirst (l : Launch) (E : Ev) (ad : Nat → Nat) {k0 : Nat} (hl0 : lay k0 = 4)  {σ : Sg} {r : Sg} (h : m_X6_dropFirst k0 σ = some r) : Met l yX6_dropFirst (wY yX6_dropFirst cX6_dropFirst 3 none) rm_X6_dropFirst (va_Pc [.ref (ad k0)] (PreU E ad RF 85 σ)) (QcN E ad (none, r)) 0 0 (EA E) := by
  refine met_of (L0 := [(0, .ref (ad k0))]) rfl (Nat.le_of_ble_eq_true rfl) rfl (fun Γ X Y => ?_)
  have X : XC Γ E rm_X6_dropFirst cX6_dropFirst 3 RX6 := X
  unfold m_X6_dropFirst at h
  refine j_iconst X (v := 0) (by decide) dX6_dropFirst_0 ?_
  refine nm_elim h (fun x1 ex1 h => ?_)
  refine j_istore_n X (L' := [(1, .int x1), (0, .ref (ad k0))]) ex1 rfl (by decide) rfl dX6_dropFirst_1 ?_
  refine J.sub [0, 1] rfl ?_
  refine jl_X6_dropFirst_L2 X hl0 (fun σ7 h => ?_) 1000 x1 σ h
  refine j_aload_n X 0 rfl rfl dX6_dropFirst_49 ?_
  refine j_iconst X (v := 0) (by decide) dX6_dropFirst_50 ?_
  refine j_aload_n X 0 rfl rfl dX6_dropFirst_51 ?_
  refine j_geti X cf4 (lay_lt hl0 (by decide)) hl0 3 rfl ⟨rfl, rfl⟩ bw_42 dX6_dropFirst_52 ?_
  refine j_iconst X (v := 1) (by decide) dX6_dropFirst_55 ?_
  refine j_isub X dX6_dropFirst_56 ?_
  refine nm_elim h (fun x8 ex8 h => ?_)
  refine j_mmax X bw_36 bw_37 bw_4 bw_38 ⟨Nat.le_of_ble_eq_true rfl, Nat.le_of_ble_eq_true rfl⟩ dX6_dropFirst_57 ?_
  refine j_topi ex8 ?_
  refine nm_elim h (fun σ9 eσ9 h => ?_)
  refine j_puti X cf4 (lay_lt hl0 (by decide)) hl0 3 rfl ⟨rfl, rfl⟩ (.inl rfl) rfl rfl eσ9 bw_42 dX6_dropFirst_60 ?_
  exact j_vret X Y (ret_wv h) dX6_dropFirst_63

abbrev rm_X2_remember : Room := { frames := 2, cells := 0, slots := 0, locals := 49 }
set_option maxHeartbeats 4000000 in
set_option maxRecDepth 100000 in
theorem jl_X2_remember_L34 {β : Type} {Γ : Cx} {E : Ev} {ad : Nat → Nat} (X : XC Γ E rm_X2_remember cX2_remember 3 RX2) {k0 : Nat} (hl0 : lay k0 = 1) {c1 : Int32}  {kx : Sg → Option (β)} {r : β}  (hkx : ∀ (σ : Sg), kx σ = some r → J Γ E 3 ad RF 85 σ 0 0 65 [(1, .int c1), (0, .ref (ad k0))] []) : ∀ n (v2 : Int32) (σ : Sg), m_X2_remember_L34 k0 c1 kx n v2 σ = some r → J Γ E 3 ad RF 85 σ 0 0 34 [(2, .int v2), (1, .int c1), (0, .ref (ad k0))] [] := by
  intro n
  induction n with
  | zero =>
    intro v2 σ h
    cases h
  | succ n ih =>
    intro v2 σ h
    rw [m_X2_remember_L34.eq_2] at h
    refine j_iload_n X 0 rfl rfl dX2_remember_34 ?_
    refine j_iconst X (v := 4) (by decide) dX2_remember_35 ?_
    refine j_icmp_ge X (tgt := 65) (by decide) dX2_remember_36 (fun c => ?_) (fun c => ?_)
    · have h := (if_pos c).symm.trans h
      exact J.sub [1, 2] rfl (hkx σ h)
    · have h := (if_neg c).symm.trans h
      refine j_aload_n X 2 rfl rfl dX2_remember_39 ?_
      refine j_getr X cf1 (lay_lt hl0 (by decide)) hl0 7 rfl ⟨rfl, rfl⟩ (k0 + 13) (RF_H7 hl0) bw_80 dX2_remember_40 ?_
      refine j_iload_n X 1 rfl rfl dX2_remember_43 ?_
      refine j_iconst X (v := 1) (by decide) dX2_remember_44 ?_
      refine j_iload_n X 0 rfl rfl dX2_remember_45 ?_
      refine j_iadd X dX2_remember_46 ?_
      refine j_aload_n X 2 rfl rfl dX2_remember_47 ?_
      refine j_getr X cf1 (lay_lt hl0 (by decide)) hl0 3 rfl ⟨rfl, rfl⟩ (k0 + 5) (RF_H3 hl0) bw_70 dX2_remember_48 ?_
      refine j_iload_n X 0 rfl rfl dX2_remember_51 ?_
      refine j_iconst X (v := 0) (by decide) dX2_remember_52 ?_
      refine bd1_elim h (fun r9 hc10 h => ?_)
      refine j_callVi X (As := [.int v2, .int (0 : Int32)]) (rest := [.int ((1 : Int32) + v2), .int c1, .ref (ad (k0 + 13))]) mf_X6_get bw_382 bw_281 bs_341 ⟨rfl, rfl⟩ ⟨Nat.le_of_ble_eq_true rfl, Nat.le_of_ble_eq_true rfl⟩ cf4 (lay_lt (lay_H3 hl0) (by decide)) (lay_H3 hl0) (c_X6_get Γ.2.1 E ad (lay_H3 hl0) hc10) rfl rfl (Nat.le_of_ble_eq_true rfl) dX2_remember_53 ?_
      refine bd1_elim h (fun σ11 hc12 h => ?_)
      refine j_callVv X (As := [.int c1, .int ((1 : Int32) + v2), .int r9]) (rest := []) mf_X6_set bw_210 bw_211 bs_271 ⟨rfl, rfl⟩ ⟨Nat.le_of_ble_eq_true rfl, Nat.le_of_ble_eq_true rfl⟩ cf4 (lay_lt (lay_H7 hl0) (by decide)) (lay_H7 hl0) (c_X6_set Γ.2.1 E ad (lay_H7 hl0) hc12) rfl rfl (Nat.le_of_ble_eq_true rfl) dX2_remember_56 ?_
      refine nm_elim h (fun x13 ex13 h => ?_)
      refine j_iinc1 X (L' := [(2, .int x13), (1, .int c1), (0, .ref (ad k0))]) 0 rfl (q := 1) (by decide) ex13 (by decide) rfl dX2_remember_59 ?_
      refine j_goto X (tgt := 34) (by decide) dX2_remember_62 ?_
      exact J.sub [0, 1, 2] rfl (ih x13 σ11 h)
set_option maxHeartbeats 4000000 in
set_option maxRecDepth 100000 in
theorem jl_X2_remember_L67 {Γ : Cx} {E : Ev} {ad : Nat → Nat} (X : XC Γ E rm_X2_remember cX2_remember 3 RX2) {k0 : Nat} (hl0 : lay k0 = 1) {c1 : Int32}  {kx : Sg → Option (Sg)} {r : Sg} (Y : XQ Γ E ad none (none, r))  : ∀ n (v2 : Int32) (σ : Sg), m_X2_remember_L67 k0 c1 kx n v2 σ = some r → J Γ E 3 ad RF 85 σ 0 0 67 [(2, .int v2), (1, .int c1), (0, .ref (ad k0))] [] := by
  intro n
  induction n with
  | zero =>
    intro v2 σ h
    cases h
  | succ n ih =>
    intro v2 σ h
    rw [m_X2_remember_L67.eq_2] at h
    refine j_iload_n X 0 rfl rfl dX2_remember_67 ?_
    refine j_iconst X (v := 3) (by decide) dX2_remember_68 ?_
    refine j_icmp_ge X (tgt := 119) (by decide) dX2_remember_69 (fun c => ?_) (fun c => ?_)
    · have h := (if_pos c).symm.trans h
      exact j_vret X Y (ret_wv h) dX2_remember_119
    · have h := (if_neg c).symm.trans h
      refine j_aload_n X 2 rfl rfl dX2_remember_72 ?_
      refine j_getr X cf1 (lay_lt hl0 (by decide)) hl0 7 rfl ⟨rfl, rfl⟩ (k0 + 13) (RF_H7 hl0) bw_80 dX2_remember_73 ?_
      refine j_iload_n X 1 rfl rfl dX2_remember_76 ?_
      refine j_iconst X (v := 5) (by decide) dX2_remember_77 ?_
      refine j_iload_n X 0 rfl rfl dX2_remember_78 ?_
      refine j_iadd X dX2_remember_79 ?_
      refine j_aload_n X 2 rfl rfl dX2_remember_80 ?_
      refine j_getr X cf1 (lay_lt hl0 (by decide)) hl0 2 rfl ⟨rfl, rfl⟩ (k0 + 3) (RF_H2 hl0) bw_65 dX2_remember_81 ?_
      refine j_iload_n X 0 rfl rfl dX2_remember_84 ?_
      refine j_iconst X (v := 1) (by decide) dX2_remember_85 ?_
      refine bd1_elim h (fun r16 hc17 h => ?_)
      refine j_callVi X (As := [.int v2, .int (1 : Int32)]) (rest := [.int ((5 : Int32) + v2), .int c1, .ref (ad (k0 + 13))]) mf_X6_get bw_382 bw_281 bs_341 ⟨rfl, rfl⟩ ⟨Nat.le_of_ble_eq_true rfl, Nat.le_of_ble_eq_true rfl⟩ cf4 (lay_lt (lay_H2 hl0) (by decide)) (lay_H2 hl0) (c_X6_get Γ.2.1 E ad (lay_H2 hl0) hc17) rfl rfl (Nat.le_of_ble_eq_true rfl) dX2_remember_86 ?_
      refine bd1_elim h (fun σ18 hc19 h => ?_)
      refine j_callVv X (As := [.int c1, .int ((5 : Int32) + v2), .int r16]) (rest := []) mf_X6_set bw_210 bw_211 bs_271 ⟨rfl, rfl⟩ ⟨Nat.le_of_ble_eq_true rfl, Nat.le_of_ble_eq_true rfl⟩ cf4 (lay_lt (lay_H7 hl0) (by decide)) (lay_H7 hl0) (c_X6_set Γ.2.1 E ad (lay_H7 hl0) hc19) rfl rfl (Nat.le_of_ble_eq_true rfl) dX2_remember_89 ?_
      refine j_aload_n X 2 rfl rfl dX2_remember_92 ?_
      refine j_getr X cf1 (lay_lt hl0 (by decide)) hl0 7 rfl ⟨rfl, rfl⟩ (k0 + 13) (RF_H7 hl0) bw_80 dX2_remember_93 ?_
      refine j_iload_n X 1 rfl rfl dX2_remember_96 ?_
      refine j_bipush X (v := 8) (by decide) dX2_remember_97 ?_
      refine j_iload_n X 0 rfl rfl dX2_remember_99 ?_
      refine j_iadd X dX2_remember_100 ?_
      refine j_aload_n X 2 rfl rfl dX2_remember_101 ?_
      refine j_getr X cf1 (lay_lt hl0 (by decide)) hl0 2 rfl ⟨rfl, rfl⟩ (k0 + 3) (RF_H2 hl0) bw_65 dX2_remember_102 ?_
      refine j_iload_n X 0 rfl rfl dX2_remember_105 ?_
      refine j_iconst X (v := 2) (by decide) dX2_remember_106 ?_
      refine bd1_elim h (fun r20 hc21 h => ?_)
      refine j_callVi X (As := [.int v2, .int (2 : Int32)]) (rest := [.int ((8 : Int32) + v2), .int c1, .ref (ad (k0 + 13))]) mf_X6_get bw_382 bw_281 bs_341 ⟨rfl, rfl⟩ ⟨Nat.le_of_ble_eq_true rfl, Nat.le_of_ble_eq_true rfl⟩ cf4 (lay_lt (lay_H2 hl0) (by decide)) (lay_H2 hl0) (c_X6_get Γ.2.1 E ad (lay_H2 hl0) hc21) rfl rfl (Nat.le_of_ble_eq_true rfl) dX2_remember_107 ?_
      refine bd1_elim h (fun σ22 hc23 h => ?_)
      refine j_callVv X (As := [.int c1, .int ((8 : Int32) + v2), .int r20]) (rest := []) mf_X6_set bw_210 bw_211 bs_271 ⟨rfl, rfl⟩ ⟨Nat.le_of_ble_eq_true rfl, Nat.le_of_ble_eq_true rfl⟩ cf4 (lay_lt (lay_H7 hl0) (by decide)) (lay_H7 hl0) (c_X6_set Γ.2.1 E ad (lay_H7 hl0) hc23) rfl rfl (Nat.le_of_ble_eq_true rfl) dX2_remember_110 ?_
      refine nm_elim h (fun x24 ex24 h => ?_)
      refine j_iinc1 X (L' := [(2, .int x24), (1, .int c1), (0, .ref (ad k0))]) 0 rfl (q := 1) (by decide) ex24 (by decide) rfl dX2_remember_113 ?_
      refine j_goto X (tgt := 67) (by decide) dX2_remember_116 ?_
      exact J.sub [0, 1, 2] rfl (ih x24 σ22 h)
set_option maxHeartbeats 4000000 in
set_option maxRecDepth 100000 in
theorem c_X2_remember (l : Launch) (E : Ev) (ad : Nat → Nat) {k0 : Nat} (hl0 : lay k0 = 1)  {σ : Sg} {r : Sg} (h : m_X2_remember k0 σ = some r) : Met l yX2_remember (wY yX2_remember cX2_remember 3 none) rm_X2_remember (va_Pc [.ref (ad k0)] (PreU E ad RF 85 σ)) (QcN E ad (none, r)) 0 0 (EA E) := by
  refine met_of (L0 := [(0, .ref (ad k0))]) rfl (Nat.le_of_ble_eq_true rfl) rfl (fun Γ X Y => ?_)
  have X : XC Γ E rm_X2_remember cX2_remember 3 RX2 := X
  unfold m_X2_remember at h
  refine j_aload_n X 0 rfl rfl dX2_remember_0 ?_
  refine j_getr X cf1 (lay_lt hl0 (by decide)) hl0 7 rfl ⟨rfl, rfl⟩ (k0 + 13) (RF_H7 hl0) bw_80 dX2_remember_1 ?_
  refine bd1_elim h (fun r1 hc2 h => ?_)
  refine j_callVi X (As := []) (rest := []) mf_X6_isFull bw_442 bw_232 bs_292 ⟨rfl, rfl⟩ ⟨Nat.le_of_ble_eq_true rfl, Nat.le_of_ble_eq_true rfl⟩ cf4 (lay_lt (lay_H7 hl0) (by decide)) (lay_H7 hl0) (c_X6_isFull Γ.2.1 E ad (lay_H7 hl0) hc2) rfl rfl (Nat.le_of_ble_eq_true rfl) dX2_remember_4 ?_
  refine bd1_elim h (fun σ4 hr h => ?_)
  have hJ3 : J Γ E 3 ad RF 85 σ4 0 0 17 [(0, .ref (ad k0))] [] := by
    refine j_aload_n X 0 rfl rfl dX2_remember_17 ?_
    refine j_getr X cf1 (lay_lt hl0 (by decide)) hl0 7 rfl ⟨rfl, rfl⟩ (k0 + 13) (RF_H7 hl0) bw_80 dX2_remember_18 ?_
    refine j_aload_n X 0 rfl rfl dX2_remember_21 ?_
    refine j_geti X cf1 (lay_lt hl0 (by decide)) hl0 0 rfl ⟨rfl, rfl⟩ bw_58 dX2_remember_22 ?_
    refine j_iconst X (v := 0) (by decide) dX2_remember_25 ?_
    refine j_iconst X (v := 0) (by decide) dX2_remember_26 ?_
    refine j_iconst X (v := 0) (by decide) dX2_remember_27 ?_
    refine bd2_elim h (fun r5 σ6 hc7 h => ?_)
    refine j_callVi X (As := [.int (σ4.1 k0 0), .int (0 : Int32), .int (0 : Int32), .int (0 : Int32)]) (rest := []) mf_X6_add bw_243 bw_244 bs_304 ⟨rfl, rfl⟩ ⟨Nat.le_of_ble_eq_true rfl, Nat.le_of_ble_eq_true rfl⟩ cf4 (lay_lt (lay_H7 hl0) (by decide)) (lay_H7 hl0) (c_X6_add Γ.2.1 E ad (lay_H7 hl0) hc7) rfl rfl (Nat.le_of_ble_eq_true rfl) dX2_remember_28 ?_
    refine j_istore_n X (L' := [(1, .int r5), (0, .ref (ad k0))]) rfl rfl (by decide) rfl dX2_remember_31 ?_
    refine j_iconst X (v := 0) (by decide) dX2_remember_32 ?_
    refine nm_elim h (fun x8 ex8 h => ?_)
    refine j_istore_n X (L' := [(2, .int x8), (1, .int r5), (0, .ref (ad k0))]) ex8 rfl (by decide) rfl dX2_remember_33 ?_
    refine J.sub [0, 1, 2] rfl ?_
    refine jl_X2_remember_L34 X hl0 (fun σ14 h => ?_) 1000 x8 σ6 h
    refine j_iconst X (v := 0) (by decide) dX2_remember_65 ?_
    refine nm_elim h (fun x15 ex15 h => ?_)
    refine j_istore_n X (L' := [(2, .int x15), (1, .int r5), (0, .ref (ad k0))]) ex15 rfl (by decide) rfl dX2_remember_66 ?_
    refine J.sub [0, 1, 2] rfl ?_
    exact jl_X2_remember_L67 X hl0 Y 1000 x15 σ14 h
  clear h
  refine j_if_eq X (tgt := 17) (by decide) dX2_remember_7 (fun c => ?_) (fun c => ?_)
  · have hr := (if_pos c).symm.trans hr
    cases hr
    exact J.sub [0] rfl hJ3
  · have hr := (if_neg c).symm.trans hr
    refine j_aload_n X 0 rfl rfl dX2_remember_10 ?_
    refine j_getr X cf1 (lay_lt hl0 (by decide)) hl0 7 rfl ⟨rfl, rfl⟩ (k0 + 13) (RF_H7 hl0) bw_80 dX2_remember_11 ?_
    refine bd1_elim hr (fun σ26 hc27 hr => ?_)
    refine j_callVv X (As := []) (rest := []) mf_X6_dropFirst bw_443 bw_444 bs_504 ⟨rfl, rfl⟩ ⟨Nat.le_of_ble_eq_true rfl, Nat.le_of_ble_eq_true rfl⟩ cf4 (lay_lt (lay_H7 hl0) (by decide)) (lay_H7 hl0) (c_X6_dropFirst Γ.2.1 E ad (lay_H7 hl0) hc27) rfl rfl (Nat.le_of_ble_eq_true rfl) dX2_remember_14 ?_
    cases hr
    exact J.sub [0] rfl hJ3

abbrev rm_X2_recall : Room := { frames := 1, cells := 0, slots := 0, locals := 24 }
set_option maxHeartbeats 4000000 in
set_option maxRecDepth 100000 in
theorem jl_X2_recall_L48 {β : Type} {Γ : Cx} {E : Ev} {ad : Nat → Nat} (X : XC Γ E rm_X2_recall cX2_recall 3 RX2) {k0 : Nat} (hl0 : lay k0 = 1) {c1 : Int32}  {kx : Sg → Option (β)} {r : β}  (hkx : ∀ (σ : Sg), kx σ = some r → J Γ E 3 ad RF 85 σ 0 0 79 [(1, .int c1), (0, .ref (ad k0))] []) : ∀ n (v2 : Int32) (σ : Sg), m_X2_recall_L48 k0 c1 kx n v2 σ = some r → J Γ E 3 ad RF 85 σ 0 0 48 [(2, .int v2), (1, .int c1), (0, .ref (ad k0))] [] := by
  intro n
  induction n with
  | zero =>
    intro v2 σ h
    cases h
  | succ n ih =>
    intro v2 σ h
    rw [m_X2_recall_L48.eq_2] at h
    refine j_iload_n X 0 rfl rfl dX2_recall_48 ?_
    refine j_iconst X (v := 4) (by decide) dX2_recall_49 ?_
    refine j_icmp_ge X (tgt := 79) (by decide) dX2_recall_50 (fun c => ?_) (fun c => ?_)
    · have h := (if_pos c).symm.trans h
      exact J.sub [1, 2] rfl (hkx σ h)
    · have h := (if_neg c).symm.trans h
      refine j_aload_n X 2 rfl rfl dX2_recall_53 ?_
      refine j_getr X cf1 (lay_lt hl0 (by decide)) hl0 3 rfl ⟨rfl, rfl⟩ (k0 + 5) (RF_H3 hl0) bw_70 dX2_recall_54 ?_
      refine j_iload_n X 0 rfl rfl dX2_recall_57 ?_
      refine j_iconst X (v := 0) (by decide) dX2_recall_58 ?_
      refine j_aload_n X 2 rfl rfl dX2_recall_59 ?_
      refine j_getr X cf1 (lay_lt hl0 (by decide)) hl0 7 rfl ⟨rfl, rfl⟩ (k0 + 13) (RF_H7 hl0) bw_80 dX2_recall_60 ?_
      refine j_iload_n X 1 rfl rfl dX2_recall_63 ?_
      refine j_iconst X (v := 1) (by decide) dX2_recall_64 ?_
      refine j_iload_n X 0 rfl rfl dX2_recall_65 ?_
      refine j_iadd X dX2_recall_66 ?_
      refine bd1_elim h (fun r7 hc8 h => ?_)
      refine j_callVi X (As := [.int c1, .int ((1 : Int32) + v2)]) (rest := [.int (0 : Int32), .int v2, .ref (ad (k0 + 5))]) mf_X6_get bw_382 bw_281 bs_341 ⟨rfl, rfl⟩ ⟨Nat.le_of_ble_eq_true rfl, Nat.le_of_ble_eq_true rfl⟩ cf4 (lay_lt (lay_H7 hl0) (by decide)) (lay_H7 hl0) (c_X6_get Γ.2.1 E ad (lay_H7 hl0) hc8) rfl rfl (Nat.le_of_ble_eq_true rfl) dX2_recall_67 ?_
      refine bd1_elim h (fun σ9 hc10 h => ?_)
      refine j_callVv X (As := [.int v2, .int (0 : Int32), .int r7]) (rest := []) mf_X6_set bw_210 bw_211 bs_271 ⟨rfl, rfl⟩ ⟨Nat.le_of_ble_eq_true rfl, Nat.le_of_ble_eq_true rfl⟩ cf4 (lay_lt (lay_H3 hl0) (by decide)) (lay_H3 hl0) (c_X6_set Γ.2.1 E ad (lay_H3 hl0) hc10) rfl rfl (Nat.le_of_ble_eq_true rfl) dX2_recall_70 ?_
      refine nm_elim h (fun x11 ex11 h => ?_)
      refine j_iinc1 X (L' := [(2, .int x11), (1, .int c1), (0, .ref (ad k0))]) 0 rfl (q := 1) (by decide) ex11 (by decide) rfl dX2_recall_73 ?_
      refine j_goto X (tgt := 48) (by decide) dX2_recall_76 ?_
      exact J.sub [0, 1, 2] rfl (ih x11 σ9 h)
set_option maxHeartbeats 4000000 in
set_option maxRecDepth 100000 in
theorem jl_X2_recall_L81 {Γ : Cx} {E : Ev} {ad : Nat → Nat} (X : XC Γ E rm_X2_recall cX2_recall 3 RX2) {k0 : Nat} (hl0 : lay k0 = 1) {c1 : Int32}  {kx : Sg → Option (Sg)} {r : Sg} (Y : XQ Γ E ad none (none, r))  : ∀ n (v2 : Int32) (σ : Sg), m_X2_recall_L81 k0 c1 kx n v2 σ = some r → J Γ E 3 ad RF 85 σ 0 0 81 [(2, .int v2), (1, .int c1), (0, .ref (ad k0))] [] := by
  intro n
  induction n with
  | zero =>
    intro v2 σ h
    cases h
  | succ n ih =>
    intro v2 σ h
    rw [m_X2_recall_L81.eq_2] at h
    refine j_iload_n X 0 rfl rfl dX2_recall_81 ?_
    refine j_iconst X (v := 3) (by decide) dX2_recall_82 ?_
    refine j_icmp_ge X (tgt := 133) (by decide) dX2_recall_83 (fun c => ?_) (fun c => ?_)
    · have h := (if_pos c).symm.trans h
      exact j_vret X Y (ret_wv h) dX2_recall_133
    · have h := (if_neg c).symm.trans h
      refine j_aload_n X 2 rfl rfl dX2_recall_86 ?_
      refine j_getr X cf1 (lay_lt hl0 (by decide)) hl0 2 rfl ⟨rfl, rfl⟩ (k0 + 3) (RF_H2 hl0) bw_65 dX2_recall_87 ?_
      refine j_iload_n X 0 rfl rfl dX2_recall_90 ?_
      refine j_iconst X (v := 1) (by decide) dX2_recall_91 ?_
      refine j_aload_n X 2 rfl rfl dX2_recall_92 ?_
      refine j_getr X cf1 (lay_lt hl0 (by decide)) hl0 7 rfl ⟨rfl, rfl⟩ (k0 + 13) (RF_H7 hl0) bw_80 dX2_recall_93 ?_
      refine j_iload_n X 1 rfl rfl dX2_recall_96 ?_
      refine j_iconst X (v := 5) (by decide) dX2_recall_97 ?_
      refine j_iload_n X 0 rfl rfl dX2_recall_98 ?_
      refine j_iadd X dX2_recall_99 ?_
      refine bd1_elim h (fun r14 hc15 h => ?_)
      refine j_callVi X (As := [.int c1, .int ((5 : Int32) + v2)]) (rest := [.int (1 : Int32), .int v2, .ref (ad (k0 + 3))]) mf_X6_get bw_382 bw_281 bs_341 ⟨rfl, rfl⟩ ⟨Nat.le_of_ble_eq_true rfl, Nat.le_of_ble_eq_true rfl⟩ cf4 (lay_lt (lay_H7 hl0) (by decide)) (lay_H7 hl0) (c_X6_get Γ.2.1 E ad (lay_H7 hl0) hc15) rfl rfl (Nat.le_of_ble_eq_true rfl) dX2_recall_100 ?_
      refine bd1_elim h (fun σ16 hc17 h => ?_)
      refine j_callVv X (As := [.int v2, .int (1 : Int32), .int r14]) (rest := []) mf_X6_set bw_210 bw_211 bs_271 ⟨rfl, rfl⟩ ⟨Nat.le_of_ble_eq_true rfl, Nat.le_of_ble_eq_true rfl⟩ cf4 (lay_lt (lay_H2 hl0) (by decide)) (lay_H2 hl0) (c_X6_set Γ.2.1 E ad (lay_H2 hl0) hc17) rfl rfl (Nat.le_of_ble_eq_true rfl) dX2_recall_103 ?_
      refine j_aload_n X 2 rfl rfl dX2_recall_106 ?_
      refine j_getr X cf1 (lay_lt hl0 (by decide)) hl0 2 rfl ⟨rfl, rfl⟩ (k0 + 3) (RF_H2 hl0) bw_65 dX2_recall_107 ?_
      refine j_iload_n X 0 rfl rfl dX2_recall_110 ?_
      refine j_iconst X (v := 2) (by decide) dX2_recall_111 ?_
      refine j_aload_n X 2 rfl rfl dX2_recall_112 ?_
      refine j_getr X cf1 (lay_lt hl0 (by decide)) hl0 7 rfl ⟨rfl, rfl⟩ (k0 + 13) (RF_H7 hl0) bw_80 dX2_recall_113 ?_
      refine j_iload_n X 1 rfl rfl dX2_recall_116 ?_
      refine j_bipush X (v := 8) (by decide) dX2_recall_117 ?_
      refine j_iload_n X 0 rfl rfl dX2_recall_119 ?_
      refine j_iadd X dX2_recall_120 ?_
      refine bd1_elim h (fun r18 hc19 h => ?_)
      refine j_callVi X (As := [.int c1, .int ((8 : Int32) + v2)]) (rest := [.int (2 : Int32), .int v2, .ref (ad (k0 + 3))]) mf_X6_get bw_382 bw_281 bs_341 ⟨rfl, rfl⟩ ⟨Nat.le_of_ble_eq_true rfl, Nat.le_of_ble_eq_true rfl⟩ cf4 (lay_lt (lay_H7 hl0) (by decide)) (lay_H7 hl0) (c_X6_get Γ.2.1 E ad (lay_H7 hl0) hc19) rfl rfl (Nat.le_of_ble_eq_true rfl) dX2_recall_121 ?_
      refine bd1_elim h (fun σ20 hc21 h => ?_)
      refine j_callVv X (As := [.int v2, .int (2 : Int32), .int r18]) (rest := []) mf_X6_set bw_210 bw_211 bs_271 ⟨rfl, rfl⟩ ⟨Nat.le_of_ble_eq_true rfl, Nat.le_of_ble_eq_true rfl⟩ cf4 (lay_lt (lay_H2 hl0) (by decide)) (lay_H2 hl0) (c_X6_set Γ.2.1 E ad (lay_H2 hl0) hc21) rfl rfl (Nat.le_of_ble_eq_true rfl) dX2_recall_124 ?_
      refine nm_elim h (fun x22 ex22 h => ?_)
      refine j_iinc1 X (L' := [(2, .int x22), (1, .int c1), (0, .ref (ad k0))]) 0 rfl (q := 1) (by decide) ex22 (by decide) rfl dX2_recall_127 ?_
      refine j_goto X (tgt := 81) (by decide) dX2_recall_130 ?_
      exact J.sub [0, 1, 2] rfl (ih x22 σ20 h)
set_option maxHeartbeats 4000000 in
set_option maxRecDepth 100000 in
theorem c_X2_recall (l : Launch) (E : Ev) (ad : Nat → Nat) {k0 : Nat} (hl0 : lay k0 = 1)  {σ : Sg} {r : Sg} (h : m_X2_recall k0 σ = some r) : Met l yX2_recall (wY yX2_recall cX2_recall 3 none) rm_X2_recall (va_Pc [.ref (ad k0)] (PreU E ad RF 85 σ)) (QcN E ad (none, r)) 0 0 (EA E) := by
  refine met_of (L0 := [(0, .ref (ad k0))]) rfl (Nat.le_of_ble_eq_true rfl) rfl (fun Γ X Y => ?_)
  have X : XC Γ E rm_X2_recall cX2_recall 3 RX2 := X
  unfold m_X2_recall at h
  refine j_aload_n X 0 rfl rfl dX2_recall_0 ?_
  refine j_getr X cf1 (lay_lt hl0 (by decide)) hl0 7 rfl ⟨rfl, rfl⟩ (k0 + 13) (RF_H7 hl0) bw_80 dX2_recall_1 ?_
  refine j_geti X cf4 (lay_lt (lay_H7 hl0) (by decide)) (lay_H7 hl0) 3 rfl ⟨rfl, rfl⟩ bw_47 dX2_recall_4 ?_
  refine j_iconst X (v := 1) (by decide) dX2_recall_7 ?_
  refine j_icmp_ge X (tgt := 12) (by decide) dX2_recall_8 (fun c => ?_) (fun c => ?_)
  · have h := (if_pos c).symm.trans h
    refine j_aload_n X 0 rfl rfl dX2_recall_12 ?_
    refine j_getr X cf1 (lay_lt hl0 (by decide)) hl0 7 rfl ⟨rfl, rfl⟩ (k0 + 13) (RF_H7 hl0) bw_80 dX2_recall_13 ?_
    refine j_dup X rfl dX2_recall_16 ?_
    refine j_geti X cf4 (lay_lt (lay_H7 hl0) (by decide)) (lay_H7 hl0) 3 rfl ⟨rfl, rfl⟩ bw_47 dX2_recall_17 ?_
    refine j_iconst X (v := 1) (by decide) dX2_recall_20 ?_
    refine j_isub X dX2_recall_21 ?_
    refine nm_elim h (fun σ1 eσ1 h => ?_)
    refine j_puti X cf4 (lay_lt (lay_H7 hl0) (by decide)) (lay_H7 hl0) 3 rfl ⟨rfl, rfl⟩ (.inl rfl) rfl rfl eσ1 bw_47 dX2_recall_22 ?_
    refine j_aload_n X 0 rfl rfl dX2_recall_25 ?_
    refine j_getr X cf1 (lay_lt hl0 (by decide)) hl0 7 rfl ⟨rfl, rfl⟩ (k0 + 13) (RF_H7 hl0) bw_80 dX2_recall_26 ?_
    refine j_geti X cf4 (lay_lt (lay_H7 hl0) (by decide)) (lay_H7 hl0) 3 rfl ⟨rfl, rfl⟩ bw_47 dX2_recall_29 ?_
    refine nm_elim h (fun x2 ex2 h => ?_)
    refine j_istore_n X (L' := [(1, .int x2), (0, .ref (ad k0))]) ex2 rfl (by decide) rfl dX2_recall_32 ?_
    refine j_aload_n X 1 rfl rfl dX2_recall_33 ?_
    refine j_aload_n X 1 rfl rfl dX2_recall_34 ?_
    refine j_getr X cf1 (lay_lt hl0 (by decide)) hl0 7 rfl ⟨rfl, rfl⟩ (k0 + 13) (RF_H7 hl0) bw_80 dX2_recall_35 ?_
    refine j_iload_n X 0 rfl rfl dX2_recall_38 ?_
    refine j_iconst X (v := 0) (by decide) dX2_recall_39 ?_
    refine bd1_elim h (fun r3 hc4 h => ?_)
    refine j_callVi X (As := [.int x2, .int (0 : Int32)]) (rest := [.ref (ad k0)]) mf_X6_get bw_382 bw_281 bs_341 ⟨rfl, rfl⟩ ⟨Nat.le_of_ble_eq_true rfl, Nat.le_of_ble_eq_true rfl⟩ cf4 (lay_lt (lay_H7 hl0) (by decide)) (lay_H7 hl0) (c_X6_get Γ.2.1 E ad (lay_H7 hl0) hc4) rfl rfl (Nat.le_of_ble_eq_true rfl) dX2_recall_40 ?_
    refine nm_elim h (fun σ5 eσ5 h => ?_)
    refine j_puti X cf1 (lay_lt hl0 (by decide)) hl0 0 rfl ⟨rfl, rfl⟩ (.inl rfl) rfl rfl eσ5 bw_58 dX2_recall_43 ?_
    refine j_iconst X (v := 0) (by decide) dX2_recall_46 ?_
    refine nm_elim h (fun x6 ex6 h => ?_)
    refine j_istore_n X (L' := [(2, .int x6), (1, .int x2), (0, .ref (ad k0))]) ex6 rfl (by decide) rfl dX2_recall_47 ?_
    refine J.sub [0, 1, 2] rfl ?_
    refine jl_X2_recall_L48 X hl0 (fun σ12 h => ?_) 1000 x6 σ5 h
    refine j_iconst X (v := 0) (by decide) dX2_recall_79 ?_
    refine nm_elim h (fun x13 ex13 h => ?_)
    refine j_istore_n X (L' := [(2, .int x13), (1, .int x2), (0, .ref (ad k0))]) ex13 rfl (by decide) rfl dX2_recall_80 ?_
    refine J.sub [0, 1, 2] rfl ?_
    exact jl_X2_recall_L81 X hl0 Y 1000 x13 σ12 h
  · have h := (if_neg c).symm.trans h
    exact j_vret X Y (ret_wv h) dX2_recall_11

abbrev rm_X4_firstHearing : Room := { frames := 3, cells := 0, slots := 0, locals := 79 }
set_option maxHeartbeats 4000000 in
set_option maxRecDepth 100000 in
theorem jl_X4_firstHearing_L13 {Γ : Cx} {E : Ev} {ad : Nat → Nat} (X : XC Γ E rm_X4_firstHearing cX4_firstHearing 5 RX4) {k0 : Nat} (hl0 : lay k0 = 1) {c3 : Int32} {c1 : Int32} {c2 : Int32} {σ : Sg} {kx : Unit → Option (Int32)} {r : Int32} (Y : XQ Γ E ad (some .int) (some (.int r), σ))  : ∀ n (v4 : Int32), m_X4_firstHearing_L13 k0 c3 c1 c2 σ kx n v4 = some r → J Γ E 5 ad RF 85 σ 0 0 13 [(4, .int v4), (3, .int c3), (0, .ref (ad k0)), (1, .int c1), (2, .int c2)] [] := by
  intro n
  induction n with
  | zero =>
    intro v4 h
    cases h
  | succ n ih =>
    intro v4 h
    rw [m_X4_firstHearing_L13.eq_2] at h
    refine j_iload X 0 rfl dX4_firstHearing_13 ?_
    refine j_bipush X (v := 40) (by decide) dX4_firstHearing_15 ?_
    refine j_icmp_gt X (tgt := 49) (by decide) dX4_firstHearing_17 (fun c => ?_) (fun c => ?_)
    · have h := (if_pos c).symm.trans h
      refine j_iconst X (v := -1) (by decide) dX4_firstHearing_49 ?_
      exact j_iret X Y rfl (ret_pi h) dX4_firstHearing_50
    · have h := (if_neg c).symm.trans h
      refine j_aload_n X 2 rfl rfl dX4_firstHearing_20 ?_
      refine j_iload_n X 3 rfl rfl dX4_firstHearing_21 ?_
      refine j_iload_n X 1 rfl rfl dX4_firstHearing_22 ?_
      refine j_aload_n X 2 rfl rfl dX4_firstHearing_23 ?_
      refine j_iload_n X 1 rfl rfl dX4_firstHearing_24 ?_
      refine j_iload X 0 rfl dX4_firstHearing_25 ?_
      refine bd1_elim h (fun r4 hc5 h => ?_)
      refine j_callVi X (As := [.int c3, .int v4]) (rest := [.int c3, .int c1, .ref (ad k0)]) mf_X2_roomMinute bw_530 bw_384 bs_444 ⟨rfl, rfl⟩ ⟨Nat.le_of_ble_eq_true rfl, Nat.le_of_ble_eq_true rfl⟩ cf1 (lay_lt hl0 (by decide)) hl0 (c_X2_roomMinute Γ.2.1 E ad hl0 hc5) rfl rfl (Nat.le_of_ble_eq_true rfl) dX4_firstHearing_27 ?_
      refine bd1_elim h (fun r6 hc7 h => ?_)
      refine j_callVi X (As := [.int c1, .int c3, .int r4]) (rest := []) mf_X2_heardIn bw_531 bw_395 bs_455 ⟨rfl, rfl⟩ ⟨Nat.le_of_ble_eq_true rfl, Nat.le_of_ble_eq_true rfl⟩ cf1 (lay_lt hl0 (by decide)) hl0 (c_X2_heardIn Γ.2.1 E ad hl0 hc7) rfl rfl (Nat.le_of_ble_eq_true rfl) dX4_firstHearing_30 ?_
      refine j_iload_n X 4 rfl rfl dX4_firstHearing_33 ?_
      refine bd1_elim h (fun r8 hc9 h => ?_)
      refine j_callSNi X (As := [.int r6, .int c2]) (rest := []) mf_X7_isIn (by simp [nestL]) bw_407 ⟨rfl, rfl⟩ ⟨Nat.le_of_ble_eq_true rfl, Nat.le_of_ble_eq_true rfl⟩ (c_X7_isIn Γ.2.1 E ad  hc9) rfl rfl (Nat.le_of_ble_eq_true rfl) dX4_firstHearing_34 ?_
      refine j_if_eq X (tgt := 43) (by decide) dX4_firstHearing_37 (fun c => ?_) (fun c => ?_)
      · have h := (if_pos c).symm.trans h
        refine nm_elim h (fun x10 ex10 h => ?_)
        refine j_iinc1 X (L' := [(4, .int x10), (3, .int c3), (0, .ref (ad k0)), (1, .int c1), (2, .int c2)]) 0 rfl (q := 1) (by decide) ex10 (by decide) rfl dX4_firstHearing_43 ?_
        refine j_goto X (tgt := 13) (by decide) dX4_firstHearing_46 ?_
        exact J.sub [0, 1, 2, 3, 4] rfl (ih x10 h)
      · have h := (if_neg c).symm.trans h
        refine j_iload X 0 rfl dX4_firstHearing_40 ?_
        exact j_iret X Y rfl (ret_pi h) dX4_firstHearing_42
set_option maxHeartbeats 4000000 in
set_option maxRecDepth 100000 in
theorem c_X4_firstHearing (l : Launch) (E : Ev) (ad : Nat → Nat) {k0 : Nat} (hl0 : lay k0 = 1) {a1 : Int32} {a2 : Int32} {σ : Sg} {r : Int32} (h : m_X4_firstHearing k0 a1 a2 σ = some r) : Met l yX4_firstHearing (wY yX4_firstHearing cX4_firstHearing 5 (some .int)) rm_X4_firstHearing (va_Pc [.ref (ad k0), .int a1, .int a2] (PreU E ad RF 85 σ)) (QcN E ad (some (.int r), σ)) 0 0 (EA E) := by
  refine met_of (L0 := [(0, .ref (ad k0)), (1, .int a1), (2, .int a2)]) rfl (Nat.le_of_ble_eq_true rfl) rfl (fun Γ X Y => ?_)
  have X : XC Γ E rm_X4_firstHearing cX4_firstHearing 5 RX4 := X
  unfold m_X4_firstHearing at h
  refine j_aload_n X 0 rfl rfl dX4_firstHearing_0 ?_
  refine j_getr X cf1 (lay_lt hl0 (by decide)) hl0 2 rfl ⟨rfl, rfl⟩ (k0 + 3) (RF_H2 hl0) bw_66 dX4_firstHearing_1 ?_
  refine j_iload_n X 1 rfl rfl dX4_firstHearing_4 ?_
  refine j_iconst X (v := 1) (by decide) dX4_firstHearing_5 ?_
  refine bd1_elim h (fun r1 hc2 h => ?_)
  refine j_callVi X (As := [.int a1, .int (1 : Int32)]) (rest := []) mf_X6_get bw_529 bw_281 bs_341 ⟨rfl, rfl⟩ ⟨Nat.le_of_ble_eq_true rfl, Nat.le_of_ble_eq_true rfl⟩ cf4 (lay_lt (lay_H2 hl0) (by decide)) (lay_H2 hl0) (c_X6_get Γ.2.1 E ad (lay_H2 hl0) hc2) rfl rfl (Nat.le_of_ble_eq_true rfl) dX4_firstHearing_6 ?_
  refine j_istore_n X (L' := [(3, .int r1), (0, .ref (ad k0)), (1, .int a1), (2, .int a2)]) rfl rfl (by decide) rfl dX4_firstHearing_9 ?_
  refine j_iconst X (v := 0) (by decide) dX4_firstHearing_10 ?_
  refine nm_elim h (fun x3 ex3 h => ?_)
  refine j_istore X (L' := [(4, .int x3), (3, .int r1), (0, .ref (ad k0)), (1, .int a1), (2, .int a2)]) ex3 (by decide) rfl dX4_firstHearing_11 ?_
  refine J.sub [0, 1, 2, 3, 4] rfl ?_
  exact jl_X4_firstHearing_L13 X hl0 Y 1000 x3 h

abbrev rm_X4_stayIn : Room := { frames := 3, cells := 0, slots := 0, locals := 79 }
set_option maxHeartbeats 4000000 in
set_option maxRecDepth 100000 in
theorem jl_X4_stayIn_L17 {Γ : Cx} {E : Ev} {ad : Nat → Nat} (X : XC Γ E rm_X4_stayIn cX4_stayIn 8 RX4) {k0 : Nat} (hl0 : lay k0 = 1) {c5 : Int32} {c1 : Int32} {c2 : Int32} {c3 : Int32} {c4 : Int32} {σ : Sg} {kx : Unit → Option (Int32)} {r : Int32} (Y : XQ Γ E ad (some .int) (some (.int r), σ))  : ∀ n (v7 : Int32) (v6 : Int32), m_X4_stayIn_L17 k0 c5 c1 c2 c3 c4 σ kx n v7 v6 = some r → J Γ E 8 ad RF 85 σ 0 0 17 [(7, .int v7), (6, .int v6), (5, .int c5), (0, .ref (ad k0)), (1, .int c1), (2, .int c2), (3, .int c3), (4, .int c4)] [] := by
  intro n
  induction n with
  | zero =>
    intro v7 v6 h
    cases h
  | succ n ih =>
    intro v7 v6 h
    rw [m_X4_stayIn_L17.eq_2] at h
    refine j_iload X 0 rfl dX4_stayIn_17 ?_
    refine j_bipush X (v := 30) (by decide) dX4_stayIn_19 ?_
    refine j_icmp_gt X (tgt := 78) (by decide) dX4_stayIn_21 (fun c => ?_) (fun c => ?_)
    · have h := (if_pos c).symm.trans h
      refine j_iconst X (v := -1) (by decide) dX4_stayIn_78 ?_
      exact j_iret X Y rfl (ret_pi h) dX4_stayIn_79
    · have h := (if_neg c).symm.trans h
      refine j_iload X 1 rfl dX4_stayIn_24 ?_
      refine j_iload_n X 6 rfl rfl dX4_stayIn_26 ?_
      refine j_iand X dX4_stayIn_27 ?_
      refine j_if_eq X (tgt := 33) (by decide) dX4_stayIn_28 (fun c => ?_) (fun c => ?_)
      · have h := (if_pos c).symm.trans h
        refine j_iload X 2 rfl dX4_stayIn_33 ?_
        refine j_iload X 1 rfl dX4_stayIn_35 ?_
        refine j_ior X dX4_stayIn_37 ?_
        refine j_iload_n X 5 rfl rfl dX4_stayIn_38 ?_
        refine j_iand X dX4_stayIn_39 ?_
        refine j_iload_n X 5 rfl rfl dX4_stayIn_40 ?_
        refine j_icmp_ne X (tgt := 47) (by decide) dX4_stayIn_41 (fun c => ?_) (fun c => ?_)
        · have h := (if_neg c).symm.trans h
          refine j_iload X 1 rfl dX4_stayIn_47 ?_
          refine j_aload_n X 3 rfl rfl dX4_stayIn_49 ?_
          refine j_iload_n X 4 rfl rfl dX4_stayIn_50 ?_
          refine j_iload X 7 rfl dX4_stayIn_51 ?_
          refine j_iload X 0 rfl dX4_stayIn_53 ?_
          refine j_bipush X (v := 30) (by decide) dX4_stayIn_55 ?_
          refine bd1_elim h (fun o6 hr h => ?_)
          have hJ5 : J Γ E 8 ad RF 85 σ 0 0 66 [(7, .int v7), (5, .int c5), (0, .ref (ad k0)), (1, .int c1), (2, .int c2), (3, .int c3), (4, .int c4)] [.int o6, .int c4, .int c1, .ref (ad k0), .int v6] := by
            refine bd1_elim h (fun r7 hc8 h => ?_)
            refine j_callVi X (As := [.int c1, .int c4, .int o6]) (rest := [.int v6]) mf_X2_heardIn bw_531 bw_395 bs_455 ⟨rfl, rfl⟩ ⟨Nat.le_of_ble_eq_true rfl, Nat.le_of_ble_eq_true rfl⟩ cf1 (lay_lt hl0 (by decide)) hl0 (c_X2_heardIn Γ.2.1 E ad hl0 hc8) rfl rfl (Nat.le_of_ble_eq_true rfl) dX4_stayIn_66 ?_
            refine j_ior X dX4_stayIn_69 ?_
            refine nm_elim h (fun x9 ex9 h => ?_)
            refine j_istore X (L' := [(6, .int x9), (7, .int v7), (5, .int c5), (0, .ref (ad k0)), (1, .int c1), (2, .int c2), (3, .int c3), (4, .int c4)]) ex9 (by decide) rfl dX4_stayIn_70 ?_
            refine nm_elim h (fun x10 ex10 h => ?_)
            refine j_iinc1 X (L' := [(7, .int x10), (6, .int x9), (5, .int c5), (0, .ref (ad k0)), (1, .int c1), (2, .int c2), (3, .int c3), (4, .int c4)]) 1 rfl (q := 1) (by decide) ex10 (by decide) rfl dX4_stayIn_72 ?_
            refine j_goto X (tgt := 17) (by decide) dX4_stayIn_75 ?_
            exact J.sub [0, 1, 2, 3, 4, 5, 6, 7] rfl (ih x10 x9 h)
          clear h
          refine j_icmp_ge X (tgt := 65) (by decide) dX4_stayIn_57 (fun c => ?_) (fun c => ?_)
          · have hr := (if_pos c).symm.trans hr
            refine j_iconst X (v := -1) (by decide) dX4_stayIn_65 ?_
            cases hr
            exact J.sub [0, 2, 3, 4, 5, 6, 7] rfl hJ5
          · have hr := (if_neg c).symm.trans hr
            refine j_iload X 0 rfl dX4_stayIn_60 ?_
            refine j_goto X (tgt := 66) (by decide) dX4_stayIn_62 ?_
            cases hr
            exact J.sub [0, 2, 3, 4, 5, 6, 7] rfl hJ5
        · have h := (if_pos c).symm.trans h
          refine j_iload X 0 rfl dX4_stayIn_44 ?_
          exact j_iret X Y rfl (ret_pi h) dX4_stayIn_46
      · have h := (if_neg c).symm.trans h
        refine j_iconst X (v := -1) (by decide) dX4_stayIn_31 ?_
        exact j_iret X Y rfl (ret_pi h) dX4_stayIn_32
set_option maxHeartbeats 4000000 in
set_option maxRecDepth 100000 in
theorem c_X4_stayIn (l : Launch) (E : Ev) (ad : Nat → Nat) {k0 : Nat} (hl0 : lay k0 = 1) {a1 : Int32} {a2 : Int32} {a3 : Int32} {a4 : Int32} {σ : Sg} {r : Int32} (h : m_X4_stayIn k0 a1 a2 a3 a4 σ = some r) : Met l yX4_stayIn (wY yX4_stayIn cX4_stayIn 8 (some .int)) rm_X4_stayIn (va_Pc [.ref (ad k0), .int a1, .int a2, .int a3, .int a4] (PreU E ad RF 85 σ)) (QcN E ad (some (.int r), σ)) 0 0 (EA E) := by
  refine met_of (L0 := [(0, .ref (ad k0)), (1, .int a1), (2, .int a2), (3, .int a3), (4, .int a4)]) rfl (Nat.le_of_ble_eq_true rfl) rfl (fun Γ X Y => ?_)
  have X : XC Γ E rm_X4_stayIn cX4_stayIn 8 RX4 := X
  unfold m_X4_stayIn at h
  refine j_aload_n X 0 rfl rfl dX4_stayIn_0 ?_
  refine j_getr X cf1 (lay_lt hl0 (by decide)) hl0 2 rfl ⟨rfl, rfl⟩ (k0 + 3) (RF_H2 hl0) bw_66 dX4_stayIn_1 ?_
  refine j_iload_n X 1 rfl rfl dX4_stayIn_4 ?_
  refine j_iconst X (v := 2) (by decide) dX4_stayIn_5 ?_
  refine bd1_elim h (fun r1 hc2 h => ?_)
  refine j_callVi X (As := [.int a1, .int (2 : Int32)]) (rest := []) mf_X6_get bw_529 bw_281 bs_341 ⟨rfl, rfl⟩ ⟨Nat.le_of_ble_eq_true rfl, Nat.le_of_ble_eq_true rfl⟩ cf4 (lay_lt (lay_H2 hl0) (by decide)) (lay_H2 hl0) (c_X6_get Γ.2.1 E ad (lay_H2 hl0) hc2) rfl rfl (Nat.le_of_ble_eq_true rfl) dX4_stayIn_6 ?_
  refine j_istore X (L' := [(5, .int r1), (0, .ref (ad k0)), (1, .int a1), (2, .int a2), (3, .int a3), (4, .int a4)]) rfl (by decide) rfl dX4_stayIn_9 ?_
  refine j_iconst X (v := 0) (by decide) dX4_stayIn_11 ?_
  refine nm_elim h (fun x3 ex3 h => ?_)
  refine j_istore X (L' := [(6, .int x3), (5, .int r1), (0, .ref (ad k0)), (1, .int a1), (2, .int a2), (3, .int a3), (4, .int a4)]) ex3 (by decide) rfl dX4_stayIn_12 ?_
  refine j_iconst X (v := 0) (by decide) dX4_stayIn_14 ?_
  refine nm_elim h (fun x4 ex4 h => ?_)
  refine j_istore X (L' := [(7, .int x4), (6, .int x3), (5, .int r1), (0, .ref (ad k0)), (1, .int a1), (2, .int a2), (3, .int a3), (4, .int a4)]) ex4 (by decide) rfl dX4_stayIn_15 ?_
  refine J.sub [0, 1, 2, 3, 4, 5, 6, 7] rfl ?_
  exact jl_X4_stayIn_L17 X hl0 Y 1000 x4 x3 h

abbrev rm_X4_bestStay : Room := { frames := 4, cells := 0, slots := 0, locals := 106 }
set_option maxHeartbeats 4000000 in
set_option maxRecDepth 100000 in
theorem jl_X4_bestStay_L10 {β : Type} {Γ : Cx} {E : Ev} {ad : Nat → Nat} (X : XC Γ E rm_X4_bestStay cX4_bestStay 8 RX4) {k0 : Nat} (hl0 : lay k0 = 1) {c1 : Int32} {c2 : Int32} {c3 : Int32} {σ : Sg} {kx : Int32 → Int32 → Option (β)} {r : β}  (hkx : ∀ (v5 : Int32) (v4 : Int32), kx v5 v4 = some r → J Γ E 8 ad RF 85 σ 0 0 54 [(5, .int v5), (4, .int v4)] []) : ∀ n (v6 : Int32) (v5 : Int32) (v4 : Int32), m_X4_bestStay_L10 k0 c1 c2 c3 σ kx n v6 v5 v4 = some r → J Γ E 8 ad RF 85 σ 0 0 10 [(6, .int v6), (5, .int v5), (4, .int v4), (0, .ref (ad k0)), (1, .int c1), (2, .int c2), (3, .int c3)] [] := by
  intro n
  induction n with
  | zero =>
    intro v6 v5 v4 h
    cases h
  | succ n ih =>
    intro v6 v5 v4 h
    rw [m_X4_bestStay_L10.eq_2] at h
    refine j_iload X 0 rfl dX4_bestStay_10 ?_
    refine j_iconst X (v := 4) (by decide) dX4_bestStay_12 ?_
    refine j_icmp_ge X (tgt := 54) (by decide) dX4_bestStay_13 (fun c => ?_) (fun c => ?_)
    · have h := (if_pos c).symm.trans h
      exact J.sub [1, 2] rfl (hkx v5 v4 h)
    · have h := (if_neg c).symm.trans h
      refine j_aload_n X 3 rfl rfl dX4_bestStay_16 ?_
      refine j_iload_n X 4 rfl rfl dX4_bestStay_17 ?_
      refine j_iload_n X 5 rfl rfl dX4_bestStay_18 ?_
      refine j_iload_n X 6 rfl rfl dX4_bestStay_19 ?_
      refine j_iload X 0 rfl dX4_bestStay_20 ?_
      refine bd1_elim h (fun r4 hc5 h => ?_)
      refine j_callSi X (As := [.ref (ad k0), .int c1, .int c2, .int c3, .int v6]) (rest := []) mf_X4_stayIn bw_544 bw_545 ⟨rfl, rfl⟩ ⟨Nat.le_of_ble_eq_true rfl, Nat.le_of_ble_eq_true rfl⟩ (c_X4_stayIn Γ.2.1 E ad hl0 hc5) rfl rfl (Nat.le_of_ble_eq_true rfl) dX4_bestStay_22 ?_
      refine j_istore X (L' := [(7, .int r4), (6, .int v6), (5, .int v5), (4, .int v4), (0, .ref (ad k0)), (1, .int c1), (2, .int c2), (3, .int c3)]) rfl (by decide) rfl dX4_bestStay_25 ?_
      refine j_iload X 0 rfl dX4_bestStay_27 ?_
      refine j_iconst X (v := -1) (by decide) dX4_bestStay_29 ?_
      refine bd2_elim h (fun o7 o8 hr h => ?_)
      have hJ6 : J Γ E 8 ad RF 85 σ 0 0 48 [(6, .int v6), (0, .ref (ad k0)), (1, .int c1), (2, .int c2), (3, .int c3), (4, .int o7), (5, .int o8)] [] := by
        refine nm_elim h (fun x9 ex9 h => ?_)
        refine j_iinc1 X (L' := [(6, .int x9), (0, .ref (ad k0)), (1, .int c1), (2, .int c2), (3, .int c3), (4, .int o7), (5, .int o8)]) 0 rfl (q := 1) (by decide) ex9 (by decide) rfl dX4_bestStay_48 ?_
        refine j_goto X (tgt := 10) (by decide) dX4_bestStay_51 ?_
        exact J.sub [0, 6, 5, 1, 2, 3, 4] rfl (ih x9 o8 o7 h)
      clear h
      refine j_icmp_eq X (tgt := 48) (by decide) dX4_bestStay_30 (fun c => ?_) (fun c => ?_)
      · have hr := (if_pos c).symm.trans hr
        cases hr
        exact J.sub [1, 4, 5, 6, 7, 3, 2] rfl hJ6
      · have hr := (if_neg c).symm.trans hr
        refine j_iload X 0 rfl dX4_bestStay_33 ?_
        refine j_iload X 3 rfl dX4_bestStay_35 ?_
        refine j_icmp_ge X (tgt := 48) (by decide) dX4_bestStay_37 (fun c => ?_) (fun c => ?_)
        · have hr := (if_pos c).symm.trans hr
          cases hr
          exact J.sub [1, 4, 5, 6, 7, 3, 2] rfl hJ6
        · have hr := (if_neg c).symm.trans hr
          refine j_iload X 0 rfl dX4_bestStay_40 ?_
          refine j_istore X (L' := [(4, .int r4), (7, .int r4), (6, .int v6), (5, .int v5), (0, .ref (ad k0)), (1, .int c1), (2, .int c2), (3, .int c3)]) rfl (by decide) rfl dX4_bestStay_42 ?_
          refine j_iload X 2 rfl dX4_bestStay_44 ?_
          refine j_istore X (L' := [(5, .int v6), (4, .int r4), (7, .int r4), (6, .int v6), (0, .ref (ad k0)), (1, .int c1), (2, .int c2), (3, .int c3)]) rfl (by decide) rfl dX4_bestStay_46 ?_
          cases hr
          exact J.sub [3, 4, 5, 6, 7, 1, 0] rfl hJ6
set_option maxHeartbeats 4000000 in
set_option maxRecDepth 100000 in
theorem c_X4_bestStay (l : Launch) (E : Ev) (ad : Nat → Nat) {k0 : Nat} (hl0 : lay k0 = 1) {a1 : Int32} {a2 : Int32} {a3 : Int32} {σ : Sg} {r : Int32} (h : m_X4_bestStay k0 a1 a2 a3 σ = some r) : Met l yX4_bestStay (wY yX4_bestStay cX4_bestStay 8 (some .int)) rm_X4_bestStay (va_Pc [.ref (ad k0), .int a1, .int a2, .int a3] (PreU E ad RF 85 σ)) (QcN E ad (some (.int r), σ)) 0 0 (EA E) := by
  refine met_of (L0 := [(0, .ref (ad k0)), (1, .int a1), (2, .int a2), (3, .int a3)]) rfl (Nat.le_of_ble_eq_true rfl) rfl (fun Γ X Y => ?_)
  have X : XC Γ E rm_X4_bestStay cX4_bestStay 8 RX4 := X
  unfold m_X4_bestStay at h
  refine j_bipush X (v := 31) (by decide) dX4_bestStay_0 ?_
  refine nm_elim h (fun x1 ex1 h => ?_)
  refine j_istore X (L' := [(4, .int x1), (0, .ref (ad k0)), (1, .int a1), (2, .int a2), (3, .int a3)]) ex1 (by decide) rfl dX4_bestStay_2 ?_
  refine j_iconst X (v := -1) (by decide) dX4_bestStay_4 ?_
  refine nm_elim h (fun x2 ex2 h => ?_)
  refine j_istore X (L' := [(5, .int x2), (4, .int x1), (0, .ref (ad k0)), (1, .int a1), (2, .int a2), (3, .int a3)]) ex2 (by decide) rfl dX4_bestStay_5 ?_
  refine j_iconst X (v := 0) (by decide) dX4_bestStay_7 ?_
  refine nm_elim h (fun x3 ex3 h => ?_)
  refine j_istore X (L' := [(6, .int x3), (5, .int x2), (4, .int x1), (0, .ref (ad k0)), (1, .int a1), (2, .int a2), (3, .int a3)]) ex3 (by decide) rfl dX4_bestStay_8 ?_
  refine J.sub [0, 1, 2, 3, 4, 5, 6] rfl ?_
  refine jl_X4_bestStay_L10 X hl0 (fun x10 x11 h => ?_) 1000 x3 x2 x1 h
  refine j_iload X 0 rfl dX4_bestStay_54 ?_
  refine j_iconst X (v := -1) (by decide) dX4_bestStay_56 ?_
  refine j_icmp_ne X (tgt := 64) (by decide) dX4_bestStay_57 (fun c => ?_) (fun c => ?_)
  · have h := (if_neg c).symm.trans h
    refine j_bipush X (v := 100) (by decide) dX4_bestStay_64 ?_
    refine j_iload X 1 rfl dX4_bestStay_66 ?_
    refine j_imul X dX4_bestStay_68 ?_
    refine j_iload X 0 rfl dX4_bestStay_69 ?_
    refine j_iadd X dX4_bestStay_71 ?_
    exact j_iret X Y rfl (ret_pi h) dX4_bestStay_72
  · have h := (if_pos c).symm.trans h
    refine j_iconst X (v := -1) (by decide) dX4_bestStay_60 ?_
    refine j_goto X (tgt := 72) (by decide) dX4_bestStay_61 ?_
    exact j_iret X Y rfl (ret_pi h) dX4_bestStay_72

abbrev rm_X4_knownBehind : Room := { frames := 3, cells := 0, slots := 0, locals := 79 }
set_option maxHeartbeats 4000000 in
set_option maxRecDepth 100000 in
theorem jl_X4_knownBehind_L14 {Γ : Cx} {E : Ev} {ad : Nat → Nat} (X : XC Γ E rm_X4_knownBehind cX4_knownBehind 6 RX4) {k0 : Nat} (hl0 : lay k0 = 1) {c1 : Int32} {c2 : Int32} {c3 : Int32} {σ : Sg} {kx : Unit → Option (Int32)} {r : Int32} (Y : XQ Γ E ad (some .int) (some (.int r), σ))  : ∀ n (v5 : Int32) (v4 : Int32), m_X4_knownBehind_L14 k0 c1 c2 c3 σ kx n v5 v4 = some r → J Γ E 6 ad RF 85 σ 0 0 14 [(5, .int v5), (4, .int v4), (0, .ref (ad k0)), (1, .int c1), (2, .int c2), (3, .int c3)] [] := by
  intro n
  induction n with
  | zero =>
    intro v5 v4 h
    cases h
  | succ n ih =>
    intro v5 v4 h
    rw [m_X4_knownBehind_L14.eq_2] at h
    refine j_iload X 0 rfl dX4_knownBehind_14 ?_
    refine j_iload_n X 5 rfl rfl dX4_knownBehind_16 ?_
    refine j_icmp_ge X (tgt := 39) (by decide) dX4_knownBehind_17 (fun c => ?_) (fun c => ?_)
    · have h := (if_pos c).symm.trans h
      refine j_iload X 1 rfl dX4_knownBehind_39 ?_
      exact j_iret X Y rfl (ret_pi h) dX4_knownBehind_41
    · have h := (if_neg c).symm.trans h
      refine j_iload X 1 rfl dX4_knownBehind_20 ?_
      refine j_aload_n X 2 rfl rfl dX4_knownBehind_22 ?_
      refine j_iload_n X 3 rfl rfl dX4_knownBehind_23 ?_
      refine j_iload_n X 4 rfl rfl dX4_knownBehind_24 ?_
      refine j_iload X 0 rfl dX4_knownBehind_25 ?_
      refine bd1_elim h (fun r4 hc5 h => ?_)
      refine j_callVi X (As := [.int c1, .int c2, .int v5]) (rest := [.int v4]) mf_X2_heardIn bw_531 bw_395 bs_455 ⟨rfl, rfl⟩ ⟨Nat.le_of_ble_eq_true rfl, Nat.le_of_ble_eq_true rfl⟩ cf1 (lay_lt hl0 (by decide)) hl0 (c_X2_heardIn Γ.2.1 E ad hl0 hc5) rfl rfl (Nat.le_of_ble_eq_true rfl) dX4_knownBehind_27 ?_
      refine j_ior X dX4_knownBehind_30 ?_
      refine nm_elim h (fun x6 ex6 h => ?_)
      refine j_istore X (L' := [(4, .int x6), (5, .int v5), (0, .ref (ad k0)), (1, .int c1), (2, .int c2), (3, .int c3)]) ex6 (by decide) rfl dX4_knownBehind_31 ?_
      refine nm_elim h (fun x7 ex7 h => ?_)
      refine j_iinc1 X (L' := [(5, .int x7), (4, .int x6), (0, .ref (ad k0)), (1, .int c1), (2, .int c2), (3, .int c3)]) 1 rfl (q := 1) (by decide) ex7 (by decide) rfl dX4_knownBehind_33 ?_
      refine j_goto X (tgt := 14) (by decide) dX4_knownBehind_36 ?_
      exact J.sub [0, 1, 2, 3, 4, 5] rfl (ih x7 x6 h)
set_option maxHeartbeats 4000000 in
set_option maxRecDepth 100000 in
theorem c_X4_knownBehind (l : Launch) (E : Ev) (ad : Nat → Nat) {k0 : Nat} (hl0 : lay k0 = 1) {a1 : Int32} {a2 : Int32} {a3 : Int32} {σ : Sg} {r : Int32} (h : m_X4_knownBehind k0 a1 a2 a3 σ = some r) : Met l yX4_knownBehind (wY yX4_knownBehind cX4_knownBehind 6 (some .int)) rm_X4_knownBehind (va_Pc [.ref (ad k0), .int a1, .int a2, .int a3] (PreU E ad RF 85 σ)) (QcN E ad (some (.int r), σ)) 0 0 (EA E) := by
  refine met_of (L0 := [(0, .ref (ad k0)), (1, .int a1), (2, .int a2), (3, .int a3)]) rfl (Nat.le_of_ble_eq_true rfl) rfl (fun Γ X Y => ?_)
  have X : XC Γ E rm_X4_knownBehind cX4_knownBehind 6 RX4 := X
  unfold m_X4_knownBehind at h
  refine j_aload_n X 0 rfl rfl dX4_knownBehind_0 ?_
  refine j_getr X cf1 (lay_lt hl0 (by decide)) hl0 2 rfl ⟨rfl, rfl⟩ (k0 + 3) (RF_H2 hl0) bw_66 dX4_knownBehind_1 ?_
  refine j_iload_n X 1 rfl rfl dX4_knownBehind_4 ?_
  refine j_iconst X (v := 2) (by decide) dX4_knownBehind_5 ?_
  refine bd1_elim h (fun r1 hc2 h => ?_)
  refine j_callVi X (As := [.int a1, .int (2 : Int32)]) (rest := []) mf_X6_get bw_529 bw_281 bs_341 ⟨rfl, rfl⟩ ⟨Nat.le_of_ble_eq_true rfl, Nat.le_of_ble_eq_true rfl⟩ cf4 (lay_lt (lay_H2 hl0) (by decide)) (lay_H2 hl0) (c_X6_get Γ.2.1 E ad (lay_H2 hl0) hc2) rfl rfl (Nat.le_of_ble_eq_true rfl) dX4_knownBehind_6 ?_
  refine j_istore X (L' := [(4, .int r1), (0, .ref (ad k0)), (1, .int a1), (2, .int a2), (3, .int a3)]) rfl (by decide) rfl dX4_knownBehind_9 ?_
  refine j_iconst X (v := 0) (by decide) dX4_knownBehind_11 ?_
  refine nm_elim h (fun x3 ex3 h => ?_)
  refine j_istore X (L' := [(5, .int x3), (4, .int r1), (0, .ref (ad k0)), (1, .int a1), (2, .int a2), (3, .int a3)]) ex3 (by decide) rfl dX4_knownBehind_12 ?_
  refine J.sub [0, 1, 2, 3, 4, 5] rfl ?_
  exact jl_X4_knownBehind_L14 X hl0 Y 1000 x3 r1 h

abbrev rm_X4_bestStand : Room := { frames := 4, cells := 0, slots := 0, locals := 104 }
set_option maxHeartbeats 4000000 in
set_option maxRecDepth 100000 in
theorem jl_X4_bestStand_L3 {β : Type} {Γ : Cx} {E : Ev} {ad : Nat → Nat} (X : XC Γ E rm_X4_bestStand cX4_bestStand 9 RX4) {k1 : Nat} (hl1 : lay k1 = 1) {c2 : Int32} {c3 : Int32}  {kx : Sg → Option (β)} {r : β}  (hkx : ∀ (σ : Sg), kx σ = some r → J Γ E 9 ad RF 85 σ 0 0 51 [(0, .ref (ad 64)), (3, .int c3)] []) : ∀ n (v4 : Int32) (σ : Sg), m_X4_bestStand_L3 k1 c2 c3 kx n v4 σ = some r → J Γ E 9 ad RF 85 σ 0 0 3 [(4, .int v4), (0, .ref (ad 64)), (1, .ref (ad k1)), (2, .int c2), (3, .int c3)] [] := by
  intro n
  induction n with
  | zero =>
    intro v4 σ h
    cases h
  | succ n ih =>
    intro v4 σ h
    rw [m_X4_bestStand_L3.eq_2] at h
    refine j_iload X 0 rfl dX4_bestStand_3 ?_
    refine j_iconst X (v := 4) (by decide) dX4_bestStand_5 ?_
    refine j_icmp_ge X (tgt := 51) (by decide) dX4_bestStand_6 (fun c => ?_) (fun c => ?_)
    · have h := (if_pos c).symm.trans h
      exact J.sub [1, 4] rfl (hkx σ h)
    · have h := (if_neg c).symm.trans h
      refine j_aload_n X 1 rfl rfl dX4_bestStand_9 ?_
      refine j_getr X cf2 pk_64 pl_64 0 rfl ⟨rfl, rfl⟩ 65 rfl bw_138 dX4_bestStand_10 ?_
      refine j_iconst X (v := 0) (by decide) dX4_bestStand_13 ?_
      refine j_iload X 0 rfl dX4_bestStand_14 ?_
      refine j_aload_n X 2 rfl rfl dX4_bestStand_16 ?_
      refine j_iconst X (v := 0) (by decide) dX4_bestStand_17 ?_
      refine j_iload X 0 rfl dX4_bestStand_18 ?_
      refine j_iload_n X 3 rfl rfl dX4_bestStand_20 ?_
      refine bd1_elim h (fun r2 hc3 h => ?_)
      refine j_callSi X (As := [.ref (ad k1), .int (0 : Int32), .int v4, .int c2]) (rest := [.int v4, .int (0 : Int32), .ref (ad 65)]) mf_X4_knownBehind bw_560 bw_561 ⟨rfl, rfl⟩ ⟨Nat.le_of_ble_eq_true rfl, Nat.le_of_ble_eq_true rfl⟩ (c_X4_knownBehind Γ.2.1 E ad hl1 hc3) rfl rfl (Nat.le_of_ble_eq_true rfl) dX4_bestStand_21 ?_
      refine bd1_elim h (fun σ4 hc5 h => ?_)
      refine j_callVv X (As := [.int (0 : Int32), .int v4, .int r2]) (rest := []) mf_X6_set bw_563 bw_211 bs_271 ⟨rfl, rfl⟩ ⟨Nat.le_of_ble_eq_true rfl, Nat.le_of_ble_eq_true rfl⟩ cf4 pk_65 pl_65 (c_X6_set Γ.2.1 E ad pl_65 hc5) rfl rfl (Nat.le_of_ble_eq_true rfl) dX4_bestStand_24 ?_
      refine j_aload_n X 1 rfl rfl dX4_bestStand_27 ?_
      refine j_getr X cf2 pk_64 pl_64 0 rfl ⟨rfl, rfl⟩ 65 rfl bw_138 dX4_bestStand_28 ?_
      refine j_iconst X (v := 1) (by decide) dX4_bestStand_31 ?_
      refine j_iload X 0 rfl dX4_bestStand_32 ?_
      refine j_aload_n X 2 rfl rfl dX4_bestStand_34 ?_
      refine j_iconst X (v := 1) (by decide) dX4_bestStand_35 ?_
      refine j_iload X 0 rfl dX4_bestStand_36 ?_
      refine j_iload_n X 3 rfl rfl dX4_bestStand_38 ?_
      refine bd1_elim h (fun r6 hc7 h => ?_)
      refine j_callSi X (As := [.ref (ad k1), .int (1 : Int32), .int v4, .int c2]) (rest := [.int v4, .int (1 : Int32), .ref (ad 65)]) mf_X4_knownBehind bw_560 bw_561 ⟨rfl, rfl⟩ ⟨Nat.le_of_ble_eq_true rfl, Nat.le_of_ble_eq_true rfl⟩ (c_X4_knownBehind Γ.2.1 E ad hl1 hc7) rfl rfl (Nat.le_of_ble_eq_true rfl) dX4_bestStand_39 ?_
      refine bd1_elim h (fun σ8 hc9 h => ?_)
      refine j_callVv X (As := [.int (1 : Int32), .int v4, .int r6]) (rest := []) mf_X6_set bw_563 bw_211 bs_271 ⟨rfl, rfl⟩ ⟨Nat.le_of_ble_eq_true rfl, Nat.le_of_ble_eq_true rfl⟩ cf4 pk_65 pl_65 (c_X6_set Γ.2.1 E ad pl_65 hc9) rfl rfl (Nat.le_of_ble_eq_true rfl) dX4_bestStand_42 ?_
      refine nm_elim h (fun x10 ex10 h => ?_)
      refine j_iinc1 X (L' := [(4, .int x10), (0, .ref (ad 64)), (1, .ref (ad k1)), (2, .int c2), (3, .int c3)]) 0 rfl (q := 1) (by decide) ex10 (by decide) rfl dX4_bestStand_45 ?_
      refine j_goto X (tgt := 3) (by decide) dX4_bestStand_48 ?_
      exact J.sub [0, 1, 2, 3, 4] rfl (ih x10 σ8 h)
set_option maxHeartbeats 4000000 in
set_option maxRecDepth 100000 in
theorem jl_X4_bestStand_L69 {β : Type} {Γ : Cx} {E : Ev} {ad : Nat → Nat} (X : XC Γ E rm_X4_bestStand cX4_bestStand 9 RX4) {k1 : Nat} (hl1 : lay k1 = 1) {c6 : Int32} {c3 : Int32} {σ : Sg} {kx : Int32 → Int32 → Option (β)} {r : β}  (hkx : ∀ (v5 : Int32) (v4 : Int32), kx v5 v4 = some r → J Γ E 9 ad RF 85 σ 0 0 128 [(6, .int c6), (5, .int v5), (4, .int v4), (0, .ref (ad 64)), (3, .int c3)] []) : ∀ n (v7 : Int32) (v5 : Int32) (v4 : Int32), m_X4_bestStand_L69 k1 c6 c3 σ kx n v7 v5 v4 = some r → J Γ E 9 ad RF 85 σ 0 0 69 [(7, .int v7), (6, .int c6), (5, .int v5), (4, .int v4), (0, .ref (ad 64)), (3, .int c3)] [] := by
  intro n
  induction n with
  | zero =>
    intro v7 v5 v4 h
    cases h
  | succ n ih =>
    intro v7 v5 v4 h
    rw [m_X4_bestStand_L69.eq_2] at h
    refine j_iload X 0 rfl dX4_bestStand_69 ?_
    refine j_iconst X (v := 4) (by decide) dX4_bestStand_71 ?_
    refine j_icmp_ge X (tgt := 128) (by decide) dX4_bestStand_72 (fun c => ?_) (fun c => ?_)
    · have h := (if_pos c).symm.trans h
      exact J.sub [1, 2, 3, 4, 5] rfl (hkx v5 v4 h)
    · have h := (if_neg c).symm.trans h
      refine j_aload_n X 4 rfl rfl dX4_bestStand_75 ?_
      refine j_getr X cf2 pk_64 pl_64 0 rfl ⟨rfl, rfl⟩ 65 rfl bw_138 dX4_bestStand_76 ?_
      refine j_iconst X (v := 0) (by decide) dX4_bestStand_79 ?_
      refine j_iload X 1 rfl dX4_bestStand_80 ?_
      refine bd1_elim h (fun r16 hc17 h => ?_)
      refine j_callVi X (As := [.int (0 : Int32), .int c6]) (rest := []) mf_X6_get bw_529 bw_281 bs_341 ⟨rfl, rfl⟩ ⟨Nat.le_of_ble_eq_true rfl, Nat.le_of_ble_eq_true rfl⟩ cf4 pk_65 pl_65 (c_X6_get Γ.2.1 E ad pl_65 hc17) rfl rfl (Nat.le_of_ble_eq_true rfl) dX4_bestStand_82 ?_
      refine j_aload_n X 4 rfl rfl dX4_bestStand_85 ?_
      refine j_getr X cf2 pk_64 pl_64 0 rfl ⟨rfl, rfl⟩ 65 rfl bw_138 dX4_bestStand_86 ?_
      refine j_iconst X (v := 1) (by decide) dX4_bestStand_89 ?_
      refine j_iload X 0 rfl dX4_bestStand_90 ?_
      refine bd1_elim h (fun r18 hc19 h => ?_)
      refine j_callVi X (As := [.int (1 : Int32), .int v7]) (rest := [.int r16]) mf_X6_get bw_529 bw_281 bs_341 ⟨rfl, rfl⟩ ⟨Nat.le_of_ble_eq_true rfl, Nat.le_of_ble_eq_true rfl⟩ cf4 pk_65 pl_65 (c_X6_get Γ.2.1 E ad pl_65 hc19) rfl rfl (Nat.le_of_ble_eq_true rfl) dX4_bestStand_92 ?_
      refine j_ior X dX4_bestStand_95 ?_
      refine bd1_elim h (fun r20 hc21 h => ?_)
      refine j_callSi X (As := [.int (r16 ||| r18)]) (rest := []) mf_J6_bitCount_0f7a4 bw_564 bw_482 ⟨rfl, rfl⟩ ⟨Nat.le_of_ble_eq_true rfl, Nat.le_of_ble_eq_true rfl⟩ (c_J6_bitCount_0f7a4 Γ.2.1 E ad  hc21) rfl rfl (Nat.le_of_ble_eq_true rfl) dX4_bestStand_96 ?_
      refine j_istore X (L' := [(8, .int r20), (7, .int v7), (6, .int c6), (5, .int v5), (4, .int v4), (0, .ref (ad 64)), (3, .int c3)]) rfl (by decide) rfl dX4_bestStand_99 ?_
      refine j_iload X 0 rfl dX4_bestStand_101 ?_
      refine j_iload X 4 rfl dX4_bestStand_103 ?_
      refine bd2_elim h (fun o23 o24 hr h => ?_)
      have hJ22 : J Γ E 9 ad RF 85 σ 0 0 122 [(7, .int v7), (6, .int c6), (0, .ref (ad 64)), (3, .int c3), (4, .int o23), (5, .int o24)] [] := by
        refine nm_elim h (fun x25 ex25 h => ?_)
        refine j_iinc1 X (L' := [(7, .int x25), (6, .int c6), (0, .ref (ad 64)), (3, .int c3), (4, .int o23), (5, .int o24)]) 0 rfl (q := 1) (by decide) ex25 (by decide) rfl dX4_bestStand_122 ?_
        refine j_goto X (tgt := 69) (by decide) dX4_bestStand_125 ?_
        exact J.sub [0, 1, 5, 4, 2, 3] rfl (ih x25 o24 o23 h)
      clear h
      refine j_icmp_le X (tgt := 122) (by decide) dX4_bestStand_105 (fun c => ?_) (fun c => ?_)
      · have hr := (if_pos c).symm.trans hr
        cases hr
        exact J.sub [1, 2, 5, 6, 4, 3] rfl hJ22
      · have hr := (if_neg c).symm.trans hr
        refine j_iload X 0 rfl dX4_bestStand_108 ?_
        refine j_istore X (L' := [(4, .int r20), (8, .int r20), (7, .int v7), (6, .int c6), (5, .int v5), (0, .ref (ad 64)), (3, .int c3)]) rfl (by decide) rfl dX4_bestStand_110 ?_
        refine j_bipush X (v := 10) (by decide) dX4_bestStand_112 ?_
        refine j_iload X 3 rfl dX4_bestStand_114 ?_
        refine j_imul X dX4_bestStand_116 ?_
        refine j_iload X 2 rfl dX4_bestStand_117 ?_
        refine j_iadd X dX4_bestStand_119 ?_
        refine nm_elim hr (fun x26 ex26 hr => ?_)
        refine j_istore X (L' := [(5, .int x26), (4, .int r20), (8, .int r20), (7, .int v7), (6, .int c6), (0, .ref (ad 64)), (3, .int c3)]) ex26 (by decide) rfl dX4_bestStand_120 ?_
        cases hr
        exact J.sub [3, 4, 5, 6, 1, 0] rfl hJ22
set_option maxHeartbeats 4000000 in
set_option maxRecDepth 100000 in
theorem jl_X4_bestStand_L60 {β : Type} {Γ : Cx} {E : Ev} {ad : Nat → Nat} (X : XC Γ E rm_X4_bestStand cX4_bestStand 9 RX4) {k1 : Nat} (hl1 : lay k1 = 1) {c3 : Int32} {σ : Sg} {kx : Int32 → Int32 → Option (β)} {r : β}  (hkx : ∀ (v5 : Int32) (v4 : Int32), kx v5 v4 = some r → J Γ E 9 ad RF 85 σ 0 0 134 [(5, .int v5), (4, .int v4), (3, .int c3)] []) : ∀ n (v6 : Int32) (v5 : Int32) (v4 : Int32), m_X4_bestStand_L60 k1 c3 σ kx n v6 v5 v4 = some r → J Γ E 9 ad RF 85 σ 0 0 60 [(6, .int v6), (5, .int v5), (4, .int v4), (0, .ref (ad 64)), (3, .int c3)] [] := by
  intro n
  induction n with
  | zero =>
    intro v6 v5 v4 h
    cases h
  | succ n ih =>
    intro v6 v5 v4 h
    rw [m_X4_bestStand_L60.eq_2] at h
    refine j_iload X 0 rfl dX4_bestStand_60 ?_
    refine j_iconst X (v := 4) (by decide) dX4_bestStand_62 ?_
    refine j_icmp_ge X (tgt := 134) (by decide) dX4_bestStand_63 (fun c => ?_) (fun c => ?_)
    · have h := (if_pos c).symm.trans h
      exact J.sub [1, 2, 4] rfl (hkx v5 v4 h)
    · have h := (if_neg c).symm.trans h
      refine j_iconst X (v := 0) (by decide) dX4_bestStand_66 ?_
      refine nm_elim h (fun x15 ex15 h => ?_)
      refine j_istore X (L' := [(7, .int x15), (6, .int v6), (5, .int v5), (4, .int v4), (0, .ref (ad 64)), (3, .int c3)]) ex15 (by decide) rfl dX4_bestStand_67 ?_
      refine J.sub [0, 1, 2, 3, 4, 5] rfl ?_
      refine jl_X4_bestStand_L69 X hl1 (fun x27 x28 h => ?_) 1000 x15 v5 v4 h
      refine nm_elim h (fun x29 ex29 h => ?_)
      refine j_iinc1 X (L' := [(6, .int x29), (5, .int x27), (4, .int x28), (0, .ref (ad 64)), (3, .int c3)]) 0 rfl (q := 1) (by decide) ex29 (by decide) rfl dX4_bestStand_128 ?_
      refine j_goto X (tgt := 60) (by decide) dX4_bestStand_131 ?_
      exact J.sub [0, 1, 2, 3, 4] rfl (ih x29 x27 x28 h)
set_option maxHeartbeats 4000000 in
set_option maxRecDepth 100000 in
theorem c_X4_bestStand (l : Launch) (E : Ev) (ad : Nat → Nat) {k1 : Nat} (hl1 : lay k1 = 1) {a2 : Int32} {a3 : Int32} {σ : Sg} {r : Int32 × Sg} (h : m_X4_bestStand k1 a2 a3 σ = some r) : Met l yX4_bestStand (wY yX4_bestStand cX4_bestStand 9 (some .int)) rm_X4_bestStand (va_Pc [.ref (ad 64), .ref (ad k1), .int a2, .int a3] (PreU E ad RF 85 σ)) (QcN E ad (some (.int r.1), r.2)) 0 0 (EA E) := by
  refine met_of (L0 := [(0, .ref (ad 64)), (1, .ref (ad k1)), (2, .int a2), (3, .int a3)]) rfl (Nat.le_of_ble_eq_true rfl) rfl (fun Γ X Y => ?_)
  have X : XC Γ E rm_X4_bestStand cX4_bestStand 9 RX4 := X
  unfold m_X4_bestStand at h
  refine j_iconst X (v := 0) (by decide) dX4_bestStand_0 ?_
  refine nm_elim h (fun x1 ex1 h => ?_)
  refine j_istore X (L' := [(4, .int x1), (0, .ref (ad 64)), (1, .ref (ad k1)), (2, .int a2), (3, .int a3)]) ex1 (by decide) rfl dX4_bestStand_1 ?_
  refine J.sub [0, 1, 2, 3, 4] rfl ?_
  refine jl_X4_bestStand_L3 X hl1 (fun σ11 h => ?_) 1000 x1 σ h
  refine j_iconst X (v := -1) (by decide) dX4_bestStand_51 ?_
  refine nm_elim h (fun x12 ex12 h => ?_)
  refine j_istore X (L' := [(4, .int x12), (0, .ref (ad 64)), (3, .int a3)]) ex12 (by decide) rfl dX4_bestStand_52 ?_
  refine j_iconst X (v := -1) (by decide) dX4_bestStand_54 ?_
  refine nm_elim h (fun x13 ex13 h => ?_)
  refine j_istore X (L' := [(5, .int x13), (4, .int x12), (0, .ref (ad 64)), (3, .int a3)]) ex13 (by decide) rfl dX4_bestStand_55 ?_
  refine j_iconst X (v := 0) (by decide) dX4_bestStand_57 ?_
  refine nm_elim h (fun x14 ex14 h => ?_)
  refine j_istore X (L' := [(6, .int x14), (5, .int x13), (4, .int x12), (0, .ref (ad 64)), (3, .int a3)]) ex14 (by decide) rfl dX4_bestStand_58 ?_
  refine J.sub [0, 1, 2, 3, 4] rfl ?_
  refine jl_X4_bestStand_L60 X hl1 (fun x30 x31 h => ?_) 1000 x14 x13 x12 h
  refine j_iload_n X 2 rfl rfl dX4_bestStand_134 ?_
  refine j_if_ne X (tgt := 143) (by decide) dX4_bestStand_135 (fun c => ?_) (fun c => ?_)
  · have h := (if_neg c).symm.trans h
    refine j_iload X 0 rfl dX4_bestStand_143 ?_
    exact j_iret X Y rfl (ret_wi h) dX4_bestStand_145
  · have h := (if_pos c).symm.trans h
    refine j_iload X 1 rfl dX4_bestStand_138 ?_
    refine j_goto X (tgt := 145) (by decide) dX4_bestStand_140 ?_
    exact j_iret X Y rfl (ret_wi h) dX4_bestStand_145

abbrev rm_X4_gain : Room := { frames := 1, cells := 0, slots := 0, locals := 23 }
set_option maxHeartbeats 4000000 in
set_option maxRecDepth 100000 in
theorem c_X4_gain (l : Launch) (E : Ev) (ad : Nat → Nat)   {a1 : Int32} {a2 : Int32} {a3 : Int32} {σ : Sg} {r : Int32} (h : m_X4_gain a1 a2 a3 σ = some r) : Met l yX4_gain (wY yX4_gain cX4_gain 5 (some .int)) rm_X4_gain (va_Pc [.ref (ad 64), .int a1, .int a2, .int a3] (PreU E ad RF 85 σ)) (QcN E ad (some (.int r), σ)) 0 0 (EA E) := by
  refine met_of (L0 := [(0, .ref (ad 64)), (1, .int a1), (2, .int a2), (3, .int a3)]) rfl (Nat.le_of_ble_eq_true rfl) rfl (fun Γ X Y => ?_)
  have X : XC Γ E rm_X4_gain cX4_gain 5 RX4 := X
  unfold m_X4_gain at h
  refine j_aload_n X 0 rfl rfl dX4_gain_0 ?_
  refine j_getr X cf2 pk_64 pl_64 0 rfl ⟨rfl, rfl⟩ 65 rfl bw_138 dX4_gain_1 ?_
  refine j_iload_n X 1 rfl rfl dX4_gain_4 ?_
  refine j_iload_n X 2 rfl rfl dX4_gain_5 ?_
  refine bd1_elim h (fun r1 hc2 h => ?_)
  refine j_callVi X (As := [.int a1, .int a2]) (rest := []) mf_X6_get bw_529 bw_281 bs_341 ⟨rfl, rfl⟩ ⟨Nat.le_of_ble_eq_true rfl, Nat.le_of_ble_eq_true rfl⟩ cf4 pk_65 pl_65 (c_X6_get Γ.2.1 E ad pl_65 hc2) rfl rfl (Nat.le_of_ble_eq_true rfl) dX4_gain_6 ?_
  refine j_istore X (L' := [(4, .int r1), (0, .ref (ad 64)), (1, .int a1), (2, .int a2), (3, .int a3)]) rfl (by decide) rfl dX4_gain_9 ?_
  refine j_iload_n X 3 rfl rfl dX4_gain_11 ?_
  refine j_iload_n X 4 rfl rfl dX4_gain_12 ?_
  refine j_icmp_ne X (tgt := 23) (by decide) dX4_gain_13 (fun c => ?_) (fun c => ?_)
  · have h := (if_neg c).symm.trans h
    refine j_iload X 0 rfl dX4_gain_23 ?_
    exact j_iret X Y rfl (ret_pi h) dX4_gain_25
  · have h := (if_pos c).symm.trans h
    refine j_iload X 0 rfl dX4_gain_16 ?_
    refine j_iconst X (v := 1) (by decide) dX4_gain_18 ?_
    refine j_isub X dX4_gain_19 ?_
    refine j_goto X (tgt := 25) (by decide) dX4_gain_20 ?_
    exact j_iret X Y rfl (ret_pi h) dX4_gain_25

abbrev rm_X4_wouldRest : Room := { frames := 2, cells := 0, slots := 0, locals := 47 }
set_option maxHeartbeats 4000000 in
set_option maxRecDepth 100000 in
theorem jl_X4_wouldRest_L12 {Γ : Cx} {E : Ev} {ad : Nat → Nat} (X : XC Γ E rm_X4_wouldRest cX4_wouldRest 6 RX4)   {c4 : Int32} {c1 : Int32} {c3 : Int32} {σ : Sg} {kx : Unit → Option (Int32)} {r : Int32} (Y : XQ Γ E ad (some .boolean) (some (.int r), σ))  : ∀ n (v5 : Int32), m_X4_wouldRest_L12 c4 c1 c3 σ kx n v5 = some r → J Γ E 6 ad RF 85 σ 0 0 12 [(5, .int v5), (4, .int c4), (0, .ref (ad 64)), (1, .int c1), (3, .int c3)] [] := by
  intro n
  induction n with
  | zero =>
    intro v5 h
    cases h
  | succ n ih =>
    intro v5 h
    rw [m_X4_wouldRest_L12.eq_2] at h
    refine j_iload X 0 rfl dX4_wouldRest_12 ?_
    refine j_iconst X (v := 4) (by decide) dX4_wouldRest_14 ?_
    refine j_icmp_ge X (tgt := 39) (by decide) dX4_wouldRest_15 (fun c => ?_) (fun c => ?_)
    · have h := (if_pos c).symm.trans h
      refine j_iconst X (v := 1) (by decide) dX4_wouldRest_39 ?_
      exact j_iret X Y rfl (ret_pi h) dX4_wouldRest_40
    · have h := (if_neg c).symm.trans h
      refine j_aload_n X 2 rfl rfl dX4_wouldRest_18 ?_
      refine j_iload_n X 3 rfl rfl dX4_wouldRest_19 ?_
      refine j_iload X 0 rfl dX4_wouldRest_20 ?_
      refine j_iload_n X 4 rfl rfl dX4_wouldRest_22 ?_
      refine bd1_elim h (fun r4 hc5 h => ?_)
      refine j_callVi X (As := [.int c1, .int v5, .int c3]) (rest := []) mf_X4_gain bw_656 bw_658 bs_16 ⟨rfl, rfl⟩ ⟨Nat.le_of_ble_eq_true rfl, Nat.le_of_ble_eq_true rfl⟩ cf2 pk_64 pl_64 (c_X4_gain Γ.2.1 E ad  hc5) rfl rfl (Nat.le_of_ble_eq_true rfl) dX4_wouldRest_23 ?_
      refine j_iload X 1 rfl dX4_wouldRest_26 ?_
      refine j_icmp_le X (tgt := 33) (by decide) dX4_wouldRest_28 (fun c => ?_) (fun c => ?_)
      · have h := (if_pos c).symm.trans h
        refine nm_elim h (fun x6 ex6 h => ?_)
        refine j_iinc1 X (L' := [(5, .int x6), (4, .int c4), (0, .ref (ad 64)), (1, .int c1), (3, .int c3)]) 0 rfl (q := 1) (by decide) ex6 (by decide) rfl dX4_wouldRest_33 ?_
        refine j_goto X (tgt := 12) (by decide) dX4_wouldRest_36 ?_
        exact J.sub [0, 1, 2, 3, 4] rfl (ih x6 h)
      · have h := (if_neg c).symm.trans h
        refine j_iconst X (v := 0) (by decide) dX4_wouldRest_31 ?_
        exact j_iret X Y rfl (ret_pi h) dX4_wouldRest_32
set_option maxHeartbeats 4000000 in
set_option maxRecDepth 100000 in
theorem c_X4_wouldRest (l : Launch) (E : Ev) (ad : Nat → Nat)   {a1 : Int32} {a2 : Int32} {a3 : Int32} {σ : Sg} {r : Int32} (h : m_X4_wouldRest a1 a2 a3 σ = some r) : Met l yX4_wouldRest (wY yX4_wouldRest cX4_wouldRest 6 (some .boolean)) rm_X4_wouldRest (va_Pc [.ref (ad 64), .int a1, .int a2, .int a3] (PreU E ad RF 85 σ)) (QcN E ad (some (.int r), σ)) 0 0 (EA E) := by
  refine met_of (L0 := [(0, .ref (ad 64)), (1, .int a1), (2, .int a2), (3, .int a3)]) rfl (Nat.le_of_ble_eq_true rfl) rfl (fun Γ X Y => ?_)
  have X : XC Γ E rm_X4_wouldRest cX4_wouldRest 6 RX4 := X
  unfold m_X4_wouldRest at h
  refine j_aload_n X 0 rfl rfl dX4_wouldRest_0 ?_
  refine j_iload_n X 1 rfl rfl dX4_wouldRest_1 ?_
  refine j_iload_n X 2 rfl rfl dX4_wouldRest_2 ?_
  refine j_iload_n X 3 rfl rfl dX4_wouldRest_3 ?_
  refine bd1_elim h (fun r1 hc2 h => ?_)
  refine j_callVi X (As := [.int a1, .int a2, .int a3]) (rest := []) mf_X4_gain bw_656 bw_658 bs_16 ⟨rfl, rfl⟩ ⟨Nat.le_of_ble_eq_true rfl, Nat.le_of_ble_eq_true rfl⟩ cf2 pk_64 pl_64 (c_X4_gain Γ.2.1 E ad  hc2) rfl rfl (Nat.le_of_ble_eq_true rfl) dX4_wouldRest_4 ?_
  refine j_istore X (L' := [(4, .int r1), (0, .ref (ad 64)), (1, .int a1), (2, .int a2), (3, .int a3)]) rfl (by decide) rfl dX4_wouldRest_7 ?_
  refine j_iconst X (v := 0) (by decide) dX4_wouldRest_9 ?_
  refine nm_elim h (fun x3 ex3 h => ?_)
  refine j_istore X (L' := [(5, .int x3), (4, .int r1), (0, .ref (ad 64)), (1, .int a1), (2, .int a2), (3, .int a3)]) ex3 (by decide) rfl dX4_wouldRest_10 ?_
  refine J.sub [0, 1, 2, 3, 5] rfl ?_
  exact jl_X4_wouldRest_L12 X  Y 1000 x3 h

abbrev rm_X4_restingPair : Room := { frames := 3, cells := 0, slots := 0, locals := 79 }
set_option maxHeartbeats 4000000 in
set_option maxRecDepth 100000 in
theorem jl_X4_restingPair_L2 {β : Type} {Γ : Cx} {E : Ev} {ad : Nat → Nat} (X : XC Γ E rm_X4_restingPair cX4_restingPair 6 RX4) {k1 : Nat} (hl1 : lay k1 = 1) {c2 : Int32}  {kx : Sg → Option (β)} {r : β}  (hkx : ∀ (σ : Sg), kx σ = some r → J Γ E 6 ad RF 85 σ 0 0 61 [(0, .ref (ad 64)), (2, .int c2)] []) : ∀ n (v3 : Int32) (σ : Sg), m_X4_restingPair_L2 k1 c2 kx n v3 σ = some r → J Γ E 6 ad RF 85 σ 0 0 2 [(3, .int v3), (0, .ref (ad 64)), (1, .ref (ad k1)), (2, .int c2)] [] := by
  intro n
  induction n with
  | zero =>
    intro v3 σ h
    cases h
  | succ n ih =>
    intro v3 σ h
    rw [m_X4_restingPair_L2.eq_2] at h
    refine j_iload_n X 0 rfl rfl dX4_restingPair_2 ?_
    refine j_iconst X (v := 4) (by decide) dX4_restingPair_3 ?_
    refine j_icmp_ge X (tgt := 61) (by decide) dX4_restingPair_4 (fun c => ?_) (fun c => ?_)
    · have h := (if_pos c).symm.trans h
      exact J.sub [1, 3] rfl (hkx σ h)
    · have h := (if_neg c).symm.trans h
      refine j_aload_n X 2 rfl rfl dX4_restingPair_7 ?_
      refine j_iload_n X 0 rfl rfl dX4_restingPair_8 ?_
      refine j_iconst X (v := 0) (by decide) dX4_restingPair_9 ?_
      refine bd1_elim h (fun r2 hc3 h => ?_)
      refine j_callVi X (As := [.int v3, .int (0 : Int32)]) (rest := []) mf_X2_roomMinute bw_530 bw_384 bs_444 ⟨rfl, rfl⟩ ⟨Nat.le_of_ble_eq_true rfl, Nat.le_of_ble_eq_true rfl⟩ cf1 (lay_lt hl1 (by decide)) hl1 (c_X2_roomMinute Γ.2.1 E ad hl1 hc3) rfl rfl (Nat.le_of_ble_eq_true rfl) dX4_restingPair_10 ?_
      refine j_istore X (L' := [(4, .int r2), (3, .int v3), (0, .ref (ad 64)), (1, .ref (ad k1)), (2, .int c2)]) rfl (by decide) rfl dX4_restingPair_13 ?_
      refine j_aload_n X 2 rfl rfl dX4_restingPair_15 ?_
      refine j_getr X cf2 pk_64 pl_64 0 rfl ⟨rfl, rfl⟩ 65 rfl bw_138 dX4_restingPair_16 ?_
      refine j_iconst X (v := 0) (by decide) dX4_restingPair_19 ?_
      refine j_iload_n X 1 rfl rfl dX4_restingPair_20 ?_
      refine j_aload_n X 3 rfl rfl dX4_restingPair_21 ?_
      refine j_iconst X (v := 0) (by decide) dX4_restingPair_22 ?_
      refine j_iload_n X 1 rfl rfl dX4_restingPair_23 ?_
      refine j_iload X 0 rfl dX4_restingPair_24 ?_
      refine bd1_elim h (fun r4 hc5 h => ?_)
      refine j_callVi X (As := [.int (0 : Int32), .int v3, .int r2]) (rest := [.int v3, .int (0 : Int32), .ref (ad 65)]) mf_X2_heardIn bw_531 bw_395 bs_455 ⟨rfl, rfl⟩ ⟨Nat.le_of_ble_eq_true rfl, Nat.le_of_ble_eq_true rfl⟩ cf1 (lay_lt hl1 (by decide)) hl1 (c_X2_heardIn Γ.2.1 E ad hl1 hc5) rfl rfl (Nat.le_of_ble_eq_true rfl) dX4_restingPair_26 ?_
      refine bd1_elim h (fun r6 hc7 h => ?_)
      refine j_callSi X (As := [.int r4]) (rest := [.int v3, .int (0 : Int32), .ref (ad 65)]) mf_J6_bitCount_0f7a4 bw_564 bw_482 ⟨rfl, rfl⟩ ⟨Nat.le_of_ble_eq_true rfl, Nat.le_of_ble_eq_true rfl⟩ (c_J6_bitCount_0f7a4 Γ.2.1 E ad  hc7) rfl rfl (Nat.le_of_ble_eq_true rfl) dX4_restingPair_29 ?_
      refine bd1_elim h (fun σ8 hc9 h => ?_)
      refine j_callVv X (As := [.int (0 : Int32), .int v3, .int r6]) (rest := []) mf_X6_set bw_563 bw_211 bs_271 ⟨rfl, rfl⟩ ⟨Nat.le_of_ble_eq_true rfl, Nat.le_of_ble_eq_true rfl⟩ cf4 pk_65 pl_65 (c_X6_set Γ.2.1 E ad pl_65 hc9) rfl rfl (Nat.le_of_ble_eq_true rfl) dX4_restingPair_32 ?_
      refine j_aload_n X 2 rfl rfl dX4_restingPair_35 ?_
      refine j_getr X cf2 pk_64 pl_64 0 rfl ⟨rfl, rfl⟩ 65 rfl bw_138 dX4_restingPair_36 ?_
      refine j_iconst X (v := 1) (by decide) dX4_restingPair_39 ?_
      refine j_iload_n X 1 rfl rfl dX4_restingPair_40 ?_
      refine j_aload_n X 3 rfl rfl dX4_restingPair_41 ?_
      refine j_iconst X (v := 1) (by decide) dX4_restingPair_42 ?_
      refine j_iload_n X 1 rfl rfl dX4_restingPair_43 ?_
      refine j_iload X 0 rfl dX4_restingPair_44 ?_
      refine bd1_elim h (fun r10 hc11 h => ?_)
      refine j_callVi X (As := [.int (1 : Int32), .int v3, .int r2]) (rest := [.int v3, .int (1 : Int32), .ref (ad 65)]) mf_X2_heardIn bw_531 bw_395 bs_455 ⟨rfl, rfl⟩ ⟨Nat.le_of_ble_eq_true rfl, Nat.le_of_ble_eq_true rfl⟩ cf1 (lay_lt hl1 (by decide)) hl1 (c_X2_heardIn Γ.2.1 E ad hl1 hc11) rfl rfl (Nat.le_of_ble_eq_true rfl) dX4_restingPair_46 ?_
      refine bd1_elim h (fun r12 hc13 h => ?_)
      refine j_callSi X (As := [.int r10]) (rest := [.int v3, .int (1 : Int32), .ref (ad 65)]) mf_J6_bitCount_0f7a4 bw_564 bw_482 ⟨rfl, rfl⟩ ⟨Nat.le_of_ble_eq_true rfl, Nat.le_of_ble_eq_true rfl⟩ (c_J6_bitCount_0f7a4 Γ.2.1 E ad  hc13) rfl rfl (Nat.le_of_ble_eq_true rfl) dX4_restingPair_49 ?_
      refine bd1_elim h (fun σ14 hc15 h => ?_)
      refine j_callVv X (As := [.int (1 : Int32), .int v3, .int r12]) (rest := []) mf_X6_set bw_563 bw_211 bs_271 ⟨rfl, rfl⟩ ⟨Nat.le_of_ble_eq_true rfl, Nat.le_of_ble_eq_true rfl⟩ cf4 pk_65 pl_65 (c_X6_set Γ.2.1 E ad pl_65 hc15) rfl rfl (Nat.le_of_ble_eq_true rfl) dX4_restingPair_52 ?_
      refine nm_elim h (fun x16 ex16 h => ?_)
      refine j_iinc1 X (L' := [(3, .int x16), (4, .int r2), (0, .ref (ad 64)), (1, .ref (ad k1)), (2, .int c2)]) 1 rfl (q := 1) (by decide) ex16 (by decide) rfl dX4_restingPair_55 ?_
      refine j_goto X (tgt := 2) (by decide) dX4_restingPair_58 ?_
      exact J.sub [0, 2, 3, 4] rfl (ih x16 σ14 h)
set_option maxHeartbeats 4000000 in
set_option maxRecDepth 100000 in
theorem jl_X4_restingPair_L75 {Γ : Cx} {E : Ev} {ad : Nat → Nat} (X : XC Γ E rm_X4_restingPair cX4_restingPair 6 RX4) {k1 : Nat} (hl1 : lay k1 = 1) {c4 : Int32} {c2 : Int32} {σ : Sg} {kx : Int32 → Option (Int32 × Sg)} {r : Int32 × Sg} (Y : XQ Γ E ad (some .int) (some (.int r.1), r.2)) (hkx : ∀ (v3 : Int32), kx v3 = some r → J Γ E 6 ad RF 85 σ 0 0 128 [(4, .int c4), (3, .int v3), (0, .ref (ad 64)), (2, .int c2)] []) : ∀ n (v5 : Int32) (v3 : Int32), m_X4_restingPair_L75 k1 c4 c2 σ kx n v5 v3 = some r → J Γ E 6 ad RF 85 σ 0 0 75 [(5, .int v5), (4, .int c4), (3, .int v3), (0, .ref (ad 64)), (2, .int c2)] [] := by
  intro n
  induction n with
  | zero =>
    intro v5 v3 h
    cases h
  | succ n ih =>
    intro v5 v3 h
    rw [m_X4_restingPair_L75.eq_2] at h
    refine j_iload X 0 rfl dX4_restingPair_75 ?_
    refine j_iconst X (v := 4) (by decide) dX4_restingPair_77 ?_
    refine j_icmp_ge X (tgt := 128) (by decide) dX4_restingPair_78 (fun c => ?_) (fun c => ?_)
    · have h := (if_pos c).symm.trans h
      exact J.sub [1, 2, 3, 4] rfl (hkx v3 h)
    · have h := (if_neg c).symm.trans h
      refine j_aload_n X 3 rfl rfl dX4_restingPair_81 ?_
      refine j_iconst X (v := 0) (by decide) dX4_restingPair_82 ?_
      refine j_iload X 1 rfl dX4_restingPair_83 ?_
      refine j_iload X 0 rfl dX4_restingPair_85 ?_
      refine bd1_elim h (fun r21 hc22 h => ?_)
      refine j_callVi X (As := [.int (0 : Int32), .int c4, .int v5]) (rest := []) mf_X4_wouldRest bw_652 bw_654 bs_15 ⟨rfl, rfl⟩ ⟨Nat.le_of_ble_eq_true rfl, Nat.le_of_ble_eq_true rfl⟩ cf2 pk_64 pl_64 (c_X4_wouldRest Γ.2.1 E ad  hc22) rfl rfl (Nat.le_of_ble_eq_true rfl) dX4_restingPair_87 ?_
      refine j_if_eq X (tgt := 122) (by decide) dX4_restingPair_90 (fun c => ?_) (fun c => ?_)
      · have h := (if_pos c).symm.trans h
        refine nm_elim h (fun x23 ex23 h => ?_)
        refine j_iinc1 X (L' := [(5, .int x23), (4, .int c4), (3, .int v3), (0, .ref (ad 64)), (2, .int c2)]) 0 rfl (q := 1) (by decide) ex23 (by decide) rfl dX4_restingPair_122 ?_
        refine j_goto X (tgt := 75) (by decide) dX4_restingPair_125 ?_
        exact J.sub [0, 1, 2, 3, 4] rfl (ih x23 v3 h)
      · have h := (if_neg c).symm.trans h
        refine j_aload_n X 3 rfl rfl dX4_restingPair_93 ?_
        refine j_iconst X (v := 1) (by decide) dX4_restingPair_94 ?_
        refine j_iload X 0 rfl dX4_restingPair_95 ?_
        refine j_iload X 1 rfl dX4_restingPair_97 ?_
        refine bd1_elim h (fun r24 hc25 h => ?_)
        refine j_callVi X (As := [.int (1 : Int32), .int v5, .int c4]) (rest := []) mf_X4_wouldRest bw_652 bw_654 bs_15 ⟨rfl, rfl⟩ ⟨Nat.le_of_ble_eq_true rfl, Nat.le_of_ble_eq_true rfl⟩ cf2 pk_64 pl_64 (c_X4_wouldRest Γ.2.1 E ad  hc25) rfl rfl (Nat.le_of_ble_eq_true rfl) dX4_restingPair_99 ?_
        refine j_if_eq X (tgt := 122) (by decide) dX4_restingPair_102 (fun c => ?_) (fun c => ?_)
        · have h := (if_pos c).symm.trans h
          refine nm_elim h (fun x26 ex26 h => ?_)
          refine j_iinc1 X (L' := [(5, .int x26), (4, .int c4), (3, .int v3), (0, .ref (ad 64)), (2, .int c2)]) 0 rfl (q := 1) (by decide) ex26 (by decide) rfl dX4_restingPair_122 ?_
          refine j_goto X (tgt := 75) (by decide) dX4_restingPair_125 ?_
          exact J.sub [0, 1, 2, 3, 4] rfl (ih x26 v3 h)
        · have h := (if_neg c).symm.trans h
          refine j_iload_n X 2 rfl rfl dX4_restingPair_105 ?_
          refine j_iload_n X 4 rfl rfl dX4_restingPair_106 ?_
          refine j_icmp_ne X (tgt := 119) (by decide) dX4_restingPair_107 (fun c => ?_) (fun c => ?_)
          · have h := (if_neg c).symm.trans h
            refine nm_elim h (fun x27 ex27 h => ?_)
            refine j_iinc1 X (L' := [(3, .int x27), (5, .int v5), (4, .int c4), (0, .ref (ad 64)), (2, .int c2)]) 2 rfl (q := 1) (by decide) ex27 (by decide) rfl dX4_restingPair_119 ?_
            refine nm_elim h (fun x28 ex28 h => ?_)
            refine j_iinc1 X (L' := [(5, .int x28), (3, .int x27), (4, .int c4), (0, .ref (ad 64)), (2, .int c2)]) 1 rfl (q := 1) (by decide) ex28 (by decide) rfl dX4_restingPair_122 ?_
            refine j_goto X (tgt := 75) (by decide) dX4_restingPair_125 ?_
            exact J.sub [0, 2, 1, 3, 4] rfl (ih x28 x27 h)
          · have h := (if_pos c).symm.trans h
            refine j_bipush X (v := 10) (by decide) dX4_restingPair_110 ?_
            refine j_iload X 1 rfl dX4_restingPair_112 ?_
            refine j_imul X dX4_restingPair_114 ?_
            refine j_iload X 0 rfl dX4_restingPair_115 ?_
            refine j_iadd X dX4_restingPair_117 ?_
            exact j_iret X Y rfl (ret_wi h) dX4_restingPair_118
set_option maxHeartbeats 4000000 in
set_option maxRecDepth 100000 in
theorem jl_X4_restingPair_L66 {Γ : Cx} {E : Ev} {ad : Nat → Nat} (X : XC Γ E rm_X4_restingPair cX4_restingPair 6 RX4) {k1 : Nat} (hl1 : lay k1 = 1) {c2 : Int32} {σ : Sg} {kx : Int32 → Option (Int32 × Sg)} {r : Int32 × Sg} (Y : XQ Γ E ad (some .int) (some (.int r.1), r.2)) (hkx : ∀ (v3 : Int32), kx v3 = some r → J Γ E 6 ad RF 85 σ 0 0 134 [(3, .int v3), (2, .int c2)] []) : ∀ n (v4 : Int32) (v3 : Int32), m_X4_restingPair_L66 k1 c2 σ kx n v4 v3 = some r → J Γ E 6 ad RF 85 σ 0 0 66 [(4, .int v4), (3, .int v3), (0, .ref (ad 64)), (2, .int c2)] [] := by
  intro n
  induction n with
  | zero =>
    intro v4 v3 h
    cases h
  | succ n ih =>
    intro v4 v3 h
    rw [m_X4_restingPair_L66.eq_2] at h
    refine j_iload X 0 rfl dX4_restingPair_66 ?_
    refine j_iconst X (v := 4) (by decide) dX4_restingPair_68 ?_
    refine j_icmp_ge X (tgt := 134) (by decide) dX4_restingPair_69 (fun c => ?_) (fun c => ?_)
    · have h := (if_pos c).symm.trans h
      exact J.sub [1, 3] rfl (hkx v3 h)
    · have h := (if_neg c).symm.trans h
      refine j_iconst X (v := 0) (by decide) dX4_restingPair_72 ?_
      refine nm_elim h (fun x20 ex20 h => ?_)
      refine j_istore X (L' := [(5, .int x20), (4, .int v4), (3, .int v3), (0, .ref (ad 64)), (2, .int c2)]) ex20 (by decide) rfl dX4_restingPair_73 ?_
      refine J.sub [0, 1, 2, 3, 4] rfl ?_
      refine jl_X4_restingPair_L75 X hl1 Y (fun x29 h => ?_) 1000 x20 v3 h
      refine nm_elim h (fun x30 ex30 h => ?_)
      refine j_iinc1 X (L' := [(4, .int x30), (3, .int x29), (0, .ref (ad 64)), (2, .int c2)]) 0 rfl (q := 1) (by decide) ex30 (by decide) rfl dX4_restingPair_128 ?_
      refine j_goto X (tgt := 66) (by decide) dX4_restingPair_131 ?_
      exact J.sub [0, 1, 2, 3] rfl (ih x30 x29 h)
set_option maxHeartbeats 4000000 in
set_option maxRecDepth 100000 in
theorem c_X4_restingPair (l : Launch) (E : Ev) (ad : Nat → Nat) {k1 : Nat} (hl1 : lay k1 = 1) {a2 : Int32} {σ : Sg} {r : Int32 × Sg} (h : m_X4_restingPair k1 a2 σ = some r) : Met l yX4_restingPair (wY yX4_restingPair cX4_restingPair 6 (some .int)) rm_X4_restingPair (va_Pc [.ref (ad 64), .ref (ad k1), .int a2] (PreU E ad RF 85 σ)) (QcN E ad (some (.int r.1), r.2)) 0 0 (EA E) := by
  refine met_of (L0 := [(0, .ref (ad 64)), (1, .ref (ad k1)), (2, .int a2)]) rfl (Nat.le_of_ble_eq_true rfl) rfl (fun Γ X Y => ?_)
  have X : XC Γ E rm_X4_restingPair cX4_restingPair 6 RX4 := X
  unfold m_X4_restingPair at h
  refine j_iconst X (v := 0) (by decide) dX4_restingPair_0 ?_
  refine nm_elim h (fun x1 ex1 h => ?_)
  refine j_istore_n X (L' := [(3, .int x1), (0, .ref (ad 64)), (1, .ref (ad k1)), (2, .int a2)]) ex1 rfl (by decide) rfl dX4_restingPair_1 ?_
  refine J.sub [0, 1, 2, 3] rfl ?_
  refine jl_X4_restingPair_L2 X hl1 (fun σ17 h => ?_) 1000 x1 σ h
  refine j_iconst X (v := 0) (by decide) dX4_restingPair_61 ?_
  refine nm_elim h (fun x18 ex18 h => ?_)
  refine j_istore_n X (L' := [(3, .int x18), (0, .ref (ad 64)), (2, .int a2)]) ex18 rfl (by decide) rfl dX4_restingPair_62 ?_
  refine j_iconst X (v := 0) (by decide) dX4_restingPair_63 ?_
  refine nm_elim h (fun x19 ex19 h => ?_)
  refine j_istore X (L' := [(4, .int x19), (3, .int x18), (0, .ref (ad 64)), (2, .int a2)]) ex19 (by decide) rfl dX4_restingPair_64 ?_
  refine J.sub [0, 1, 2, 3] rfl ?_
  refine jl_X4_restingPair_L66 X hl1 Y (fun x31 h => ?_) 1000 x19 x18 h
  refine j_iload_n X 1 rfl rfl dX4_restingPair_134 ?_
  refine j_iconst X (v := -1) (by decide) dX4_restingPair_135 ?_
  refine j_icmp_ne X (tgt := 143) (by decide) dX4_restingPair_136 (fun c => ?_) (fun c => ?_)
  · have h := (if_neg c).symm.trans h
    refine j_bipush X (v := -5) (by decide) dX4_restingPair_143 ?_
    exact j_iret X Y rfl (ret_wi h) dX4_restingPair_145
  · have h := (if_pos c).symm.trans h
    refine j_iload_n X 0 rfl rfl dX4_restingPair_139 ?_
    refine j_goto X (tgt := 145) (by decide) dX4_restingPair_140 ?_
    exact j_iret X Y rfl (ret_wi h) dX4_restingPair_145

abbrev rm_X4_workJobs : Room := { frames := 4, cells := 0, slots := 0, locals := 105 }
set_option maxHeartbeats 4000000 in
set_option maxRecDepth 100000 in
theorem jl_X4_workJobs_L6 {Γ : Cx} {E : Ev} {ad : Nat → Nat} (X : XC Γ E rm_X4_workJobs cX4_workJobs 8 RX4) {k0 : Nat} (hl0 : lay k0 = 1) {c2 : Int32}  {kx : Sg → Option (Sg)} {r : Sg} (Y : XQ Γ E ad none (none, r))  : ∀ n (v5 : Int32) (v3 : Int64) (σ : Sg), m_X4_workJobs_L6 k0 c2 kx n v5 v3 σ = some r → J Γ E 8 ad RF 85 σ 0 0 6 [(5, .int v5), (3, .long v3), (0, .ref (ad k0)), (2, .int c2)] [] := by
  intro n
  induction n with
  | zero =>
    intro v5 v3 σ h
    cases h
  | succ n ih =>
    intro v5 v3 σ h
    rw [m_X4_workJobs_L6.eq_2] at h
    refine j_iload X 0 rfl dX4_workJobs_6 ?_
    refine j_iload_n X 3 rfl rfl dX4_workJobs_8 ?_
    refine j_icmp_ge X (tgt := 104) (by decide) dX4_workJobs_9 (fun c => ?_) (fun c => ?_)
    · have h := (if_pos c).symm.trans h
      exact j_vret X Y (ret_wv h) dX4_workJobs_104
    · have h := (if_neg c).symm.trans h
      refine j_lload_n X 1 rfl rfl dX4_workJobs_12 ?_
      refine j_ldc2 X (v := 1103515245) bw_694 dX4_workJobs_13 ?_
      refine j_lmul X dX4_workJobs_16 ?_
      refine j_ldc2 X (v := 12345) bw_695 dX4_workJobs_17 ?_
      refine j_ladd X dX4_workJobs_20 ?_
      refine j_ldc2 X (v := 2147483648) bw_696 dX4_workJobs_21 ?_
      refine j_lrem X (by decide) dX4_workJobs_24 ?_
      refine nm_elim h (fun x3 ex3 h => ?_)
      refine j_lstore_n X (L' := [(3, .long x3), (5, .int v5), (0, .ref (ad k0)), (2, .int c2)]) ex3 rfl (by decide) rfl dX4_workJobs_25 ?_
      refine j_lload_n X 0 rfl rfl dX4_workJobs_26 ?_
      refine j_ldc2 X (v := 65536) bw_697 dX4_workJobs_27 ?_
      refine j_ldiv X (by decide) dX4_workJobs_30 ?_
      refine j_ldc2 X (v := 3) bw_698 dX4_workJobs_31 ?_
      refine j_lrem X (by decide) dX4_workJobs_34 ?_
      refine j_l2i X dX4_workJobs_35 ?_
      refine nm_elim h (fun x4 ex4 h => ?_)
      refine j_istore X (L' := [(6, .int x4), (3, .long x3), (5, .int v5), (0, .ref (ad k0)), (2, .int c2)]) ex4 (by decide) rfl dX4_workJobs_36 ?_
      refine j_lload_n X 1 rfl rfl dX4_workJobs_38 ?_
      refine j_ldc2 X (v := 1048576) bw_699 dX4_workJobs_39 ?_
      refine j_ldiv X (by decide) dX4_workJobs_42 ?_
      refine j_ldc2 X (v := 4) bw_700 dX4_workJobs_43 ?_
      refine j_lrem X (by decide) dX4_workJobs_46 ?_
      refine j_l2i X dX4_workJobs_47 ?_
      refine nm_elim h (fun x5 ex5 h => ?_)
      refine j_istore X (L' := [(7, .int x5), (6, .int x4), (3, .long x3), (5, .int v5), (0, .ref (ad k0)), (2, .int c2)]) ex5 (by decide) rfl dX4_workJobs_48 ?_
      refine j_iload X 1 rfl dX4_workJobs_50 ?_
      refine j_aload_n X 4 rfl rfl dX4_workJobs_52 ?_
      refine j_getr X cf1 (lay_lt hl0 (by decide)) hl0 2 rfl ⟨rfl, rfl⟩ (k0 + 3) (RF_H2 hl0) bw_66 dX4_workJobs_53 ?_
      refine j_geti X cf4 (lay_lt (lay_H2 hl0) (by decide)) (lay_H2 hl0) 3 rfl ⟨rfl, rfl⟩ bw_46 dX4_workJobs_56 ?_
      refine bd1_elim h (fun σ7 hr h => ?_)
      have hJ6 : J Γ E 8 ad RF 85 σ7 0 0 91 [(3, .long x3), (5, .int v5), (0, .ref (ad k0)), (2, .int c2)] [] := by
        refine j_aload_n X 2 rfl rfl dX4_workJobs_91 ?_
        refine j_iconst X (v := 1) (by decide) dX4_workJobs_92 ?_
        refine j_ldc X (v := 1000000) bw_702 dX4_workJobs_93 ?_
        refine bd1_elim h (fun σ8 hc9 h => ?_)
        refine j_callVv X (As := [.int (1 : Int32), .int (1000000 : Int32)]) (rest := []) mf_X2_passMinutes bw_703 bw_379 bs_439 ⟨rfl, rfl⟩ ⟨Nat.le_of_ble_eq_true rfl, Nat.le_of_ble_eq_true rfl⟩ cf1 (lay_lt hl0 (by decide)) hl0 (c_X2_passMinutes Γ.2.1 E ad hl0 hc9) rfl rfl (Nat.le_of_ble_eq_true rfl) dX4_workJobs_95 ?_
        refine nm_elim h (fun x10 ex10 h => ?_)
        refine j_iinc1 X (L' := [(5, .int x10), (3, .long x3), (0, .ref (ad k0)), (2, .int c2)]) 1 rfl (q := 1) (by decide) ex10 (by decide) rfl dX4_workJobs_98 ?_
        refine j_goto X (tgt := 6) (by decide) dX4_workJobs_101 ?_
        exact J.sub [0, 1, 2, 3] rfl (ih x10 x3 σ8 h)
      clear h
      refine j_icmp_ge X (tgt := 91) (by decide) dX4_workJobs_59 (fun c => ?_) (fun c => ?_)
      · have hr := (if_pos c).symm.trans hr
        cases hr
        exact J.sub [2, 3, 4, 5] rfl hJ6
      · have hr := (if_neg c).symm.trans hr
        refine j_aload_n X 4 rfl rfl dX4_workJobs_62 ?_
        refine j_getr X cf1 (lay_lt hl0 (by decide)) hl0 2 rfl ⟨rfl, rfl⟩ (k0 + 3) (RF_H2 hl0) bw_66 dX4_workJobs_63 ?_
        refine j_iload X 1 rfl dX4_workJobs_66 ?_
        refine j_iconst X (v := 1) (by decide) dX4_workJobs_68 ?_
        refine j_iload X 0 rfl dX4_workJobs_69 ?_
        refine bd1_elim hr (fun σ11 hc12 hr => ?_)
        refine j_callVv X (As := [.int x4, .int (1 : Int32), .int x5]) (rest := []) mf_X6_set bw_563 bw_211 bs_271 ⟨rfl, rfl⟩ ⟨Nat.le_of_ble_eq_true rfl, Nat.le_of_ble_eq_true rfl⟩ cf4 (lay_lt (lay_H2 hl0) (by decide)) (lay_H2 hl0) (c_X6_set Γ.2.1 E ad (lay_H2 hl0) hc12) rfl rfl (Nat.le_of_ble_eq_true rfl) dX4_workJobs_71 ?_
        refine j_aload_n X 4 rfl rfl dX4_workJobs_74 ?_
        refine j_iload X 0 rfl dX4_workJobs_75 ?_
        refine j_iconst X (v := 0) (by decide) dX4_workJobs_77 ?_
        refine bd1_elim hr (fun r13 hc14 hr => ?_)
        refine j_callVi X (As := [.int x5, .int (0 : Int32)]) (rest := []) mf_X2_roomMinute bw_530 bw_384 bs_444 ⟨rfl, rfl⟩ ⟨Nat.le_of_ble_eq_true rfl, Nat.le_of_ble_eq_true rfl⟩ cf1 (lay_lt hl0 (by decide)) hl0 (c_X2_roomMinute Γ.2.1 E ad hl0 hc14) rfl rfl (Nat.le_of_ble_eq_true rfl) dX4_workJobs_78 ?_
        refine j_iconst X (v := -1) (by decide) dX4_workJobs_81 ?_
        refine j_icmp_ne X (tgt := 91) (by decide) dX4_workJobs_82 (fun c => ?_) (fun c => ?_)
        · have hr := (if_neg c).symm.trans hr
          cases hr
          exact J.sub [2, 3, 4, 5] rfl hJ6
        · have hr := (if_pos c).symm.trans hr
          refine j_aload_n X 4 rfl rfl dX4_workJobs_85 ?_
          refine j_iload X 0 rfl dX4_workJobs_86 ?_
          refine bd1_elim hr (fun σ15 hc16 hr => ?_)
          refine j_callVv X (As := [.int x5]) (rest := []) mf_X2_strip bw_701 bw_374 bs_434 ⟨rfl, rfl⟩ ⟨Nat.le_of_ble_eq_true rfl, Nat.le_of_ble_eq_true rfl⟩ cf1 (lay_lt hl0 (by decide)) hl0 (c_X2_strip Γ.2.1 E ad hl0 hc16) rfl rfl (Nat.le_of_ble_eq_true rfl) dX4_workJobs_88 ?_
          cases hr
          exact J.sub [2, 3, 4, 5] rfl hJ6
set_option maxHeartbeats 4000000 in
set_option maxRecDepth 100000 in
theorem c_X4_workJobs (l : Launch) (E : Ev) (ad : Nat → Nat) {k0 : Nat} (hl0 : lay k0 = 1) {a1 : Int32} {a2 : Int32} {σ : Sg} {r : Sg} (h : m_X4_workJobs k0 a1 a2 σ = some r) : Met l yX4_workJobs (wY yX4_workJobs cX4_workJobs 8 none) rm_X4_workJobs (va_Pc [.ref (ad k0), .int a1, .int a2] (PreU E ad RF 85 σ)) (QcN E ad (none, r)) 0 0 (EA E) := by
  refine met_of (L0 := [(0, .ref (ad k0)), (1, .int a1), (2, .int a2)]) rfl (Nat.le_of_ble_eq_true rfl) rfl (fun Γ X Y => ?_)
  have X : XC Γ E rm_X4_workJobs cX4_workJobs 8 RX4 := X
  unfold m_X4_workJobs at h
  refine j_iload_n X 1 rfl rfl dX4_workJobs_0 ?_
  refine j_i2l X dX4_workJobs_1 ?_
  refine nm_elim h (fun x1 ex1 h => ?_)
  refine j_lstore_n X (L' := [(3, .long x1), (0, .ref (ad k0)), (1, .int a1), (2, .int a2)]) ex1 rfl (by decide) rfl dX4_workJobs_2 ?_
  refine j_iconst X (v := 0) (by decide) dX4_workJobs_3 ?_
  refine nm_elim h (fun x2 ex2 h => ?_)
  refine j_istore X (L' := [(5, .int x2), (3, .long x1), (0, .ref (ad k0)), (1, .int a1), (2, .int a2)]) ex2 (by decide) rfl dX4_workJobs_4 ?_
  refine J.sub [0, 1, 2, 4] rfl ?_
  exact jl_X4_workJobs_L6 X hl0 Y 1000 x2 x1 σ h

abbrev rm_X5_sortAt : Room := { frames := 1, cells := 0, slots := 0, locals := 23 }
set_option maxHeartbeats 4000000 in
set_option maxRecDepth 100000 in
theorem c_X5_sortAt (l : Launch) (E : Ev) (ad : Nat → Nat)   {a1 : Int32} {σ : Sg} {r : Int32} (h : m_X5_sortAt a1 σ = some r) : Met l yX5_sortAt (wY yX5_sortAt cX5_sortAt 3 (some .int)) rm_X5_sortAt (va_Pc [.ref (ad 61), .int a1] (PreU E ad RF 85 σ)) (QcN E ad (some (.int r), σ)) 0 0 (EA E) := by
  refine met_of (L0 := [(0, .ref (ad 61)), (1, .int a1)]) rfl (Nat.le_of_ble_eq_true rfl) rfl (fun Γ X Y => ?_)
  have X : XC Γ E rm_X5_sortAt cX5_sortAt 3 RX5 := X
  unfold m_X5_sortAt at h
  refine j_iload_n X 1 rfl rfl dX5_sortAt_0 ?_
  refine j_aload_n X 0 rfl rfl dX5_sortAt_1 ?_
  refine j_getr X cf3 pk_61 pl_61 0 rfl ⟨rfl, rfl⟩ 62 rfl bw_107 dX5_sortAt_2 ?_
  refine j_geti X cf4 pk_62 pl_62 3 rfl ⟨rfl, rfl⟩ bw_45 dX5_sortAt_5 ?_
  refine j_icmp_lt X (tgt := 13) (by decide) dX5_sortAt_8 (fun c => ?_) (fun c => ?_)
  · have h := (if_pos c).symm.trans h
    refine j_aload_n X 0 rfl rfl dX5_sortAt_13 ?_
    refine j_getr X cf3 pk_61 pl_61 0 rfl ⟨rfl, rfl⟩ 62 rfl bw_107 dX5_sortAt_14 ?_
    refine j_iload_n X 1 rfl rfl dX5_sortAt_17 ?_
    refine j_iconst X (v := 0) (by decide) dX5_sortAt_18 ?_
    refine bd1_elim h (fun r1 hc2 h => ?_)
    refine j_callVi X (As := [.int a1, .int (0 : Int32)]) (rest := []) mf_X6_get bw_280 bw_281 bs_341 ⟨rfl, rfl⟩ ⟨Nat.le_of_ble_eq_true rfl, Nat.le_of_ble_eq_true rfl⟩ cf4 pk_62 pl_62 (c_X6_get Γ.2.1 E ad pl_62 hc2) rfl rfl (Nat.le_of_ble_eq_true rfl) dX5_sortAt_19 ?_
    refine j_istore_n X (L' := [(2, .int r1), (0, .ref (ad 61)), (1, .int a1)]) rfl rfl (by decide) rfl dX5_sortAt_22 ?_
    refine j_iload_n X 0 rfl rfl dX5_sortAt_23 ?_
    refine j_bipush X (v := 97) (by decide) dX5_sortAt_24 ?_
    refine j_icmp_lt X (tgt := 37) (by decide) dX5_sortAt_26 (fun c => ?_) (fun c => ?_)
    · have h := (if_pos c).symm.trans h
      refine j_iload_n X 0 rfl rfl dX5_sortAt_37 ?_
      refine j_bipush X (v := 48) (by decide) dX5_sortAt_38 ?_
      refine j_icmp_lt X (tgt := 51) (by decide) dX5_sortAt_40 (fun c => ?_) (fun c => ?_)
      · have h := (if_pos c).symm.trans h
        refine j_iload_n X 0 rfl rfl dX5_sortAt_51 ?_
        refine j_bipush X (v := 59) (by decide) dX5_sortAt_52 ?_
        refine j_icmp_ne X (tgt := 61) (by decide) dX5_sortAt_54 (fun c => ?_) (fun c => ?_)
        · have h := (if_neg c).symm.trans h
          refine j_iconst X (v := 4) (by decide) dX5_sortAt_61 ?_
          exact j_iret X Y rfl (ret_pi h) dX5_sortAt_62
        · have h := (if_pos c).symm.trans h
          refine j_iconst X (v := 3) (by decide) dX5_sortAt_57 ?_
          refine j_goto X (tgt := 62) (by decide) dX5_sortAt_58 ?_
          exact j_iret X Y rfl (ret_pi h) dX5_sortAt_62
      · have h := (if_neg c).symm.trans h
        refine j_iload_n X 0 rfl rfl dX5_sortAt_43 ?_
        refine j_bipush X (v := 57) (by decide) dX5_sortAt_44 ?_
        refine j_icmp_gt X (tgt := 51) (by decide) dX5_sortAt_46 (fun c => ?_) (fun c => ?_)
        · have h := (if_pos c).symm.trans h
          refine j_iload_n X 0 rfl rfl dX5_sortAt_51 ?_
          refine j_bipush X (v := 59) (by decide) dX5_sortAt_52 ?_
          refine j_icmp_ne X (tgt := 61) (by decide) dX5_sortAt_54 (fun c => ?_) (fun c => ?_)
          · have h := (if_neg c).symm.trans h
            refine j_iconst X (v := 4) (by decide) dX5_sortAt_61 ?_
            exact j_iret X Y rfl (ret_pi h) dX5_sortAt_62
          · have h := (if_pos c).symm.trans h
            refine j_iconst X (v := 3) (by decide) dX5_sortAt_57 ?_
            refine j_goto X (tgt := 62) (by decide) dX5_sortAt_58 ?_
            exact j_iret X Y rfl (ret_pi h) dX5_sortAt_62
        · have h := (if_neg c).symm.trans h
          refine j_iconst X (v := 2) (by decide) dX5_sortAt_49 ?_
          exact j_iret X Y rfl (ret_pi h) dX5_sortAt_50
    · have h := (if_neg c).symm.trans h
      refine j_iload_n X 0 rfl rfl dX5_sortAt_29 ?_
      refine j_bipush X (v := 122) (by decide) dX5_sortAt_30 ?_
      refine j_icmp_gt X (tgt := 37) (by decide) dX5_sortAt_32 (fun c => ?_) (fun c => ?_)
      · have h := (if_pos c).symm.trans h
        refine j_iload_n X 0 rfl rfl dX5_sortAt_37 ?_
        refine j_bipush X (v := 48) (by decide) dX5_sortAt_38 ?_
        refine j_icmp_lt X (tgt := 51) (by decide) dX5_sortAt_40 (fun c => ?_) (fun c => ?_)
        · have h := (if_pos c).symm.trans h
          refine j_iload_n X 0 rfl rfl dX5_sortAt_51 ?_
          refine j_bipush X (v := 59) (by decide) dX5_sortAt_52 ?_
          refine j_icmp_ne X (tgt := 61) (by decide) dX5_sortAt_54 (fun c => ?_) (fun c => ?_)
          · have h := (if_neg c).symm.trans h
            refine j_iconst X (v := 4) (by decide) dX5_sortAt_61 ?_
            exact j_iret X Y rfl (ret_pi h) dX5_sortAt_62
          · have h := (if_pos c).symm.trans h
            refine j_iconst X (v := 3) (by decide) dX5_sortAt_57 ?_
            refine j_goto X (tgt := 62) (by decide) dX5_sortAt_58 ?_
            exact j_iret X Y rfl (ret_pi h) dX5_sortAt_62
        · have h := (if_neg c).symm.trans h
          refine j_iload_n X 0 rfl rfl dX5_sortAt_43 ?_
          refine j_bipush X (v := 57) (by decide) dX5_sortAt_44 ?_
          refine j_icmp_gt X (tgt := 51) (by decide) dX5_sortAt_46 (fun c => ?_) (fun c => ?_)
          · have h := (if_pos c).symm.trans h
            refine j_iload_n X 0 rfl rfl dX5_sortAt_51 ?_
            refine j_bipush X (v := 59) (by decide) dX5_sortAt_52 ?_
            refine j_icmp_ne X (tgt := 61) (by decide) dX5_sortAt_54 (fun c => ?_) (fun c => ?_)
            · have h := (if_neg c).symm.trans h
              refine j_iconst X (v := 4) (by decide) dX5_sortAt_61 ?_
              exact j_iret X Y rfl (ret_pi h) dX5_sortAt_62
            · have h := (if_pos c).symm.trans h
              refine j_iconst X (v := 3) (by decide) dX5_sortAt_57 ?_
              refine j_goto X (tgt := 62) (by decide) dX5_sortAt_58 ?_
              exact j_iret X Y rfl (ret_pi h) dX5_sortAt_62
          · have h := (if_neg c).symm.trans h
            refine j_iconst X (v := 2) (by decide) dX5_sortAt_49 ?_
            exact j_iret X Y rfl (ret_pi h) dX5_sortAt_50
      · have h := (if_neg c).symm.trans h
        refine j_iconst X (v := 1) (by decide) dX5_sortAt_35 ?_
        exact j_iret X Y rfl (ret_pi h) dX5_sortAt_36
  · have h := (if_neg c).symm.trans h
    refine j_iconst X (v := 0) (by decide) dX5_sortAt_11 ?_
    exact j_iret X Y rfl (ret_pi h) dX5_sortAt_12

abbrev rm_X5_advance : Room := { frames := 2, cells := 0, slots := 0, locals := 45 }
set_option maxHeartbeats 4000000 in
set_option maxRecDepth 100000 in
theorem jl_X5_advance_L8 {β : Type} {Γ : Cx} {E : Ev} {ad : Nat → Nat} (X : XC Γ E rm_X5_advance cX5_advance 1 RX5)     {kx : Sg → Option (β)} {r : β}  (hkx : ∀ (σ : Sg), kx σ = some r → J Γ E 1 ad RF 85 σ 0 0 52 [(0, .ref (ad 61))] []) : ∀ n (σ : Sg), m_X5_advance_L8 kx n σ = some r → J Γ E 1 ad RF 85 σ 0 0 8 [(0, .ref (ad 61))] [] := by
  intro n
  induction n with
  | zero =>
    intro σ h
    cases h
  | succ n ih =>
    intro σ h
    rw [m_X5_advance_L8.eq_2] at h
    refine j_aload_n X 0 rfl rfl dX5_advance_8 ?_
    refine j_geti X cf3 pk_61 pl_61 1 rfl ⟨rfl, rfl⟩ bw_109 dX5_advance_9 ?_
    refine j_aload_n X 0 rfl rfl dX5_advance_12 ?_
    refine j_getr X cf3 pk_61 pl_61 0 rfl ⟨rfl, rfl⟩ 62 rfl bw_107 dX5_advance_13 ?_
    refine j_geti X cf4 pk_62 pl_62 3 rfl ⟨rfl, rfl⟩ bw_45 dX5_advance_16 ?_
    refine j_icmp_ge X (tgt := 52) (by decide) dX5_advance_19 (fun c => ?_) (fun c => ?_)
    · have h := (if_pos c).symm.trans h
      exact J.sub [0] rfl (hkx σ h)
    · have h := (if_neg c).symm.trans h
      refine j_aload_n X 0 rfl rfl dX5_advance_22 ?_
      refine j_getr X cf3 pk_61 pl_61 0 rfl ⟨rfl, rfl⟩ 62 rfl bw_107 dX5_advance_23 ?_
      refine j_aload_n X 0 rfl rfl dX5_advance_26 ?_
      refine j_geti X cf3 pk_61 pl_61 1 rfl ⟨rfl, rfl⟩ bw_109 dX5_advance_27 ?_
      refine j_iconst X (v := 0) (by decide) dX5_advance_30 ?_
      refine bd1_elim h (fun r2 hc3 h => ?_)
      refine j_callVi X (As := [.int (σ.1 61 1), .int (0 : Int32)]) (rest := []) mf_X6_get bw_280 bw_281 bs_341 ⟨rfl, rfl⟩ ⟨Nat.le_of_ble_eq_true rfl, Nat.le_of_ble_eq_true rfl⟩ cf4 pk_62 pl_62 (c_X6_get Γ.2.1 E ad pl_62 hc3) rfl rfl (Nat.le_of_ble_eq_true rfl) dX5_advance_31 ?_
      refine j_bipush X (v := 32) (by decide) dX5_advance_34 ?_
      refine j_icmp_ne X (tgt := 52) (by decide) dX5_advance_36 (fun c => ?_) (fun c => ?_)
      · have h := (if_neg c).symm.trans h
        exact J.sub [0] rfl (hkx σ h)
      · have h := (if_pos c).symm.trans h
        refine j_aload_n X 0 rfl rfl dX5_advance_39 ?_
        refine j_dup X rfl dX5_advance_40 ?_
        refine j_geti X cf3 pk_61 pl_61 1 rfl ⟨rfl, rfl⟩ bw_109 dX5_advance_41 ?_
        refine j_iconst X (v := 1) (by decide) dX5_advance_44 ?_
        refine j_iadd X dX5_advance_45 ?_
        refine nm_elim h (fun σ4 eσ4 h => ?_)
        refine j_puti X cf3 pk_61 pl_61 1 rfl ⟨rfl, rfl⟩ (.inl rfl) rfl rfl eσ4 bw_109 dX5_advance_46 ?_
        refine j_goto X (tgt := 8) (by decide) dX5_advance_49 ?_
        exact J.sub [0] rfl (ih σ4 h)
set_option maxHeartbeats 4000000 in
set_option maxRecDepth 100000 in
theorem jl_X5_advance_L104 {β : Type} {Γ : Cx} {E : Ev} {ad : Nat → Nat} (X : XC Γ E rm_X5_advance cX5_advance 1 RX5)     {kx : Sg → Option (β)} {r : β}  (hkx : ∀ (σ : Sg), kx σ = some r → J Γ E 1 ad RF 85 σ 0 0 173 [(0, .ref (ad 61))] []) : ∀ n (σ : Sg), m_X5_advance_L104 kx n σ = some r → J Γ E 1 ad RF 85 σ 0 0 104 [(0, .ref (ad 61))] [] := by
  intro n
  induction n with
  | zero =>
    intro σ h
    cases h
  | succ n ih =>
    intro σ h
    rw [m_X5_advance_L104.eq_2] at h
    refine j_aload_n X 0 rfl rfl dX5_advance_104 ?_
    refine j_geti X cf3 pk_61 pl_61 2 rfl ⟨rfl, rfl⟩ bw_110 dX5_advance_105 ?_
    refine j_aload_n X 0 rfl rfl dX5_advance_108 ?_
    refine j_getr X cf3 pk_61 pl_61 0 rfl ⟨rfl, rfl⟩ 62 rfl bw_107 dX5_advance_109 ?_
    refine j_geti X cf4 pk_62 pl_62 3 rfl ⟨rfl, rfl⟩ bw_45 dX5_advance_112 ?_
    refine j_icmp_ge X (tgt := 173) (by decide) dX5_advance_115 (fun c => ?_) (fun c => ?_)
    · have h := (if_pos c).symm.trans h
      exact J.sub [0] rfl (hkx σ h)
    · have h := (if_neg c).symm.trans h
      refine j_aload_n X 0 rfl rfl dX5_advance_118 ?_
      refine j_aload_n X 0 rfl rfl dX5_advance_119 ?_
      refine j_geti X cf3 pk_61 pl_61 2 rfl ⟨rfl, rfl⟩ bw_110 dX5_advance_120 ?_
      refine bd1_elim h (fun r12 hc13 h => ?_)
      refine j_callVi X (As := [.int (σ.1 61 2)]) (rest := []) mf_X5_sortAt bw_284 bw_286 bs_3 ⟨rfl, rfl⟩ ⟨Nat.le_of_ble_eq_true rfl, Nat.le_of_ble_eq_true rfl⟩ cf3 pk_61 pl_61 (c_X5_sortAt Γ.2.1 E ad  hc13) rfl rfl (Nat.le_of_ble_eq_true rfl) dX5_advance_123 ?_
      refine j_aload_n X 0 rfl rfl dX5_advance_126 ?_
      refine j_geti X cf3 pk_61 pl_61 3 rfl ⟨rfl, rfl⟩ bw_111 dX5_advance_127 ?_
      refine j_icmp_ne X (tgt := 173) (by decide) dX5_advance_130 (fun c => ?_) (fun c => ?_)
      · have h := (if_neg c).symm.trans h
        exact J.sub [0] rfl (hkx σ h)
      · have h := (if_pos c).symm.trans h
        refine j_aload_n X 0 rfl rfl dX5_advance_133 ?_
        refine j_bipush X (v := 10) (by decide) dX5_advance_134 ?_
        refine j_aload_n X 0 rfl rfl dX5_advance_136 ?_
        refine j_geti X cf3 pk_61 pl_61 4 rfl ⟨rfl, rfl⟩ bw_112 dX5_advance_137 ?_
        refine j_imul X dX5_advance_140 ?_
        refine j_aload_n X 0 rfl rfl dX5_advance_141 ?_
        refine j_getr X cf3 pk_61 pl_61 0 rfl ⟨rfl, rfl⟩ 62 rfl bw_107 dX5_advance_142 ?_
        refine j_aload_n X 0 rfl rfl dX5_advance_145 ?_
        refine j_geti X cf3 pk_61 pl_61 2 rfl ⟨rfl, rfl⟩ bw_110 dX5_advance_146 ?_
        refine j_iconst X (v := 0) (by decide) dX5_advance_149 ?_
        refine bd1_elim h (fun r14 hc15 h => ?_)
        refine j_callVi X (As := [.int (σ.1 61 2), .int (0 : Int32)]) (rest := [.int ((10 : Int32) * (σ.1 61 4)), .ref (ad 61)]) mf_X6_get bw_280 bw_281 bs_341 ⟨rfl, rfl⟩ ⟨Nat.le_of_ble_eq_true rfl, Nat.le_of_ble_eq_true rfl⟩ cf4 pk_62 pl_62 (c_X6_get Γ.2.1 E ad pl_62 hc15) rfl rfl (Nat.le_of_ble_eq_true rfl) dX5_advance_150 ?_
        refine j_iadd X dX5_advance_153 ?_
        refine j_bipush X (v := 48) (by decide) dX5_advance_154 ?_
        refine j_isub X dX5_advance_156 ?_
        refine nm_elim h (fun σ16 eσ16 h => ?_)
        refine j_puti X cf3 pk_61 pl_61 4 rfl ⟨rfl, rfl⟩ (.inl rfl) rfl rfl eσ16 bw_112 dX5_advance_157 ?_
        refine j_aload_n X 0 rfl rfl dX5_advance_160 ?_
        refine j_dup X rfl dX5_advance_161 ?_
        refine j_geti X cf3 pk_61 pl_61 2 rfl ⟨rfl, rfl⟩ bw_110 dX5_advance_162 ?_
        refine j_iconst X (v := 1) (by decide) dX5_advance_165 ?_
        refine j_iadd X dX5_advance_166 ?_
        refine nm_elim h (fun σ17 eσ17 h => ?_)
        refine j_puti X cf3 pk_61 pl_61 2 rfl ⟨rfl, rfl⟩ (.inl rfl) rfl rfl eσ17 bw_110 dX5_advance_167 ?_
        refine j_goto X (tgt := 104) (by decide) dX5_advance_170 ?_
        exact J.sub [0] rfl (ih σ17 h)
set_option maxHeartbeats 4000000 in
set_option maxRecDepth 100000 in
theorem c_X5_advance (l : Launch) (E : Ev) (ad : Nat → Nat)    {σ : Sg} {r : Sg} (h : m_X5_advance  σ = some r) : Met l yX5_advance (wY yX5_advance cX5_advance 1 none) rm_X5_advance (va_Pc [.ref (ad 61)] (PreU E ad RF 85 σ)) (QcN E ad (none, r)) 0 0 (EA E) := by
  refine met_of (L0 := [(0, .ref (ad 61))]) rfl (Nat.le_of_ble_eq_true rfl) rfl (fun Γ X Y => ?_)
  have X : XC Γ E rm_X5_advance cX5_advance 1 RX5 := X
  unfold m_X5_advance at h
  refine j_aload_n X 0 rfl rfl dX5_advance_0 ?_
  refine j_aload_n X 0 rfl rfl dX5_advance_1 ?_
  refine j_geti X cf3 pk_61 pl_61 2 rfl ⟨rfl, rfl⟩ bw_110 dX5_advance_2 ?_
  refine nm_elim h (fun σ1 eσ1 h => ?_)
  refine j_puti X cf3 pk_61 pl_61 1 rfl ⟨rfl, rfl⟩ (.inl rfl) rfl rfl eσ1 bw_109 dX5_advance_5 ?_
  refine J.sub [0] rfl ?_
  refine jl_X5_advance_L8 X  (fun σ5 h => ?_) 1000 σ1 h
  refine j_aload_n X 0 rfl rfl dX5_advance_52 ?_
  refine j_aload_n X 0 rfl rfl dX5_advance_53 ?_
  refine j_geti X cf3 pk_61 pl_61 1 rfl ⟨rfl, rfl⟩ bw_109 dX5_advance_54 ?_
  refine nm_elim h (fun σ6 eσ6 h => ?_)
  refine j_puti X cf3 pk_61 pl_61 2 rfl ⟨rfl, rfl⟩ (.inl rfl) rfl rfl eσ6 bw_110 dX5_advance_57 ?_
  refine j_aload_n X 0 rfl rfl dX5_advance_60 ?_
  refine j_aload_n X 0 rfl rfl dX5_advance_61 ?_
  refine j_aload_n X 0 rfl rfl dX5_advance_62 ?_
  refine j_geti X cf3 pk_61 pl_61 1 rfl ⟨rfl, rfl⟩ bw_109 dX5_advance_63 ?_
  refine bd1_elim h (fun r7 hc8 h => ?_)
  refine j_callVi X (As := [.int (σ6.1 61 1)]) (rest := [.ref (ad 61)]) mf_X5_sortAt bw_284 bw_286 bs_3 ⟨rfl, rfl⟩ ⟨Nat.le_of_ble_eq_true rfl, Nat.le_of_ble_eq_true rfl⟩ cf3 pk_61 pl_61 (c_X5_sortAt Γ.2.1 E ad  hc8) rfl rfl (Nat.le_of_ble_eq_true rfl) dX5_advance_66 ?_
  refine nm_elim h (fun σ9 eσ9 h => ?_)
  refine j_puti X cf3 pk_61 pl_61 3 rfl ⟨rfl, rfl⟩ (.inl rfl) rfl rfl eσ9 bw_111 dX5_advance_69 ?_
  refine j_aload_n X 0 rfl rfl dX5_advance_72 ?_
  refine j_geti X cf3 pk_61 pl_61 3 rfl ⟨rfl, rfl⟩ bw_111 dX5_advance_73 ?_
  refine j_iconst X (v := 3) (by decide) dX5_advance_76 ?_
  refine j_icmp_eq X (tgt := 88) (by decide) dX5_advance_77 (fun c => ?_) (fun c => ?_)
  · have h := (if_pos c).symm.trans h
    refine j_aload_n X 0 rfl rfl dX5_advance_88 ?_
    refine j_dup X rfl dX5_advance_89 ?_
    refine j_geti X cf3 pk_61 pl_61 2 rfl ⟨rfl, rfl⟩ bw_110 dX5_advance_90 ?_
    refine j_iconst X (v := 1) (by decide) dX5_advance_93 ?_
    refine j_iadd X dX5_advance_94 ?_
    refine nm_elim h (fun σ10 eσ10 h => ?_)
    refine j_puti X cf3 pk_61 pl_61 2 rfl ⟨rfl, rfl⟩ (.inl rfl) rfl rfl eσ10 bw_110 dX5_advance_95 ?_
    exact j_vret X Y (ret_wv h) dX5_advance_98
  · have h := (if_neg c).symm.trans h
    refine j_aload_n X 0 rfl rfl dX5_advance_80 ?_
    refine j_geti X cf3 pk_61 pl_61 3 rfl ⟨rfl, rfl⟩ bw_111 dX5_advance_81 ?_
    refine j_iconst X (v := 4) (by decide) dX5_advance_84 ?_
    refine j_icmp_ne X (tgt := 99) (by decide) dX5_advance_85 (fun c => ?_) (fun c => ?_)
    · have h := (if_neg c).symm.trans h
      refine j_aload_n X 0 rfl rfl dX5_advance_99 ?_
      refine j_iconst X (v := 0) (by decide) dX5_advance_100 ?_
      refine nm_elim h (fun σ11 eσ11 h => ?_)
      refine j_puti X cf3 pk_61 pl_61 4 rfl ⟨rfl, rfl⟩ (.inl rfl) rfl rfl eσ11 bw_112 dX5_advance_101 ?_
      refine J.sub [0] rfl ?_
      refine jl_X5_advance_L104 X  (fun σ18 h => ?_) 1000 σ11 h
      refine j_aload_n X 0 rfl rfl dX5_advance_173 ?_
      refine j_geti X cf3 pk_61 pl_61 3 rfl ⟨rfl, rfl⟩ bw_111 dX5_advance_174 ?_
      refine j_iconst X (v := 2) (by decide) dX5_advance_177 ?_
      refine j_icmp_ne X (tgt := 199) (by decide) dX5_advance_178 (fun c => ?_) (fun c => ?_)
      · have h := (if_neg c).symm.trans h
        exact j_vret X Y (ret_wv h) dX5_advance_199
      · have h := (if_pos c).symm.trans h
        refine j_aload_n X 0 rfl rfl dX5_advance_181 ?_
        refine j_geti X cf3 pk_61 pl_61 2 rfl ⟨rfl, rfl⟩ bw_110 dX5_advance_182 ?_
        refine j_aload_n X 0 rfl rfl dX5_advance_185 ?_
        refine j_geti X cf3 pk_61 pl_61 1 rfl ⟨rfl, rfl⟩ bw_109 dX5_advance_186 ?_
        refine j_isub X dX5_advance_189 ?_
        refine j_iconst X (v := 2) (by decide) dX5_advance_190 ?_
        refine j_icmp_le X (tgt := 199) (by decide) dX5_advance_191 (fun c => ?_) (fun c => ?_)
        · have h := (if_pos c).symm.trans h
          exact j_vret X Y (ret_wv h) dX5_advance_199
        · have h := (if_neg c).symm.trans h
          refine j_aload_n X 0 rfl rfl dX5_advance_194 ?_
          refine j_iconst X (v := 4) (by decide) dX5_advance_195 ?_
          refine nm_elim h (fun σ19 eσ19 h => ?_)
          refine j_puti X cf3 pk_61 pl_61 3 rfl ⟨rfl, rfl⟩ (.inl rfl) rfl rfl eσ19 bw_111 dX5_advance_196 ?_
          exact j_vret X Y (ret_wv h) dX5_advance_199
    · have h := (if_pos c).symm.trans h
      refine j_aload_n X 0 rfl rfl dX5_advance_88 ?_
      refine j_dup X rfl dX5_advance_89 ?_
      refine j_geti X cf3 pk_61 pl_61 2 rfl ⟨rfl, rfl⟩ bw_110 dX5_advance_90 ?_
      refine j_iconst X (v := 1) (by decide) dX5_advance_93 ?_
      refine j_iadd X dX5_advance_94 ?_
      refine nm_elim h (fun σ20 eσ20 h => ?_)
      refine j_puti X cf3 pk_61 pl_61 2 rfl ⟨rfl, rfl⟩ (.inl rfl) rfl rfl eσ20 bw_110 dX5_advance_95 ?_
      exact j_vret X Y (ret_wv h) dX5_advance_98

abbrev rm_X5_isWord : Room := { frames := 4, cells := 0, slots := 0, locals := 85 }
set_option maxHeartbeats 4000000 in
set_option maxRecDepth 100000 in
theorem jl_X5_isWord_L28 {Γ : Cx} {E : Ev} {ad : Nat → Nat} (X : XC Γ E rm_X5_isWord cX5_isWord 3 RX5) {k1 : Nat} (hl1 : k1 < 6)  {σ : Sg} {kx : Unit → Option (Int32)} {r : Int32} (Y : XQ Γ E ad (some .boolean) (some (.int r), σ))  : ∀ n (v2 : Int32), m_X5_isWord_L28 k1 σ kx n v2 = some r → J Γ E 3 ad RF 85 σ 0 0 28 [(2, .int v2), (0, .ref (ad 61)), (1, .ref (E.2.2.1 k1))] [] := by
  intro n
  induction n with
  | zero =>
    intro v2 h
    cases h
  | succ n ih =>
    intro v2 h
    rw [m_X5_isWord_L28.eq_2] at h
    refine j_iload_n X 0 rfl rfl dX5_isWord_28 ?_
    refine j_aload_n X 2 rfl rfl dX5_isWord_29 ?_
    refine j_strlen X hl1 (hR := ⟨Nat.le_of_ble_eq_true rfl, Nat.le_of_ble_eq_true rfl⟩) bw_293 (Nat.le_of_ble_eq_true rfl) dX5_isWord_30 ?_
    refine j_icmp_ge X (tgt := 66) (by decide) dX5_isWord_33 (fun c => ?_) (fun c => ?_)
    · have h := (if_pos c).symm.trans h
      refine j_iconst X (v := 1) (by decide) dX5_isWord_66 ?_
      exact j_iret X Y rfl (ret_pi h) dX5_isWord_67
    · have h := (if_neg c).symm.trans h
      refine j_aload_n X 1 rfl rfl dX5_isWord_36 ?_
      refine j_getr X cf3 pk_61 pl_61 0 rfl ⟨rfl, rfl⟩ 62 rfl bw_107 dX5_isWord_37 ?_
      refine j_aload_n X 1 rfl rfl dX5_isWord_40 ?_
      refine j_geti X cf3 pk_61 pl_61 1 rfl ⟨rfl, rfl⟩ bw_109 dX5_isWord_41 ?_
      refine j_iload_n X 0 rfl rfl dX5_isWord_44 ?_
      refine j_iadd X dX5_isWord_45 ?_
      refine j_iconst X (v := 0) (by decide) dX5_isWord_46 ?_
      refine bd1_elim h (fun r2 hc3 h => ?_)
      refine j_callVi X (As := [.int ((σ.1 61 1) + v2), .int (0 : Int32)]) (rest := []) mf_X6_get bw_280 bw_281 bs_341 ⟨rfl, rfl⟩ ⟨Nat.le_of_ble_eq_true rfl, Nat.le_of_ble_eq_true rfl⟩ cf4 pk_62 pl_62 (c_X6_get Γ.2.1 E ad pl_62 hc3) rfl rfl (Nat.le_of_ble_eq_true rfl) dX5_isWord_47 ?_
      refine j_aload_n X 2 rfl rfl dX5_isWord_50 ?_
      refine j_iload_n X 0 rfl rfl dX5_isWord_51 ?_
      refine gd_elim h (fun g h => ?_)
      refine j_charAt X hl1 g (hR := ⟨Nat.le_of_ble_eq_true rfl, Nat.le_of_ble_eq_true rfl⟩) bw_303 (Nat.le_of_ble_eq_true rfl) dX5_isWord_52 ?_
      refine j_icmp_eq X (tgt := 60) (by decide) dX5_isWord_55 (fun c => ?_) (fun c => ?_)
      · have h := (if_pos c).symm.trans h
        refine nm_elim h (fun x4 ex4 h => ?_)
        refine j_iinc1 X (L' := [(2, .int x4), (0, .ref (ad 61)), (1, .ref (E.2.2.1 k1))]) 0 rfl (q := 1) (by decide) ex4 (by decide) rfl dX5_isWord_60 ?_
        refine j_goto X (tgt := 28) (by decide) dX5_isWord_63 ?_
        exact J.sub [0, 1, 2] rfl (ih x4 h)
      · have h := (if_neg c).symm.trans h
        refine j_iconst X (v := 0) (by decide) dX5_isWord_58 ?_
        exact j_iret X Y rfl (ret_pi h) dX5_isWord_59
set_option maxHeartbeats 4000000 in
set_option maxRecDepth 100000 in
theorem c_X5_isWord (l : Launch) (E : Ev) (ad : Nat → Nat) {k1 : Nat} (hl1 : k1 < 6)  {σ : Sg} {r : Int32} (h : m_X5_isWord k1 σ = some r) : Met l yX5_isWord (wY yX5_isWord cX5_isWord 3 (some .boolean)) rm_X5_isWord (va_Pc [.ref (ad 61), .ref (E.2.2.1 k1)] (PreU E ad RF 85 σ)) (QcN E ad (some (.int r), σ)) 0 0 (EA E) := by
  refine met_of (L0 := [(0, .ref (ad 61)), (1, .ref (E.2.2.1 k1))]) rfl (Nat.le_of_ble_eq_true rfl) rfl (fun Γ X Y => ?_)
  have X : XC Γ E rm_X5_isWord cX5_isWord 3 RX5 := X
  unfold m_X5_isWord at h
  refine j_aload_n X 0 rfl rfl dX5_isWord_0 ?_
  refine j_geti X cf3 pk_61 pl_61 3 rfl ⟨rfl, rfl⟩ bw_111 dX5_isWord_1 ?_
  refine j_iconst X (v := 1) (by decide) dX5_isWord_4 ?_
  refine j_icmp_ne X (tgt := 24) (by decide) dX5_isWord_5 (fun c => ?_) (fun c => ?_)
  · have h := (if_neg c).symm.trans h
    refine j_iconst X (v := 0) (by decide) dX5_isWord_24 ?_
    exact j_iret X Y rfl (ret_pi h) dX5_isWord_25
  · have h := (if_pos c).symm.trans h
    refine j_aload_n X 0 rfl rfl dX5_isWord_8 ?_
    refine j_geti X cf3 pk_61 pl_61 2 rfl ⟨rfl, rfl⟩ bw_110 dX5_isWord_9 ?_
    refine j_aload_n X 0 rfl rfl dX5_isWord_12 ?_
    refine j_geti X cf3 pk_61 pl_61 1 rfl ⟨rfl, rfl⟩ bw_109 dX5_isWord_13 ?_
    refine j_isub X dX5_isWord_16 ?_
    refine j_aload_n X 1 rfl rfl dX5_isWord_17 ?_
    refine j_strlen X hl1 (hR := ⟨Nat.le_of_ble_eq_true rfl, Nat.le_of_ble_eq_true rfl⟩) bw_293 (Nat.le_of_ble_eq_true rfl) dX5_isWord_18 ?_
    refine j_icmp_eq X (tgt := 26) (by decide) dX5_isWord_21 (fun c => ?_) (fun c => ?_)
    · have h := (if_pos c).symm.trans h
      refine j_iconst X (v := 0) (by decide) dX5_isWord_26 ?_
      refine nm_elim h (fun x1 ex1 h => ?_)
      refine j_istore_n X (L' := [(2, .int x1), (0, .ref (ad 61)), (1, .ref (E.2.2.1 k1))]) ex1 rfl (by decide) rfl dX5_isWord_27 ?_
      refine J.sub [0, 1, 2] rfl ?_
      exact jl_X5_isWord_L28 X hl1 Y 1000 x1 h
    · have h := (if_neg c).symm.trans h
      refine j_iconst X (v := 0) (by decide) dX5_isWord_24 ?_
      exact j_iret X Y rfl (ret_pi h) dX5_isWord_25

abbrev rm_X5_readStop : Room := { frames := 3, cells := 0, slots := 0, locals := 65 }
set_option maxHeartbeats 4000000 in
set_option maxRecDepth 100000 in
theorem c_X5_readStop (l : Launch) (E : Ev) (ad : Nat → Nat)    {σ : Sg} {r : Int32 × Sg} (h : m_X5_readStop  σ = some r) : Met l yX5_readStop (wY yX5_readStop cX5_readStop 1 (some .boolean)) rm_X5_readStop (va_Pc [.ref (ad 61)] (PreU E ad RF 85 σ)) (QcN E ad (some (.int r.1), r.2)) 0 0 (EA E) := by
  refine met_of (L0 := [(0, .ref (ad 61))]) rfl (Nat.le_of_ble_eq_true rfl) rfl (fun Γ X Y => ?_)
  have X : XC Γ E rm_X5_readStop cX5_readStop 1 RX5 := X
  unfold m_X5_readStop at h
  refine j_aload_n X 0 rfl rfl dX5_readStop_0 ?_
  refine bd1_elim h (fun σ1 hc2 h => ?_)
  refine j_callVv X (As := []) (rest := []) mf_X5_advance bw_276 bw_278 bs_2 ⟨rfl, rfl⟩ ⟨Nat.le_of_ble_eq_true rfl, Nat.le_of_ble_eq_true rfl⟩ cf3 pk_61 pl_61 (c_X5_advance Γ.2.1 E ad  hc2) rfl rfl (Nat.le_of_ble_eq_true rfl) dX5_readStop_1 ?_
  refine j_aload_n X 0 rfl rfl dX5_readStop_4 ?_
  refine j_geti X cf3 pk_61 pl_61 3 rfl ⟨rfl, rfl⟩ bw_111 dX5_readStop_5 ?_
  refine j_iconst X (v := 3) (by decide) dX5_readStop_8 ?_
  refine j_icmp_ne X (tgt := 16) (by decide) dX5_readStop_9 (fun c => ?_) (fun c => ?_)
  · have h := (if_neg c).symm.trans h
    refine j_iconst X (v := 0) (by decide) dX5_readStop_16 ?_
    exact j_iret X Y rfl (ret_wi h) dX5_readStop_17
  · have h := (if_pos c).symm.trans h
    refine j_iconst X (v := 1) (by decide) dX5_readStop_12 ?_
    refine j_goto X (tgt := 17) (by decide) dX5_readStop_13 ?_
    exact j_iret X Y rfl (ret_wi h) dX5_readStop_17

abbrev rm_X5_itemBegun : Room := { frames := 5, cells := 0, slots := 0, locals := 107 }
set_option maxHeartbeats 4000000 in
set_option maxRecDepth 100000 in
theorem c_X5_itemBegun (l : Launch) (E : Ev) (ad : Nat → Nat)    {σ : Sg} {r : Int32} (h : m_X5_itemBegun  σ = some r) : Met l yX5_itemBegun (wY yX5_itemBegun cX5_itemBegun 1 (some .int)) rm_X5_itemBegun (va_Pc [.ref (ad 61)] (PreU E ad RF 85 σ)) (QcN E ad (some (.int r), σ)) 0 0 (EA E) := by
  refine met_of (L0 := [(0, .ref (ad 61))]) rfl (Nat.le_of_ble_eq_true rfl) rfl (fun Γ X Y => ?_)
  have X : XC Γ E rm_X5_itemBegun cX5_itemBegun 1 RX5 := X
  unfold m_X5_itemBegun at h
  refine j_aload_n X 0 rfl rfl dX5_itemBegun_0 ?_
  refine j_ldcS X (i := 1) (by decide) rfl dX5_itemBegun_1 ?_
  refine bd1_elim h (fun r1 hc2 h => ?_)
  refine j_callVi X (As := [.ref (E.2.2.1 1)]) (rest := []) mf_X5_isWord bw_289 bw_291 bs_4 ⟨rfl, rfl⟩ ⟨Nat.le_of_ble_eq_true rfl, Nat.le_of_ble_eq_true rfl⟩ cf3 pk_61 pl_61 (c_X5_isWord Γ.2.1 E ad (by decide) hc2) rfl rfl (Nat.le_of_ble_eq_true rfl) dX5_itemBegun_3 ?_
  refine j_if_eq X (tgt := 11) (by decide) dX5_itemBegun_6 (fun c => ?_) (fun c => ?_)
  · have h := (if_pos c).symm.trans h
    refine j_aload_n X 0 rfl rfl dX5_itemBegun_11 ?_
    refine j_ldcS X (i := 2) (by decide) rfl dX5_itemBegun_12 ?_
    refine bd1_elim h (fun r3 hc4 h => ?_)
    refine j_callVi X (As := [.ref (E.2.2.1 2)]) (rest := []) mf_X5_isWord bw_289 bw_291 bs_4 ⟨rfl, rfl⟩ ⟨Nat.le_of_ble_eq_true rfl, Nat.le_of_ble_eq_true rfl⟩ cf3 pk_61 pl_61 (c_X5_isWord Γ.2.1 E ad (by decide) hc4) rfl rfl (Nat.le_of_ble_eq_true rfl) dX5_itemBegun_14 ?_
    refine j_if_eq X (tgt := 22) (by decide) dX5_itemBegun_17 (fun c => ?_) (fun c => ?_)
    · have h := (if_pos c).symm.trans h
      refine j_aload_n X 0 rfl rfl dX5_itemBegun_22 ?_
      refine j_ldcS X (i := 3) (by decide) rfl dX5_itemBegun_23 ?_
      refine bd1_elim h (fun r5 hc6 h => ?_)
      refine j_callVi X (As := [.ref (E.2.2.1 3)]) (rest := []) mf_X5_isWord bw_289 bw_291 bs_4 ⟨rfl, rfl⟩ ⟨Nat.le_of_ble_eq_true rfl, Nat.le_of_ble_eq_true rfl⟩ cf3 pk_61 pl_61 (c_X5_isWord Γ.2.1 E ad (by decide) hc6) rfl rfl (Nat.le_of_ble_eq_true rfl) dX5_itemBegun_25 ?_
      refine j_if_eq X (tgt := 33) (by decide) dX5_itemBegun_28 (fun c => ?_) (fun c => ?_)
      · have h := (if_pos c).symm.trans h
        refine j_aload_n X 0 rfl rfl dX5_itemBegun_33 ?_
        refine j_ldcS X (i := 4) (by decide) rfl dX5_itemBegun_34 ?_
        refine bd1_elim h (fun r7 hc8 h => ?_)
        refine j_callVi X (As := [.ref (E.2.2.1 4)]) (rest := []) mf_X5_isWord bw_289 bw_291 bs_4 ⟨rfl, rfl⟩ ⟨Nat.le_of_ble_eq_true rfl, Nat.le_of_ble_eq_true rfl⟩ cf3 pk_61 pl_61 (c_X5_isWord Γ.2.1 E ad (by decide) hc8) rfl rfl (Nat.le_of_ble_eq_true rfl) dX5_itemBegun_36 ?_
        refine j_if_eq X (tgt := 44) (by decide) dX5_itemBegun_39 (fun c => ?_) (fun c => ?_)
        · have h := (if_pos c).symm.trans h
          refine j_aload_n X 0 rfl rfl dX5_itemBegun_44 ?_
          refine j_ldcS X (i := 5) (by decide) rfl dX5_itemBegun_45 ?_
          refine bd1_elim h (fun r9 hc10 h => ?_)
          refine j_callVi X (As := [.ref (E.2.2.1 5)]) (rest := []) mf_X5_isWord bw_289 bw_291 bs_4 ⟨rfl, rfl⟩ ⟨Nat.le_of_ble_eq_true rfl, Nat.le_of_ble_eq_true rfl⟩ cf3 pk_61 pl_61 (c_X5_isWord Γ.2.1 E ad (by decide) hc10) rfl rfl (Nat.le_of_ble_eq_true rfl) dX5_itemBegun_47 ?_
          refine j_if_eq X (tgt := 57) (by decide) dX5_itemBegun_50 (fun c => ?_) (fun c => ?_)
          · have h := (if_pos c).symm.trans h
            refine j_iconst X (v := 0) (by decide) dX5_itemBegun_57 ?_
            exact j_iret X Y rfl (ret_pi h) dX5_itemBegun_58
          · have h := (if_neg c).symm.trans h
            refine j_iconst X (v := 5) (by decide) dX5_itemBegun_53 ?_
            refine j_goto X (tgt := 58) (by decide) dX5_itemBegun_54 ?_
            exact j_iret X Y rfl (ret_pi h) dX5_itemBegun_58
        · have h := (if_neg c).symm.trans h
          refine j_iconst X (v := 4) (by decide) dX5_itemBegun_42 ?_
          exact j_iret X Y rfl (ret_pi h) dX5_itemBegun_43
      · have h := (if_neg c).symm.trans h
        refine j_iconst X (v := 3) (by decide) dX5_itemBegun_31 ?_
        exact j_iret X Y rfl (ret_pi h) dX5_itemBegun_32
    · have h := (if_neg c).symm.trans h
      refine j_iconst X (v := 2) (by decide) dX5_itemBegun_20 ?_
      exact j_iret X Y rfl (ret_pi h) dX5_itemBegun_21
  · have h := (if_neg c).symm.trans h
    refine j_iconst X (v := 1) (by decide) dX5_itemBegun_9 ?_
    exact j_iret X Y rfl (ret_pi h) dX5_itemBegun_10

abbrev rm_X5_mayBegin : Room := { frames := 1, cells := 0, slots := 0, locals := 20 }
set_option maxHeartbeats 4000000 in
set_option maxRecDepth 100000 in
theorem c_X5_mayBegin (l : Launch) (E : Ev) (ad : Nat → Nat) {k0 : Nat} (hl0 : lay k0 = 1) {a1 : Int32} {σ : Sg} {r : Int32} (h : m_X5_mayBegin k0 a1 σ = some r) : Met l yX5_mayBegin (wY yX5_mayBegin cX5_mayBegin 2 (some .boolean)) rm_X5_mayBegin (va_Pc [.ref (ad k0), .int a1] (PreU E ad RF 85 σ)) (QcN E ad (some (.int r), σ)) 0 0 (EA E) := by
  refine met_of (L0 := [(0, .ref (ad k0)), (1, .int a1)]) rfl (Nat.le_of_ble_eq_true rfl) rfl (fun Γ X Y => ?_)
  have X : XC Γ E rm_X5_mayBegin cX5_mayBegin 2 RX5 := X
  unfold m_X5_mayBegin at h
  refine j_iload_n X 1 rfl rfl dX5_mayBegin_0 ?_
  by_cases c0 : a1 = 0
  · have h := (if_pos c0).symm.trans h
    refine j_tableIn X (tgt := 28) (by rw [c0]; decide) (by rw [c0]; decide) (by rw [c0]; rfl) (by decide) dX5_mayBegin_1 ?_
    refine j_iconst X (v := 0) (by decide) dX5_mayBegin_28 ?_
    exact j_iret X Y rfl (ret_pi h) dX5_mayBegin_29
  · have h := (if_neg c0).symm.trans h
    by_cases c1 : a1 = 1
    · have h := (if_pos c1).symm.trans h
      refine j_tableIn X (tgt := 30) (by rw [c1]; decide) (by rw [c1]; decide) (by rw [c1]; rfl) (by decide) dX5_mayBegin_1 ?_
      refine j_aload_n X 0 rfl rfl dX5_mayBegin_30 ?_
      refine j_getr X cf1 (lay_lt hl0 (by decide)) hl0 1 rfl ⟨rfl, rfl⟩ (k0 + 1) (RF_H1 hl0) bw_63 dX5_mayBegin_31 ?_
      refine bd1_elim h (fun r1 hc2 h => ?_)
      refine j_callVi X (As := []) (rest := []) mf_X6_isFull bw_357 bw_232 bs_292 ⟨rfl, rfl⟩ ⟨Nat.le_of_ble_eq_true rfl, Nat.le_of_ble_eq_true rfl⟩ cf4 (lay_lt (lay_H1 hl0) (by decide)) (lay_H1 hl0) (c_X6_isFull Γ.2.1 E ad (lay_H1 hl0) hc2) rfl rfl (Nat.le_of_ble_eq_true rfl) dX5_mayBegin_34 ?_
      refine j_if_ne X (tgt := 44) (by decide) dX5_mayBegin_37 (fun c => ?_) (fun c => ?_)
      · have h := (if_neg c).symm.trans h
        refine j_iconst X (v := 0) (by decide) dX5_mayBegin_44 ?_
        exact j_iret X Y rfl (ret_pi h) dX5_mayBegin_45
      · have h := (if_pos c).symm.trans h
        refine j_iconst X (v := 1) (by decide) dX5_mayBegin_40 ?_
        refine j_goto X (tgt := 45) (by decide) dX5_mayBegin_41 ?_
        exact j_iret X Y rfl (ret_pi h) dX5_mayBegin_45
    · have h := (if_neg c1).symm.trans h
      by_cases c2 : a1 = 2
      · have h := (if_pos c2).symm.trans h
        refine j_tableIn X (tgt := 46) (by rw [c2]; decide) (by rw [c2]; decide) (by rw [c2]; rfl) (by decide) dX5_mayBegin_1 ?_
        refine j_aload_n X 0 rfl rfl dX5_mayBegin_46 ?_
        refine j_getr X cf1 (lay_lt hl0 (by decide)) hl0 2 rfl ⟨rfl, rfl⟩ (k0 + 3) (RF_H2 hl0) bw_69 dX5_mayBegin_47 ?_
        refine bd1_elim h (fun r3 hc4 h => ?_)
        refine j_callVi X (As := []) (rest := []) mf_X6_isFull bw_357 bw_232 bs_292 ⟨rfl, rfl⟩ ⟨Nat.le_of_ble_eq_true rfl, Nat.le_of_ble_eq_true rfl⟩ cf4 (lay_lt (lay_H2 hl0) (by decide)) (lay_H2 hl0) (c_X6_isFull Γ.2.1 E ad (lay_H2 hl0) hc4) rfl rfl (Nat.le_of_ble_eq_true rfl) dX5_mayBegin_50 ?_
        refine j_if_ne X (tgt := 60) (by decide) dX5_mayBegin_53 (fun c => ?_) (fun c => ?_)
        · have h := (if_neg c).symm.trans h
          refine j_iconst X (v := 0) (by decide) dX5_mayBegin_60 ?_
          exact j_iret X Y rfl (ret_pi h) dX5_mayBegin_61
        · have h := (if_pos c).symm.trans h
          refine j_iconst X (v := 1) (by decide) dX5_mayBegin_56 ?_
          refine j_goto X (tgt := 61) (by decide) dX5_mayBegin_57 ?_
          exact j_iret X Y rfl (ret_pi h) dX5_mayBegin_61
      · have h := (if_neg c2).symm.trans h
        refine j_tableOut X (tgt := 62) (sw_out (x := a1) (lo := 0) (hi := 2) (fun z h1 h2 => by rcases (by omega : z = 0 ∨ z = 1 ∨ z = 2) with rfl | rfl | rfl <;> first | exact c0 | exact c1 | exact c2)) (by decide) dX5_mayBegin_1 ?_
        refine j_iconst X (v := 1) (by decide) dX5_mayBegin_62 ?_
        exact j_iret X Y rfl (ret_pi h) dX5_mayBegin_63

abbrev rm_X7_within : Room := { frames := 0, cells := 0, slots := 0, locals := 0 }
set_option maxHeartbeats 4000000 in
set_option maxRecDepth 100000 in
theorem c_X7_within (l : Launch) (E : Ev) (ad : Nat → Nat)   {a0 : Int32} {a1 : Int32} {a2 : Int32} {σ : Sg} {r : Int32} (h : m_X7_within a0 a1 a2 σ = some r) : Met l yX7_within (wY yX7_within cX7_within 3 (some .boolean)) rm_X7_within (va_Pc [.int a0, .int a1, .int a2] (PreU E ad RF 85 σ)) (QcN E ad (some (.int r), σ)) 0 0 (EA E) := by
  refine met_of (L0 := [(0, .int a0), (1, .int a1), (2, .int a2)]) rfl (Nat.le_of_ble_eq_true rfl) rfl (fun Γ X Y => ?_)
  have X : XC Γ E rm_X7_within cX7_within 3 RX7 := X
  unfold m_X7_within at h
  refine j_iload_n X 0 rfl rfl dX7_within_0 ?_
  refine j_iload_n X 1 rfl rfl dX7_within_1 ?_
  refine j_icmp_lt X (tgt := 14) (by decide) dX7_within_2 (fun c => ?_) (fun c => ?_)
  · have h := (if_pos c).symm.trans h
    refine j_iconst X (v := 0) (by decide) dX7_within_14 ?_
    exact j_iret X Y rfl (ret_pi h) dX7_within_15
  · have h := (if_neg c).symm.trans h
    refine j_iload_n X 0 rfl rfl dX7_within_5 ?_
    refine j_iload_n X 2 rfl rfl dX7_within_6 ?_
    refine j_icmp_gt X (tgt := 14) (by decide) dX7_within_7 (fun c => ?_) (fun c => ?_)
    · have h := (if_pos c).symm.trans h
      refine j_iconst X (v := 0) (by decide) dX7_within_14 ?_
      exact j_iret X Y rfl (ret_pi h) dX7_within_15
    · have h := (if_neg c).symm.trans h
      refine j_iconst X (v := 1) (by decide) dX7_within_10 ?_
      refine j_goto X (tgt := 15) (by decide) dX7_within_11 ?_
      exact j_iret X Y rfl (ret_pi h) dX7_within_15

abbrev rm_X5_readNumber : Room := { frames := 3, cells := 0, slots := 0, locals := 65 }
set_option maxHeartbeats 4000000 in
set_option maxRecDepth 100000 in
theorem c_X5_readNumber (l : Launch) (E : Ev) (ad : Nat → Nat)   {a1 : Int32} {a2 : Int32} {σ : Sg} {r : Int32 × Sg} (h : m_X5_readNumber a1 a2 σ = some r) : Met l yX5_readNumber (wY yX5_readNumber cX5_readNumber 3 (some .boolean)) rm_X5_readNumber (va_Pc [.ref (ad 61), .int a1, .int a2] (PreU E ad RF 85 σ)) (QcN E ad (some (.int r.1), r.2)) 0 0 (EA E) := by
  refine met_of (L0 := [(0, .ref (ad 61)), (1, .int a1), (2, .int a2)]) rfl (Nat.le_of_ble_eq_true rfl) rfl (fun Γ X Y => ?_)
  have X : XC Γ E rm_X5_readNumber cX5_readNumber 3 RX5 := X
  unfold m_X5_readNumber at h
  refine j_aload_n X 0 rfl rfl dX5_readNumber_0 ?_
  refine bd1_elim h (fun σ1 hc2 h => ?_)
  refine j_callVv X (As := []) (rest := []) mf_X5_advance bw_276 bw_278 bs_2 ⟨rfl, rfl⟩ ⟨Nat.le_of_ble_eq_true rfl, Nat.le_of_ble_eq_true rfl⟩ cf3 pk_61 pl_61 (c_X5_advance Γ.2.1 E ad  hc2) rfl rfl (Nat.le_of_ble_eq_true rfl) dX5_readNumber_1 ?_
  refine j_aload_n X 0 rfl rfl dX5_readNumber_4 ?_
  refine j_geti X cf3 pk_61 pl_61 3 rfl ⟨rfl, rfl⟩ bw_111 dX5_readNumber_5 ?_
  refine j_iconst X (v := 2) (by decide) dX5_readNumber_8 ?_
  refine j_icmp_ne X (tgt := 28) (by decide) dX5_readNumber_9 (fun c => ?_) (fun c => ?_)
  · have h := (if_neg c).symm.trans h
    refine j_iconst X (v := 0) (by decide) dX5_readNumber_28 ?_
    exact j_iret X Y rfl (ret_wi h) dX5_readNumber_29
  · have h := (if_pos c).symm.trans h
    refine j_aload_n X 0 rfl rfl dX5_readNumber_12 ?_
    refine j_geti X cf3 pk_61 pl_61 4 rfl ⟨rfl, rfl⟩ bw_112 dX5_readNumber_13 ?_
    refine j_iload_n X 1 rfl rfl dX5_readNumber_16 ?_
    refine j_iload_n X 2 rfl rfl dX5_readNumber_17 ?_
    refine bd1_elim h (fun r3 hc4 h => ?_)
    refine j_callSNi X (As := [.int (σ1.1 61 4), .int a1, .int a2]) (rest := []) mf_X7_within (by simp [nestL]) bw_225 ⟨rfl, rfl⟩ ⟨Nat.le_of_ble_eq_true rfl, Nat.le_of_ble_eq_true rfl⟩ (c_X7_within Γ.2.1 E ad  hc4) rfl rfl (Nat.le_of_ble_eq_true rfl) dX5_readNumber_18 ?_
    refine j_if_eq X (tgt := 28) (by decide) dX5_readNumber_21 (fun c => ?_) (fun c => ?_)
    · have h := (if_pos c).symm.trans h
      refine j_iconst X (v := 0) (by decide) dX5_readNumber_28 ?_
      exact j_iret X Y rfl (ret_wi h) dX5_readNumber_29
    · have h := (if_neg c).symm.trans h
      refine j_iconst X (v := 1) (by decide) dX5_readNumber_24 ?_
      refine j_goto X (tgt := 29) (by decide) dX5_readNumber_25 ?_
      exact j_iret X Y rfl (ret_wi h) dX5_readNumber_29

abbrev rm_X5_readNumbers : Room := { frames := 4, cells := 0, slots := 0, locals := 87 }
set_option maxHeartbeats 4000000 in
set_option maxRecDepth 100000 in
theorem c_X5_readNumbers (l : Launch) (E : Ev) (ad : Nat → Nat)   {a1 : Int32} {σ : Sg} {r : Int32 × Sg} (h : m_X5_readNumbers a1 σ = some r) : Met l yX5_readNumbers (wY yX5_readNumbers cX5_readNumbers 2 (some .boolean)) rm_X5_readNumbers (va_Pc [.ref (ad 61), .int a1] (PreU E ad RF 85 σ)) (QcN E ad (some (.int r.1), r.2)) 0 0 (EA E) := by
  refine met_of (L0 := [(0, .ref (ad 61)), (1, .int a1)]) rfl (Nat.le_of_ble_eq_true rfl) rfl (fun Γ X Y => ?_)
  have X : XC Γ E rm_X5_readNumbers cX5_readNumbers 2 RX5 := X
  unfold m_X5_readNumbers at h
  refine j_iload_n X 1 rfl rfl dX5_readNumbers_0 ?_
  refine j_iconst X (v := 5) (by decide) dX5_readNumbers_1 ?_
  refine j_icmp_ne X (tgt := 13) (by decide) dX5_readNumbers_2 (fun c => ?_) (fun c => ?_)
  · have h := (if_neg c).symm.trans h
    refine j_iload_n X 1 rfl rfl dX5_readNumbers_13 ?_
    refine j_iconst X (v := 1) (by decide) dX5_readNumbers_14 ?_
    refine j_icmp_eq X (tgt := 23) (by decide) dX5_readNumbers_15 (fun c => ?_) (fun c => ?_)
    · have h := (if_pos c).symm.trans h
      refine j_aload_n X 0 rfl rfl dX5_readNumbers_23 ?_
      refine j_iconst X (v := 0) (by decide) dX5_readNumbers_24 ?_
      refine j_iconst X (v := 5) (by decide) dX5_readNumbers_25 ?_
      refine bd2_elim h (fun r1 σ2 hc3 h => ?_)
      refine j_callVi X (As := [.int (0 : Int32), .int (5 : Int32)]) (rest := []) mf_X5_readNumber bw_362 bw_364 bs_8 ⟨rfl, rfl⟩ ⟨Nat.le_of_ble_eq_true rfl, Nat.le_of_ble_eq_true rfl⟩ cf3 pk_61 pl_61 (c_X5_readNumber Γ.2.1 E ad  hc3) rfl rfl (Nat.le_of_ble_eq_true rfl) dX5_readNumbers_26 ?_
      refine j_if_ne X (tgt := 34) (by decide) dX5_readNumbers_29 (fun c => ?_) (fun c => ?_)
      · have h := (if_neg c).symm.trans h
        refine j_aload_n X 0 rfl rfl dX5_readNumbers_34 ?_
        refine j_aload_n X 0 rfl rfl dX5_readNumbers_35 ?_
        refine j_geti X cf3 pk_61 pl_61 4 rfl ⟨rfl, rfl⟩ bw_112 dX5_readNumbers_36 ?_
        refine nm_elim h (fun σ4 eσ4 h => ?_)
        refine j_puti X cf3 pk_61 pl_61 5 rfl ⟨rfl, rfl⟩ (.inl rfl) rfl rfl eσ4 bw_113 dX5_readNumbers_39 ?_
        refine j_aload_n X 0 rfl rfl dX5_readNumbers_42 ?_
        refine j_iconst X (v := 0) (by decide) dX5_readNumbers_43 ?_
        refine j_iconst X (v := 3) (by decide) dX5_readNumbers_44 ?_
        refine bd2_elim h (fun r5 σ6 hc7 h => ?_)
        refine j_callVi X (As := [.int (0 : Int32), .int (3 : Int32)]) (rest := []) mf_X5_readNumber bw_362 bw_364 bs_8 ⟨rfl, rfl⟩ ⟨Nat.le_of_ble_eq_true rfl, Nat.le_of_ble_eq_true rfl⟩ cf3 pk_61 pl_61 (c_X5_readNumber Γ.2.1 E ad  hc7) rfl rfl (Nat.le_of_ble_eq_true rfl) dX5_readNumbers_45 ?_
        refine j_if_ne X (tgt := 53) (by decide) dX5_readNumbers_48 (fun c => ?_) (fun c => ?_)
        · have h := (if_neg c).symm.trans h
          refine j_aload_n X 0 rfl rfl dX5_readNumbers_53 ?_
          refine j_aload_n X 0 rfl rfl dX5_readNumbers_54 ?_
          refine j_geti X cf3 pk_61 pl_61 4 rfl ⟨rfl, rfl⟩ bw_112 dX5_readNumbers_55 ?_
          refine nm_elim h (fun σ8 eσ8 h => ?_)
          refine j_puti X cf3 pk_61 pl_61 6 rfl ⟨rfl, rfl⟩ (.inl rfl) rfl rfl eσ8 bw_114 dX5_readNumbers_58 ?_
          refine j_iload_n X 1 rfl rfl dX5_readNumbers_61 ?_
          refine j_iconst X (v := 1) (by decide) dX5_readNumbers_62 ?_
          refine j_icmp_ne X (tgt := 76) (by decide) dX5_readNumbers_63 (fun c => ?_) (fun c => ?_)
          · have h := (if_neg c).symm.trans h
            refine j_iconst X (v := 1) (by decide) dX5_readNumbers_76 ?_
            refine j_goto X (tgt := 81) (by decide) dX5_readNumbers_77 ?_
            exact j_iret X Y rfl (ret_wi h) dX5_readNumbers_81
          · have h := (if_pos c).symm.trans h
            refine j_aload_n X 0 rfl rfl dX5_readNumbers_66 ?_
            refine j_iconst X (v := 1) (by decide) dX5_readNumbers_67 ?_
            refine j_bipush X (v := 9) (by decide) dX5_readNumbers_68 ?_
            refine bd2_elim h (fun r9 σ10 hc11 h => ?_)
            refine j_callVi X (As := [.int (1 : Int32), .int (9 : Int32)]) (rest := []) mf_X5_readNumber bw_362 bw_364 bs_8 ⟨rfl, rfl⟩ ⟨Nat.le_of_ble_eq_true rfl, Nat.le_of_ble_eq_true rfl⟩ cf3 pk_61 pl_61 (c_X5_readNumber Γ.2.1 E ad  hc11) rfl rfl (Nat.le_of_ble_eq_true rfl) dX5_readNumbers_70 ?_
            refine j_if_eq X (tgt := 80) (by decide) dX5_readNumbers_73 (fun c => ?_) (fun c => ?_)
            · have h := (if_pos c).symm.trans h
              refine j_iconst X (v := 0) (by decide) dX5_readNumbers_80 ?_
              exact j_iret X Y rfl (ret_wi h) dX5_readNumbers_81
            · have h := (if_neg c).symm.trans h
              refine j_iconst X (v := 1) (by decide) dX5_readNumbers_76 ?_
              refine j_goto X (tgt := 81) (by decide) dX5_readNumbers_77 ?_
              exact j_iret X Y rfl (ret_wi h) dX5_readNumbers_81
        · have h := (if_pos c).symm.trans h
          refine j_iconst X (v := 0) (by decide) dX5_readNumbers_51 ?_
          exact j_iret X Y rfl (ret_wi h) dX5_readNumbers_52
      · have h := (if_pos c).symm.trans h
        refine j_iconst X (v := 0) (by decide) dX5_readNumbers_32 ?_
        exact j_iret X Y rfl (ret_wi h) dX5_readNumbers_33
    · have h := (if_neg c).symm.trans h
      refine j_iload_n X 1 rfl rfl dX5_readNumbers_18 ?_
      refine j_iconst X (v := 2) (by decide) dX5_readNumbers_19 ?_
      refine j_icmp_ne X (tgt := 42) (by decide) dX5_readNumbers_20 (fun c => ?_) (fun c => ?_)
      · have h := (if_neg c).symm.trans h
        refine j_aload_n X 0 rfl rfl dX5_readNumbers_42 ?_
        refine j_iconst X (v := 0) (by decide) dX5_readNumbers_43 ?_
        refine j_iconst X (v := 3) (by decide) dX5_readNumbers_44 ?_
        refine bd2_elim h (fun r12 σ13 hc14 h => ?_)
        refine j_callVi X (As := [.int (0 : Int32), .int (3 : Int32)]) (rest := []) mf_X5_readNumber bw_362 bw_364 bs_8 ⟨rfl, rfl⟩ ⟨Nat.le_of_ble_eq_true rfl, Nat.le_of_ble_eq_true rfl⟩ cf3 pk_61 pl_61 (c_X5_readNumber Γ.2.1 E ad  hc14) rfl rfl (Nat.le_of_ble_eq_true rfl) dX5_readNumbers_45 ?_
        refine j_if_ne X (tgt := 53) (by decide) dX5_readNumbers_48 (fun c => ?_) (fun c => ?_)
        · have h := (if_neg c).symm.trans h
          refine j_aload_n X 0 rfl rfl dX5_readNumbers_53 ?_
          refine j_aload_n X 0 rfl rfl dX5_readNumbers_54 ?_
          refine j_geti X cf3 pk_61 pl_61 4 rfl ⟨rfl, rfl⟩ bw_112 dX5_readNumbers_55 ?_
          refine nm_elim h (fun σ15 eσ15 h => ?_)
          refine j_puti X cf3 pk_61 pl_61 6 rfl ⟨rfl, rfl⟩ (.inl rfl) rfl rfl eσ15 bw_114 dX5_readNumbers_58 ?_
          refine j_iload_n X 1 rfl rfl dX5_readNumbers_61 ?_
          refine j_iconst X (v := 1) (by decide) dX5_readNumbers_62 ?_
          refine j_icmp_ne X (tgt := 76) (by decide) dX5_readNumbers_63 (fun c => ?_) (fun c => ?_)
          · have h := (if_neg c).symm.trans h
            refine j_iconst X (v := 1) (by decide) dX5_readNumbers_76 ?_
            refine j_goto X (tgt := 81) (by decide) dX5_readNumbers_77 ?_
            exact j_iret X Y rfl (ret_wi h) dX5_readNumbers_81
          · have h := (if_pos c).symm.trans h
            refine j_aload_n X 0 rfl rfl dX5_readNumbers_66 ?_
            refine j_iconst X (v := 1) (by decide) dX5_readNumbers_67 ?_
            refine j_bipush X (v := 9) (by decide) dX5_readNumbers_68 ?_
            refine bd2_elim h (fun r16 σ17 hc18 h => ?_)
            refine j_callVi X (As := [.int (1 : Int32), .int (9 : Int32)]) (rest := []) mf_X5_readNumber bw_362 bw_364 bs_8 ⟨rfl, rfl⟩ ⟨Nat.le_of_ble_eq_true rfl, Nat.le_of_ble_eq_true rfl⟩ cf3 pk_61 pl_61 (c_X5_readNumber Γ.2.1 E ad  hc18) rfl rfl (Nat.le_of_ble_eq_true rfl) dX5_readNumbers_70 ?_
            refine j_if_eq X (tgt := 80) (by decide) dX5_readNumbers_73 (fun c => ?_) (fun c => ?_)
            · have h := (if_pos c).symm.trans h
              refine j_iconst X (v := 0) (by decide) dX5_readNumbers_80 ?_
              exact j_iret X Y rfl (ret_wi h) dX5_readNumbers_81
            · have h := (if_neg c).symm.trans h
              refine j_iconst X (v := 1) (by decide) dX5_readNumbers_76 ?_
              refine j_goto X (tgt := 81) (by decide) dX5_readNumbers_77 ?_
              exact j_iret X Y rfl (ret_wi h) dX5_readNumbers_81
        · have h := (if_pos c).symm.trans h
          refine j_iconst X (v := 0) (by decide) dX5_readNumbers_51 ?_
          exact j_iret X Y rfl (ret_wi h) dX5_readNumbers_52
      · have h := (if_pos c).symm.trans h
        refine j_aload_n X 0 rfl rfl dX5_readNumbers_23 ?_
        refine j_iconst X (v := 0) (by decide) dX5_readNumbers_24 ?_
        refine j_iconst X (v := 5) (by decide) dX5_readNumbers_25 ?_
        refine bd2_elim h (fun r19 σ20 hc21 h => ?_)
        refine j_callVi X (As := [.int (0 : Int32), .int (5 : Int32)]) (rest := []) mf_X5_readNumber bw_362 bw_364 bs_8 ⟨rfl, rfl⟩ ⟨Nat.le_of_ble_eq_true rfl, Nat.le_of_ble_eq_true rfl⟩ cf3 pk_61 pl_61 (c_X5_readNumber Γ.2.1 E ad  hc21) rfl rfl (Nat.le_of_ble_eq_true rfl) dX5_readNumbers_26 ?_
        refine j_if_ne X (tgt := 34) (by decide) dX5_readNumbers_29 (fun c => ?_) (fun c => ?_)
        · have h := (if_neg c).symm.trans h
          refine j_aload_n X 0 rfl rfl dX5_readNumbers_34 ?_
          refine j_aload_n X 0 rfl rfl dX5_readNumbers_35 ?_
          refine j_geti X cf3 pk_61 pl_61 4 rfl ⟨rfl, rfl⟩ bw_112 dX5_readNumbers_36 ?_
          refine nm_elim h (fun σ22 eσ22 h => ?_)
          refine j_puti X cf3 pk_61 pl_61 5 rfl ⟨rfl, rfl⟩ (.inl rfl) rfl rfl eσ22 bw_113 dX5_readNumbers_39 ?_
          refine j_aload_n X 0 rfl rfl dX5_readNumbers_42 ?_
          refine j_iconst X (v := 0) (by decide) dX5_readNumbers_43 ?_
          refine j_iconst X (v := 3) (by decide) dX5_readNumbers_44 ?_
          refine bd2_elim h (fun r23 σ24 hc25 h => ?_)
          refine j_callVi X (As := [.int (0 : Int32), .int (3 : Int32)]) (rest := []) mf_X5_readNumber bw_362 bw_364 bs_8 ⟨rfl, rfl⟩ ⟨Nat.le_of_ble_eq_true rfl, Nat.le_of_ble_eq_true rfl⟩ cf3 pk_61 pl_61 (c_X5_readNumber Γ.2.1 E ad  hc25) rfl rfl (Nat.le_of_ble_eq_true rfl) dX5_readNumbers_45 ?_
          refine j_if_ne X (tgt := 53) (by decide) dX5_readNumbers_48 (fun c => ?_) (fun c => ?_)
          · have h := (if_neg c).symm.trans h
            refine j_aload_n X 0 rfl rfl dX5_readNumbers_53 ?_
            refine j_aload_n X 0 rfl rfl dX5_readNumbers_54 ?_
            refine j_geti X cf3 pk_61 pl_61 4 rfl ⟨rfl, rfl⟩ bw_112 dX5_readNumbers_55 ?_
            refine nm_elim h (fun σ26 eσ26 h => ?_)
            refine j_puti X cf3 pk_61 pl_61 6 rfl ⟨rfl, rfl⟩ (.inl rfl) rfl rfl eσ26 bw_114 dX5_readNumbers_58 ?_
            refine j_iload_n X 1 rfl rfl dX5_readNumbers_61 ?_
            refine j_iconst X (v := 1) (by decide) dX5_readNumbers_62 ?_
            refine j_icmp_ne X (tgt := 76) (by decide) dX5_readNumbers_63 (fun c => ?_) (fun c => ?_)
            · have h := (if_neg c).symm.trans h
              refine j_iconst X (v := 1) (by decide) dX5_readNumbers_76 ?_
              refine j_goto X (tgt := 81) (by decide) dX5_readNumbers_77 ?_
              exact j_iret X Y rfl (ret_wi h) dX5_readNumbers_81
            · have h := (if_pos c).symm.trans h
              refine j_aload_n X 0 rfl rfl dX5_readNumbers_66 ?_
              refine j_iconst X (v := 1) (by decide) dX5_readNumbers_67 ?_
              refine j_bipush X (v := 9) (by decide) dX5_readNumbers_68 ?_
              refine bd2_elim h (fun r27 σ28 hc29 h => ?_)
              refine j_callVi X (As := [.int (1 : Int32), .int (9 : Int32)]) (rest := []) mf_X5_readNumber bw_362 bw_364 bs_8 ⟨rfl, rfl⟩ ⟨Nat.le_of_ble_eq_true rfl, Nat.le_of_ble_eq_true rfl⟩ cf3 pk_61 pl_61 (c_X5_readNumber Γ.2.1 E ad  hc29) rfl rfl (Nat.le_of_ble_eq_true rfl) dX5_readNumbers_70 ?_
              refine j_if_eq X (tgt := 80) (by decide) dX5_readNumbers_73 (fun c => ?_) (fun c => ?_)
              · have h := (if_pos c).symm.trans h
                refine j_iconst X (v := 0) (by decide) dX5_readNumbers_80 ?_
                exact j_iret X Y rfl (ret_wi h) dX5_readNumbers_81
              · have h := (if_neg c).symm.trans h
                refine j_iconst X (v := 1) (by decide) dX5_readNumbers_76 ?_
                refine j_goto X (tgt := 81) (by decide) dX5_readNumbers_77 ?_
                exact j_iret X Y rfl (ret_wi h) dX5_readNumbers_81
          · have h := (if_pos c).symm.trans h
            refine j_iconst X (v := 0) (by decide) dX5_readNumbers_51 ?_
            exact j_iret X Y rfl (ret_wi h) dX5_readNumbers_52
        · have h := (if_pos c).symm.trans h
          refine j_iconst X (v := 0) (by decide) dX5_readNumbers_32 ?_
          exact j_iret X Y rfl (ret_wi h) dX5_readNumbers_33
  · have h := (if_pos c).symm.trans h
    refine j_aload_n X 0 rfl rfl dX5_readNumbers_5 ?_
    refine j_iconst X (v := 1) (by decide) dX5_readNumbers_6 ?_
    refine j_bipush X (v := 99) (by decide) dX5_readNumbers_7 ?_
    refine bd2_elim h (fun r30 σ31 hc32 h => ?_)
    refine j_callVi X (As := [.int (1 : Int32), .int (99 : Int32)]) (rest := []) mf_X5_readNumber bw_362 bw_364 bs_8 ⟨rfl, rfl⟩ ⟨Nat.le_of_ble_eq_true rfl, Nat.le_of_ble_eq_true rfl⟩ cf3 pk_61 pl_61 (c_X5_readNumber Γ.2.1 E ad  hc32) rfl rfl (Nat.le_of_ble_eq_true rfl) dX5_readNumbers_9 ?_
    refine gd_elim h (fun g h => ?_)
    exact j_iret X Y (gb_nar g) (ret_wi h) dX5_readNumbers_12

abbrev rm_X5_obey : Room := { frames := 4, cells := 0, slots := 0, locals := 105 }
set_option maxHeartbeats 4000000 in
set_option maxRecDepth 100000 in
theorem c_X5_obey (l : Launch) (E : Ev) (ad : Nat → Nat) {k1 : Nat} (hl1 : lay k1 = 1) {a2 : Int32} {σ : Sg} {r : Sg} (h : m_X5_obey k1 a2 σ = some r) : Met l yX5_obey (wY yX5_obey cX5_obey 3 none) rm_X5_obey (va_Pc [.ref (ad 61), .ref (ad k1), .int a2] (PreU E ad RF 85 σ)) (QcN E ad (none, r)) 0 0 (EA E) := by
  refine met_of (L0 := [(0, .ref (ad 61)), (1, .ref (ad k1)), (2, .int a2)]) rfl (Nat.le_of_ble_eq_true rfl) rfl (fun Γ X Y => ?_)
  have X : XC Γ E rm_X5_obey cX5_obey 3 RX5 := X
  unfold m_X5_obey at h
  refine j_iload_n X 2 rfl rfl dX5_obey_0 ?_
  by_cases c0 : a2 = 1
  · have h := (if_pos c0).symm.trans h
    refine j_tableIn X (tgt := 32) (by rw [c0]; decide) (by rw [c0]; decide) (by rw [c0]; rfl) (by decide) dX5_obey_1 ?_
    refine j_aload_n X 1 rfl rfl dX5_obey_32 ?_
    refine j_aload_n X 0 rfl rfl dX5_obey_33 ?_
    refine j_geti X cf3 pk_61 pl_61 5 rfl ⟨rfl, rfl⟩ bw_113 dX5_obey_34 ?_
    refine j_aload_n X 0 rfl rfl dX5_obey_37 ?_
    refine j_geti X cf3 pk_61 pl_61 6 rfl ⟨rfl, rfl⟩ bw_114 dX5_obey_38 ?_
    refine j_aload_n X 0 rfl rfl dX5_obey_41 ?_
    refine j_geti X cf3 pk_61 pl_61 4 rfl ⟨rfl, rfl⟩ bw_112 dX5_obey_42 ?_
    refine bd2_elim h (fun r1 σ2 hc3 h => ?_)
    refine j_callVi X (As := [.int (σ.1 61 5), .int (σ.1 61 6), .int (σ.1 61 4)]) (rest := []) mf_X2_addSaying bw_371 bw_240 bs_300 ⟨rfl, rfl⟩ ⟨Nat.le_of_ble_eq_true rfl, Nat.le_of_ble_eq_true rfl⟩ cf1 (lay_lt hl1 (by decide)) hl1 (c_X2_addSaying Γ.2.1 E ad hl1 hc3) rfl rfl (Nat.le_of_ble_eq_true rfl) dX5_obey_45 ?_
    refine j_pop X rfl dX5_obey_48 ?_
    refine j_goto X (tgt := 101) (by decide) dX5_obey_49 ?_
    exact j_vret X Y (ret_wv h) dX5_obey_101
  · have h := (if_neg c0).symm.trans h
    by_cases c1 : a2 = 2
    · have h := (if_pos c1).symm.trans h
      refine j_tableIn X (tgt := 52) (by rw [c1]; decide) (by rw [c1]; decide) (by rw [c1]; rfl) (by decide) dX5_obey_1 ?_
      refine j_aload_n X 1 rfl rfl dX5_obey_52 ?_
      refine j_aload_n X 0 rfl rfl dX5_obey_53 ?_
      refine j_geti X cf3 pk_61 pl_61 5 rfl ⟨rfl, rfl⟩ bw_113 dX5_obey_54 ?_
      refine j_aload_n X 0 rfl rfl dX5_obey_57 ?_
      refine j_geti X cf3 pk_61 pl_61 6 rfl ⟨rfl, rfl⟩ bw_114 dX5_obey_58 ?_
      refine bd2_elim h (fun r4 σ5 hc6 h => ?_)
      refine j_callVi X (As := [.int (σ.1 61 5), .int (σ.1 61 6)]) (rest := []) mf_X2_addListener bw_372 bw_254 bs_314 ⟨rfl, rfl⟩ ⟨Nat.le_of_ble_eq_true rfl, Nat.le_of_ble_eq_true rfl⟩ cf1 (lay_lt hl1 (by decide)) hl1 (c_X2_addListener Γ.2.1 E ad hl1 hc6) rfl rfl (Nat.le_of_ble_eq_true rfl) dX5_obey_61 ?_
      refine j_pop X rfl dX5_obey_64 ?_
      refine j_goto X (tgt := 101) (by decide) dX5_obey_65 ?_
      exact j_vret X Y (ret_wv h) dX5_obey_101
    · have h := (if_neg c1).symm.trans h
      by_cases c2 : a2 = 3
      · have h := (if_pos c2).symm.trans h
        refine j_tableIn X (tgt := 68) (by rw [c2]; decide) (by rw [c2]; decide) (by rw [c2]; rfl) (by decide) dX5_obey_1 ?_
        refine j_aload_n X 1 rfl rfl dX5_obey_68 ?_
        refine j_aload_n X 0 rfl rfl dX5_obey_69 ?_
        refine j_geti X cf3 pk_61 pl_61 6 rfl ⟨rfl, rfl⟩ bw_114 dX5_obey_70 ?_
        refine bd1_elim h (fun σ7 hc8 h => ?_)
        refine j_callVv X (As := [.int (σ.1 61 6)]) (rest := []) mf_X2_strip bw_373 bw_374 bs_434 ⟨rfl, rfl⟩ ⟨Nat.le_of_ble_eq_true rfl, Nat.le_of_ble_eq_true rfl⟩ cf1 (lay_lt hl1 (by decide)) hl1 (c_X2_strip Γ.2.1 E ad hl1 hc8) rfl rfl (Nat.le_of_ble_eq_true rfl) dX5_obey_73 ?_
        refine j_goto X (tgt := 101) (by decide) dX5_obey_76 ?_
        exact j_vret X Y (ret_wv h) dX5_obey_101
      · have h := (if_neg c2).symm.trans h
        by_cases c3 : a2 = 4
        · have h := (if_pos c3).symm.trans h
          refine j_tableIn X (tgt := 79) (by rw [c3]; decide) (by rw [c3]; decide) (by rw [c3]; rfl) (by decide) dX5_obey_1 ?_
          refine j_aload_n X 1 rfl rfl dX5_obey_79 ?_
          refine j_aload_n X 0 rfl rfl dX5_obey_80 ?_
          refine j_geti X cf3 pk_61 pl_61 6 rfl ⟨rfl, rfl⟩ bw_114 dX5_obey_81 ?_
          refine bd1_elim h (fun σ9 hc10 h => ?_)
          refine j_callVv X (As := [.int (σ.1 61 6)]) (rest := []) mf_X2_paper bw_377 bw_207 bs_267 ⟨rfl, rfl⟩ ⟨Nat.le_of_ble_eq_true rfl, Nat.le_of_ble_eq_true rfl⟩ cf1 (lay_lt hl1 (by decide)) hl1 (c_X2_paper Γ.2.1 E ad hl1 hc10) rfl rfl (Nat.le_of_ble_eq_true rfl) dX5_obey_84 ?_
          refine j_goto X (tgt := 101) (by decide) dX5_obey_87 ?_
          exact j_vret X Y (ret_wv h) dX5_obey_101
        · have h := (if_neg c3).symm.trans h
          refine j_tableOut X (tgt := 90) (sw_out (x := a2) (lo := 1) (hi := 4) (fun z h1 h2 => by rcases (by omega : z = 1 ∨ z = 2 ∨ z = 3 ∨ z = 4) with rfl | rfl | rfl | rfl <;> first | exact c0 | exact c1 | exact c2 | exact c3)) (by decide) dX5_obey_1 ?_
          refine j_aload_n X 1 rfl rfl dX5_obey_90 ?_
          refine j_aload_n X 0 rfl rfl dX5_obey_91 ?_
          refine j_geti X cf3 pk_61 pl_61 4 rfl ⟨rfl, rfl⟩ bw_112 dX5_obey_92 ?_
          refine j_sipush X (v := 9999) (by decide) dX5_obey_95 ?_
          refine bd1_elim h (fun σ11 hc12 h => ?_)
          refine j_callVv X (As := [.int (σ.1 61 4), .int (9999 : Int32)]) (rest := []) mf_X2_passMinutes bw_378 bw_379 bs_439 ⟨rfl, rfl⟩ ⟨Nat.le_of_ble_eq_true rfl, Nat.le_of_ble_eq_true rfl⟩ cf1 (lay_lt hl1 (by decide)) hl1 (c_X2_passMinutes Γ.2.1 E ad hl1 hc12) rfl rfl (Nat.le_of_ble_eq_true rfl) dX5_obey_98 ?_
          exact j_vret X Y (ret_wv h) dX5_obey_101

abbrev rm_X5_readInto : Room := { frames := 6, cells := 0, slots := 0, locals := 127 }
set_option maxHeartbeats 4000000 in
set_option maxRecDepth 100000 in
theorem jl_X5_readInto_L39 {Γ : Cx} {E : Ev} {ad : Nat → Nat} (X : XC Γ E rm_X5_readInto cX5_readInto 4 RX5) {k1 : Nat} (hl1 : lay k1 = 1)   {kx : Sg → Option (Int32 × Sg)} {r : Int32 × Sg} (Y : XQ Γ E ad (some .int) (some (.int r.1), r.2))  : ∀ n (v2 : Int32) (σ : Sg), m_X5_readInto_L39 k1 kx n v2 σ = some r → J Γ E 4 ad RF 85 σ 0 0 39 [(2, .int v2), (0, .ref (ad 61)), (1, .ref (ad k1))] [] := by
  intro n
  induction n with
  | zero =>
    intro v2 σ h
    cases h
  | succ n ih =>
    intro v2 σ h
    rw [m_X5_readInto_L39.eq_2] at h
    refine j_iload_n X 0 rfl rfl dX5_readInto_39 ?_
    refine j_sipush X (v := 150) (by decide) dX5_readInto_40 ?_
    refine j_icmp_gt X (tgt := 107) (by decide) dX5_readInto_43 (fun c => ?_) (fun c => ?_)
    · have h := (if_pos c).symm.trans h
      refine j_bipush X (v := -10) (by decide) dX5_readInto_107 ?_
      refine j_aload_n X 1 rfl rfl dX5_readInto_109 ?_
      refine j_geti X cf3 pk_61 pl_61 1 rfl ⟨rfl, rfl⟩ bw_109 dX5_readInto_110 ?_
      refine j_isub X dX5_readInto_113 ?_
      exact j_iret X Y rfl (ret_wi h) dX5_readInto_114
    · have h := (if_neg c).symm.trans h
      refine j_aload_n X 1 rfl rfl dX5_readInto_46 ?_
      refine bd1_elim h (fun σ12 hc13 h => ?_)
      refine j_callVv X (As := []) (rest := []) mf_X5_advance bw_276 bw_278 bs_2 ⟨rfl, rfl⟩ ⟨Nat.le_of_ble_eq_true rfl, Nat.le_of_ble_eq_true rfl⟩ cf3 pk_61 pl_61 (c_X5_advance Γ.2.1 E ad  hc13) rfl rfl (Nat.le_of_ble_eq_true rfl) dX5_readInto_47 ?_
      refine j_aload_n X 1 rfl rfl dX5_readInto_50 ?_
      refine j_geti X cf3 pk_61 pl_61 3 rfl ⟨rfl, rfl⟩ bw_111 dX5_readInto_51 ?_
      refine j_if_ne X (tgt := 59) (by decide) dX5_readInto_54 (fun c => ?_) (fun c => ?_)
      · have h := (if_neg c).symm.trans h
        refine j_aload_n X 1 rfl rfl dX5_readInto_59 ?_
        refine bd1_elim h (fun r14 hc15 h => ?_)
        refine j_callVi X (As := []) (rest := []) mf_X5_itemBegun bw_345 bw_347 bs_6 ⟨rfl, rfl⟩ ⟨Nat.le_of_ble_eq_true rfl, Nat.le_of_ble_eq_true rfl⟩ cf3 pk_61 pl_61 (c_X5_itemBegun Γ.2.1 E ad  hc15) rfl rfl (Nat.le_of_ble_eq_true rfl) dX5_readInto_60 ?_
        refine j_istore_n X (L' := [(3, .int r14), (2, .int v2), (0, .ref (ad 61)), (1, .ref (ad k1))]) rfl rfl (by decide) rfl dX5_readInto_63 ?_
        refine j_aload_n X 3 rfl rfl dX5_readInto_64 ?_
        refine j_iload_n X 0 rfl rfl dX5_readInto_65 ?_
        refine bd1_elim h (fun r16 hc17 h => ?_)
        refine j_callSi X (As := [.ref (ad k1), .int r14]) (rest := []) mf_X5_mayBegin bw_354 bw_355 ⟨rfl, rfl⟩ ⟨Nat.le_of_ble_eq_true rfl, Nat.le_of_ble_eq_true rfl⟩ (c_X5_mayBegin Γ.2.1 E ad hl1 hc17) rfl rfl (Nat.le_of_ble_eq_true rfl) dX5_readInto_66 ?_
        refine j_if_eq X (tgt := 87) (by decide) dX5_readInto_69 (fun c => ?_) (fun c => ?_)
        · have h := (if_pos c).symm.trans h
          refine j_bipush X (v := -10) (by decide) dX5_readInto_87 ?_
          refine j_aload_n X 2 rfl rfl dX5_readInto_89 ?_
          refine j_geti X cf3 pk_61 pl_61 1 rfl ⟨rfl, rfl⟩ bw_109 dX5_readInto_90 ?_
          refine j_isub X dX5_readInto_93 ?_
          exact j_iret X Y rfl (ret_wi h) dX5_readInto_94
        · have h := (if_neg c).symm.trans h
          refine j_aload_n X 2 rfl rfl dX5_readInto_72 ?_
          refine j_iload_n X 0 rfl rfl dX5_readInto_73 ?_
          refine bd2_elim h (fun r18 σ19 hc20 h => ?_)
          refine j_callVi X (As := [.int r14]) (rest := []) mf_X5_readNumbers bw_358 bw_360 bs_7 ⟨rfl, rfl⟩ ⟨Nat.le_of_ble_eq_true rfl, Nat.le_of_ble_eq_true rfl⟩ cf3 pk_61 pl_61 (c_X5_readNumbers Γ.2.1 E ad  hc20) rfl rfl (Nat.le_of_ble_eq_true rfl) dX5_readInto_74 ?_
          refine j_if_eq X (tgt := 87) (by decide) dX5_readInto_77 (fun c => ?_) (fun c => ?_)
          · have h := (if_pos c).symm.trans h
            refine j_bipush X (v := -10) (by decide) dX5_readInto_87 ?_
            refine j_aload_n X 2 rfl rfl dX5_readInto_89 ?_
            refine j_geti X cf3 pk_61 pl_61 1 rfl ⟨rfl, rfl⟩ bw_109 dX5_readInto_90 ?_
            refine j_isub X dX5_readInto_93 ?_
            exact j_iret X Y rfl (ret_wi h) dX5_readInto_94
          · have h := (if_neg c).symm.trans h
            refine j_aload_n X 2 rfl rfl dX5_readInto_80 ?_
            refine bd2_elim h (fun r21 σ22 hc23 h => ?_)
            refine j_callVi X (As := []) (rest := []) mf_X5_readStop bw_341 bw_343 bs_5 ⟨rfl, rfl⟩ ⟨Nat.le_of_ble_eq_true rfl, Nat.le_of_ble_eq_true rfl⟩ cf3 pk_61 pl_61 (c_X5_readStop Γ.2.1 E ad  hc23) rfl rfl (Nat.le_of_ble_eq_true rfl) dX5_readInto_81 ?_
            refine j_if_ne X (tgt := 95) (by decide) dX5_readInto_84 (fun c => ?_) (fun c => ?_)
            · have h := (if_neg c).symm.trans h
              refine j_aload_n X 2 rfl rfl dX5_readInto_95 ?_
              refine j_aload_n X 3 rfl rfl dX5_readInto_96 ?_
              refine j_iload_n X 0 rfl rfl dX5_readInto_97 ?_
              refine bd1_elim h (fun σ24 hc25 h => ?_)
              refine j_callVv X (As := [.ref (ad k1), .int r14]) (rest := []) mf_X5_obey bw_367 bw_369 bs_9 ⟨rfl, rfl⟩ ⟨Nat.le_of_ble_eq_true rfl, Nat.le_of_ble_eq_true rfl⟩ cf3 pk_61 pl_61 (c_X5_obey Γ.2.1 E ad hl1 hc25) rfl rfl (Nat.le_of_ble_eq_true rfl) dX5_readInto_98 ?_
              refine nm_elim h (fun x26 ex26 h => ?_)
              refine j_iinc1 X (L' := [(2, .int x26), (3, .int r14), (0, .ref (ad 61)), (1, .ref (ad k1))]) 1 rfl (q := 1) (by decide) ex26 (by decide) rfl dX5_readInto_101 ?_
              refine j_goto X (tgt := 39) (by decide) dX5_readInto_104 ?_
              exact J.sub [0, 2, 3] rfl (ih x26 σ24 h)
            · have h := (if_pos c).symm.trans h
              refine j_bipush X (v := -10) (by decide) dX5_readInto_87 ?_
              refine j_aload_n X 2 rfl rfl dX5_readInto_89 ?_
              refine j_geti X cf3 pk_61 pl_61 1 rfl ⟨rfl, rfl⟩ bw_109 dX5_readInto_90 ?_
              refine j_isub X dX5_readInto_93 ?_
              exact j_iret X Y rfl (ret_wi h) dX5_readInto_94
      · have h := (if_pos c).symm.trans h
        refine j_iload_n X 0 rfl rfl dX5_readInto_57 ?_
        exact j_iret X Y rfl (ret_wi h) dX5_readInto_58
set_option maxHeartbeats 4000000 in
set_option maxRecDepth 100000 in
theorem c_X5_readInto (l : Launch) (E : Ev) (ad : Nat → Nat) {k1 : Nat} (hl1 : lay k1 = 1)  {σ : Sg} {r : Int32 × Sg} (h : m_X5_readInto k1 σ = some r) : Met l yX5_readInto (wY yX5_readInto cX5_readInto 4 (some .int)) rm_X5_readInto (va_Pc [.ref (ad 61), .ref (ad k1)] (PreU E ad RF 85 σ)) (QcN E ad (some (.int r.1), r.2)) 0 0 (EA E) := by
  refine met_of (L0 := [(0, .ref (ad 61)), (1, .ref (ad k1))]) rfl (Nat.le_of_ble_eq_true rfl) rfl (fun Γ X Y => ?_)
  have X : XC Γ E rm_X5_readInto cX5_readInto 4 RX5 := X
  unfold m_X5_readInto at h
  refine j_aload_n X 1 rfl rfl dX5_readInto_0 ?_
  refine bd1_elim h (fun σ1 hc2 h => ?_)
  refine j_callVv X (As := []) (rest := []) mf_X2_reset bw_275 bw_199 bs_259 ⟨rfl, rfl⟩ ⟨Nat.le_of_ble_eq_true rfl, Nat.le_of_ble_eq_true rfl⟩ cf1 (lay_lt hl1 (by decide)) hl1 (c_X2_reset Γ.2.1 E ad hl1 hc2) rfl rfl (Nat.le_of_ble_eq_true rfl) dX5_readInto_1 ?_
  refine j_aload_n X 0 rfl rfl dX5_readInto_4 ?_
  refine j_iconst X (v := 0) (by decide) dX5_readInto_5 ?_
  refine nm_elim h (fun σ3 eσ3 h => ?_)
  refine j_puti X cf3 pk_61 pl_61 2 rfl ⟨rfl, rfl⟩ (.inl rfl) rfl rfl eσ3 bw_110 dX5_readInto_6 ?_
  refine j_aload_n X 0 rfl rfl dX5_readInto_9 ?_
  refine bd1_elim h (fun σ4 hc5 h => ?_)
  refine j_callVv X (As := []) (rest := []) mf_X5_advance bw_276 bw_278 bs_2 ⟨rfl, rfl⟩ ⟨Nat.le_of_ble_eq_true rfl, Nat.le_of_ble_eq_true rfl⟩ cf3 pk_61 pl_61 (c_X5_advance Γ.2.1 E ad  hc5) rfl rfl (Nat.le_of_ble_eq_true rfl) dX5_readInto_10 ?_
  refine j_aload_n X 0 rfl rfl dX5_readInto_13 ?_
  refine j_ldcS X (i := 0) (by decide) rfl dX5_readInto_14 ?_
  refine bd1_elim h (fun r6 hc7 h => ?_)
  refine j_callVi X (As := [.ref (E.2.2.1 0)]) (rest := []) mf_X5_isWord bw_289 bw_291 bs_4 ⟨rfl, rfl⟩ ⟨Nat.le_of_ble_eq_true rfl, Nat.le_of_ble_eq_true rfl⟩ cf3 pk_61 pl_61 (c_X5_isWord Γ.2.1 E ad (by decide) hc7) rfl rfl (Nat.le_of_ble_eq_true rfl) dX5_readInto_16 ?_
  refine j_if_eq X (tgt := 29) (by decide) dX5_readInto_19 (fun c => ?_) (fun c => ?_)
  · have h := (if_pos c).symm.trans h
    refine j_bipush X (v := -10) (by decide) dX5_readInto_29 ?_
    refine j_aload_n X 0 rfl rfl dX5_readInto_31 ?_
    refine j_geti X cf3 pk_61 pl_61 1 rfl ⟨rfl, rfl⟩ bw_109 dX5_readInto_32 ?_
    refine j_isub X dX5_readInto_35 ?_
    exact j_iret X Y rfl (ret_wi h) dX5_readInto_36
  · have h := (if_neg c).symm.trans h
    refine j_aload_n X 0 rfl rfl dX5_readInto_22 ?_
    refine bd2_elim h (fun r8 σ9 hc10 h => ?_)
    refine j_callVi X (As := []) (rest := []) mf_X5_readStop bw_341 bw_343 bs_5 ⟨rfl, rfl⟩ ⟨Nat.le_of_ble_eq_true rfl, Nat.le_of_ble_eq_true rfl⟩ cf3 pk_61 pl_61 (c_X5_readStop Γ.2.1 E ad  hc10) rfl rfl (Nat.le_of_ble_eq_true rfl) dX5_readInto_23 ?_
    refine j_if_ne X (tgt := 37) (by decide) dX5_readInto_26 (fun c => ?_) (fun c => ?_)
    · have h := (if_neg c).symm.trans h
      refine j_iconst X (v := 1) (by decide) dX5_readInto_37 ?_
      refine nm_elim h (fun x11 ex11 h => ?_)
      refine j_istore_n X (L' := [(2, .int x11), (0, .ref (ad 61)), (1, .ref (ad k1))]) ex11 rfl (by decide) rfl dX5_readInto_38 ?_
      refine J.sub [0, 1, 2] rfl ?_
      exact jl_X5_readInto_L39 X hl1 Y 1000 x11 σ9 h
    · have h := (if_pos c).symm.trans h
      refine j_bipush X (v := -10) (by decide) dX5_readInto_29 ?_
      refine j_aload_n X 0 rfl rfl dX5_readInto_31 ?_
      refine j_geti X cf3 pk_61 pl_61 1 rfl ⟨rfl, rfl⟩ bw_109 dX5_readInto_32 ?_
      refine j_isub X dX5_readInto_35 ?_
      exact j_iret X Y rfl (ret_wi h) dX5_readInto_36

abbrev rm_X6_mixedInto : Room := { frames := 1, cells := 0, slots := 0, locals := 23 }
set_option maxHeartbeats 4000000 in
set_option maxRecDepth 100000 in
theorem jl_X6_mixedInto_L17 {β : Type} {Γ : Cx} {E : Ev} {ad : Nat → Nat} (X : XC Γ E rm_X6_mixedInto cX6_mixedInto 7 RX6) {k0 : Nat} (hl0 : lay k0 = 4) {c5 : Int32} {σ : Sg} {kx : Int64 → Option (β)} {r : β}  (hkx : ∀ (v3 : Int64), kx v3 = some r → J Γ E 7 ad RF 85 σ 0 0 48 [(5, .int c5), (3, .long v3), (0, .ref (ad k0))] []) : ∀ n (v6 : Int32) (v3 : Int64), m_X6_mixedInto_L17 k0 c5 σ kx n v6 v3 = some r → J Γ E 7 ad RF 85 σ 0 0 17 [(6, .int v6), (5, .int c5), (3, .long v3), (0, .ref (ad k0))] [] := by
  intro n
  induction n with
  | zero =>
    intro v6 v3 h
    cases h
  | succ n ih =>
    intro v6 v3 h
    rw [m_X6_mixedInto_L17.eq_2] at h
    refine j_iload X 0 rfl dX6_mixedInto_17 ?_
    refine j_aload_n X 3 rfl rfl dX6_mixedInto_19 ?_
    refine j_geti X cf4 (lay_lt hl0 (by decide)) hl0 1 rfl ⟨rfl, rfl⟩ bw_40 dX6_mixedInto_20 ?_
    refine j_icmp_ge X (tgt := 48) (by decide) dX6_mixedInto_23 (fun c => ?_) (fun c => ?_)
    · have h := (if_pos c).symm.trans h
      exact J.sub [1, 2, 3] rfl (hkx v3 h)
    · have h := (if_neg c).symm.trans h
      refine j_ldc2 X (v := 31) bw_742 dX6_mixedInto_26 ?_
      refine j_lload_n X 2 rfl rfl dX6_mixedInto_29 ?_
      refine j_lmul X dX6_mixedInto_30 ?_
      refine j_aload_n X 3 rfl rfl dX6_mixedInto_31 ?_
      refine j_iload X 1 rfl dX6_mixedInto_32 ?_
      refine j_iload X 0 rfl dX6_mixedInto_34 ?_
      refine bd1_elim h (fun r3 hc4 h => ?_)
      refine j_callVi X (As := [.int c5, .int v6]) (rest := [.long ((31 : Int64) * v3)]) mf_X6_get bw_743 bw_281 bs_341 ⟨rfl, rfl⟩ ⟨Nat.le_of_ble_eq_true rfl, Nat.le_of_ble_eq_true rfl⟩ cf4 (lay_lt hl0 (by decide)) hl0 (c_X6_get Γ.2.1 E ad hl0 hc4) rfl rfl (Nat.le_of_ble_eq_true rfl) dX6_mixedInto_36 ?_
      refine j_i2l X dX6_mixedInto_39 ?_
      refine j_ladd X dX6_mixedInto_40 ?_
      refine nm_elim h (fun x5 ex5 h => ?_)
      refine j_lstore_n X (L' := [(3, .long x5), (6, .int v6), (5, .int c5), (0, .ref (ad k0))]) ex5 rfl (by decide) rfl dX6_mixedInto_41 ?_
      refine nm_elim h (fun x6 ex6 h => ?_)
      refine j_iinc1 X (L' := [(6, .int x6), (3, .long x5), (5, .int c5), (0, .ref (ad k0))]) 1 rfl (q := 1) (by decide) ex6 (by decide) rfl dX6_mixedInto_42 ?_
      refine j_goto X (tgt := 17) (by decide) dX6_mixedInto_45 ?_
      exact J.sub [0, 2, 1, 3] rfl (ih x6 x5 h)
set_option maxHeartbeats 4000000 in
set_option maxRecDepth 100000 in
theorem jl_X6_mixedInto_L5 {Γ : Cx} {E : Ev} {ad : Nat → Nat} (X : XC Γ E rm_X6_mixedInto cX6_mixedInto 7 RX6) {k0 : Nat} (hl0 : lay k0 = 4)  {σ : Sg} {kx : Unit → Option (Int64)} {r : Int64} (Y : XQ Γ E ad (some .long) (some (.long r), σ))  : ∀ n (v5 : Int32) (v3 : Int64), m_X6_mixedInto_L5 k0 σ kx n v5 v3 = some r → J Γ E 7 ad RF 85 σ 0 0 5 [(5, .int v5), (3, .long v3), (0, .ref (ad k0))] [] := by
  intro n
  induction n with
  | zero =>
    intro v5 v3 h
    cases h
  | succ n ih =>
    intro v5 v3 h
    rw [m_X6_mixedInto_L5.eq_2] at h
    refine j_iload X 0 rfl dX6_mixedInto_5 ?_
    refine j_aload_n X 2 rfl rfl dX6_mixedInto_7 ?_
    refine j_geti X cf4 (lay_lt hl0 (by decide)) hl0 3 rfl ⟨rfl, rfl⟩ bw_42 dX6_mixedInto_8 ?_
    refine j_icmp_ge X (tgt := 54) (by decide) dX6_mixedInto_11 (fun c => ?_) (fun c => ?_)
    · have h := (if_pos c).symm.trans h
      refine j_lload_n X 1 rfl rfl dX6_mixedInto_54 ?_
      exact j_lret X Y (ret_pl h) dX6_mixedInto_55
    · have h := (if_neg c).symm.trans h
      refine j_iconst X (v := 0) (by decide) dX6_mixedInto_14 ?_
      refine nm_elim h (fun x2 ex2 h => ?_)
      refine j_istore X (L' := [(6, .int x2), (5, .int v5), (3, .long v3), (0, .ref (ad k0))]) ex2 (by decide) rfl dX6_mixedInto_15 ?_
      refine J.sub [0, 1, 2, 3] rfl ?_
      refine jl_X6_mixedInto_L17 X hl0 (fun x7 h => ?_) 1000 x2 v3 h
      refine nm_elim h (fun x8 ex8 h => ?_)
      refine j_iinc1 X (L' := [(5, .int x8), (3, .long x7), (0, .ref (ad k0))]) 0 rfl (q := 1) (by decide) ex8 (by decide) rfl dX6_mixedInto_48 ?_
      refine j_goto X (tgt := 5) (by decide) dX6_mixedInto_51 ?_
      exact J.sub [0, 1, 2] rfl (ih x8 x7 h)
set_option maxHeartbeats 4000000 in
set_option maxRecDepth 100000 in
theorem c_X6_mixedInto (l : Launch) (E : Ev) (ad : Nat → Nat) {k0 : Nat} (hl0 : lay k0 = 4) {a1 : Int64} {σ : Sg} {r : Int64} (h : m_X6_mixedInto k0 a1 σ = some r) : Met l yX6_mixedInto (wY yX6_mixedInto cX6_mixedInto 7 (some .long)) rm_X6_mixedInto (va_Pc [.ref (ad k0), .long a1] (PreU E ad RF 85 σ)) (QcN E ad (some (.long r), σ)) 0 0 (EA E) := by
  refine met_of (L0 := [(0, .ref (ad k0)), (1, .long a1)]) rfl (Nat.le_of_ble_eq_true rfl) rfl (fun Γ X Y => ?_)
  have X : XC Γ E rm_X6_mixedInto cX6_mixedInto 7 RX6 := X
  unfold m_X6_mixedInto at h
  refine j_lload_n X 1 rfl rfl dX6_mixedInto_0 ?_
  refine j_lstore_n X (L' := [(3, .long a1), (0, .ref (ad k0)), (1, .long a1)]) rfl rfl (by decide) rfl dX6_mixedInto_1 ?_
  refine j_iconst X (v := 0) (by decide) dX6_mixedInto_2 ?_
  refine nm_elim h (fun x1 ex1 h => ?_)
  refine j_istore X (L' := [(5, .int x1), (3, .long a1), (0, .ref (ad k0)), (1, .long a1)]) ex1 (by decide) rfl dX6_mixedInto_3 ?_
  refine J.sub [0, 1, 2] rfl ?_
  exact jl_X6_mixedInto_L5 X hl0 Y 1000 x1 a1 h

abbrev rm_X7_house : Room := { frames := 3, cells := 0, slots := 0, locals := 66 }
set_option maxHeartbeats 4000000 in
set_option maxRecDepth 100000 in
theorem c_X7_house (l : Launch) (E : Ev) (ad : Nat → Nat)    {σ : Sg} {r : Int32 × Sg} (h : m_X7_house  σ = some r) : Met l yX7_house (wY yX7_house cX7_house 2 (some .int)) rm_X7_house (va_Pc [.ref (ad 0)] (PreU E ad RF 85 σ)) (QcN E ad (some (.int r.1), r.2)) 0 0 (EA E) := by
  refine met_of (L0 := [(0, .ref (ad 0))]) rfl (Nat.le_of_ble_eq_true rfl) rfl (fun Γ X Y => ?_)
  have X : XC Γ E rm_X7_house cX7_house 2 RX7 := X
  unfold m_X7_house at h
  refine j_aload_n X 0 rfl rfl dX7_house_0 ?_
  refine j_getr X cf5 pk_0 pl_0 0 rfl ⟨rfl, rfl⟩ 1 rfl bw_157 dX7_house_1 ?_
  refine j_getr X cf1 pk_1 pl_1 1 rfl ⟨rfl, rfl⟩ (1 + 1) (RF_H1 pl_1) bw_61 dX7_house_4 ?_
  refine j_geti X cf4 (lay_lt (lay_H1 pl_1) (by decide)) (lay_H1 pl_1) 3 rfl ⟨rfl, rfl⟩ bw_43 dX7_house_7 ?_
  refine nm_elim h (fun x1 ex1 h => ?_)
  refine j_istore_n X (L' := [(1, .int x1), (0, .ref (ad 0))]) ex1 rfl (by decide) rfl dX7_house_10 ?_
  refine j_aload_n X 1 rfl rfl dX7_house_11 ?_
  refine j_getr X cf5 pk_0 pl_0 0 rfl ⟨rfl, rfl⟩ 1 rfl bw_157 dX7_house_12 ?_
  refine bd1_elim h (fun σ2 hc3 h => ?_)
  refine j_callVv X (As := []) (rest := []) mf_X2_reset bw_198 bw_199 bs_259 ⟨rfl, rfl⟩ ⟨Nat.le_of_ble_eq_true rfl, Nat.le_of_ble_eq_true rfl⟩ cf1 pk_1 pl_1 (c_X2_reset Γ.2.1 E ad pl_1 hc3) rfl rfl (Nat.le_of_ble_eq_true rfl) dX7_house_15 ?_
  refine j_iload_n X 0 rfl rfl dX7_house_18 ?_
  exact j_iret X Y rfl (ret_wi h) dX7_house_19

abbrev rm_X7_isKind : Room := { frames := 0, cells := 0, slots := 0, locals := 0 }
set_option maxHeartbeats 4000000 in
set_option maxRecDepth 100000 in
theorem c_X7_isKind (l : Launch) (E : Ev) (ad : Nat → Nat)   {a0 : Int32} {σ : Sg} {r : Int32} (h : m_X7_isKind a0 σ = some r) : Met l yX7_isKind (wY yX7_isKind cX7_isKind 1 (some .boolean)) rm_X7_isKind (va_Pc [.int a0] (PreU E ad RF 85 σ)) (QcN E ad (some (.int r), σ)) 0 0 (EA E) := by
  refine met_of (L0 := [(0, .int a0)]) rfl (Nat.le_of_ble_eq_true rfl) rfl (fun Γ X Y => ?_)
  have X : XC Γ E rm_X7_isKind cX7_isKind 1 RX7 := X
  unfold m_X7_isKind at h
  refine j_iload_n X 0 rfl rfl dX7_isKind_0 ?_
  refine j_if_lt X (tgt := 14) (by decide) dX7_isKind_1 (fun c => ?_) (fun c => ?_)
  · have h := (if_pos c).symm.trans h
    refine j_iconst X (v := 0) (by decide) dX7_isKind_14 ?_
    exact j_iret X Y rfl (ret_pi h) dX7_isKind_15
  · have h := (if_neg c).symm.trans h
    refine j_iload_n X 0 rfl rfl dX7_isKind_4 ?_
    refine j_bipush X (v := 6) (by decide) dX7_isKind_5 ?_
    refine j_icmp_ge X (tgt := 14) (by decide) dX7_isKind_7 (fun c => ?_) (fun c => ?_)
    · have h := (if_pos c).symm.trans h
      refine j_iconst X (v := 0) (by decide) dX7_isKind_14 ?_
      exact j_iret X Y rfl (ret_pi h) dX7_isKind_15
    · have h := (if_neg c).symm.trans h
      refine j_iconst X (v := 1) (by decide) dX7_isKind_10 ?_
      refine j_goto X (tgt := 15) (by decide) dX7_isKind_11 ?_
      exact j_iret X Y rfl (ret_pi h) dX7_isKind_15

abbrev rm_X7_isRoom : Room := { frames := 0, cells := 0, slots := 0, locals := 0 }
set_option maxHeartbeats 4000000 in
set_option maxRecDepth 100000 in
theorem c_X7_isRoom (l : Launch) (E : Ev) (ad : Nat → Nat)   {a0 : Int32} {σ : Sg} {r : Int32} (h : m_X7_isRoom a0 σ = some r) : Met l yX7_isRoom (wY yX7_isRoom cX7_isRoom 1 (some .boolean)) rm_X7_isRoom (va_Pc [.int a0] (PreU E ad RF 85 σ)) (QcN E ad (some (.int r), σ)) 0 0 (EA E) := by
  refine met_of (L0 := [(0, .int a0)]) rfl (Nat.le_of_ble_eq_true rfl) rfl (fun Γ X Y => ?_)
  have X : XC Γ E rm_X7_isRoom cX7_isRoom 1 RX7 := X
  unfold m_X7_isRoom at h
  refine j_iload_n X 0 rfl rfl dX7_isRoom_0 ?_
  refine j_if_lt X (tgt := 13) (by decide) dX7_isRoom_1 (fun c => ?_) (fun c => ?_)
  · have h := (if_pos c).symm.trans h
    refine j_iconst X (v := 0) (by decide) dX7_isRoom_13 ?_
    exact j_iret X Y rfl (ret_pi h) dX7_isRoom_14
  · have h := (if_neg c).symm.trans h
    refine j_iload_n X 0 rfl rfl dX7_isRoom_4 ?_
    refine j_iconst X (v := 4) (by decide) dX7_isRoom_5 ?_
    refine j_icmp_ge X (tgt := 13) (by decide) dX7_isRoom_6 (fun c => ?_) (fun c => ?_)
    · have h := (if_pos c).symm.trans h
      refine j_iconst X (v := 0) (by decide) dX7_isRoom_13 ?_
      exact j_iret X Y rfl (ret_pi h) dX7_isRoom_14
    · have h := (if_neg c).symm.trans h
      refine j_iconst X (v := 1) (by decide) dX7_isRoom_9 ?_
      refine j_goto X (tgt := 14) (by decide) dX7_isRoom_10 ?_
      exact j_iret X Y rfl (ret_pi h) dX7_isRoom_14

abbrev rm_X7_refuseBad : Room := { frames := 0, cells := 0, slots := 0, locals := 0 }
set_option maxHeartbeats 4000000 in
set_option maxRecDepth 100000 in
theorem c_X7_refuseBad (l : Launch) (E : Ev) (ad : Nat → Nat)    {σ : Sg} {r : Int32 × Sg} (h : m_X7_refuseBad  σ = some r) : Met l yX7_refuseBad (wY yX7_refuseBad cX7_refuseBad 1 (some .int)) rm_X7_refuseBad (va_Pc [.ref (ad 0)] (PreU E ad RF 85 σ)) (QcN E ad (some (.int r.1), r.2)) 0 0 (EA E) := by
  refine met_of (L0 := [(0, .ref (ad 0))]) rfl (Nat.le_of_ble_eq_true rfl) rfl (fun Γ X Y => ?_)
  have X : XC Γ E rm_X7_refuseBad cX7_refuseBad 1 RX7 := X
  unfold m_X7_refuseBad at h
  refine j_aload_n X 0 rfl rfl dX7_refuseBad_0 ?_
  refine j_dup X rfl dX7_refuseBad_1 ?_
  refine j_geti X cf5 pk_0 pl_0 9 rfl ⟨rfl, rfl⟩ bw_166 dX7_refuseBad_2 ?_
  refine j_iconst X (v := 1) (by decide) dX7_refuseBad_5 ?_
  refine j_iadd X dX7_refuseBad_6 ?_
  refine nm_elim h (fun σ1 eσ1 h => ?_)
  refine j_puti X cf5 pk_0 pl_0 9 rfl ⟨rfl, rfl⟩ (.inl rfl) rfl rfl eσ1 bw_166 dX7_refuseBad_7 ?_
  refine j_bipush X (v := -2) (by decide) dX7_refuseBad_10 ?_
  exact j_iret X Y rfl (ret_wi h) dX7_refuseBad_12

abbrev rm_X7_refuseFull : Room := { frames := 0, cells := 0, slots := 0, locals := 0 }
set_option maxHeartbeats 4000000 in
set_option maxRecDepth 100000 in
theorem c_X7_refuseFull (l : Launch) (E : Ev) (ad : Nat → Nat)    {σ : Sg} {r : Int32 × Sg} (h : m_X7_refuseFull  σ = some r) : Met l yX7_refuseFull (wY yX7_refuseFull cX7_refuseFull 1 (some .int)) rm_X7_refuseFull (va_Pc [.ref (ad 0)] (PreU E ad RF 85 σ)) (QcN E ad (some (.int r.1), r.2)) 0 0 (EA E) := by
  refine met_of (L0 := [(0, .ref (ad 0))]) rfl (Nat.le_of_ble_eq_true rfl) rfl (fun Γ X Y => ?_)
  have X : XC Γ E rm_X7_refuseFull cX7_refuseFull 1 RX7 := X
  unfold m_X7_refuseFull at h
  refine j_aload_n X 0 rfl rfl dX7_refuseFull_0 ?_
  refine j_dup X rfl dX7_refuseFull_1 ?_
  refine j_geti X cf5 pk_0 pl_0 11 rfl ⟨rfl, rfl⟩ bw_168 dX7_refuseFull_2 ?_
  refine j_iconst X (v := 1) (by decide) dX7_refuseFull_5 ?_
  refine j_iadd X dX7_refuseFull_6 ?_
  refine nm_elim h (fun σ1 eσ1 h => ?_)
  refine j_puti X cf5 pk_0 pl_0 11 rfl ⟨rfl, rfl⟩ (.inl rfl) rfl rfl eσ1 bw_168 dX7_refuseFull_7 ?_
  refine j_bipush X (v := -4) (by decide) dX7_refuseFull_10 ?_
  exact j_iret X Y rfl (ret_wi h) dX7_refuseFull_12

abbrev rm_X7_say : Room := { frames := 3, cells := 0, slots := 0, locals := 72 }
set_option maxHeartbeats 4000000 in
set_option maxRecDepth 100000 in
theorem c_X7_say (l : Launch) (E : Ev) (ad : Nat → Nat)   {a1 : Int32} {a2 : Int32} {a3 : Int32} {σ : Sg} {r : Int32 × Sg} (h : m_X7_say a1 a2 a3 σ = some r) : Met l yX7_say (wY yX7_say cX7_say 4 (some .int)) rm_X7_say (va_Pc [.ref (ad 0), .int a1, .int a2, .int a3] (PreU E ad RF 85 σ)) (QcN E ad (some (.int r.1), r.2)) 0 0 (EA E) := by
  refine met_of (L0 := [(0, .ref (ad 0)), (1, .int a1), (2, .int a2), (3, .int a3)]) rfl (Nat.le_of_ble_eq_true rfl) rfl (fun Γ X Y => ?_)
  have X : XC Γ E rm_X7_say cX7_say 4 RX7 := X
  unfold m_X7_say at h
  refine j_iload_n X 1 rfl rfl dX7_say_0 ?_
  refine bd1_elim h (fun r1 hc2 h => ?_)
  refine j_callSi X (As := [.int a1]) (rest := []) mf_X7_isKind bw_218 bw_219 ⟨rfl, rfl⟩ ⟨Nat.le_of_ble_eq_true rfl, Nat.le_of_ble_eq_true rfl⟩ (c_X7_isKind Γ.2.1 E ad  hc2) rfl rfl (Nat.le_of_ble_eq_true rfl) dX7_say_1 ?_
  refine j_if_eq X (tgt := 24) (by decide) dX7_say_4 (fun c => ?_) (fun c => ?_)
  · have h := (if_pos c).symm.trans h
    refine j_aload_n X 0 rfl rfl dX7_say_24 ?_
    refine bd2_elim h (fun r3 σ4 hc5 h => ?_)
    refine j_callVi X (As := []) (rest := []) mf_X7_refuseBad bw_227 bw_229 bs_0 ⟨rfl, rfl⟩ ⟨Nat.le_of_ble_eq_true rfl, Nat.le_of_ble_eq_true rfl⟩ cf5 pk_0 pl_0 (c_X7_refuseBad Γ.2.1 E ad  hc5) rfl rfl (Nat.le_of_ble_eq_true rfl) dX7_say_25 ?_
    exact j_iret X Y rfl (ret_wi h) dX7_say_28
  · have h := (if_neg c).symm.trans h
    refine j_iload_n X 2 rfl rfl dX7_say_7 ?_
    refine bd1_elim h (fun r6 hc7 h => ?_)
    refine j_callSi X (As := [.int a2]) (rest := []) mf_X7_isRoom bw_221 bw_222 ⟨rfl, rfl⟩ ⟨Nat.le_of_ble_eq_true rfl, Nat.le_of_ble_eq_true rfl⟩ (c_X7_isRoom Γ.2.1 E ad  hc7) rfl rfl (Nat.le_of_ble_eq_true rfl) dX7_say_8 ?_
    refine j_if_eq X (tgt := 24) (by decide) dX7_say_11 (fun c => ?_) (fun c => ?_)
    · have h := (if_pos c).symm.trans h
      refine j_aload_n X 0 rfl rfl dX7_say_24 ?_
      refine bd2_elim h (fun r8 σ9 hc10 h => ?_)
      refine j_callVi X (As := []) (rest := []) mf_X7_refuseBad bw_227 bw_229 bs_0 ⟨rfl, rfl⟩ ⟨Nat.le_of_ble_eq_true rfl, Nat.le_of_ble_eq_true rfl⟩ cf5 pk_0 pl_0 (c_X7_refuseBad Γ.2.1 E ad  hc10) rfl rfl (Nat.le_of_ble_eq_true rfl) dX7_say_25 ?_
      exact j_iret X Y rfl (ret_wi h) dX7_say_28
    · have h := (if_neg c).symm.trans h
      refine j_iload_n X 3 rfl rfl dX7_say_14 ?_
      refine j_iconst X (v := 1) (by decide) dX7_say_15 ?_
      refine j_bipush X (v := 9) (by decide) dX7_say_16 ?_
      refine bd1_elim h (fun r11 hc12 h => ?_)
      refine j_callSi X (As := [.int a3, .int (1 : Int32), .int (9 : Int32)]) (rest := []) mf_X7_within bw_224 bw_225 ⟨rfl, rfl⟩ ⟨Nat.le_of_ble_eq_true rfl, Nat.le_of_ble_eq_true rfl⟩ (c_X7_within Γ.2.1 E ad  hc12) rfl rfl (Nat.le_of_ble_eq_true rfl) dX7_say_18 ?_
      refine j_if_ne X (tgt := 29) (by decide) dX7_say_21 (fun c => ?_) (fun c => ?_)
      · have h := (if_neg c).symm.trans h
        refine j_aload_n X 0 rfl rfl dX7_say_29 ?_
        refine j_getr X cf5 pk_0 pl_0 0 rfl ⟨rfl, rfl⟩ 1 rfl bw_157 dX7_say_30 ?_
        refine j_getr X cf1 pk_1 pl_1 1 rfl ⟨rfl, rfl⟩ (1 + 1) (RF_H1 pl_1) bw_61 dX7_say_33 ?_
        refine bd1_elim h (fun r13 hc14 h => ?_)
        refine j_callVi X (As := []) (rest := []) mf_X6_isFull bw_231 bw_232 bs_292 ⟨rfl, rfl⟩ ⟨Nat.le_of_ble_eq_true rfl, Nat.le_of_ble_eq_true rfl⟩ cf4 (lay_lt (lay_H1 pl_1) (by decide)) (lay_H1 pl_1) (c_X6_isFull Γ.2.1 E ad (lay_H1 pl_1) hc14) rfl rfl (Nat.le_of_ble_eq_true rfl) dX7_say_36 ?_
        refine j_if_eq X (tgt := 47) (by decide) dX7_say_39 (fun c => ?_) (fun c => ?_)
        · have h := (if_pos c).symm.trans h
          refine j_aload_n X 0 rfl rfl dX7_say_47 ?_
          refine j_getr X cf5 pk_0 pl_0 0 rfl ⟨rfl, rfl⟩ 1 rfl bw_157 dX7_say_48 ?_
          refine j_iload_n X 1 rfl rfl dX7_say_51 ?_
          refine j_iload_n X 2 rfl rfl dX7_say_52 ?_
          refine j_iload_n X 3 rfl rfl dX7_say_53 ?_
          refine bd2_elim h (fun r15 σ16 hc17 h => ?_)
          refine j_callVi X (As := [.int a1, .int a2, .int a3]) (rest := []) mf_X2_addSaying bw_239 bw_240 bs_300 ⟨rfl, rfl⟩ ⟨Nat.le_of_ble_eq_true rfl, Nat.le_of_ble_eq_true rfl⟩ cf1 pk_1 pl_1 (c_X2_addSaying Γ.2.1 E ad pl_1 hc17) rfl rfl (Nat.le_of_ble_eq_true rfl) dX7_say_54 ?_
          exact j_iret X Y rfl (ret_wi h) dX7_say_57
        · have h := (if_neg c).symm.trans h
          refine j_aload_n X 0 rfl rfl dX7_say_42 ?_
          refine bd2_elim h (fun r18 σ19 hc20 h => ?_)
          refine j_callVi X (As := []) (rest := []) mf_X7_refuseFull bw_235 bw_237 bs_1 ⟨rfl, rfl⟩ ⟨Nat.le_of_ble_eq_true rfl, Nat.le_of_ble_eq_true rfl⟩ cf5 pk_0 pl_0 (c_X7_refuseFull Γ.2.1 E ad  hc20) rfl rfl (Nat.le_of_ble_eq_true rfl) dX7_say_43 ?_
          exact j_iret X Y rfl (ret_wi h) dX7_say_46
      · have h := (if_pos c).symm.trans h
        refine j_aload_n X 0 rfl rfl dX7_say_24 ?_
        refine bd2_elim h (fun r21 σ22 hc23 h => ?_)
        refine j_callVi X (As := []) (rest := []) mf_X7_refuseBad bw_227 bw_229 bs_0 ⟨rfl, rfl⟩ ⟨Nat.le_of_ble_eq_true rfl, Nat.le_of_ble_eq_true rfl⟩ cf5 pk_0 pl_0 (c_X7_refuseBad Γ.2.1 E ad  hc23) rfl rfl (Nat.le_of_ble_eq_true rfl) dX7_say_25 ?_
        exact j_iret X Y rfl (ret_wi h) dX7_say_28

abbrev rm_X7_ear : Room := { frames := 3, cells := 0, slots := 0, locals := 71 }
set_option maxHeartbeats 4000000 in
set_option maxRecDepth 100000 in
theorem c_X7_ear (l : Launch) (E : Ev) (ad : Nat → Nat)   {a1 : Int32} {σ : Sg} {r : Int32 × Sg} (h : m_X7_ear a1 σ = some r) : Met l yX7_ear (wY yX7_ear cX7_ear 2 (some .int)) rm_X7_ear (va_Pc [.ref (ad 0), .int a1] (PreU E ad RF 85 σ)) (QcN E ad (some (.int r.1), r.2)) 0 0 (EA E) := by
  refine met_of (L0 := [(0, .ref (ad 0)), (1, .int a1)]) rfl (Nat.le_of_ble_eq_true rfl) rfl (fun Γ X Y => ?_)
  have X : XC Γ E rm_X7_ear cX7_ear 2 RX7 := X
  unfold m_X7_ear at h
  refine j_iload_n X 1 rfl rfl dX7_ear_0 ?_
  refine bd1_elim h (fun r1 hc2 h => ?_)
  refine j_callSi X (As := [.int a1]) (rest := []) mf_X7_isKind bw_218 bw_219 ⟨rfl, rfl⟩ ⟨Nat.le_of_ble_eq_true rfl, Nat.le_of_ble_eq_true rfl⟩ (c_X7_isKind Γ.2.1 E ad  hc2) rfl rfl (Nat.le_of_ble_eq_true rfl) dX7_ear_1 ?_
  refine j_if_ne X (tgt := 12) (by decide) dX7_ear_4 (fun c => ?_) (fun c => ?_)
  · have h := (if_neg c).symm.trans h
    refine j_aload_n X 0 rfl rfl dX7_ear_12 ?_
    refine j_getr X cf5 pk_0 pl_0 0 rfl ⟨rfl, rfl⟩ 1 rfl bw_157 dX7_ear_13 ?_
    refine j_getr X cf1 pk_1 pl_1 2 rfl ⟨rfl, rfl⟩ (1 + 3) (RF_H2 pl_1) bw_68 dX7_ear_16 ?_
    refine bd1_elim h (fun r3 hc4 h => ?_)
    refine j_callVi X (As := []) (rest := []) mf_X6_isFull bw_231 bw_232 bs_292 ⟨rfl, rfl⟩ ⟨Nat.le_of_ble_eq_true rfl, Nat.le_of_ble_eq_true rfl⟩ cf4 (lay_lt (lay_H2 pl_1) (by decide)) (lay_H2 pl_1) (c_X6_isFull Γ.2.1 E ad (lay_H2 pl_1) hc4) rfl rfl (Nat.le_of_ble_eq_true rfl) dX7_ear_19 ?_
    refine j_if_eq X (tgt := 30) (by decide) dX7_ear_22 (fun c => ?_) (fun c => ?_)
    · have h := (if_pos c).symm.trans h
      refine j_aload_n X 0 rfl rfl dX7_ear_30 ?_
      refine j_getr X cf5 pk_0 pl_0 0 rfl ⟨rfl, rfl⟩ 1 rfl bw_157 dX7_ear_31 ?_
      refine j_iload_n X 1 rfl rfl dX7_ear_34 ?_
      refine j_iconst X (v := 0) (by decide) dX7_ear_35 ?_
      refine bd2_elim h (fun r5 σ6 hc7 h => ?_)
      refine j_callVi X (As := [.int a1, .int (0 : Int32)]) (rest := []) mf_X2_addListener bw_253 bw_254 bs_314 ⟨rfl, rfl⟩ ⟨Nat.le_of_ble_eq_true rfl, Nat.le_of_ble_eq_true rfl⟩ cf1 pk_1 pl_1 (c_X2_addListener Γ.2.1 E ad pl_1 hc7) rfl rfl (Nat.le_of_ble_eq_true rfl) dX7_ear_36 ?_
      exact j_iret X Y rfl (ret_wi h) dX7_ear_39
    · have h := (if_neg c).symm.trans h
      refine j_aload_n X 0 rfl rfl dX7_ear_25 ?_
      refine bd2_elim h (fun r8 σ9 hc10 h => ?_)
      refine j_callVi X (As := []) (rest := []) mf_X7_refuseFull bw_235 bw_237 bs_1 ⟨rfl, rfl⟩ ⟨Nat.le_of_ble_eq_true rfl, Nat.le_of_ble_eq_true rfl⟩ cf5 pk_0 pl_0 (c_X7_refuseFull Γ.2.1 E ad  hc10) rfl rfl (Nat.le_of_ble_eq_true rfl) dX7_ear_26 ?_
      exact j_iret X Y rfl (ret_wi h) dX7_ear_29
  · have h := (if_pos c).symm.trans h
    refine j_aload_n X 0 rfl rfl dX7_ear_7 ?_
    refine bd2_elim h (fun r11 σ12 hc13 h => ?_)
    refine j_callVi X (As := []) (rest := []) mf_X7_refuseBad bw_227 bw_229 bs_0 ⟨rfl, rfl⟩ ⟨Nat.le_of_ble_eq_true rfl, Nat.le_of_ble_eq_true rfl⟩ cf5 pk_0 pl_0 (c_X7_refuseBad Γ.2.1 E ad  hc13) rfl rfl (Nat.le_of_ble_eq_true rfl) dX7_ear_8 ?_
    exact j_iret X Y rfl (ret_wi h) dX7_ear_11

abbrev rm_X7_type : Room := { frames := 2, cells := 0, slots := 0, locals := 49 }
set_option maxHeartbeats 4000000 in
set_option maxRecDepth 100000 in
theorem c_X7_type (l : Launch) (E : Ev) (ad : Nat → Nat)   {a1 : Int32} {σ : Sg} {r : Int32 × Sg} (h : m_X7_type a1 σ = some r) : Met l yX7_type (wY yX7_type cX7_type 2 (some .int)) rm_X7_type (va_Pc [.ref (ad 0), .int a1] (PreU E ad RF 85 σ)) (QcN E ad (some (.int r.1), r.2)) 0 0 (EA E) := by
  refine met_of (L0 := [(0, .ref (ad 0)), (1, .int a1)]) rfl (Nat.le_of_ble_eq_true rfl) rfl (fun Γ X Y => ?_)
  have X : XC Γ E rm_X7_type cX7_type 2 RX7 := X
  unfold m_X7_type at h
  refine j_iload_n X 1 rfl rfl dX7_type_0 ?_
  refine j_iconst X (v := 0) (by decide) dX7_type_1 ?_
  refine j_bipush X (v := 127) (by decide) dX7_type_2 ?_
  refine bd1_elim h (fun r1 hc2 h => ?_)
  refine j_callSi X (As := [.int a1, .int (0 : Int32), .int (127 : Int32)]) (rest := []) mf_X7_within bw_224 bw_225 ⟨rfl, rfl⟩ ⟨Nat.le_of_ble_eq_true rfl, Nat.le_of_ble_eq_true rfl⟩ (c_X7_within Γ.2.1 E ad  hc2) rfl rfl (Nat.le_of_ble_eq_true rfl) dX7_type_4 ?_
  refine j_if_ne X (tgt := 15) (by decide) dX7_type_7 (fun c => ?_) (fun c => ?_)
  · have h := (if_neg c).symm.trans h
    refine j_aload_n X 0 rfl rfl dX7_type_15 ?_
    refine j_getr X cf5 pk_0 pl_0 6 rfl ⟨rfl, rfl⟩ 61 rfl bw_163 dX7_type_16 ?_
    refine j_getr X cf3 pk_61 pl_61 0 rfl ⟨rfl, rfl⟩ 62 rfl bw_108 dX7_type_19 ?_
    refine bd1_elim h (fun r3 hc4 h => ?_)
    refine j_callVi X (As := []) (rest := []) mf_X6_isFull bw_231 bw_232 bs_292 ⟨rfl, rfl⟩ ⟨Nat.le_of_ble_eq_true rfl, Nat.le_of_ble_eq_true rfl⟩ cf4 pk_62 pl_62 (c_X6_isFull Γ.2.1 E ad pl_62 hc4) rfl rfl (Nat.le_of_ble_eq_true rfl) dX7_type_22 ?_
    refine j_if_eq X (tgt := 33) (by decide) dX7_type_25 (fun c => ?_) (fun c => ?_)
    · have h := (if_pos c).symm.trans h
      refine j_aload_n X 0 rfl rfl dX7_type_33 ?_
      refine j_getr X cf5 pk_0 pl_0 6 rfl ⟨rfl, rfl⟩ 61 rfl bw_163 dX7_type_34 ?_
      refine j_getr X cf3 pk_61 pl_61 0 rfl ⟨rfl, rfl⟩ 62 rfl bw_108 dX7_type_37 ?_
      refine j_iload_n X 1 rfl rfl dX7_type_40 ?_
      refine j_iconst X (v := 0) (by decide) dX7_type_41 ?_
      refine j_iconst X (v := 0) (by decide) dX7_type_42 ?_
      refine j_iconst X (v := 0) (by decide) dX7_type_43 ?_
      refine bd2_elim h (fun r5 σ6 hc7 h => ?_)
      refine j_callVi X (As := [.int a1, .int (0 : Int32), .int (0 : Int32), .int (0 : Int32)]) (rest := []) mf_X6_add bw_261 bw_244 bs_304 ⟨rfl, rfl⟩ ⟨Nat.le_of_ble_eq_true rfl, Nat.le_of_ble_eq_true rfl⟩ cf4 pk_62 pl_62 (c_X6_add Γ.2.1 E ad pl_62 hc7) rfl rfl (Nat.le_of_ble_eq_true rfl) dX7_type_44 ?_
      refine j_iconst X (v := 1) (by decide) dX7_type_47 ?_
      refine j_iadd X dX7_type_48 ?_
      exact j_iret X Y rfl (ret_wi h) dX7_type_49
    · have h := (if_neg c).symm.trans h
      refine j_aload_n X 0 rfl rfl dX7_type_28 ?_
      refine bd2_elim h (fun r8 σ9 hc10 h => ?_)
      refine j_callVi X (As := []) (rest := []) mf_X7_refuseFull bw_235 bw_237 bs_1 ⟨rfl, rfl⟩ ⟨Nat.le_of_ble_eq_true rfl, Nat.le_of_ble_eq_true rfl⟩ cf5 pk_0 pl_0 (c_X7_refuseFull Γ.2.1 E ad  hc10) rfl rfl (Nat.le_of_ble_eq_true rfl) dX7_type_29 ?_
      exact j_iret X Y rfl (ret_wi h) dX7_type_32
  · have h := (if_pos c).symm.trans h
    refine j_aload_n X 0 rfl rfl dX7_type_10 ?_
    refine bd2_elim h (fun r11 σ12 hc13 h => ?_)
    refine j_callVi X (As := []) (rest := []) mf_X7_refuseBad bw_227 bw_229 bs_0 ⟨rfl, rfl⟩ ⟨Nat.le_of_ble_eq_true rfl, Nat.le_of_ble_eq_true rfl⟩ cf5 pk_0 pl_0 (c_X7_refuseBad Γ.2.1 E ad  hc13) rfl rfl (Nat.le_of_ble_eq_true rfl) dX7_type_11 ?_
    exact j_iret X Y rfl (ret_wi h) dX7_type_14

abbrev rm_X7_clear : Room := { frames := 1, cells := 0, slots := 0, locals := 21 }
set_option maxHeartbeats 4000000 in
set_option maxRecDepth 100000 in
theorem c_X7_clear (l : Launch) (E : Ev) (ad : Nat → Nat)    {σ : Sg} {r : Int32 × Sg} (h : m_X7_clear  σ = some r) : Met l yX7_clear (wY yX7_clear cX7_clear 1 (some .int)) rm_X7_clear (va_Pc [.ref (ad 0)] (PreU E ad RF 85 σ)) (QcN E ad (some (.int r.1), r.2)) 0 0 (EA E) := by
  refine met_of (L0 := [(0, .ref (ad 0))]) rfl (Nat.le_of_ble_eq_true rfl) rfl (fun Γ X Y => ?_)
  have X : XC Γ E rm_X7_clear cX7_clear 1 RX7 := X
  unfold m_X7_clear at h
  refine j_aload_n X 0 rfl rfl dX7_clear_0 ?_
  refine j_getr X cf5 pk_0 pl_0 6 rfl ⟨rfl, rfl⟩ 61 rfl bw_163 dX7_clear_1 ?_
  refine j_getr X cf3 pk_61 pl_61 0 rfl ⟨rfl, rfl⟩ 62 rfl bw_108 dX7_clear_4 ?_
  refine bd2_elim h (fun r1 σ2 hc3 h => ?_)
  refine j_callVi X (As := []) (rest := []) mf_X6_empty bw_266 bw_203 bs_263 ⟨rfl, rfl⟩ ⟨Nat.le_of_ble_eq_true rfl, Nat.le_of_ble_eq_true rfl⟩ cf4 pk_62 pl_62 (c_X6_empty Γ.2.1 E ad pl_62 hc3) rfl rfl (Nat.le_of_ble_eq_true rfl) dX7_clear_7 ?_
  exact j_iret X Y rfl (ret_wi h) dX7_clear_10

abbrev rm_X7_read : Room := { frames := 7, cells := 0, slots := 0, locals := 150 }
set_option maxHeartbeats 4000000 in
set_option maxRecDepth 100000 in
theorem c_X7_read (l : Launch) (E : Ev) (ad : Nat → Nat)    {σ : Sg} {r : Int32 × Sg} (h : m_X7_read  σ = some r) : Met l yX7_read (wY yX7_read cX7_read 2 (some .int)) rm_X7_read (va_Pc [.ref (ad 0)] (PreU E ad RF 85 σ)) (QcN E ad (some (.int r.1), r.2)) 0 0 (EA E) := by
  refine met_of (L0 := [(0, .ref (ad 0))]) rfl (Nat.le_of_ble_eq_true rfl) rfl (fun Γ X Y => ?_)
  have X : XC Γ E rm_X7_read cX7_read 2 RX7 := X
  unfold m_X7_read at h
  refine j_aload_n X 0 rfl rfl dX7_read_0 ?_
  refine j_getr X cf5 pk_0 pl_0 6 rfl ⟨rfl, rfl⟩ 61 rfl bw_163 dX7_read_1 ?_
  refine j_aload_n X 0 rfl rfl dX7_read_4 ?_
  refine j_getr X cf5 pk_0 pl_0 1 rfl ⟨rfl, rfl⟩ 16 rfl bw_158 dX7_read_5 ?_
  refine bd2_elim h (fun r1 σ2 hc3 h => ?_)
  refine j_callVi X (As := [.ref (ad 16)]) (rest := []) mf_X5_readInto bw_271 bw_272 bs_332 ⟨rfl, rfl⟩ ⟨Nat.le_of_ble_eq_true rfl, Nat.le_of_ble_eq_true rfl⟩ cf3 pk_61 pl_61 (c_X5_readInto Γ.2.1 E ad pl_16 hc3) rfl rfl (Nat.le_of_ble_eq_true rfl) dX7_read_8 ?_
  refine j_istore_n X (L' := [(1, .int r1), (0, .ref (ad 0))]) rfl rfl (by decide) rfl dX7_read_11 ?_
  refine j_iload_n X 0 rfl rfl dX7_read_12 ?_
  refine bd1_elim h (fun σ5 hr h => ?_)
  have hJ4 : J Γ E 2 ad RF 85 σ5 0 0 27 [(1, .int r1)] [] := by
    refine j_iload_n X 0 rfl rfl dX7_read_27 ?_
    exact j_iret X Y rfl (ret_wi h) dX7_read_28
  clear h
  refine j_if_lt X (tgt := 27) (by decide) dX7_read_13 (fun c => ?_) (fun c => ?_)
  · have hr := (if_pos c).symm.trans hr
    cases hr
    exact J.sub [0] rfl hJ4
  · have hr := (if_neg c).symm.trans hr
    refine j_aload_n X 1 rfl rfl dX7_read_16 ?_
    refine j_getr X cf5 pk_0 pl_0 0 rfl ⟨rfl, rfl⟩ 1 rfl bw_157 dX7_read_17 ?_
    refine j_aload_n X 1 rfl rfl dX7_read_20 ?_
    refine j_getr X cf5 pk_0 pl_0 1 rfl ⟨rfl, rfl⟩ 16 rfl bw_158 dX7_read_21 ?_
    refine bd1_elim hr (fun σ6 hc7 hr => ?_)
    refine j_callVv X (As := [.ref (ad 16)]) (rest := []) mf_X2_copy bw_422 bw_423 bs_483 ⟨rfl, rfl⟩ ⟨Nat.le_of_ble_eq_true rfl, Nat.le_of_ble_eq_true rfl⟩ cf1 pk_1 pl_1 (c_X2_copy Γ.2.1 E ad pl_1 pl_16 hc7) rfl rfl (Nat.le_of_ble_eq_true rfl) dX7_read_24 ?_
    cases hr
    exact J.sub [0] rfl hJ4

abbrev rm_X7_strips : Room := { frames := 4, cells := 0, slots := 0, locals := 89 }
set_option maxHeartbeats 4000000 in
set_option maxRecDepth 100000 in
theorem c_X7_strips (l : Launch) (E : Ev) (ad : Nat → Nat)   {a1 : Int32} {σ : Sg} {r : Int32 × Sg} (h : m_X7_strips a1 σ = some r) : Met l yX7_strips (wY yX7_strips cX7_strips 2 (some .int)) rm_X7_strips (va_Pc [.ref (ad 0), .int a1] (PreU E ad RF 85 σ)) (QcN E ad (some (.int r.1), r.2)) 0 0 (EA E) := by
  refine met_of (L0 := [(0, .ref (ad 0)), (1, .int a1)]) rfl (Nat.le_of_ble_eq_true rfl) rfl (fun Γ X Y => ?_)
  have X : XC Γ E rm_X7_strips cX7_strips 2 RX7 := X
  unfold m_X7_strips at h
  refine j_iload_n X 1 rfl rfl dX7_strips_0 ?_
  refine bd1_elim h (fun r1 hc2 h => ?_)
  refine j_callSi X (As := [.int a1]) (rest := []) mf_X7_isRoom bw_221 bw_222 ⟨rfl, rfl⟩ ⟨Nat.le_of_ble_eq_true rfl, Nat.le_of_ble_eq_true rfl⟩ (c_X7_isRoom Γ.2.1 E ad  hc2) rfl rfl (Nat.le_of_ble_eq_true rfl) dX7_strips_1 ?_
  refine j_if_ne X (tgt := 12) (by decide) dX7_strips_4 (fun c => ?_) (fun c => ?_)
  · have h := (if_neg c).symm.trans h
    refine j_aload_n X 0 rfl rfl dX7_strips_12 ?_
    refine j_getr X cf5 pk_0 pl_0 0 rfl ⟨rfl, rfl⟩ 1 rfl bw_157 dX7_strips_13 ?_
    refine bd1_elim h (fun σ3 hc4 h => ?_)
    refine j_callVv X (As := []) (rest := []) mf_X2_remember bw_438 bw_439 bs_499 ⟨rfl, rfl⟩ ⟨Nat.le_of_ble_eq_true rfl, Nat.le_of_ble_eq_true rfl⟩ cf1 pk_1 pl_1 (c_X2_remember Γ.2.1 E ad pl_1 hc4) rfl rfl (Nat.le_of_ble_eq_true rfl) dX7_strips_16 ?_
    refine j_aload_n X 0 rfl rfl dX7_strips_19 ?_
    refine j_getr X cf5 pk_0 pl_0 0 rfl ⟨rfl, rfl⟩ 1 rfl bw_157 dX7_strips_20 ?_
    refine j_iload_n X 1 rfl rfl dX7_strips_23 ?_
    refine bd1_elim h (fun σ5 hc6 h => ?_)
    refine j_callVv X (As := [.int a1]) (rest := []) mf_X2_strip bw_447 bw_374 bs_434 ⟨rfl, rfl⟩ ⟨Nat.le_of_ble_eq_true rfl, Nat.le_of_ble_eq_true rfl⟩ cf1 pk_1 pl_1 (c_X2_strip Γ.2.1 E ad pl_1 hc6) rfl rfl (Nat.le_of_ble_eq_true rfl) dX7_strips_24 ?_
    refine j_aload_n X 0 rfl rfl dX7_strips_27 ?_
    refine j_getr X cf5 pk_0 pl_0 0 rfl ⟨rfl, rfl⟩ 1 rfl bw_157 dX7_strips_28 ?_
    refine j_iload_n X 1 rfl rfl dX7_strips_31 ?_
    refine bd1_elim h (fun r7 hc8 h => ?_)
    refine j_callVi X (As := [.int a1]) (rest := []) mf_X2_roomLoudness bw_448 bw_449 bs_509 ⟨rfl, rfl⟩ ⟨Nat.le_of_ble_eq_true rfl, Nat.le_of_ble_eq_true rfl⟩ cf1 pk_1 pl_1 (c_X2_roomLoudness Γ.2.1 E ad pl_1 hc8) rfl rfl (Nat.le_of_ble_eq_true rfl) dX7_strips_32 ?_
    exact j_iret X Y rfl (ret_wi h) dX7_strips_35
  · have h := (if_pos c).symm.trans h
    refine j_aload_n X 0 rfl rfl dX7_strips_7 ?_
    refine bd2_elim h (fun r9 σ10 hc11 h => ?_)
    refine j_callVi X (As := []) (rest := []) mf_X7_refuseBad bw_227 bw_229 bs_0 ⟨rfl, rfl⟩ ⟨Nat.le_of_ble_eq_true rfl, Nat.le_of_ble_eq_true rfl⟩ cf5 pk_0 pl_0 (c_X7_refuseBad Γ.2.1 E ad  hc11) rfl rfl (Nat.le_of_ble_eq_true rfl) dX7_strips_8 ?_
    exact j_iret X Y rfl (ret_wi h) dX7_strips_11

abbrev rm_X7_refuseNo : Room := { frames := 0, cells := 0, slots := 0, locals := 0 }
set_option maxHeartbeats 4000000 in
set_option maxRecDepth 100000 in
theorem c_X7_refuseNo (l : Launch) (E : Ev) (ad : Nat → Nat)    {σ : Sg} {r : Int32 × Sg} (h : m_X7_refuseNo  σ = some r) : Met l yX7_refuseNo (wY yX7_refuseNo cX7_refuseNo 1 (some .int)) rm_X7_refuseNo (va_Pc [.ref (ad 0)] (PreU E ad RF 85 σ)) (QcN E ad (some (.int r.1), r.2)) 0 0 (EA E) := by
  refine met_of (L0 := [(0, .ref (ad 0))]) rfl (Nat.le_of_ble_eq_true rfl) rfl (fun Γ X Y => ?_)
  have X : XC Γ E rm_X7_refuseNo cX7_refuseNo 1 RX7 := X
  unfold m_X7_refuseNo at h
  refine j_aload_n X 0 rfl rfl dX7_refuseNo_0 ?_
  refine j_dup X rfl dX7_refuseNo_1 ?_
  refine j_geti X cf5 pk_0 pl_0 10 rfl ⟨rfl, rfl⟩ bw_167 dX7_refuseNo_2 ?_
  refine j_iconst X (v := 1) (by decide) dX7_refuseNo_5 ?_
  refine j_iadd X dX7_refuseNo_6 ?_
  refine nm_elim h (fun σ1 eσ1 h => ?_)
  refine j_puti X cf5 pk_0 pl_0 10 rfl ⟨rfl, rfl⟩ (.inl rfl) rfl rfl eσ1 bw_167 dX7_refuseNo_7 ?_
  refine j_bipush X (v := -3) (by decide) dX7_refuseNo_10 ?_
  exact j_iret X Y rfl (ret_wi h) dX7_refuseNo_12

abbrev rm_X7_papers : Room := { frames := 3, cells := 0, slots := 0, locals := 71 }
set_option maxHeartbeats 4000000 in
set_option maxRecDepth 100000 in
theorem c_X7_papers (l : Launch) (E : Ev) (ad : Nat → Nat)   {a1 : Int32} {σ : Sg} {r : Int32 × Sg} (h : m_X7_papers a1 σ = some r) : Met l yX7_papers (wY yX7_papers cX7_papers 2 (some .int)) rm_X7_papers (va_Pc [.ref (ad 0), .int a1] (PreU E ad RF 85 σ)) (QcN E ad (some (.int r.1), r.2)) 0 0 (EA E) := by
  refine met_of (L0 := [(0, .ref (ad 0)), (1, .int a1)]) rfl (Nat.le_of_ble_eq_true rfl) rfl (fun Γ X Y => ?_)
  have X : XC Γ E rm_X7_papers cX7_papers 2 RX7 := X
  unfold m_X7_papers at h
  refine j_iload_n X 1 rfl rfl dX7_papers_0 ?_
  refine bd1_elim h (fun r1 hc2 h => ?_)
  refine j_callSi X (As := [.int a1]) (rest := []) mf_X7_isRoom bw_221 bw_222 ⟨rfl, rfl⟩ ⟨Nat.le_of_ble_eq_true rfl, Nat.le_of_ble_eq_true rfl⟩ (c_X7_isRoom Γ.2.1 E ad  hc2) rfl rfl (Nat.le_of_ble_eq_true rfl) dX7_papers_1 ?_
  refine j_if_ne X (tgt := 12) (by decide) dX7_papers_4 (fun c => ?_) (fun c => ?_)
  · have h := (if_neg c).symm.trans h
    refine j_aload_n X 0 rfl rfl dX7_papers_12 ?_
    refine j_getr X cf5 pk_0 pl_0 0 rfl ⟨rfl, rfl⟩ 1 rfl bw_157 dX7_papers_13 ?_
    refine j_iload_n X 1 rfl rfl dX7_papers_16 ?_
    refine bd1_elim h (fun r3 hc4 h => ?_)
    refine j_callVi X (As := [.int a1]) (rest := []) mf_X2_isStripped bw_456 bw_388 bs_448 ⟨rfl, rfl⟩ ⟨Nat.le_of_ble_eq_true rfl, Nat.le_of_ble_eq_true rfl⟩ cf1 pk_1 pl_1 (c_X2_isStripped Γ.2.1 E ad pl_1 hc4) rfl rfl (Nat.le_of_ble_eq_true rfl) dX7_papers_17 ?_
    refine j_if_ne X (tgt := 28) (by decide) dX7_papers_20 (fun c => ?_) (fun c => ?_)
    · have h := (if_neg c).symm.trans h
      refine j_aload_n X 0 rfl rfl dX7_papers_28 ?_
      refine j_getr X cf5 pk_0 pl_0 0 rfl ⟨rfl, rfl⟩ 1 rfl bw_157 dX7_papers_29 ?_
      refine bd1_elim h (fun σ5 hc6 h => ?_)
      refine j_callVv X (As := []) (rest := []) mf_X2_remember bw_438 bw_439 bs_499 ⟨rfl, rfl⟩ ⟨Nat.le_of_ble_eq_true rfl, Nat.le_of_ble_eq_true rfl⟩ cf1 pk_1 pl_1 (c_X2_remember Γ.2.1 E ad pl_1 hc6) rfl rfl (Nat.le_of_ble_eq_true rfl) dX7_papers_32 ?_
      refine j_aload_n X 0 rfl rfl dX7_papers_35 ?_
      refine j_getr X cf5 pk_0 pl_0 0 rfl ⟨rfl, rfl⟩ 1 rfl bw_157 dX7_papers_36 ?_
      refine j_iload_n X 1 rfl rfl dX7_papers_39 ?_
      refine bd1_elim h (fun σ7 hc8 h => ?_)
      refine j_callVv X (As := [.int a1]) (rest := []) mf_X2_paper bw_461 bw_207 bs_267 ⟨rfl, rfl⟩ ⟨Nat.le_of_ble_eq_true rfl, Nat.le_of_ble_eq_true rfl⟩ cf1 pk_1 pl_1 (c_X2_paper Γ.2.1 E ad pl_1 hc8) rfl rfl (Nat.le_of_ble_eq_true rfl) dX7_papers_40 ?_
      refine j_iconst X (v := 1) (by decide) dX7_papers_43 ?_
      exact j_iret X Y rfl (ret_wi h) dX7_papers_44
    · have h := (if_pos c).symm.trans h
      refine j_aload_n X 0 rfl rfl dX7_papers_23 ?_
      refine bd2_elim h (fun r9 σ10 hc11 h => ?_)
      refine j_callVi X (As := []) (rest := []) mf_X7_refuseNo bw_457 bw_459 bs_10 ⟨rfl, rfl⟩ ⟨Nat.le_of_ble_eq_true rfl, Nat.le_of_ble_eq_true rfl⟩ cf5 pk_0 pl_0 (c_X7_refuseNo Γ.2.1 E ad  hc11) rfl rfl (Nat.le_of_ble_eq_true rfl) dX7_papers_24 ?_
      exact j_iret X Y rfl (ret_wi h) dX7_papers_27
  · have h := (if_pos c).symm.trans h
    refine j_aload_n X 0 rfl rfl dX7_papers_7 ?_
    refine bd2_elim h (fun r12 σ13 hc14 h => ?_)
    refine j_callVi X (As := []) (rest := []) mf_X7_refuseBad bw_227 bw_229 bs_0 ⟨rfl, rfl⟩ ⟨Nat.le_of_ble_eq_true rfl, Nat.le_of_ble_eq_true rfl⟩ cf5 pk_0 pl_0 (c_X7_refuseBad Γ.2.1 E ad  hc14) rfl rfl (Nat.le_of_ble_eq_true rfl) dX7_papers_8 ?_
    exact j_iret X Y rfl (ret_wi h) dX7_papers_11

abbrev rm_X7_isListener : Room := { frames := 0, cells := 0, slots := 0, locals := 0 }
set_option maxHeartbeats 4000000 in
set_option maxRecDepth 100000 in
theorem c_X7_isListener (l : Launch) (E : Ev) (ad : Nat → Nat)   {a1 : Int32} {σ : Sg} {r : Int32} (h : m_X7_isListener a1 σ = some r) : Met l yX7_isListener (wY yX7_isListener cX7_isListener 2 (some .boolean)) rm_X7_isListener (va_Pc [.ref (ad 0), .int a1] (PreU E ad RF 85 σ)) (QcN E ad (some (.int r), σ)) 0 0 (EA E) := by
  refine met_of (L0 := [(0, .ref (ad 0)), (1, .int a1)]) rfl (Nat.le_of_ble_eq_true rfl) rfl (fun Γ X Y => ?_)
  have X : XC Γ E rm_X7_isListener cX7_isListener 2 RX7 := X
  unfold m_X7_isListener at h
  refine j_iload_n X 1 rfl rfl dX7_isListener_0 ?_
  refine j_if_lt X (tgt := 22) (by decide) dX7_isListener_1 (fun c => ?_) (fun c => ?_)
  · have h := (if_pos c).symm.trans h
    refine j_iconst X (v := 0) (by decide) dX7_isListener_22 ?_
    exact j_iret X Y rfl (ret_pi h) dX7_isListener_23
  · have h := (if_neg c).symm.trans h
    refine j_iload_n X 1 rfl rfl dX7_isListener_4 ?_
    refine j_aload_n X 0 rfl rfl dX7_isListener_5 ?_
    refine j_getr X cf5 pk_0 pl_0 0 rfl ⟨rfl, rfl⟩ 1 rfl bw_157 dX7_isListener_6 ?_
    refine j_getr X cf1 pk_1 pl_1 2 rfl ⟨rfl, rfl⟩ (1 + 3) (RF_H2 pl_1) bw_68 dX7_isListener_9 ?_
    refine j_geti X cf4 (lay_lt (lay_H2 pl_1) (by decide)) (lay_H2 pl_1) 3 rfl ⟨rfl, rfl⟩ bw_43 dX7_isListener_12 ?_
    refine j_icmp_ge X (tgt := 22) (by decide) dX7_isListener_15 (fun c => ?_) (fun c => ?_)
    · have h := (if_pos c).symm.trans h
      refine j_iconst X (v := 0) (by decide) dX7_isListener_22 ?_
      exact j_iret X Y rfl (ret_pi h) dX7_isListener_23
    · have h := (if_neg c).symm.trans h
      refine j_iconst X (v := 1) (by decide) dX7_isListener_18 ?_
      refine j_goto X (tgt := 23) (by decide) dX7_isListener_19 ?_
      exact j_iret X Y rfl (ret_pi h) dX7_isListener_23

abbrev rm_X7_goes : Room := { frames := 3, cells := 0, slots := 0, locals := 71 }
set_option maxHeartbeats 4000000 in
set_option maxRecDepth 100000 in
theorem c_X7_goes (l : Launch) (E : Ev) (ad : Nat → Nat)   {a1 : Int32} {a2 : Int32} {σ : Sg} {r : Int32 × Sg} (h : m_X7_goes a1 a2 σ = some r) : Met l yX7_goes (wY yX7_goes cX7_goes 4 (some .int)) rm_X7_goes (va_Pc [.ref (ad 0), .int a1, .int a2] (PreU E ad RF 85 σ)) (QcN E ad (some (.int r.1), r.2)) 0 0 (EA E) := by
  refine met_of (L0 := [(0, .ref (ad 0)), (1, .int a1), (2, .int a2)]) rfl (Nat.le_of_ble_eq_true rfl) rfl (fun Γ X Y => ?_)
  have X : XC Γ E rm_X7_goes cX7_goes 4 RX7 := X
  unfold m_X7_goes at h
  refine j_aload_n X 0 rfl rfl dX7_goes_0 ?_
  refine j_iload_n X 1 rfl rfl dX7_goes_1 ?_
  refine bd1_elim h (fun r1 hc2 h => ?_)
  refine j_callVi X (As := [.int a1]) (rest := []) mf_X7_isListener bw_466 bw_468 bs_11 ⟨rfl, rfl⟩ ⟨Nat.le_of_ble_eq_true rfl, Nat.le_of_ble_eq_true rfl⟩ cf5 pk_0 pl_0 (c_X7_isListener Γ.2.1 E ad  hc2) rfl rfl (Nat.le_of_ble_eq_true rfl) dX7_goes_2 ?_
  refine j_if_eq X (tgt := 15) (by decide) dX7_goes_5 (fun c => ?_) (fun c => ?_)
  · have h := (if_pos c).symm.trans h
    refine j_aload_n X 0 rfl rfl dX7_goes_15 ?_
    refine bd2_elim h (fun r3 σ4 hc5 h => ?_)
    refine j_callVi X (As := []) (rest := []) mf_X7_refuseBad bw_227 bw_229 bs_0 ⟨rfl, rfl⟩ ⟨Nat.le_of_ble_eq_true rfl, Nat.le_of_ble_eq_true rfl⟩ cf5 pk_0 pl_0 (c_X7_refuseBad Γ.2.1 E ad  hc5) rfl rfl (Nat.le_of_ble_eq_true rfl) dX7_goes_16 ?_
    exact j_iret X Y rfl (ret_wi h) dX7_goes_19
  · have h := (if_neg c).symm.trans h
    refine j_iload_n X 2 rfl rfl dX7_goes_8 ?_
    refine bd1_elim h (fun r6 hc7 h => ?_)
    refine j_callSi X (As := [.int a2]) (rest := []) mf_X7_isRoom bw_221 bw_222 ⟨rfl, rfl⟩ ⟨Nat.le_of_ble_eq_true rfl, Nat.le_of_ble_eq_true rfl⟩ (c_X7_isRoom Γ.2.1 E ad  hc7) rfl rfl (Nat.le_of_ble_eq_true rfl) dX7_goes_9 ?_
    refine j_if_ne X (tgt := 20) (by decide) dX7_goes_12 (fun c => ?_) (fun c => ?_)
    · have h := (if_neg c).symm.trans h
      refine j_aload_n X 0 rfl rfl dX7_goes_20 ?_
      refine j_getr X cf5 pk_0 pl_0 0 rfl ⟨rfl, rfl⟩ 1 rfl bw_157 dX7_goes_21 ?_
      refine j_getr X cf1 pk_1 pl_1 2 rfl ⟨rfl, rfl⟩ (1 + 3) (RF_H2 pl_1) bw_68 dX7_goes_24 ?_
      refine j_iload_n X 1 rfl rfl dX7_goes_27 ?_
      refine j_iconst X (v := 1) (by decide) dX7_goes_28 ?_
      refine bd1_elim h (fun r8 hc9 h => ?_)
      refine j_callVi X (As := [.int a1, .int (1 : Int32)]) (rest := []) mf_X6_get bw_470 bw_281 bs_341 ⟨rfl, rfl⟩ ⟨Nat.le_of_ble_eq_true rfl, Nat.le_of_ble_eq_true rfl⟩ cf4 (lay_lt (lay_H2 pl_1) (by decide)) (lay_H2 pl_1) (c_X6_get Γ.2.1 E ad (lay_H2 pl_1) hc9) rfl rfl (Nat.le_of_ble_eq_true rfl) dX7_goes_29 ?_
      refine j_istore_n X (L' := [(3, .int r8), (0, .ref (ad 0)), (1, .int a1), (2, .int a2)]) rfl rfl (by decide) rfl dX7_goes_32 ?_
      refine j_iload_n X 0 rfl rfl dX7_goes_33 ?_
      refine j_iload_n X 3 rfl rfl dX7_goes_34 ?_
      refine j_icmp_ne X (tgt := 43) (by decide) dX7_goes_35 (fun c => ?_) (fun c => ?_)
      · have h := (if_neg c).symm.trans h
        refine j_aload_n X 1 rfl rfl dX7_goes_43 ?_
        refine j_getr X cf5 pk_0 pl_0 0 rfl ⟨rfl, rfl⟩ 1 rfl bw_157 dX7_goes_44 ?_
        refine bd1_elim h (fun σ10 hc11 h => ?_)
        refine j_callVv X (As := []) (rest := []) mf_X2_remember bw_438 bw_439 bs_499 ⟨rfl, rfl⟩ ⟨Nat.le_of_ble_eq_true rfl, Nat.le_of_ble_eq_true rfl⟩ cf1 pk_1 pl_1 (c_X2_remember Γ.2.1 E ad pl_1 hc11) rfl rfl (Nat.le_of_ble_eq_true rfl) dX7_goes_47 ?_
        refine j_aload_n X 1 rfl rfl dX7_goes_50 ?_
        refine j_getr X cf5 pk_0 pl_0 0 rfl ⟨rfl, rfl⟩ 1 rfl bw_157 dX7_goes_51 ?_
        refine j_getr X cf1 pk_1 pl_1 2 rfl ⟨rfl, rfl⟩ (1 + 3) (RF_H2 pl_1) bw_68 dX7_goes_54 ?_
        refine j_iload_n X 2 rfl rfl dX7_goes_57 ?_
        refine j_iconst X (v := 1) (by decide) dX7_goes_58 ?_
        refine j_iload_n X 3 rfl rfl dX7_goes_59 ?_
        refine bd1_elim h (fun σ12 hc13 h => ?_)
        refine j_callVv X (As := [.int a1, .int (1 : Int32), .int a2]) (rest := []) mf_X6_set bw_471 bw_211 bs_271 ⟨rfl, rfl⟩ ⟨Nat.le_of_ble_eq_true rfl, Nat.le_of_ble_eq_true rfl⟩ cf4 (lay_lt (lay_H2 pl_1) (by decide)) (lay_H2 pl_1) (c_X6_set Γ.2.1 E ad (lay_H2 pl_1) hc13) rfl rfl (Nat.le_of_ble_eq_true rfl) dX7_goes_60 ?_
        refine j_iload_n X 0 rfl rfl dX7_goes_63 ?_
        exact j_iret X Y rfl (ret_wi h) dX7_goes_64
      · have h := (if_pos c).symm.trans h
        refine j_aload_n X 1 rfl rfl dX7_goes_38 ?_
        refine bd2_elim h (fun r14 σ15 hc16 h => ?_)
        refine j_callVi X (As := []) (rest := []) mf_X7_refuseNo bw_457 bw_459 bs_10 ⟨rfl, rfl⟩ ⟨Nat.le_of_ble_eq_true rfl, Nat.le_of_ble_eq_true rfl⟩ cf5 pk_0 pl_0 (c_X7_refuseNo Γ.2.1 E ad  hc16) rfl rfl (Nat.le_of_ble_eq_true rfl) dX7_goes_39 ?_
        exact j_iret X Y rfl (ret_wi h) dX7_goes_42
    · have h := (if_pos c).symm.trans h
      refine j_aload_n X 0 rfl rfl dX7_goes_15 ?_
      refine bd2_elim h (fun r17 σ18 hc19 h => ?_)
      refine j_callVi X (As := []) (rest := []) mf_X7_refuseBad bw_227 bw_229 bs_0 ⟨rfl, rfl⟩ ⟨Nat.le_of_ble_eq_true rfl, Nat.le_of_ble_eq_true rfl⟩ cf5 pk_0 pl_0 (c_X7_refuseBad Γ.2.1 E ad  hc19) rfl rfl (Nat.le_of_ble_eq_true rfl) dX7_goes_16 ?_
      exact j_iret X Y rfl (ret_wi h) dX7_goes_19

abbrev rm_X7_minutes : Room := { frames := 4, cells := 0, slots := 0, locals := 105 }
set_option maxHeartbeats 4000000 in
set_option maxRecDepth 100000 in
theorem c_X7_minutes (l : Launch) (E : Ev) (ad : Nat → Nat)   {a1 : Int32} {σ : Sg} {r : Int32 × Sg} (h : m_X7_minutes a1 σ = some r) : Met l yX7_minutes (wY yX7_minutes cX7_minutes 2 (some .int)) rm_X7_minutes (va_Pc [.ref (ad 0), .int a1] (PreU E ad RF 85 σ)) (QcN E ad (some (.int r.1), r.2)) 0 0 (EA E) := by
  refine met_of (L0 := [(0, .ref (ad 0)), (1, .int a1)]) rfl (Nat.le_of_ble_eq_true rfl) rfl (fun Γ X Y => ?_)
  have X : XC Γ E rm_X7_minutes cX7_minutes 2 RX7 := X
  unfold m_X7_minutes at h
  refine j_iload_n X 1 rfl rfl dX7_minutes_0 ?_
  refine j_iconst X (v := 1) (by decide) dX7_minutes_1 ?_
  refine j_bipush X (v := 99) (by decide) dX7_minutes_2 ?_
  refine bd1_elim h (fun r1 hc2 h => ?_)
  refine j_callSi X (As := [.int a1, .int (1 : Int32), .int (99 : Int32)]) (rest := []) mf_X7_within bw_224 bw_225 ⟨rfl, rfl⟩ ⟨Nat.le_of_ble_eq_true rfl, Nat.le_of_ble_eq_true rfl⟩ (c_X7_within Γ.2.1 E ad  hc2) rfl rfl (Nat.le_of_ble_eq_true rfl) dX7_minutes_4 ?_
  refine j_if_ne X (tgt := 15) (by decide) dX7_minutes_7 (fun c => ?_) (fun c => ?_)
  · have h := (if_neg c).symm.trans h
    refine j_aload_n X 0 rfl rfl dX7_minutes_15 ?_
    refine j_getr X cf5 pk_0 pl_0 0 rfl ⟨rfl, rfl⟩ 1 rfl bw_157 dX7_minutes_16 ?_
    refine bd1_elim h (fun σ3 hc4 h => ?_)
    refine j_callVv X (As := []) (rest := []) mf_X2_remember bw_438 bw_439 bs_499 ⟨rfl, rfl⟩ ⟨Nat.le_of_ble_eq_true rfl, Nat.le_of_ble_eq_true rfl⟩ cf1 pk_1 pl_1 (c_X2_remember Γ.2.1 E ad pl_1 hc4) rfl rfl (Nat.le_of_ble_eq_true rfl) dX7_minutes_19 ?_
    refine j_aload_n X 0 rfl rfl dX7_minutes_22 ?_
    refine j_getr X cf5 pk_0 pl_0 0 rfl ⟨rfl, rfl⟩ 1 rfl bw_157 dX7_minutes_23 ?_
    refine j_iload_n X 1 rfl rfl dX7_minutes_26 ?_
    refine j_sipush X (v := 9999) (by decide) dX7_minutes_27 ?_
    refine bd1_elim h (fun σ5 hc6 h => ?_)
    refine j_callVv X (As := [.int a1, .int (9999 : Int32)]) (rest := []) mf_X2_passMinutes bw_476 bw_379 bs_439 ⟨rfl, rfl⟩ ⟨Nat.le_of_ble_eq_true rfl, Nat.le_of_ble_eq_true rfl⟩ cf1 pk_1 pl_1 (c_X2_passMinutes Γ.2.1 E ad pl_1 hc6) rfl rfl (Nat.le_of_ble_eq_true rfl) dX7_minutes_30 ?_
    refine j_aload_n X 0 rfl rfl dX7_minutes_33 ?_
    refine j_getr X cf5 pk_0 pl_0 0 rfl ⟨rfl, rfl⟩ 1 rfl bw_157 dX7_minutes_34 ?_
    refine bd1_elim h (fun r7 hc8 h => ?_)
    refine j_callVi X (As := []) (rest := []) mf_X2_knownByAny bw_477 bw_478 bs_538 ⟨rfl, rfl⟩ ⟨Nat.le_of_ble_eq_true rfl, Nat.le_of_ble_eq_true rfl⟩ cf1 pk_1 pl_1 (c_X2_knownByAny Γ.2.1 E ad pl_1 hc8) rfl rfl (Nat.le_of_ble_eq_true rfl) dX7_minutes_37 ?_
    exact j_iret X Y rfl (ret_wi h) dX7_minutes_40
  · have h := (if_pos c).symm.trans h
    refine j_aload_n X 0 rfl rfl dX7_minutes_10 ?_
    refine bd2_elim h (fun r9 σ10 hc11 h => ?_)
    refine j_callVi X (As := []) (rest := []) mf_X7_refuseBad bw_227 bw_229 bs_0 ⟨rfl, rfl⟩ ⟨Nat.le_of_ble_eq_true rfl, Nat.le_of_ble_eq_true rfl⟩ cf5 pk_0 pl_0 (c_X7_refuseBad Γ.2.1 E ad  hc11) rfl rfl (Nat.le_of_ble_eq_true rfl) dX7_minutes_11 ?_
    exact j_iret X Y rfl (ret_wi h) dX7_minutes_14
