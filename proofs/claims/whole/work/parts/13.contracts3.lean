/-! ===== CONTRACTS: printed by wip/gen ===== -/
abbrev rm_X8_goesBy : Room := { frames := 6, cells := 0, slots := 0, locals := 144 }
set_option maxHeartbeats 4000000 in
set_option maxRecDepth 100000 in
theorem jl_X8_goesBy_L2 {β : Type} {Γ : Cx} {E : Ev} {ad : Nat → Nat} (X : XC Γ E rm_X8_goesBy cX8_goesBy 2 RX8)     {kx : Sg → Option (β)} {r : β}  (hkx : ∀ (σ : Sg), kx σ = some r → J Γ E 2 ad RF 85 σ 0 0 33 [(0, .ref (ad 68))] []) : ∀ n (v1 : Int32) (σ : Sg), m_X8_goesBy_L2 kx n v1 σ = some r → J Γ E 2 ad RF 85 σ 0 0 2 [(1, .int v1), (0, .ref (ad 68))] [] := by
  intro n
  induction n with
  | zero =>
    intro v1 σ h
    cases h
  | succ n ih =>
    intro v1 σ h
    rw [m_X8_goesBy_L2.eq_2] at h
    refine j_iload_n X 0 rfl rfl dX8_goesBy_2 ?_
    refine j_aload_n X 1 rfl rfl dX8_goesBy_3 ?_
    refine j_geti X cf6 pk_68 pl_68 5 rfl ⟨rfl, rfl⟩ bw_759 dX8_goesBy_4 ?_
    refine j_icmp_ge X (tgt := 33) (by decide) dX8_goesBy_7 (fun c => ?_) (fun c => ?_)
    · have h := (if_pos c).symm.trans h
      exact J.sub [1] rfl (hkx σ h)
    · have h := (if_neg c).symm.trans h
      refine j_aload_n X 1 rfl rfl dX8_goesBy_10 ?_
      refine j_getr X cf6 pk_68 pl_68 7 rfl ⟨rfl, rfl⟩ 74 rfl bw_761 dX8_goesBy_11 ?_
      refine j_bipush X (v := 8) (by decide) dX8_goesBy_14 ?_
      refine j_iload_n X 0 rfl rfl dX8_goesBy_16 ?_
      refine j_iadd X dX8_goesBy_17 ?_
      refine j_dup2 X rfl rfl dX8_goesBy_18 ?_
      refine gd_elim h (fun g h => ?_)
      refine j_iald X pk_74 pl_74 g dX8_goesBy_19 ?_
      refine j_aload_n X 1 rfl rfl dX8_goesBy_20 ?_
      refine j_iload_n X 0 rfl rfl dX8_goesBy_21 ?_
      refine bd1_elim h (fun r2 hc3 h => ?_)
      refine j_callVi X (As := [.int v1]) (rest := [.int (σ.1 74 ((8 : Int32) + v1).toNatClampNeg), .int ((8 : Int32) + v1), .ref (ad 74)]) mf_X8_heardNow bw_956 bw_958 bs_35 ⟨rfl, rfl⟩ ⟨Nat.le_of_ble_eq_true rfl, Nat.le_of_ble_eq_true rfl⟩ cf6 pk_68 pl_68 (c_X8_heardNow Γ.2.1 E ad  hc3) rfl rfl (Nat.le_of_ble_eq_true rfl) dX8_goesBy_22 ?_
      refine j_ior X dX8_goesBy_25 ?_
      refine gd_elim h (fun g h => ?_)
      refine nm_elim h (fun σ4 eσ4 h => ?_)
      refine j_iast X pk_74 pl_74 g eσ4 dX8_goesBy_26 ?_
      refine nm_elim h (fun x5 ex5 h => ?_)
      refine j_iinc1 X (L' := [(1, .int x5), (0, .ref (ad 68))]) 0 rfl (q := 1) (by decide) ex5 (by decide) rfl dX8_goesBy_27 ?_
      refine j_goto X (tgt := 2) (by decide) dX8_goesBy_30 ?_
      exact J.sub [0, 1] rfl (ih x5 σ4 h)
set_option maxHeartbeats 4000000 in
set_option maxRecDepth 100000 in
theorem c_X8_goesBy (l : Launch) (E : Ev) (ad : Nat → Nat)    {σ : Sg} {r : Sg} (h : m_X8_goesBy  σ = some r) : Met l yX8_goesBy (wY yX8_goesBy cX8_goesBy 2 none) rm_X8_goesBy (va_Pc [.ref (ad 68)] (PreU E ad RF 85 σ)) (QcN E ad (none, r)) 0 0 (EA E) := by
  refine met_of (L0 := [(0, .ref (ad 68))]) rfl (Nat.le_of_ble_eq_true rfl) rfl (fun Γ X Y => ?_)
  have X : XC Γ E rm_X8_goesBy cX8_goesBy 2 RX8 := X
  unfold m_X8_goesBy at h
  refine j_iconst X (v := 0) (by decide) dX8_goesBy_0 ?_
  refine nm_elim h (fun x1 ex1 h => ?_)
  refine j_istore_n X (L' := [(1, .int x1), (0, .ref (ad 68))]) ex1 rfl (by decide) rfl dX8_goesBy_1 ?_
  refine J.sub [0, 1] rfl ?_
  refine jl_X8_goesBy_L2 X  (fun σ6 h => ?_) 1000 x1 σ h
  refine j_aload_n X 0 rfl rfl dX8_goesBy_33 ?_
  refine j_getr X cf6 pk_68 pl_68 7 rfl ⟨rfl, rfl⟩ 74 rfl bw_761 dX8_goesBy_34 ?_
  refine j_iconst X (v := 0) (by decide) dX8_goesBy_37 ?_
  refine j_dup2 X rfl rfl dX8_goesBy_38 ?_
  refine gd_elim h (fun g h => ?_)
  refine j_iald X pk_74 pl_74 g dX8_goesBy_39 ?_
  refine j_iconst X (v := 1) (by decide) dX8_goesBy_40 ?_
  refine j_iadd X dX8_goesBy_41 ?_
  refine gd_elim h (fun g h => ?_)
  refine nm_elim h (fun σ7 eσ7 h => ?_)
  refine j_iast X pk_74 pl_74 g eσ7 dX8_goesBy_42 ?_
  exact j_vret X Y (ret_wv h) dX8_goesBy_43

abbrev rm_X8_goMinutes : Room := { frames := 7, cells := 0, slots := 0, locals := 165 }
set_option maxHeartbeats 4000000 in
set_option maxRecDepth 100000 in
theorem jl_X8_goMinutes_L2 {Γ : Cx} {E : Ev} {ad : Nat → Nat} (X : XC Γ E rm_X8_goMinutes cX8_goMinutes 3 RX8)   {c1 : Int32}  {kx : Sg → Option (Sg)} {r : Sg} (Y : XQ Γ E ad none (none, r))  : ∀ n (v2 : Int32) (σ : Sg), m_X8_goMinutes_L2 c1 kx n v2 σ = some r → J Γ E 3 ad RF 85 σ 0 0 2 [(2, .int v2), (0, .ref (ad 68)), (1, .int c1)] [] := by
  intro n
  induction n with
  | zero =>
    intro v2 σ h
    cases h
  | succ n ih =>
    intro v2 σ h
    rw [m_X8_goMinutes_L2.eq_2] at h
    refine j_iload_n X 0 rfl rfl dX8_goMinutes_2 ?_
    refine j_iload_n X 2 rfl rfl dX8_goMinutes_3 ?_
    refine j_icmp_ge X (tgt := 29) (by decide) dX8_goMinutes_4 (fun c => ?_) (fun c => ?_)
    · have h := (if_pos c).symm.trans h
      exact j_vret X Y (ret_wv h) dX8_goMinutes_29
    · have h := (if_neg c).symm.trans h
      refine j_aload_n X 1 rfl rfl dX8_goMinutes_7 ?_
      refine j_getr X cf6 pk_68 pl_68 7 rfl ⟨rfl, rfl⟩ 74 rfl bw_761 dX8_goMinutes_8 ?_
      refine j_iconst X (v := 0) (by decide) dX8_goMinutes_11 ?_
      refine gd_elim h (fun g h => ?_)
      refine j_iald X pk_74 pl_74 g dX8_goMinutes_12 ?_
      refine j_sipush X (v := 9999) (by decide) dX8_goMinutes_13 ?_
      refine j_icmp_ge X (tgt := 29) (by decide) dX8_goMinutes_16 (fun c => ?_) (fun c => ?_)
      · have h := (if_pos c).symm.trans h
        exact j_vret X Y (ret_wv h) dX8_goMinutes_29
      · have h := (if_neg c).symm.trans h
        refine j_aload_n X 1 rfl rfl dX8_goMinutes_19 ?_
        refine bd1_elim h (fun σ2 hc3 h => ?_)
        refine j_callVv X (As := []) (rest := []) mf_X8_goesBy bw_952 bw_954 bs_34 ⟨rfl, rfl⟩ ⟨Nat.le_of_ble_eq_true rfl, Nat.le_of_ble_eq_true rfl⟩ cf6 pk_68 pl_68 (c_X8_goesBy Γ.2.1 E ad  hc3) rfl rfl (Nat.le_of_ble_eq_true rfl) dX8_goMinutes_20 ?_
        refine nm_elim h (fun x4 ex4 h => ?_)
        refine j_iinc1 X (L' := [(2, .int x4), (0, .ref (ad 68)), (1, .int c1)]) 0 rfl (q := 1) (by decide) ex4 (by decide) rfl dX8_goMinutes_23 ?_
        refine j_goto X (tgt := 2) (by decide) dX8_goMinutes_26 ?_
        exact J.sub [0, 1, 2] rfl (ih x4 σ2 h)
set_option maxHeartbeats 4000000 in
set_option maxRecDepth 100000 in
theorem c_X8_goMinutes (l : Launch) (E : Ev) (ad : Nat → Nat)   {a1 : Int32} {σ : Sg} {r : Sg} (h : m_X8_goMinutes a1 σ = some r) : Met l yX8_goMinutes (wY yX8_goMinutes cX8_goMinutes 3 none) rm_X8_goMinutes (va_Pc [.ref (ad 68), .int a1] (PreU E ad RF 85 σ)) (QcN E ad (none, r)) 0 0 (EA E) := by
  refine met_of (L0 := [(0, .ref (ad 68)), (1, .int a1)]) rfl (Nat.le_of_ble_eq_true rfl) rfl (fun Γ X Y => ?_)
  have X : XC Γ E rm_X8_goMinutes cX8_goMinutes 3 RX8 := X
  unfold m_X8_goMinutes at h
  refine j_iconst X (v := 0) (by decide) dX8_goMinutes_0 ?_
  refine nm_elim h (fun x1 ex1 h => ?_)
  refine j_istore_n X (L' := [(2, .int x1), (0, .ref (ad 68)), (1, .int a1)]) ex1 rfl (by decide) rfl dX8_goMinutes_1 ?_
  refine J.sub [0, 1, 2] rfl ?_
  exact jl_X8_goMinutes_L2 X  Y 1000 x1 σ h

abbrev rm_X8_type : Room := { frames := 1, cells := 0, slots := 0, locals := 25 }
set_option maxHeartbeats 4000000 in
set_option maxRecDepth 100000 in
theorem c_X8_type (l : Launch) (E : Ev) (ad : Nat → Nat)   {a1 : Int32} {σ : Sg} {r : Int32 × Sg} (h : m_X8_type a1 σ = some r) : Met l yX8_type (wY yX8_type cX8_type 2 (some .int)) rm_X8_type (va_Pc [.ref (ad 68), .int a1] (PreU E ad RF 85 σ)) (QcN E ad (some (.int r.1), r.2)) 0 0 (EA E) := by
  refine met_of (L0 := [(0, .ref (ad 68)), (1, .int a1)]) rfl (Nat.le_of_ble_eq_true rfl) rfl (fun Γ X Y => ?_)
  have X : XC Γ E rm_X8_type cX8_type 2 RX8 := X
  unfold m_X8_type at h
  refine j_iload_n X 1 rfl rfl dX8_type_0 ?_
  refine j_i2l X dX8_type_1 ?_
  refine j_lconst X (v := 0) (by decide) dX8_type_2 ?_
  refine j_ldc2 X (v := 127) bw_883 dX8_type_3 ?_
  refine bd1_elim h (fun r1 hc2 h => ?_)
  refine j_callSi X (As := [.long (Int32.toInt64 a1), .long (0 : Int64), .long (127 : Int64)]) (rest := []) mf_X8_in bw_842 bw_843 ⟨rfl, rfl⟩ ⟨Nat.le_of_ble_eq_true rfl, Nat.le_of_ble_eq_true rfl⟩ (c_X8_in Γ.2.1 E ad  hc2) rfl rfl (Nat.le_of_ble_eq_true rfl) dX8_type_6 ?_
  refine j_if_ne X (tgt := 17) (by decide) dX8_type_9 (fun c => ?_) (fun c => ?_)
  · have h := (if_neg c).symm.trans h
    refine j_aload_n X 0 rfl rfl dX8_type_17 ?_
    refine j_geti X cf6 pk_68 pl_68 9 rfl ⟨rfl, rfl⟩ bw_763 dX8_type_18 ?_
    refine j_sipush X (v := 150) (by decide) dX8_type_21 ?_
    refine j_icmp_ne X (tgt := 32) (by decide) dX8_type_24 (fun c => ?_) (fun c => ?_)
    · have h := (if_neg c).symm.trans h
      refine j_aload_n X 0 rfl rfl dX8_type_32 ?_
      refine j_getr X cf6 pk_68 pl_68 8 rfl ⟨rfl, rfl⟩ 75 rfl bw_762 dX8_type_33 ?_
      refine j_aload_n X 0 rfl rfl dX8_type_36 ?_
      refine j_geti X cf6 pk_68 pl_68 9 rfl ⟨rfl, rfl⟩ bw_763 dX8_type_37 ?_
      refine j_iload_n X 1 rfl rfl dX8_type_40 ?_
      refine gd_elim h (fun g h => ?_)
      refine nm_elim h (fun σ3 eσ3 h => ?_)
      refine j_iast X pk_75 pl_75 g eσ3 dX8_type_41 ?_
      refine j_aload_n X 0 rfl rfl dX8_type_42 ?_
      refine j_dup X rfl dX8_type_43 ?_
      refine j_geti X cf6 pk_68 pl_68 9 rfl ⟨rfl, rfl⟩ bw_763 dX8_type_44 ?_
      refine j_iconst X (v := 1) (by decide) dX8_type_47 ?_
      refine j_iadd X dX8_type_48 ?_
      refine nm_elim h (fun σ4 eσ4 h => ?_)
      refine j_puti X cf6 pk_68 pl_68 9 rfl ⟨rfl, rfl⟩ (.inl rfl) rfl rfl eσ4 bw_763 dX8_type_49 ?_
      refine j_aload_n X 0 rfl rfl dX8_type_52 ?_
      refine j_geti X cf6 pk_68 pl_68 9 rfl ⟨rfl, rfl⟩ bw_763 dX8_type_53 ?_
      exact j_iret X Y rfl (ret_wi h) dX8_type_56
    · have h := (if_pos c).symm.trans h
      refine j_aload_n X 0 rfl rfl dX8_type_27 ?_
      refine bd2_elim h (fun r5 σ6 hc7 h => ?_)
      refine j_callVi X (As := []) (rest := []) mf_X8_full bw_863 bw_865 bs_21 ⟨rfl, rfl⟩ ⟨Nat.le_of_ble_eq_true rfl, Nat.le_of_ble_eq_true rfl⟩ cf6 pk_68 pl_68 (c_X8_full Γ.2.1 E ad  hc7) rfl rfl (Nat.le_of_ble_eq_true rfl) dX8_type_28 ?_
      exact j_iret X Y rfl (ret_wi h) dX8_type_31
  · have h := (if_pos c).symm.trans h
    refine j_aload_n X 0 rfl rfl dX8_type_12 ?_
    refine bd2_elim h (fun r8 σ9 hc10 h => ?_)
    refine j_callVi X (As := []) (rest := []) mf_X8_bad bw_859 bw_861 bs_20 ⟨rfl, rfl⟩ ⟨Nat.le_of_ble_eq_true rfl, Nat.le_of_ble_eq_true rfl⟩ cf6 pk_68 pl_68 (c_X8_bad Γ.2.1 E ad  hc10) rfl rfl (Nat.le_of_ble_eq_true rfl) dX8_type_13 ?_
    exact j_iret X Y rfl (ret_wi h) dX8_type_16

abbrev rm_X8_clear : Room := { frames := 0, cells := 0, slots := 0, locals := 0 }
set_option maxHeartbeats 4000000 in
set_option maxRecDepth 100000 in
theorem c_X8_clear (l : Launch) (E : Ev) (ad : Nat → Nat)    {σ : Sg} {r : Int32 × Sg} (h : m_X8_clear  σ = some r) : Met l yX8_clear (wY yX8_clear cX8_clear 2 (some .int)) rm_X8_clear (va_Pc [.ref (ad 68)] (PreU E ad RF 85 σ)) (QcN E ad (some (.int r.1), r.2)) 0 0 (EA E) := by
  refine met_of (L0 := [(0, .ref (ad 68))]) rfl (Nat.le_of_ble_eq_true rfl) rfl (fun Γ X Y => ?_)
  have X : XC Γ E rm_X8_clear cX8_clear 2 RX8 := X
  unfold m_X8_clear at h
  refine j_aload_n X 0 rfl rfl dX8_clear_0 ?_
  refine j_geti X cf6 pk_68 pl_68 9 rfl ⟨rfl, rfl⟩ bw_763 dX8_clear_1 ?_
  refine nm_elim h (fun x1 ex1 h => ?_)
  refine j_istore_n X (L' := [(1, .int x1), (0, .ref (ad 68))]) ex1 rfl (by decide) rfl dX8_clear_4 ?_
  refine j_aload_n X 1 rfl rfl dX8_clear_5 ?_
  refine j_iconst X (v := 0) (by decide) dX8_clear_6 ?_
  refine nm_elim h (fun σ2 eσ2 h => ?_)
  refine j_puti X cf6 pk_68 pl_68 9 rfl ⟨rfl, rfl⟩ (.inl rfl) rfl rfl eσ2 bw_763 dX8_clear_7 ?_
  refine j_iload_n X 0 rfl rfl dX8_clear_10 ?_
  exact j_iret X Y rfl (ret_wi h) dX8_clear_11

abbrev rm_X8_byteAt : Room := { frames := 0, cells := 0, slots := 0, locals := 0 }
set_option maxHeartbeats 4000000 in
set_option maxRecDepth 100000 in
theorem c_X8_byteAt (l : Launch) (E : Ev) (ad : Nat → Nat)   {a1 : Int32} {σ : Sg} {r : Int32} (h : m_X8_byteAt a1 σ = some r) : Met l yX8_byteAt (wY yX8_byteAt cX8_byteAt 2 (some .int)) rm_X8_byteAt (va_Pc [.ref (ad 68), .int a1] (PreU E ad RF 85 σ)) (QcN E ad (some (.int r), σ)) 0 0 (EA E) := by
  refine met_of (L0 := [(0, .ref (ad 68)), (1, .int a1)]) rfl (Nat.le_of_ble_eq_true rfl) rfl (fun Γ X Y => ?_)
  have X : XC Γ E rm_X8_byteAt cX8_byteAt 2 RX8 := X
  unfold m_X8_byteAt at h
  refine j_iload_n X 1 rfl rfl dX8_byteAt_0 ?_
  refine j_aload_n X 0 rfl rfl dX8_byteAt_1 ?_
  refine j_geti X cf6 pk_68 pl_68 9 rfl ⟨rfl, rfl⟩ bw_763 dX8_byteAt_2 ?_
  refine j_icmp_ge X (tgt := 17) (by decide) dX8_byteAt_5 (fun c => ?_) (fun c => ?_)
  · have h := (if_pos c).symm.trans h
    refine j_iconst X (v := -1) (by decide) dX8_byteAt_17 ?_
    exact j_iret X Y rfl (ret_pi h) dX8_byteAt_18
  · have h := (if_neg c).symm.trans h
    refine j_aload_n X 0 rfl rfl dX8_byteAt_8 ?_
    refine j_getr X cf6 pk_68 pl_68 8 rfl ⟨rfl, rfl⟩ 75 rfl bw_762 dX8_byteAt_9 ?_
    refine j_iload_n X 1 rfl rfl dX8_byteAt_12 ?_
    refine gd_elim h (fun g h => ?_)
    refine j_iald X pk_75 pl_75 g dX8_byteAt_13 ?_
    refine j_goto X (tgt := 18) (by decide) dX8_byteAt_14 ?_
    exact j_iret X Y rfl (ret_pi h) dX8_byteAt_18

abbrev rm_X8_skips : Room := { frames := 1, cells := 0, slots := 0, locals := 21 }
set_option maxHeartbeats 4000000 in
set_option maxRecDepth 100000 in
theorem jl_X8_skips_L0 {Γ : Cx} {E : Ev} {ad : Nat → Nat} (X : XC Γ E rm_X8_skips cX8_skips 1 RX8)     {kx : Sg → Option (Sg)} {r : Sg} (Y : XQ Γ E ad none (none, r))  : ∀ n (σ : Sg), m_X8_skips_L0 kx n σ = some r → J Γ E 1 ad RF 85 σ 0 0 0 [(0, .ref (ad 68))] [] := by
  intro n
  induction n with
  | zero =>
    intro σ h
    cases h
  | succ n ih =>
    intro σ h
    rw [m_X8_skips_L0.eq_2] at h
    refine j_aload_n X 0 rfl rfl dX8_skips_0 ?_
    refine j_aload_n X 0 rfl rfl dX8_skips_1 ?_
    refine j_geti X cf6 pk_68 pl_68 10 rfl ⟨rfl, rfl⟩ bw_764 dX8_skips_2 ?_
    refine bd1_elim h (fun r1 hc2 h => ?_)
    refine j_callVi X (As := [.int (σ.1 68 10)]) (rest := []) mf_X8_byteAt bw_900 bw_902 bs_26 ⟨rfl, rfl⟩ ⟨Nat.le_of_ble_eq_true rfl, Nat.le_of_ble_eq_true rfl⟩ cf6 pk_68 pl_68 (c_X8_byteAt Γ.2.1 E ad  hc2) rfl rfl (Nat.le_of_ble_eq_true rfl) dX8_skips_5 ?_
    refine j_bipush X (v := 32) (by decide) dX8_skips_8 ?_
    refine j_icmp_ne X (tgt := 26) (by decide) dX8_skips_10 (fun c => ?_) (fun c => ?_)
    · have h := (if_neg c).symm.trans h
      exact j_vret X Y (ret_wv h) dX8_skips_26
    · have h := (if_pos c).symm.trans h
      refine j_aload_n X 0 rfl rfl dX8_skips_13 ?_
      refine j_dup X rfl dX8_skips_14 ?_
      refine j_geti X cf6 pk_68 pl_68 10 rfl ⟨rfl, rfl⟩ bw_764 dX8_skips_15 ?_
      refine j_iconst X (v := 1) (by decide) dX8_skips_18 ?_
      refine j_iadd X dX8_skips_19 ?_
      refine nm_elim h (fun σ3 eσ3 h => ?_)
      refine j_puti X cf6 pk_68 pl_68 10 rfl ⟨rfl, rfl⟩ (.inl rfl) rfl rfl eσ3 bw_764 dX8_skips_20 ?_
      refine j_goto X (tgt := 0) (by decide) dX8_skips_23 ?_
      exact J.sub [0] rfl (ih σ3 h)
set_option maxHeartbeats 4000000 in
set_option maxRecDepth 100000 in
theorem c_X8_skips (l : Launch) (E : Ev) (ad : Nat → Nat)    {σ : Sg} {r : Sg} (h : m_X8_skips  σ = some r) : Met l yX8_skips (wY yX8_skips cX8_skips 1 none) rm_X8_skips (va_Pc [.ref (ad 68)] (PreU E ad RF 85 σ)) (QcN E ad (none, r)) 0 0 (EA E) := by
  refine met_of (L0 := [(0, .ref (ad 68))]) rfl (Nat.le_of_ble_eq_true rfl) rfl (fun Γ X Y => ?_)
  have X : XC Γ E rm_X8_skips cX8_skips 1 RX8 := X
  unfold m_X8_skips at h
  refine J.sub [0] rfl ?_
  exact jl_X8_skips_L0 X  Y 1000 σ h

abbrev rm_X8_faults : Room := { frames := 0, cells := 0, slots := 0, locals := 0 }
set_option maxHeartbeats 4000000 in
set_option maxRecDepth 100000 in
theorem c_X8_faults (l : Launch) (E : Ev) (ad : Nat → Nat)   {a1 : Int32} {σ : Sg} {r : Sg} (h : m_X8_faults a1 σ = some r) : Met l yX8_faults (wY yX8_faults cX8_faults 2 none) rm_X8_faults (va_Pc [.ref (ad 68), .int a1] (PreU E ad RF 85 σ)) (QcN E ad (none, r)) 0 0 (EA E) := by
  refine met_of (L0 := [(0, .ref (ad 68)), (1, .int a1)]) rfl (Nat.le_of_ble_eq_true rfl) rfl (fun Γ X Y => ?_)
  have X : XC Γ E rm_X8_faults cX8_faults 2 RX8 := X
  unfold m_X8_faults at h
  refine j_aload_n X 0 rfl rfl dX8_faults_0 ?_
  refine j_aload_n X 0 rfl rfl dX8_faults_1 ?_
  refine j_geti X cf6 pk_68 pl_68 11 rfl ⟨rfl, rfl⟩ bw_765 dX8_faults_2 ?_
  refine bd1_elim h (fun o2 hr h => ?_)
  have hJ1 : J Γ E 2 ad RF 85 σ 0 0 16 [] [.int o2, .ref (ad 68)] := by
    refine nm_elim h (fun σ3 eσ3 h => ?_)
    refine j_puti X cf6 pk_68 pl_68 11 rfl ⟨rfl, rfl⟩ (.inl rfl) rfl rfl eσ3 bw_765 dX8_faults_16 ?_
    exact j_vret X Y (ret_wv h) dX8_faults_19
  clear h
  refine j_if_ge X (tgt := 12) (by decide) dX8_faults_5 (fun c => ?_) (fun c => ?_)
  · have hr := (if_pos c).symm.trans hr
    refine j_aload_n X 0 rfl rfl dX8_faults_12 ?_
    refine j_geti X cf6 pk_68 pl_68 11 rfl ⟨rfl, rfl⟩ bw_765 dX8_faults_13 ?_
    cases hr
    exact J.sub [] rfl hJ1
  · have hr := (if_neg c).symm.trans hr
    refine j_iload_n X 1 rfl rfl dX8_faults_8 ?_
    refine j_goto X (tgt := 16) (by decide) dX8_faults_9 ?_
    cases hr
    exact J.sub [] rfl hJ1

abbrev rm_X8_isLetter : Room := { frames := 1, cells := 0, slots := 0, locals := 25 }
set_option maxHeartbeats 4000000 in
set_option maxRecDepth 100000 in
theorem c_X8_isLetter (l : Launch) (E : Ev) (ad : Nat → Nat)   {a0 : Int32} {σ : Sg} {r : Int32} (h : m_X8_isLetter a0 σ = some r) : Met l yX8_isLetter (wY yX8_isLetter cX8_isLetter 1 (some .boolean)) rm_X8_isLetter (va_Pc [.int a0] (PreU E ad RF 85 σ)) (QcN E ad (some (.int r), σ)) 0 0 (EA E) := by
  refine met_of (L0 := [(0, .int a0)]) rfl (Nat.le_of_ble_eq_true rfl) rfl (fun Γ X Y => ?_)
  have X : XC Γ E rm_X8_isLetter cX8_isLetter 1 RX8 := X
  unfold m_X8_isLetter at h
  refine j_iload_n X 0 rfl rfl dX8_isLetter_0 ?_
  refine j_i2l X dX8_isLetter_1 ?_
  refine j_ldc2 X (v := 97) bw_911 dX8_isLetter_2 ?_
  refine j_ldc2 X (v := 122) bw_912 dX8_isLetter_5 ?_
  refine bd1_elim h (fun r1 hc2 h => ?_)
  refine j_callSi X (As := [.long (Int32.toInt64 a0), .long (97 : Int64), .long (122 : Int64)]) (rest := []) mf_X8_in bw_842 bw_843 ⟨rfl, rfl⟩ ⟨Nat.le_of_ble_eq_true rfl, Nat.le_of_ble_eq_true rfl⟩ (c_X8_in Γ.2.1 E ad  hc2) rfl rfl (Nat.le_of_ble_eq_true rfl) dX8_isLetter_8 ?_
  refine gd_elim h (fun g h => ?_)
  exact j_iret X Y (gb_nar g) (ret_pi h) dX8_isLetter_11

abbrev rm_X8_isFigure : Room := { frames := 1, cells := 0, slots := 0, locals := 25 }
set_option maxHeartbeats 4000000 in
set_option maxRecDepth 100000 in
theorem c_X8_isFigure (l : Launch) (E : Ev) (ad : Nat → Nat)   {a0 : Int32} {σ : Sg} {r : Int32} (h : m_X8_isFigure a0 σ = some r) : Met l yX8_isFigure (wY yX8_isFigure cX8_isFigure 1 (some .boolean)) rm_X8_isFigure (va_Pc [.int a0] (PreU E ad RF 85 σ)) (QcN E ad (some (.int r), σ)) 0 0 (EA E) := by
  refine met_of (L0 := [(0, .int a0)]) rfl (Nat.le_of_ble_eq_true rfl) rfl (fun Γ X Y => ?_)
  have X : XC Γ E rm_X8_isFigure cX8_isFigure 1 RX8 := X
  unfold m_X8_isFigure at h
  refine j_iload_n X 0 rfl rfl dX8_isFigure_0 ?_
  refine j_i2l X dX8_isFigure_1 ?_
  refine j_ldc2 X (v := 48) bw_938 dX8_isFigure_2 ?_
  refine j_ldc2 X (v := 57) bw_939 dX8_isFigure_5 ?_
  refine bd1_elim h (fun r1 hc2 h => ?_)
  refine j_callSi X (As := [.long (Int32.toInt64 a0), .long (48 : Int64), .long (57 : Int64)]) (rest := []) mf_X8_in bw_842 bw_843 ⟨rfl, rfl⟩ ⟨Nat.le_of_ble_eq_true rfl, Nat.le_of_ble_eq_true rfl⟩ (c_X8_in Γ.2.1 E ad  hc2) rfl rfl (Nat.le_of_ble_eq_true rfl) dX8_isFigure_8 ?_
  refine gd_elim h (fun g h => ?_)
  exact j_iret X Y (gb_nar g) (ret_pi h) dX8_isFigure_11

abbrev rm_X8_word : Room := { frames := 2, cells := 0, slots := 0, locals := 45 }
set_option maxHeartbeats 4000000 in
set_option maxRecDepth 100000 in
theorem jl_X8_word_L2 {Γ : Cx} {E : Ev} {ad : Nat → Nat} (X : XC Γ E rm_X8_word cX8_word 3 RX8)     {kx : Sg → Option (Int64 × Sg)} {r : Int64 × Sg} (Y : XQ Γ E ad (some .long) (some (.long r.1), r.2))  : ∀ n (v1 : Int64) (σ : Sg), m_X8_word_L2 kx n v1 σ = some r → J Γ E 3 ad RF 85 σ 0 0 2 [(1, .long v1), (0, .ref (ad 68))] [] := by
  intro n
  induction n with
  | zero =>
    intro v1 σ h
    cases h
  | succ n ih =>
    intro v1 σ h
    rw [m_X8_word_L2.eq_2] at h
    refine j_aload_n X 1 rfl rfl dX8_word_2 ?_
    refine j_aload_n X 1 rfl rfl dX8_word_3 ?_
    refine j_geti X cf6 pk_68 pl_68 10 rfl ⟨rfl, rfl⟩ bw_764 dX8_word_4 ?_
    refine bd1_elim h (fun r2 hc3 h => ?_)
    refine j_callVi X (As := [.int (σ.1 68 10)]) (rest := []) mf_X8_byteAt bw_900 bw_902 bs_26 ⟨rfl, rfl⟩ ⟨Nat.le_of_ble_eq_true rfl, Nat.le_of_ble_eq_true rfl⟩ cf6 pk_68 pl_68 (c_X8_byteAt Γ.2.1 E ad  hc3) rfl rfl (Nat.le_of_ble_eq_true rfl) dX8_word_7 ?_
    refine bd1_elim h (fun r4 hc5 h => ?_)
    refine j_callSi X (As := [.int r2]) (rest := []) mf_X8_isLetter bw_908 bw_909 ⟨rfl, rfl⟩ ⟨Nat.le_of_ble_eq_true rfl, Nat.le_of_ble_eq_true rfl⟩ (c_X8_isLetter Γ.2.1 E ad  hc5) rfl rfl (Nat.le_of_ble_eq_true rfl) dX8_word_10 ?_
    refine j_if_eq X (tgt := 61) (by decide) dX8_word_13 (fun c => ?_) (fun c => ?_)
    · have h := (if_pos c).symm.trans h
      refine j_lload_n X 0 rfl rfl dX8_word_61 ?_
      exact j_lret X Y (ret_wl h) dX8_word_62
    · have h := (if_neg c).symm.trans h
      refine j_lload_n X 0 rfl rfl dX8_word_16 ?_
      refine j_ldc2 X (v := 99999999999) bw_913 dX8_word_17 ?_
      refine j_lcmp X dX8_word_20 ?_
      refine bd1_elim h (fun o7 hr h => ?_)
      have hJ6 : J Γ E 3 ad RF 85 σ 0 0 47 [(0, .ref (ad 68))] [.long o7] := by
        refine j_lstore_n X (L' := [(1, .long o7), (0, .ref (ad 68))]) rfl rfl (by decide) rfl dX8_word_47 ?_
        refine j_aload_n X 1 rfl rfl dX8_word_48 ?_
        refine j_dup X rfl dX8_word_49 ?_
        refine j_geti X cf6 pk_68 pl_68 10 rfl ⟨rfl, rfl⟩ bw_764 dX8_word_50 ?_
        refine j_iconst X (v := 1) (by decide) dX8_word_53 ?_
        refine j_iadd X dX8_word_54 ?_
        refine nm_elim h (fun σ8 eσ8 h => ?_)
        refine j_puti X cf6 pk_68 pl_68 10 rfl ⟨rfl, rfl⟩ (.inl rfl) rfl rfl eσ8 bw_764 dX8_word_55 ?_
        refine j_goto X (tgt := 2) (by decide) dX8_word_58 ?_
        exact J.sub [0, 1] rfl (ih o7 σ8 h)
      clear h
      refine j_if_ge X (tgt := 46) (by decide) dX8_word_21 (fun c => ?_) (fun c => ?_)
      · have hr := (if_pos c).symm.trans hr
        refine j_lload_n X 0 rfl rfl dX8_word_46 ?_
        cases hr
        exact J.sub [1] rfl hJ6
      · have hr := (if_neg c).symm.trans hr
        refine j_ldc2 X (v := 27) bw_914 dX8_word_24 ?_
        refine j_lload_n X 0 rfl rfl dX8_word_27 ?_
        refine j_lmul X dX8_word_28 ?_
        refine j_aload_n X 1 rfl rfl dX8_word_29 ?_
        refine j_aload_n X 1 rfl rfl dX8_word_30 ?_
        refine j_geti X cf6 pk_68 pl_68 10 rfl ⟨rfl, rfl⟩ bw_764 dX8_word_31 ?_
        refine bd1_elim hr (fun r9 hc10 hr => ?_)
        refine j_callVi X (As := [.int (σ.1 68 10)]) (rest := [.long ((27 : Int64) * v1)]) mf_X8_byteAt bw_900 bw_902 bs_26 ⟨rfl, rfl⟩ ⟨Nat.le_of_ble_eq_true rfl, Nat.le_of_ble_eq_true rfl⟩ cf6 pk_68 pl_68 (c_X8_byteAt Γ.2.1 E ad  hc10) rfl rfl (Nat.le_of_ble_eq_true rfl) dX8_word_34 ?_
        refine j_i2l X dX8_word_37 ?_
        refine j_ladd X dX8_word_38 ?_
        refine j_ldc2 X (v := 96) bw_915 dX8_word_39 ?_
        refine j_lsub X dX8_word_42 ?_
        refine j_goto X (tgt := 47) (by decide) dX8_word_43 ?_
        cases hr
        exact J.sub [1] rfl hJ6
set_option maxHeartbeats 4000000 in
set_option maxRecDepth 100000 in
theorem c_X8_word (l : Launch) (E : Ev) (ad : Nat → Nat)    {σ : Sg} {r : Int64 × Sg} (h : m_X8_word  σ = some r) : Met l yX8_word (wY yX8_word cX8_word 3 (some .long)) rm_X8_word (va_Pc [.ref (ad 68)] (PreU E ad RF 85 σ)) (QcN E ad (some (.long r.1), r.2)) 0 0 (EA E) := by
  refine met_of (L0 := [(0, .ref (ad 68))]) rfl (Nat.le_of_ble_eq_true rfl) rfl (fun Γ X Y => ?_)
  have X : XC Γ E rm_X8_word cX8_word 3 RX8 := X
  unfold m_X8_word at h
  refine j_lconst X (v := 0) (by decide) dX8_word_0 ?_
  refine nm_elim h (fun x1 ex1 h => ?_)
  refine j_lstore_n X (L' := [(1, .long x1), (0, .ref (ad 68))]) ex1 rfl (by decide) rfl dX8_word_1 ?_
  refine J.sub [0, 1] rfl ?_
  exact jl_X8_word_L2 X  Y 1000 x1 σ h

abbrev rm_X8_letters : Room := { frames := 0, cells := 0, slots := 0, locals := 0 }
set_option maxHeartbeats 4000000 in
set_option maxRecDepth 100000 in
theorem c_X8_letters (l : Launch) (E : Ev) (ad : Nat → Nat)   {a0 : Int32} {a1 : Int32} {a2 : Int32} {a3 : Int32} {a4 : Int32} {σ : Sg} {r : Int64} (h : m_X8_letters a0 a1 a2 a3 a4 σ = some r) : Met l yX8_letters (wY yX8_letters cX8_letters 7 (some .long)) rm_X8_letters (va_Pc [.int a0, .int a1, .int a2, .int a3, .int a4] (PreU E ad RF 85 σ)) (QcN E ad (some (.long r), σ)) 0 0 (EA E) := by
  refine met_of (L0 := [(0, .int a0), (1, .int a1), (2, .int a2), (3, .int a3), (4, .int a4)]) rfl (Nat.le_of_ble_eq_true rfl) rfl (fun Γ X Y => ?_)
  have X : XC Γ E rm_X8_letters cX8_letters 7 RX8 := X
  unfold m_X8_letters at h
  refine j_iload_n X 0 rfl rfl dX8_letters_0 ?_
  refine j_i2l X dX8_letters_1 ?_
  refine nm_elim h (fun x1 ex1 h => ?_)
  refine j_lstore X (L' := [(5, .long x1), (0, .int a0), (1, .int a1), (2, .int a2), (3, .int a3), (4, .int a4)]) ex1 (by decide) rfl dX8_letters_2 ?_
  refine j_iload_n X 2 rfl rfl dX8_letters_4 ?_
  refine bd1_elim h (fun o3 hr h => ?_)
  have hJ2 : J Γ E 7 ad RF 85 σ 0 0 22 [(2, .int a2), (3, .int a3), (4, .int a4)] [.long o3] := by
    refine j_lstore X (L' := [(5, .long o3), (2, .int a2), (3, .int a3), (4, .int a4)]) rfl (by decide) rfl dX8_letters_22 ?_
    refine j_iload_n X 1 rfl rfl dX8_letters_24 ?_
    refine bd1_elim h (fun o5 hr h => ?_)
    have hJ4 : J Γ E 7 ad RF 85 σ 0 0 42 [(3, .int a3), (4, .int a4)] [.long o5] := by
      refine j_lstore X (L' := [(5, .long o5), (3, .int a3), (4, .int a4)]) rfl (by decide) rfl dX8_letters_42 ?_
      refine j_iload_n X 1 rfl rfl dX8_letters_44 ?_
      refine bd1_elim h (fun o7 hr h => ?_)
      have hJ6 : J Γ E 7 ad RF 85 σ 0 0 62 [(4, .int a4)] [.long o7] := by
        refine j_lstore X (L' := [(5, .long o7), (4, .int a4)]) rfl (by decide) rfl dX8_letters_62 ?_
        refine j_iload X 1 rfl dX8_letters_64 ?_
        refine j_if_le X (tgt := 82) (by decide) dX8_letters_66 (fun c => ?_) (fun c => ?_)
        · have h := (if_pos c).symm.trans h
          refine j_lload X 0 rfl dX8_letters_82 ?_
          exact j_lret X Y (ret_pl h) dX8_letters_84
        · have h := (if_neg c).symm.trans h
          refine j_ldc2 X (v := 27) bw_914 dX8_letters_69 ?_
          refine j_lload X 0 rfl dX8_letters_72 ?_
          refine j_lmul X dX8_letters_74 ?_
          refine j_iload X 1 rfl dX8_letters_75 ?_
          refine j_i2l X dX8_letters_77 ?_
          refine j_ladd X dX8_letters_78 ?_
          refine j_goto X (tgt := 84) (by decide) dX8_letters_79 ?_
          exact j_lret X Y (ret_pl h) dX8_letters_84
      clear h
      refine j_if_le X (tgt := 60) (by decide) dX8_letters_45 (fun c => ?_) (fun c => ?_)
      · have hr := (if_pos c).symm.trans hr
        refine j_lload X 0 rfl dX8_letters_60 ?_
        cases hr
        exact J.sub [2] rfl hJ6
      · have hr := (if_neg c).symm.trans hr
        refine j_ldc2 X (v := 27) bw_914 dX8_letters_48 ?_
        refine j_lload X 0 rfl dX8_letters_51 ?_
        refine j_lmul X dX8_letters_53 ?_
        refine j_iload_n X 1 rfl rfl dX8_letters_54 ?_
        refine j_i2l X dX8_letters_55 ?_
        refine j_ladd X dX8_letters_56 ?_
        refine j_goto X (tgt := 62) (by decide) dX8_letters_57 ?_
        cases hr
        exact J.sub [2] rfl hJ6
    clear h
    refine j_if_le X (tgt := 40) (by decide) dX8_letters_25 (fun c => ?_) (fun c => ?_)
    · have hr := (if_pos c).symm.trans hr
      refine j_lload X 0 rfl dX8_letters_40 ?_
      cases hr
      exact J.sub [2, 3] rfl hJ4
    · have hr := (if_neg c).symm.trans hr
      refine j_ldc2 X (v := 27) bw_914 dX8_letters_28 ?_
      refine j_lload X 0 rfl dX8_letters_31 ?_
      refine j_lmul X dX8_letters_33 ?_
      refine j_iload_n X 1 rfl rfl dX8_letters_34 ?_
      refine j_i2l X dX8_letters_35 ?_
      refine j_ladd X dX8_letters_36 ?_
      refine j_goto X (tgt := 42) (by decide) dX8_letters_37 ?_
      cases hr
      exact J.sub [2, 3] rfl hJ4
  clear h
  refine j_if_le X (tgt := 20) (by decide) dX8_letters_5 (fun c => ?_) (fun c => ?_)
  · have hr := (if_pos c).symm.trans hr
    refine j_lload X 0 rfl dX8_letters_20 ?_
    cases hr
    exact J.sub [3, 4, 5] rfl hJ2
  · have hr := (if_neg c).symm.trans hr
    refine j_ldc2 X (v := 27) bw_914 dX8_letters_8 ?_
    refine j_lload X 0 rfl dX8_letters_11 ?_
    refine j_lmul X dX8_letters_13 ?_
    refine j_iload_n X 2 rfl rfl dX8_letters_14 ?_
    refine j_i2l X dX8_letters_15 ?_
    refine j_ladd X dX8_letters_16 ?_
    refine j_goto X (tgt := 22) (by decide) dX8_letters_17 ?_
    cases hr
    exact J.sub [3, 4, 5] rfl hJ2

abbrev rm_X8_itemBy : Room := { frames := 1, cells := 0, slots := 0, locals := 26 }
set_option maxHeartbeats 4000000 in
set_option maxRecDepth 100000 in
theorem c_X8_itemBy (l : Launch) (E : Ev) (ad : Nat → Nat)   {a0 : Int64} {σ : Sg} {r : Int32} (h : m_X8_itemBy a0 σ = some r) : Met l yX8_itemBy (wY yX8_itemBy cX8_itemBy 4 (some .int)) rm_X8_itemBy (va_Pc [.long a0] (PreU E ad RF 85 σ)) (QcN E ad (some (.int r), σ)) 0 0 (EA E) := by
  refine met_of (L0 := [(0, .long a0)]) rfl (Nat.le_of_ble_eq_true rfl) rfl (fun Γ X Y => ?_)
  have X : XC Γ E rm_X8_itemBy cX8_itemBy 4 RX8 := X
  unfold m_X8_itemBy at h
  refine j_bipush X (v := 13) (by decide) dX8_itemBy_0 ?_
  refine j_bipush X (v := 9) (by decide) dX8_itemBy_2 ?_
  refine j_bipush X (v := 14) (by decide) dX8_itemBy_4 ?_
  refine j_bipush X (v := 21) (by decide) dX8_itemBy_6 ?_
  refine j_bipush X (v := 20) (by decide) dX8_itemBy_8 ?_
  refine bd1_elim h (fun r1 hc2 h => ?_)
  refine j_callSl X (As := [.int (13 : Int32), .int (9 : Int32), .int (14 : Int32), .int (21 : Int32), .int (20 : Int32)]) (rest := []) mf_X8_letters bw_919 bw_920 ⟨rfl, rfl⟩ ⟨Nat.le_of_ble_eq_true rfl, Nat.le_of_ble_eq_true rfl⟩ (c_X8_letters Γ.2.1 E ad  hc2) rfl rfl (Nat.le_of_ble_eq_true rfl) dX8_itemBy_10 ?_
  refine j_ldc2 X (v := 27) bw_914 dX8_itemBy_13 ?_
  refine j_lmul X dX8_itemBy_16 ?_
  refine j_ldc2 X (v := 5) bw_853 dX8_itemBy_17 ?_
  refine j_ladd X dX8_itemBy_20 ?_
  refine j_ldc2 X (v := 27) bw_914 dX8_itemBy_21 ?_
  refine j_lmul X dX8_itemBy_24 ?_
  refine j_ldc2 X (v := 19) bw_922 dX8_itemBy_25 ?_
  refine j_ladd X dX8_itemBy_28 ?_
  refine nm_elim h (fun x3 ex3 h => ?_)
  refine j_lstore_n X (L' := [(2, .long x3), (0, .long a0)]) ex3 rfl (by decide) rfl dX8_itemBy_29 ?_
  refine j_lload_n X 1 rfl rfl dX8_itemBy_30 ?_
  refine j_bipush X (v := 8) (by decide) dX8_itemBy_31 ?_
  refine j_bipush X (v := 15) (by decide) dX8_itemBy_33 ?_
  refine j_bipush X (v := 21) (by decide) dX8_itemBy_35 ?_
  refine j_bipush X (v := 19) (by decide) dX8_itemBy_37 ?_
  refine j_iconst X (v := 5) (by decide) dX8_itemBy_39 ?_
  refine bd1_elim h (fun r4 hc5 h => ?_)
  refine j_callSl X (As := [.int (8 : Int32), .int (15 : Int32), .int (21 : Int32), .int (19 : Int32), .int (5 : Int32)]) (rest := [.long a0]) mf_X8_letters bw_919 bw_920 ⟨rfl, rfl⟩ ⟨Nat.le_of_ble_eq_true rfl, Nat.le_of_ble_eq_true rfl⟩ (c_X8_letters Γ.2.1 E ad  hc5) rfl rfl (Nat.le_of_ble_eq_true rfl) dX8_itemBy_40 ?_
  refine j_lcmp X dX8_itemBy_43 ?_
  refine j_if_ne X (tgt := 51) (by decide) dX8_itemBy_44 (fun c => ?_) (fun c => ?_)
  · have h := (if_neg c).symm.trans h
    refine j_lload_n X 1 rfl rfl dX8_itemBy_51 ?_
    refine j_bipush X (v := 19) (by decide) dX8_itemBy_52 ?_
    refine j_iconst X (v := 1) (by decide) dX8_itemBy_54 ?_
    refine j_bipush X (v := 25) (by decide) dX8_itemBy_55 ?_
    refine j_iconst X (v := 0) (by decide) dX8_itemBy_57 ?_
    refine j_iconst X (v := 0) (by decide) dX8_itemBy_58 ?_
    refine bd1_elim h (fun r6 hc7 h => ?_)
    refine j_callSl X (As := [.int (19 : Int32), .int (1 : Int32), .int (25 : Int32), .int (0 : Int32), .int (0 : Int32)]) (rest := [.long a0]) mf_X8_letters bw_919 bw_920 ⟨rfl, rfl⟩ ⟨Nat.le_of_ble_eq_true rfl, Nat.le_of_ble_eq_true rfl⟩ (c_X8_letters Γ.2.1 E ad  hc7) rfl rfl (Nat.le_of_ble_eq_true rfl) dX8_itemBy_59 ?_
    refine j_lcmp X dX8_itemBy_62 ?_
    refine j_if_ne X (tgt := 70) (by decide) dX8_itemBy_63 (fun c => ?_) (fun c => ?_)
    · have h := (if_neg c).symm.trans h
      refine j_lload_n X 1 rfl rfl dX8_itemBy_70 ?_
      refine j_iconst X (v := 5) (by decide) dX8_itemBy_71 ?_
      refine j_iconst X (v := 1) (by decide) dX8_itemBy_72 ?_
      refine j_bipush X (v := 18) (by decide) dX8_itemBy_73 ?_
      refine j_iconst X (v := 0) (by decide) dX8_itemBy_75 ?_
      refine j_iconst X (v := 0) (by decide) dX8_itemBy_76 ?_
      refine bd1_elim h (fun r8 hc9 h => ?_)
      refine j_callSl X (As := [.int (5 : Int32), .int (1 : Int32), .int (18 : Int32), .int (0 : Int32), .int (0 : Int32)]) (rest := [.long a0]) mf_X8_letters bw_919 bw_920 ⟨rfl, rfl⟩ ⟨Nat.le_of_ble_eq_true rfl, Nat.le_of_ble_eq_true rfl⟩ (c_X8_letters Γ.2.1 E ad  hc9) rfl rfl (Nat.le_of_ble_eq_true rfl) dX8_itemBy_77 ?_
      refine j_lcmp X dX8_itemBy_80 ?_
      refine j_if_ne X (tgt := 88) (by decide) dX8_itemBy_81 (fun c => ?_) (fun c => ?_)
      · have h := (if_neg c).symm.trans h
        refine j_lload_n X 1 rfl rfl dX8_itemBy_88 ?_
        refine j_bipush X (v := 19) (by decide) dX8_itemBy_89 ?_
        refine j_bipush X (v := 20) (by decide) dX8_itemBy_91 ?_
        refine j_bipush X (v := 18) (by decide) dX8_itemBy_93 ?_
        refine j_bipush X (v := 9) (by decide) dX8_itemBy_95 ?_
        refine j_bipush X (v := 16) (by decide) dX8_itemBy_97 ?_
        refine bd1_elim h (fun r10 hc11 h => ?_)
        refine j_callSl X (As := [.int (19 : Int32), .int (20 : Int32), .int (18 : Int32), .int (9 : Int32), .int (16 : Int32)]) (rest := [.long a0]) mf_X8_letters bw_919 bw_920 ⟨rfl, rfl⟩ ⟨Nat.le_of_ble_eq_true rfl, Nat.le_of_ble_eq_true rfl⟩ (c_X8_letters Γ.2.1 E ad  hc11) rfl rfl (Nat.le_of_ble_eq_true rfl) dX8_itemBy_99 ?_
        refine j_lcmp X dX8_itemBy_102 ?_
        refine j_if_ne X (tgt := 110) (by decide) dX8_itemBy_103 (fun c => ?_) (fun c => ?_)
        · have h := (if_neg c).symm.trans h
          refine j_lload_n X 1 rfl rfl dX8_itemBy_110 ?_
          refine j_bipush X (v := 16) (by decide) dX8_itemBy_111 ?_
          refine j_iconst X (v := 1) (by decide) dX8_itemBy_113 ?_
          refine j_bipush X (v := 16) (by decide) dX8_itemBy_114 ?_
          refine j_iconst X (v := 5) (by decide) dX8_itemBy_116 ?_
          refine j_bipush X (v := 18) (by decide) dX8_itemBy_117 ?_
          refine bd1_elim h (fun r12 hc13 h => ?_)
          refine j_callSl X (As := [.int (16 : Int32), .int (1 : Int32), .int (16 : Int32), .int (5 : Int32), .int (18 : Int32)]) (rest := [.long a0]) mf_X8_letters bw_919 bw_920 ⟨rfl, rfl⟩ ⟨Nat.le_of_ble_eq_true rfl, Nat.le_of_ble_eq_true rfl⟩ (c_X8_letters Γ.2.1 E ad  hc13) rfl rfl (Nat.le_of_ble_eq_true rfl) dX8_itemBy_119 ?_
          refine j_lcmp X dX8_itemBy_122 ?_
          refine j_if_ne X (tgt := 130) (by decide) dX8_itemBy_123 (fun c => ?_) (fun c => ?_)
          · have h := (if_neg c).symm.trans h
            refine j_lload_n X 1 rfl rfl dX8_itemBy_130 ?_
            refine j_lload_n X 0 rfl rfl dX8_itemBy_131 ?_
            refine j_lcmp X dX8_itemBy_132 ?_
            refine j_if_ne X (tgt := 140) (by decide) dX8_itemBy_133 (fun c => ?_) (fun c => ?_)
            · have h := (if_neg c).symm.trans h
              refine j_iconst X (v := -1) (by decide) dX8_itemBy_140 ?_
              exact j_iret X Y rfl (ret_pi h) dX8_itemBy_141
            · have h := (if_pos c).symm.trans h
              refine j_iconst X (v := 5) (by decide) dX8_itemBy_136 ?_
              refine j_goto X (tgt := 141) (by decide) dX8_itemBy_137 ?_
              exact j_iret X Y rfl (ret_pi h) dX8_itemBy_141
          · have h := (if_pos c).symm.trans h
            refine j_iconst X (v := 4) (by decide) dX8_itemBy_126 ?_
            refine j_goto X (tgt := 141) (by decide) dX8_itemBy_127 ?_
            exact j_iret X Y rfl (ret_pi h) dX8_itemBy_141
        · have h := (if_pos c).symm.trans h
          refine j_iconst X (v := 3) (by decide) dX8_itemBy_106 ?_
          refine j_goto X (tgt := 141) (by decide) dX8_itemBy_107 ?_
          exact j_iret X Y rfl (ret_pi h) dX8_itemBy_141
      · have h := (if_pos c).symm.trans h
        refine j_iconst X (v := 2) (by decide) dX8_itemBy_84 ?_
        refine j_goto X (tgt := 141) (by decide) dX8_itemBy_85 ?_
        exact j_iret X Y rfl (ret_pi h) dX8_itemBy_141
    · have h := (if_pos c).symm.trans h
      refine j_iconst X (v := 1) (by decide) dX8_itemBy_66 ?_
      refine j_goto X (tgt := 141) (by decide) dX8_itemBy_67 ?_
      exact j_iret X Y rfl (ret_pi h) dX8_itemBy_141
  · have h := (if_pos c).symm.trans h
    refine j_iconst X (v := 0) (by decide) dX8_itemBy_47 ?_
    refine j_goto X (tgt := 141) (by decide) dX8_itemBy_48 ?_
    exact j_iret X Y rfl (ret_pi h) dX8_itemBy_141

abbrev rm_X8_number : Room := { frames := 2, cells := 0, slots := 0, locals := 45 }
set_option maxHeartbeats 4000000 in
set_option maxRecDepth 100000 in
theorem jl_X8_number_L12 {β : Type} {Γ : Cx} {E : Ev} {ad : Nat → Nat} (X : XC Γ E rm_X8_number cX8_number 6 RX8)   {c3 : Int32} {c1 : Int32} {c2 : Int32}  {kx : Int32 → Sg → Option (β)} {r : β}  (hkx : ∀ (v4 : Int32) (σ : Sg), kx v4 σ = some r → J Γ E 6 ad RF 85 σ 0 0 73 [(4, .int v4), (3, .int c3), (0, .ref (ad 68)), (1, .int c1), (2, .int c2)] []) : ∀ n (v4 : Int32) (σ : Sg), m_X8_number_L12 c3 c1 c2 kx n v4 σ = some r → J Γ E 6 ad RF 85 σ 0 0 12 [(4, .int v4), (3, .int c3), (0, .ref (ad 68)), (1, .int c1), (2, .int c2)] [] := by
  intro n
  induction n with
  | zero =>
    intro v4 σ h
    cases h
  | succ n ih =>
    intro v4 σ h
    rw [m_X8_number_L12.eq_2] at h
    refine j_aload_n X 2 rfl rfl dX8_number_12 ?_
    refine j_aload_n X 2 rfl rfl dX8_number_13 ?_
    refine j_geti X cf6 pk_68 pl_68 10 rfl ⟨rfl, rfl⟩ bw_764 dX8_number_14 ?_
    refine bd1_elim h (fun r5 hc6 h => ?_)
    refine j_callVi X (As := [.int (σ.1 68 10)]) (rest := []) mf_X8_byteAt bw_900 bw_902 bs_26 ⟨rfl, rfl⟩ ⟨Nat.le_of_ble_eq_true rfl, Nat.le_of_ble_eq_true rfl⟩ cf6 pk_68 pl_68 (c_X8_byteAt Γ.2.1 E ad  hc6) rfl rfl (Nat.le_of_ble_eq_true rfl) dX8_number_17 ?_
    refine bd1_elim h (fun r7 hc8 h => ?_)
    refine j_callSi X (As := [.int r5]) (rest := []) mf_X8_isFigure bw_935 bw_936 ⟨rfl, rfl⟩ ⟨Nat.le_of_ble_eq_true rfl, Nat.le_of_ble_eq_true rfl⟩ (c_X8_isFigure Γ.2.1 E ad  hc8) rfl rfl (Nat.le_of_ble_eq_true rfl) dX8_number_20 ?_
    refine j_if_eq X (tgt := 73) (by decide) dX8_number_23 (fun c => ?_) (fun c => ?_)
    · have h := (if_pos c).symm.trans h
      exact J.sub [0, 1, 2, 3, 4] rfl (hkx v4 σ h)
    · have h := (if_neg c).symm.trans h
      refine j_aload_n X 2 rfl rfl dX8_number_26 ?_
      refine j_geti X cf6 pk_68 pl_68 10 rfl ⟨rfl, rfl⟩ bw_764 dX8_number_27 ?_
      refine j_iload_n X 1 rfl rfl dX8_number_30 ?_
      refine j_isub X dX8_number_31 ?_
      refine j_iconst X (v := 3) (by decide) dX8_number_32 ?_
      refine bd1_elim h (fun o10 hr h => ?_)
      have hJ9 : J Γ E 6 ad RF 85 σ 0 0 58 [(3, .int c3), (0, .ref (ad 68)), (1, .int c1), (2, .int c2)] [.int o10] := by
        refine j_istore X (L' := [(4, .int o10), (3, .int c3), (0, .ref (ad 68)), (1, .int c1), (2, .int c2)]) rfl (by decide) rfl dX8_number_58 ?_
        refine j_aload_n X 2 rfl rfl dX8_number_60 ?_
        refine j_dup X rfl dX8_number_61 ?_
        refine j_geti X cf6 pk_68 pl_68 10 rfl ⟨rfl, rfl⟩ bw_764 dX8_number_62 ?_
        refine j_iconst X (v := 1) (by decide) dX8_number_65 ?_
        refine j_iadd X dX8_number_66 ?_
        refine nm_elim h (fun σ11 eσ11 h => ?_)
        refine j_puti X cf6 pk_68 pl_68 10 rfl ⟨rfl, rfl⟩ (.inl rfl) rfl rfl eσ11 bw_764 dX8_number_67 ?_
        refine j_goto X (tgt := 12) (by decide) dX8_number_70 ?_
        exact J.sub [0, 1, 2, 3, 4] rfl (ih o10 σ11 h)
      clear h
      refine j_icmp_ge X (tgt := 56) (by decide) dX8_number_33 (fun c => ?_) (fun c => ?_)
      · have hr := (if_pos c).symm.trans hr
        refine j_iload X 0 rfl dX8_number_56 ?_
        cases hr
        exact J.sub [1, 2, 3, 4] rfl hJ9
      · have hr := (if_neg c).symm.trans hr
        refine j_bipush X (v := 10) (by decide) dX8_number_36 ?_
        refine j_iload X 0 rfl dX8_number_38 ?_
        refine j_imul X dX8_number_40 ?_
        refine j_aload_n X 2 rfl rfl dX8_number_41 ?_
        refine j_aload_n X 2 rfl rfl dX8_number_42 ?_
        refine j_geti X cf6 pk_68 pl_68 10 rfl ⟨rfl, rfl⟩ bw_764 dX8_number_43 ?_
        refine bd1_elim hr (fun r12 hc13 hr => ?_)
        refine j_callVi X (As := [.int (σ.1 68 10)]) (rest := [.int ((10 : Int32) * v4)]) mf_X8_byteAt bw_900 bw_902 bs_26 ⟨rfl, rfl⟩ ⟨Nat.le_of_ble_eq_true rfl, Nat.le_of_ble_eq_true rfl⟩ cf6 pk_68 pl_68 (c_X8_byteAt Γ.2.1 E ad  hc13) rfl rfl (Nat.le_of_ble_eq_true rfl) dX8_number_46 ?_
        refine j_iadd X dX8_number_49 ?_
        refine j_bipush X (v := 48) (by decide) dX8_number_50 ?_
        refine j_isub X dX8_number_52 ?_
        refine j_goto X (tgt := 58) (by decide) dX8_number_53 ?_
        cases hr
        exact J.sub [1, 2, 3, 4] rfl hJ9
set_option maxHeartbeats 4000000 in
set_option maxRecDepth 100000 in
theorem c_X8_number (l : Launch) (E : Ev) (ad : Nat → Nat)   {a1 : Int32} {a2 : Int32} {σ : Sg} {r : Int32 × Sg} (h : m_X8_number a1 a2 σ = some r) : Met l yX8_number (wY yX8_number cX8_number 6 (some .int)) rm_X8_number (va_Pc [.ref (ad 68), .int a1, .int a2] (PreU E ad RF 85 σ)) (QcN E ad (some (.int r.1), r.2)) 0 0 (EA E) := by
  refine met_of (L0 := [(0, .ref (ad 68)), (1, .int a1), (2, .int a2)]) rfl (Nat.le_of_ble_eq_true rfl) rfl (fun Γ X Y => ?_)
  have X : XC Γ E rm_X8_number cX8_number 6 RX8 := X
  unfold m_X8_number at h
  refine j_aload_n X 0 rfl rfl dX8_number_0 ?_
  refine bd1_elim h (fun σ1 hc2 h => ?_)
  refine j_callVv X (As := []) (rest := []) mf_X8_skips bw_896 bw_898 bs_25 ⟨rfl, rfl⟩ ⟨Nat.le_of_ble_eq_true rfl, Nat.le_of_ble_eq_true rfl⟩ cf6 pk_68 pl_68 (c_X8_skips Γ.2.1 E ad  hc2) rfl rfl (Nat.le_of_ble_eq_true rfl) dX8_number_1 ?_
  refine j_aload_n X 0 rfl rfl dX8_number_4 ?_
  refine j_geti X cf6 pk_68 pl_68 10 rfl ⟨rfl, rfl⟩ bw_764 dX8_number_5 ?_
  refine nm_elim h (fun x3 ex3 h => ?_)
  refine j_istore_n X (L' := [(3, .int x3), (0, .ref (ad 68)), (1, .int a1), (2, .int a2)]) ex3 rfl (by decide) rfl dX8_number_8 ?_
  refine j_iconst X (v := 0) (by decide) dX8_number_9 ?_
  refine nm_elim h (fun x4 ex4 h => ?_)
  refine j_istore X (L' := [(4, .int x4), (3, .int x3), (0, .ref (ad 68)), (1, .int a1), (2, .int a2)]) ex4 (by decide) rfl dX8_number_10 ?_
  refine J.sub [0, 1, 2, 3, 4] rfl ?_
  refine jl_X8_number_L12 X  (fun x14 σ15 h => ?_) 1000 x4 σ1 h
  refine j_aload_n X 2 rfl rfl dX8_number_73 ?_
  refine j_geti X cf6 pk_68 pl_68 10 rfl ⟨rfl, rfl⟩ bw_764 dX8_number_74 ?_
  refine j_iload_n X 1 rfl rfl dX8_number_77 ?_
  refine j_isub X dX8_number_78 ?_
  refine nm_elim h (fun x16 ex16 h => ?_)
  refine j_istore X (L' := [(5, .int x16), (4, .int x14), (3, .int x3), (0, .ref (ad 68)), (1, .int a1), (2, .int a2)]) ex16 (by decide) rfl dX8_number_79 ?_
  refine j_iload X 0 rfl dX8_number_81 ?_
  refine bd1_elim h (fun σ18 hr h => ?_)
  have hJ17 : J Γ E 6 ad RF 85 σ18 0 0 110 [(4, .int x14)] [] := by
    refine j_iload X 0 rfl dX8_number_110 ?_
    exact j_iret X Y rfl (ret_wi h) dX8_number_112
  clear h
  refine j_if_eq X (tgt := 105) (by decide) dX8_number_83 (fun c => ?_) (fun c => ?_)
  · have hr := (if_pos c).symm.trans hr
    refine j_aload_n X 3 rfl rfl dX8_number_105 ?_
    refine j_iload_n X 2 rfl rfl dX8_number_106 ?_
    refine bd1_elim hr (fun σ19 hc20 hr => ?_)
    refine j_callVv X (As := [.int x3]) (rest := []) mf_X8_faults bw_923 bw_925 bs_28 ⟨rfl, rfl⟩ ⟨Nat.le_of_ble_eq_true rfl, Nat.le_of_ble_eq_true rfl⟩ cf6 pk_68 pl_68 (c_X8_faults Γ.2.1 E ad  hc20) rfl rfl (Nat.le_of_ble_eq_true rfl) dX8_number_107 ?_
    cases hr
    exact J.sub [1] rfl hJ17
  · have hr := (if_neg c).symm.trans hr
    refine j_iload X 0 rfl dX8_number_86 ?_
    refine j_iconst X (v := 2) (by decide) dX8_number_88 ?_
    refine j_icmp_gt X (tgt := 105) (by decide) dX8_number_89 (fun c => ?_) (fun c => ?_)
    · have hr := (if_pos c).symm.trans hr
      refine j_aload_n X 3 rfl rfl dX8_number_105 ?_
      refine j_iload_n X 2 rfl rfl dX8_number_106 ?_
      refine bd1_elim hr (fun σ21 hc22 hr => ?_)
      refine j_callVv X (As := [.int x3]) (rest := []) mf_X8_faults bw_923 bw_925 bs_28 ⟨rfl, rfl⟩ ⟨Nat.le_of_ble_eq_true rfl, Nat.le_of_ble_eq_true rfl⟩ cf6 pk_68 pl_68 (c_X8_faults Γ.2.1 E ad  hc22) rfl rfl (Nat.le_of_ble_eq_true rfl) dX8_number_107 ?_
      cases hr
      exact J.sub [1] rfl hJ17
    · have hr := (if_neg c).symm.trans hr
      refine j_iload X 1 rfl dX8_number_92 ?_
      refine j_i2l X dX8_number_94 ?_
      refine j_iload_n X 4 rfl rfl dX8_number_95 ?_
      refine j_i2l X dX8_number_96 ?_
      refine j_iload_n X 5 rfl rfl dX8_number_97 ?_
      refine j_i2l X dX8_number_98 ?_
      refine bd1_elim hr (fun r23 hc24 hr => ?_)
      refine j_callSi X (As := [.long (Int32.toInt64 x14), .long (Int32.toInt64 a1), .long (Int32.toInt64 a2)]) (rest := []) mf_X8_in bw_842 bw_843 ⟨rfl, rfl⟩ ⟨Nat.le_of_ble_eq_true rfl, Nat.le_of_ble_eq_true rfl⟩ (c_X8_in Γ.2.1 E ad  hc24) rfl rfl (Nat.le_of_ble_eq_true rfl) dX8_number_99 ?_
      refine j_if_ne X (tgt := 110) (by decide) dX8_number_102 (fun c => ?_) (fun c => ?_)
      · have hr := (if_neg c).symm.trans hr
        cases hr
        exact J.sub [1] rfl hJ17
      · have hr := (if_pos c).symm.trans hr
        refine j_aload_n X 3 rfl rfl dX8_number_105 ?_
        refine j_iload_n X 2 rfl rfl dX8_number_106 ?_
        refine bd1_elim hr (fun σ25 hc26 hr => ?_)
        refine j_callVv X (As := [.int x3]) (rest := []) mf_X8_faults bw_923 bw_925 bs_28 ⟨rfl, rfl⟩ ⟨Nat.le_of_ble_eq_true rfl, Nat.le_of_ble_eq_true rfl⟩ cf6 pk_68 pl_68 (c_X8_faults Γ.2.1 E ad  hc26) rfl rfl (Nat.le_of_ble_eq_true rfl) dX8_number_107 ?_
        cases hr
        exact J.sub [1] rfl hJ17

abbrev rm_X8_ends : Room := { frames := 2, cells := 0, slots := 0, locals := 41 }
set_option maxHeartbeats 4000000 in
set_option maxRecDepth 100000 in
theorem c_X8_ends (l : Launch) (E : Ev) (ad : Nat → Nat)    {σ : Sg} {r : Sg} (h : m_X8_ends  σ = some r) : Met l yX8_ends (wY yX8_ends cX8_ends 1 none) rm_X8_ends (va_Pc [.ref (ad 68)] (PreU E ad RF 85 σ)) (QcN E ad (none, r)) 0 0 (EA E) := by
  refine met_of (L0 := [(0, .ref (ad 68))]) rfl (Nat.le_of_ble_eq_true rfl) rfl (fun Γ X Y => ?_)
  have X : XC Γ E rm_X8_ends cX8_ends 1 RX8 := X
  unfold m_X8_ends at h
  refine j_aload_n X 0 rfl rfl dX8_ends_0 ?_
  refine bd1_elim h (fun σ1 hc2 h => ?_)
  refine j_callVv X (As := []) (rest := []) mf_X8_skips bw_896 bw_898 bs_25 ⟨rfl, rfl⟩ ⟨Nat.le_of_ble_eq_true rfl, Nat.le_of_ble_eq_true rfl⟩ cf6 pk_68 pl_68 (c_X8_skips Γ.2.1 E ad  hc2) rfl rfl (Nat.le_of_ble_eq_true rfl) dX8_ends_1 ?_
  refine j_aload_n X 0 rfl rfl dX8_ends_4 ?_
  refine j_aload_n X 0 rfl rfl dX8_ends_5 ?_
  refine j_geti X cf6 pk_68 pl_68 10 rfl ⟨rfl, rfl⟩ bw_764 dX8_ends_6 ?_
  refine bd1_elim h (fun r3 hc4 h => ?_)
  refine j_callVi X (As := [.int (σ1.1 68 10)]) (rest := []) mf_X8_byteAt bw_900 bw_902 bs_26 ⟨rfl, rfl⟩ ⟨Nat.le_of_ble_eq_true rfl, Nat.le_of_ble_eq_true rfl⟩ cf6 pk_68 pl_68 (c_X8_byteAt Γ.2.1 E ad  hc4) rfl rfl (Nat.le_of_ble_eq_true rfl) dX8_ends_9 ?_
  refine j_bipush X (v := 59) (by decide) dX8_ends_12 ?_
  refine bd1_elim h (fun σ6 hr h => ?_)
  have hJ5 : J Γ E 1 ad RF 85 σ6 0 0 25 [(0, .ref (ad 68))] [] := by
    refine j_aload_n X 0 rfl rfl dX8_ends_25 ?_
    refine j_dup X rfl dX8_ends_26 ?_
    refine j_geti X cf6 pk_68 pl_68 10 rfl ⟨rfl, rfl⟩ bw_764 dX8_ends_27 ?_
    refine j_iconst X (v := 1) (by decide) dX8_ends_30 ?_
    refine j_iadd X dX8_ends_31 ?_
    refine nm_elim h (fun σ7 eσ7 h => ?_)
    refine j_puti X cf6 pk_68 pl_68 10 rfl ⟨rfl, rfl⟩ (.inl rfl) rfl rfl eσ7 bw_764 dX8_ends_32 ?_
    exact j_vret X Y (ret_wv h) dX8_ends_35
  clear h
  refine j_icmp_eq X (tgt := 25) (by decide) dX8_ends_14 (fun c => ?_) (fun c => ?_)
  · have hr := (if_pos c).symm.trans hr
    cases hr
    exact J.sub [0] rfl hJ5
  · have hr := (if_neg c).symm.trans hr
    refine j_aload_n X 0 rfl rfl dX8_ends_17 ?_
    refine j_aload_n X 0 rfl rfl dX8_ends_18 ?_
    refine j_geti X cf6 pk_68 pl_68 10 rfl ⟨rfl, rfl⟩ bw_764 dX8_ends_19 ?_
    refine bd1_elim hr (fun σ8 hc9 hr => ?_)
    refine j_callVv X (As := [.int (σ1.1 68 10)]) (rest := []) mf_X8_faults bw_923 bw_925 bs_28 ⟨rfl, rfl⟩ ⟨Nat.le_of_ble_eq_true rfl, Nat.le_of_ble_eq_true rfl⟩ cf6 pk_68 pl_68 (c_X8_faults Γ.2.1 E ad  hc9) rfl rfl (Nat.le_of_ble_eq_true rfl) dX8_ends_22 ?_
    cases hr
    exact J.sub [0] rfl hJ5

abbrev rm_X8_readItem : Room := { frames := 3, cells := 0, slots := 0, locals := 70 }
set_option maxHeartbeats 4000000 in
set_option maxRecDepth 100000 in
theorem c_X8_readItem (l : Launch) (E : Ev) (ad : Nat → Nat)   {a1 : Int32} {a2 : Int32} {σ : Sg} {r : Sg} (h : m_X8_readItem a1 a2 σ = some r) : Met l yX8_readItem (wY yX8_readItem cX8_readItem 3 none) rm_X8_readItem (va_Pc [.ref (ad 68), .int a1, .int a2] (PreU E ad RF 85 σ)) (QcN E ad (none, r)) 0 0 (EA E) := by
  refine met_of (L0 := [(0, .ref (ad 68)), (1, .int a1), (2, .int a2)]) rfl (Nat.le_of_ble_eq_true rfl) rfl (fun Γ X Y => ?_)
  have X : XC Γ E rm_X8_readItem cX8_readItem 3 RX8 := X
  unfold m_X8_readItem at h
  refine j_aload_n X 0 rfl rfl dX8_readItem_0 ?_
  refine j_getr X cf6 pk_68 pl_68 12 rfl ⟨rfl, rfl⟩ 76 rfl bw_766 dX8_readItem_1 ?_
  refine j_iload_n X 2 rfl rfl dX8_readItem_4 ?_
  refine j_iload_n X 1 rfl rfl dX8_readItem_5 ?_
  refine gd_elim h (fun g h => ?_)
  refine nm_elim h (fun σ1 eσ1 h => ?_)
  refine j_iast X pk_76 pl_76 g eσ1 dX8_readItem_6 ?_
  refine j_iload_n X 1 rfl rfl dX8_readItem_7 ?_
  refine j_iconst X (v := 1) (by decide) dX8_readItem_8 ?_
  refine bd1_elim h (fun σ3 hr h => ?_)
  have hJ2 : J Γ E 3 ad RF 85 σ3 0 0 136 [(0, .ref (ad 68))] [] := by
    refine j_aload_n X 0 rfl rfl dX8_readItem_136 ?_
    refine bd1_elim h (fun σ4 hc5 h => ?_)
    refine j_callVv X (As := []) (rest := []) mf_X8_ends bw_940 bw_942 bs_31 ⟨rfl, rfl⟩ ⟨Nat.le_of_ble_eq_true rfl, Nat.le_of_ble_eq_true rfl⟩ cf6 pk_68 pl_68 (c_X8_ends Γ.2.1 E ad  hc5) rfl rfl (Nat.le_of_ble_eq_true rfl) dX8_readItem_137 ?_
    exact j_vret X Y (ret_wv h) dX8_readItem_140
  clear h
  refine j_icmp_ne X (tgt := 58) (by decide) dX8_readItem_9 (fun c => ?_) (fun c => ?_)
  · have hr := (if_neg c).symm.trans hr
    refine j_iload_n X 1 rfl rfl dX8_readItem_58 ?_
    refine j_iconst X (v := 2) (by decide) dX8_readItem_59 ?_
    refine j_icmp_ne X (tgt := 94) (by decide) dX8_readItem_60 (fun c => ?_) (fun c => ?_)
    · have hr := (if_neg c).symm.trans hr
      refine j_iload_n X 1 rfl rfl dX8_readItem_94 ?_
      refine j_iconst X (v := 5) (by decide) dX8_readItem_95 ?_
      refine j_icmp_ne X (tgt := 117) (by decide) dX8_readItem_96 (fun c => ?_) (fun c => ?_)
      · have hr := (if_neg c).symm.trans hr
        refine j_iload_n X 1 rfl rfl dX8_readItem_117 ?_
        refine j_iconst X (v := 2) (by decide) dX8_readItem_118 ?_
        refine j_icmp_le X (tgt := 136) (by decide) dX8_readItem_119 (fun c => ?_) (fun c => ?_)
        · have hr := (if_pos c).symm.trans hr
          cases hr
          exact J.sub [0] rfl hJ2
        · have hr := (if_neg c).symm.trans hr
          refine j_aload_n X 0 rfl rfl dX8_readItem_122 ?_
          refine j_getr X cf6 pk_68 pl_68 12 rfl ⟨rfl, rfl⟩ 76 rfl bw_766 dX8_readItem_123 ?_
          refine j_iload_n X 2 rfl rfl dX8_readItem_126 ?_
          refine j_iconst X (v := 1) (by decide) dX8_readItem_127 ?_
          refine j_iadd X dX8_readItem_128 ?_
          refine j_aload_n X 0 rfl rfl dX8_readItem_129 ?_
          refine j_iconst X (v := 0) (by decide) dX8_readItem_130 ?_
          refine j_iconst X (v := 3) (by decide) dX8_readItem_131 ?_
          refine bd2_elim hr (fun r6 σ7 hc8 hr => ?_)
          refine j_callVi X (As := [.int (0 : Int32), .int (3 : Int32)]) (rest := [.int (a2 + (1 : Int32)), .ref (ad 76)]) mf_X8_number bw_931 bw_933 bs_30 ⟨rfl, rfl⟩ ⟨Nat.le_of_ble_eq_true rfl, Nat.le_of_ble_eq_true rfl⟩ cf6 pk_68 pl_68 (c_X8_number Γ.2.1 E ad  hc8) rfl rfl (Nat.le_of_ble_eq_true rfl) dX8_readItem_132 ?_
          refine gd_elim hr (fun g hr => ?_)
          refine nm_elim hr (fun σ9 eσ9 hr => ?_)
          refine j_iast X pk_76 pl_76 g eσ9 dX8_readItem_135 ?_
          cases hr
          exact J.sub [0] rfl hJ2
      · have hr := (if_pos c).symm.trans hr
        refine j_aload_n X 0 rfl rfl dX8_readItem_99 ?_
        refine j_getr X cf6 pk_68 pl_68 12 rfl ⟨rfl, rfl⟩ 76 rfl bw_766 dX8_readItem_100 ?_
        refine j_iload_n X 2 rfl rfl dX8_readItem_103 ?_
        refine j_iconst X (v := 1) (by decide) dX8_readItem_104 ?_
        refine j_iadd X dX8_readItem_105 ?_
        refine j_aload_n X 0 rfl rfl dX8_readItem_106 ?_
        refine j_iconst X (v := 1) (by decide) dX8_readItem_107 ?_
        refine j_bipush X (v := 99) (by decide) dX8_readItem_108 ?_
        refine bd2_elim hr (fun r10 σ11 hc12 hr => ?_)
        refine j_callVi X (As := [.int (1 : Int32), .int (99 : Int32)]) (rest := [.int (a2 + (1 : Int32)), .ref (ad 76)]) mf_X8_number bw_931 bw_933 bs_30 ⟨rfl, rfl⟩ ⟨Nat.le_of_ble_eq_true rfl, Nat.le_of_ble_eq_true rfl⟩ cf6 pk_68 pl_68 (c_X8_number Γ.2.1 E ad  hc12) rfl rfl (Nat.le_of_ble_eq_true rfl) dX8_readItem_110 ?_
        refine gd_elim hr (fun g hr => ?_)
        refine nm_elim hr (fun σ13 eσ13 hr => ?_)
        refine j_iast X pk_76 pl_76 g eσ13 dX8_readItem_113 ?_
        refine j_goto X (tgt := 136) (by decide) dX8_readItem_114 ?_
        cases hr
        exact J.sub [0] rfl hJ2
    · have hr := (if_pos c).symm.trans hr
      refine j_aload_n X 0 rfl rfl dX8_readItem_63 ?_
      refine j_getr X cf6 pk_68 pl_68 12 rfl ⟨rfl, rfl⟩ 76 rfl bw_766 dX8_readItem_64 ?_
      refine j_iload_n X 2 rfl rfl dX8_readItem_67 ?_
      refine j_iconst X (v := 1) (by decide) dX8_readItem_68 ?_
      refine j_iadd X dX8_readItem_69 ?_
      refine j_aload_n X 0 rfl rfl dX8_readItem_70 ?_
      refine j_iconst X (v := 0) (by decide) dX8_readItem_71 ?_
      refine j_iconst X (v := 5) (by decide) dX8_readItem_72 ?_
      refine bd2_elim hr (fun r14 σ15 hc16 hr => ?_)
      refine j_callVi X (As := [.int (0 : Int32), .int (5 : Int32)]) (rest := [.int (a2 + (1 : Int32)), .ref (ad 76)]) mf_X8_number bw_931 bw_933 bs_30 ⟨rfl, rfl⟩ ⟨Nat.le_of_ble_eq_true rfl, Nat.le_of_ble_eq_true rfl⟩ cf6 pk_68 pl_68 (c_X8_number Γ.2.1 E ad  hc16) rfl rfl (Nat.le_of_ble_eq_true rfl) dX8_readItem_73 ?_
      refine gd_elim hr (fun g hr => ?_)
      refine nm_elim hr (fun σ17 eσ17 hr => ?_)
      refine j_iast X pk_76 pl_76 g eσ17 dX8_readItem_76 ?_
      refine j_aload_n X 0 rfl rfl dX8_readItem_77 ?_
      refine j_getr X cf6 pk_68 pl_68 12 rfl ⟨rfl, rfl⟩ 76 rfl bw_766 dX8_readItem_78 ?_
      refine j_iload_n X 2 rfl rfl dX8_readItem_81 ?_
      refine j_iconst X (v := 2) (by decide) dX8_readItem_82 ?_
      refine j_iadd X dX8_readItem_83 ?_
      refine j_aload_n X 0 rfl rfl dX8_readItem_84 ?_
      refine j_iconst X (v := 0) (by decide) dX8_readItem_85 ?_
      refine j_iconst X (v := 3) (by decide) dX8_readItem_86 ?_
      refine bd2_elim hr (fun r18 σ19 hc20 hr => ?_)
      refine j_callVi X (As := [.int (0 : Int32), .int (3 : Int32)]) (rest := [.int (a2 + (2 : Int32)), .ref (ad 76)]) mf_X8_number bw_931 bw_933 bs_30 ⟨rfl, rfl⟩ ⟨Nat.le_of_ble_eq_true rfl, Nat.le_of_ble_eq_true rfl⟩ cf6 pk_68 pl_68 (c_X8_number Γ.2.1 E ad  hc20) rfl rfl (Nat.le_of_ble_eq_true rfl) dX8_readItem_87 ?_
      refine gd_elim hr (fun g hr => ?_)
      refine nm_elim hr (fun σ21 eσ21 hr => ?_)
      refine j_iast X pk_76 pl_76 g eσ21 dX8_readItem_90 ?_
      refine j_goto X (tgt := 136) (by decide) dX8_readItem_91 ?_
      cases hr
      exact J.sub [0] rfl hJ2
  · have hr := (if_pos c).symm.trans hr
    refine j_aload_n X 0 rfl rfl dX8_readItem_12 ?_
    refine j_getr X cf6 pk_68 pl_68 12 rfl ⟨rfl, rfl⟩ 76 rfl bw_766 dX8_readItem_13 ?_
    refine j_iload_n X 2 rfl rfl dX8_readItem_16 ?_
    refine j_iconst X (v := 1) (by decide) dX8_readItem_17 ?_
    refine j_iadd X dX8_readItem_18 ?_
    refine j_aload_n X 0 rfl rfl dX8_readItem_19 ?_
    refine j_iconst X (v := 0) (by decide) dX8_readItem_20 ?_
    refine j_iconst X (v := 5) (by decide) dX8_readItem_21 ?_
    refine bd2_elim hr (fun r22 σ23 hc24 hr => ?_)
    refine j_callVi X (As := [.int (0 : Int32), .int (5 : Int32)]) (rest := [.int (a2 + (1 : Int32)), .ref (ad 76)]) mf_X8_number bw_931 bw_933 bs_30 ⟨rfl, rfl⟩ ⟨Nat.le_of_ble_eq_true rfl, Nat.le_of_ble_eq_true rfl⟩ cf6 pk_68 pl_68 (c_X8_number Γ.2.1 E ad  hc24) rfl rfl (Nat.le_of_ble_eq_true rfl) dX8_readItem_22 ?_
    refine gd_elim hr (fun g hr => ?_)
    refine nm_elim hr (fun σ25 eσ25 hr => ?_)
    refine j_iast X pk_76 pl_76 g eσ25 dX8_readItem_25 ?_
    refine j_aload_n X 0 rfl rfl dX8_readItem_26 ?_
    refine j_getr X cf6 pk_68 pl_68 12 rfl ⟨rfl, rfl⟩ 76 rfl bw_766 dX8_readItem_27 ?_
    refine j_iload_n X 2 rfl rfl dX8_readItem_30 ?_
    refine j_iconst X (v := 2) (by decide) dX8_readItem_31 ?_
    refine j_iadd X dX8_readItem_32 ?_
    refine j_aload_n X 0 rfl rfl dX8_readItem_33 ?_
    refine j_iconst X (v := 0) (by decide) dX8_readItem_34 ?_
    refine j_iconst X (v := 3) (by decide) dX8_readItem_35 ?_
    refine bd2_elim hr (fun r26 σ27 hc28 hr => ?_)
    refine j_callVi X (As := [.int (0 : Int32), .int (3 : Int32)]) (rest := [.int (a2 + (2 : Int32)), .ref (ad 76)]) mf_X8_number bw_931 bw_933 bs_30 ⟨rfl, rfl⟩ ⟨Nat.le_of_ble_eq_true rfl, Nat.le_of_ble_eq_true rfl⟩ cf6 pk_68 pl_68 (c_X8_number Γ.2.1 E ad  hc28) rfl rfl (Nat.le_of_ble_eq_true rfl) dX8_readItem_36 ?_
    refine gd_elim hr (fun g hr => ?_)
    refine nm_elim hr (fun σ29 eσ29 hr => ?_)
    refine j_iast X pk_76 pl_76 g eσ29 dX8_readItem_39 ?_
    refine j_aload_n X 0 rfl rfl dX8_readItem_40 ?_
    refine j_getr X cf6 pk_68 pl_68 12 rfl ⟨rfl, rfl⟩ 76 rfl bw_766 dX8_readItem_41 ?_
    refine j_iload_n X 2 rfl rfl dX8_readItem_44 ?_
    refine j_iconst X (v := 3) (by decide) dX8_readItem_45 ?_
    refine j_iadd X dX8_readItem_46 ?_
    refine j_aload_n X 0 rfl rfl dX8_readItem_47 ?_
    refine j_iconst X (v := 1) (by decide) dX8_readItem_48 ?_
    refine j_bipush X (v := 9) (by decide) dX8_readItem_49 ?_
    refine bd2_elim hr (fun r30 σ31 hc32 hr => ?_)
    refine j_callVi X (As := [.int (1 : Int32), .int (9 : Int32)]) (rest := [.int (a2 + (3 : Int32)), .ref (ad 76)]) mf_X8_number bw_931 bw_933 bs_30 ⟨rfl, rfl⟩ ⟨Nat.le_of_ble_eq_true rfl, Nat.le_of_ble_eq_true rfl⟩ cf6 pk_68 pl_68 (c_X8_number Γ.2.1 E ad  hc32) rfl rfl (Nat.le_of_ble_eq_true rfl) dX8_readItem_51 ?_
    refine gd_elim hr (fun g hr => ?_)
    refine nm_elim hr (fun σ33 eσ33 hr => ?_)
    refine j_iast X pk_76 pl_76 g eσ33 dX8_readItem_54 ?_
    refine j_goto X (tgt := 136) (by decide) dX8_readItem_55 ?_
    cases hr
    exact J.sub [0] rfl hJ2

abbrev rm_X8_readAll : Room := { frames := 4, cells := 0, slots := 0, locals := 92 }
set_option maxHeartbeats 4000000 in
set_option maxRecDepth 100000 in
theorem jl_X8_readAll_L20 {Γ : Cx} {E : Ev} {ad : Nat → Nat} (X : XC Γ E rm_X8_readAll cX8_readAll 6 RX8)     {kx : Sg → Option (Int32 × Sg)} {r : Int32 × Sg} (Y : XQ Γ E ad (some .int) (some (.int r.1), r.2))  : ∀ n (v3 : Int32) (v2 : Int32) (v1 : Int32) (σ : Sg), m_X8_readAll_L20 kx n v3 v2 v1 σ = some r → J Γ E 6 ad RF 85 σ 0 0 20 [(3, .int v3), (2, .int v2), (1, .int v1), (0, .ref (ad 68))] [] := by
  intro n
  induction n with
  | zero =>
    intro v3 v2 v1 σ h
    cases h
  | succ n ih =>
    intro v3 v2 v1 σ h
    rw [m_X8_readAll_L20.eq_2] at h
    refine j_aload_n X 3 rfl rfl dX8_readAll_20 ?_
    refine j_geti X cf6 pk_68 pl_68 11 rfl ⟨rfl, rfl⟩ bw_765 dX8_readAll_21 ?_
    refine j_if_ge X (tgt := 151) (by decide) dX8_readAll_24 (fun c => ?_) (fun c => ?_)
    · have h := (if_pos c).symm.trans h
      refine j_iload_n X 2 rfl rfl dX8_readAll_151 ?_
      exact j_iret X Y rfl (ret_wi h) dX8_readAll_152
    · have h := (if_neg c).symm.trans h
      refine j_iload_n X 2 rfl rfl dX8_readAll_27 ?_
      refine j_if_eq X (tgt := 42) (by decide) dX8_readAll_28 (fun c => ?_) (fun c => ?_)
      · have h := (if_pos c).symm.trans h
        refine j_aload_n X 3 rfl rfl dX8_readAll_42 ?_
        refine j_geti X cf6 pk_68 pl_68 10 rfl ⟨rfl, rfl⟩ bw_764 dX8_readAll_43 ?_
        refine nm_elim h (fun x8 ex8 h => ?_)
        refine j_istore X (L' := [(4, .int x8), (3, .int v3), (2, .int v2), (1, .int v1), (0, .ref (ad 68))]) ex8 (by decide) rfl dX8_readAll_46 ?_
        refine j_aload_n X 4 rfl rfl dX8_readAll_48 ?_
        refine bd2_elim h (fun r9 σ10 hc11 h => ?_)
        refine j_callVl X (As := []) (rest := []) mf_X8_word bw_904 bw_906 bs_27 ⟨rfl, rfl⟩ ⟨Nat.le_of_ble_eq_true rfl, Nat.le_of_ble_eq_true rfl⟩ cf6 pk_68 pl_68 (c_X8_word Γ.2.1 E ad  hc11) rfl rfl (Nat.le_of_ble_eq_true rfl) dX8_readAll_49 ?_
        refine bd1_elim h (fun r12 hc13 h => ?_)
        refine j_callSi X (As := [.long r9]) (rest := []) mf_X8_itemBy bw_916 bw_917 ⟨rfl, rfl⟩ ⟨Nat.le_of_ble_eq_true rfl, Nat.le_of_ble_eq_true rfl⟩ (c_X8_itemBy Γ.2.1 E ad  hc13) rfl rfl (Nat.le_of_ble_eq_true rfl) dX8_readAll_52 ?_
        refine j_istore X (L' := [(5, .int r12), (4, .int x8), (3, .int v3), (2, .int v2), (1, .int v1), (0, .ref (ad 68))]) rfl (by decide) rfl dX8_readAll_55 ?_
        refine j_iload_n X 3 rfl rfl dX8_readAll_57 ?_
        refine j_iload X 0 rfl dX8_readAll_58 ?_
        refine j_iconst X (v := 1) (by decide) dX8_readAll_60 ?_
        refine bd1_elim h (fun o15 hr h => ?_)
        have hJ14 : J Γ E 6 ad RF 85 σ10 0 0 69 [(5, .int r12), (4, .int x8), (3, .int v3), (1, .int v1), (0, .ref (ad 68))] [.int o15, .int v2] := by
          refine j_iadd X dX8_readAll_69 ?_
          refine nm_elim h (fun x16 ex16 h => ?_)
          refine j_istore_n X (L' := [(2, .int x16), (5, .int r12), (4, .int x8), (3, .int v3), (1, .int v1), (0, .ref (ad 68))]) ex16 rfl (by decide) rfl dX8_readAll_70 ?_
          refine j_iload_n X 3 rfl rfl dX8_readAll_71 ?_
          refine j_iload X 1 rfl dX8_readAll_72 ?_
          refine j_iconst X (v := 2) (by decide) dX8_readAll_74 ?_
          refine bd1_elim h (fun o18 hr h => ?_)
          have hJ17 : J Γ E 6 ad RF 85 σ10 0 0 83 [(2, .int x16), (5, .int r12), (4, .int x8), (1, .int v1), (0, .ref (ad 68))] [.int o18, .int v3] := by
            refine j_iadd X dX8_readAll_83 ?_
            refine nm_elim h (fun x19 ex19 h => ?_)
            refine j_istore_n X (L' := [(3, .int x19), (2, .int x16), (5, .int r12), (4, .int x8), (1, .int v1), (0, .ref (ad 68))]) ex19 rfl (by decide) rfl dX8_readAll_84 ?_
            refine j_iload X 2 rfl dX8_readAll_85 ?_
            refine bd1_elim h (fun σ21 hr h => ?_)
            have hJ20 : J Γ E 6 ad RF 85 σ21 0 0 141 [(3, .int x19), (2, .int x16), (1, .int v1), (0, .ref (ad 68))] [] := by
              refine nm_elim h (fun x22 ex22 h => ?_)
              refine j_iinc1 X (L' := [(1, .int x22), (3, .int x19), (2, .int x16), (0, .ref (ad 68))]) 2 rfl (q := 1) (by decide) ex22 (by decide) rfl dX8_readAll_141 ?_
              refine j_aload_n X 3 rfl rfl dX8_readAll_144 ?_
              refine bd1_elim h (fun σ23 hc24 h => ?_)
              refine j_callVv X (As := []) (rest := []) mf_X8_skips bw_896 bw_898 bs_25 ⟨rfl, rfl⟩ ⟨Nat.le_of_ble_eq_true rfl, Nat.le_of_ble_eq_true rfl⟩ cf6 pk_68 pl_68 (c_X8_skips Γ.2.1 E ad  hc24) rfl rfl (Nat.le_of_ble_eq_true rfl) dX8_readAll_145 ?_
              refine j_goto X (tgt := 20) (by decide) dX8_readAll_148 ?_
              exact J.sub [1, 2, 0, 3] rfl (ih x19 x16 x22 σ23 h)
            clear h
            refine j_if_lt X (tgt := 123) (by decide) dX8_readAll_87 (fun c => ?_) (fun c => ?_)
            · have hr := (if_pos c).symm.trans hr
              refine j_aload_n X 5 rfl rfl dX8_readAll_123 ?_
              refine j_iload X 3 rfl dX8_readAll_124 ?_
              refine bd1_elim hr (fun σ25 hc26 hr => ?_)
              refine j_callVv X (As := [.int x8]) (rest := []) mf_X8_faults bw_923 bw_925 bs_28 ⟨rfl, rfl⟩ ⟨Nat.le_of_ble_eq_true rfl, Nat.le_of_ble_eq_true rfl⟩ cf6 pk_68 pl_68 (c_X8_faults Γ.2.1 E ad  hc26) rfl rfl (Nat.le_of_ble_eq_true rfl) dX8_readAll_126 ?_
              refine j_goto X (tgt := 141) (by decide) dX8_readAll_129 ?_
              cases hr
              exact J.sub [0, 1, 4, 5] rfl hJ20
            · have hr := (if_neg c).symm.trans hr
              refine j_iload X 2 rfl dX8_readAll_90 ?_
              refine bd1_elim hr (fun o28 hr hr => ?_)
              have hJ27 : J Γ E 6 ad RF 85 σ10 0 0 100 [(3, .int x19), (2, .int x16), (5, .int r12), (4, .int x8), (1, .int v1), (0, .ref (ad 68))] [.int o28] := by
                refine j_iload_n X 4 rfl rfl dX8_readAll_100 ?_
                refine bd1_elim hr (fun o30 hr hr => ?_)
                have hJ29 : J Γ E 6 ad RF 85 σ10 0 0 109 [(3, .int x19), (2, .int x16), (5, .int r12), (4, .int x8), (1, .int v1), (0, .ref (ad 68))] [.int o30, .int o28] := by
                  refine j_icmp_ne X (tgt := 123) (by decide) dX8_readAll_109 (fun c => ?_) (fun c => ?_)
                  · have hr := (if_neg c).symm.trans hr
                    refine j_aload_n X 5 rfl rfl dX8_readAll_123 ?_
                    refine j_iload X 3 rfl dX8_readAll_124 ?_
                    refine bd1_elim hr (fun σ31 hc32 hr => ?_)
                    refine j_callVv X (As := [.int x8]) (rest := []) mf_X8_faults bw_923 bw_925 bs_28 ⟨rfl, rfl⟩ ⟨Nat.le_of_ble_eq_true rfl, Nat.le_of_ble_eq_true rfl⟩ cf6 pk_68 pl_68 (c_X8_faults Γ.2.1 E ad  hc32) rfl rfl (Nat.le_of_ble_eq_true rfl) dX8_readAll_126 ?_
                    refine j_goto X (tgt := 141) (by decide) dX8_readAll_129 ?_
                    cases hr
                    exact J.sub [0, 1, 4, 5] rfl hJ20
                  · have hr := (if_pos c).symm.trans hr
                    refine j_iload_n X 1 rfl rfl dX8_readAll_112 ?_
                    refine j_bipush X (v := 8) (by decide) dX8_readAll_113 ?_
                    refine j_icmp_gt X (tgt := 123) (by decide) dX8_readAll_115 (fun c => ?_) (fun c => ?_)
                    · have hr := (if_pos c).symm.trans hr
                      refine j_aload_n X 5 rfl rfl dX8_readAll_123 ?_
                      refine j_iload X 3 rfl dX8_readAll_124 ?_
                      refine bd1_elim hr (fun σ33 hc34 hr => ?_)
                      refine j_callVv X (As := [.int x8]) (rest := []) mf_X8_faults bw_923 bw_925 bs_28 ⟨rfl, rfl⟩ ⟨Nat.le_of_ble_eq_true rfl, Nat.le_of_ble_eq_true rfl⟩ cf6 pk_68 pl_68 (c_X8_faults Γ.2.1 E ad  hc34) rfl rfl (Nat.le_of_ble_eq_true rfl) dX8_readAll_126 ?_
                      refine j_goto X (tgt := 141) (by decide) dX8_readAll_129 ?_
                      cases hr
                      exact J.sub [0, 1, 4, 5] rfl hJ20
                    · have hr := (if_neg c).symm.trans hr
                      refine j_iload_n X 0 rfl rfl dX8_readAll_118 ?_
                      refine j_iconst X (v := 3) (by decide) dX8_readAll_119 ?_
                      refine j_icmp_le X (tgt := 132) (by decide) dX8_readAll_120 (fun c => ?_) (fun c => ?_)
                      · have hr := (if_pos c).symm.trans hr
                        refine j_aload_n X 5 rfl rfl dX8_readAll_132 ?_
                        refine j_iload X 2 rfl dX8_readAll_133 ?_
                        refine j_iconst X (v := 4) (by decide) dX8_readAll_135 ?_
                        refine j_iload_n X 4 rfl rfl dX8_readAll_136 ?_
                        refine j_imul X dX8_readAll_137 ?_
                        refine bd1_elim hr (fun σ35 hc36 hr => ?_)
                        refine j_callVv X (As := [.int r12, .int ((4 : Int32) * v1)]) (rest := []) mf_X8_readItem bw_927 bw_929 bs_29 ⟨rfl, rfl⟩ ⟨Nat.le_of_ble_eq_true rfl, Nat.le_of_ble_eq_true rfl⟩ cf6 pk_68 pl_68 (c_X8_readItem Γ.2.1 E ad  hc36) rfl rfl (Nat.le_of_ble_eq_true rfl) dX8_readAll_138 ?_
                        cases hr
                        exact J.sub [0, 1, 4, 5] rfl hJ20
                      · have hr := (if_neg c).symm.trans hr
                        refine j_aload_n X 5 rfl rfl dX8_readAll_123 ?_
                        refine j_iload X 3 rfl dX8_readAll_124 ?_
                        refine bd1_elim hr (fun σ37 hc38 hr => ?_)
                        refine j_callVv X (As := [.int x8]) (rest := []) mf_X8_faults bw_923 bw_925 bs_28 ⟨rfl, rfl⟩ ⟨Nat.le_of_ble_eq_true rfl, Nat.le_of_ble_eq_true rfl⟩ cf6 pk_68 pl_68 (c_X8_faults Γ.2.1 E ad  hc38) rfl rfl (Nat.le_of_ble_eq_true rfl) dX8_readAll_126 ?_
                        refine j_goto X (tgt := 141) (by decide) dX8_readAll_129 ?_
                        cases hr
                        exact J.sub [0, 1, 4, 5] rfl hJ20
                clear hr
                refine j_if_ne X (tgt := 108) (by decide) dX8_readAll_101 (fun c => ?_) (fun c => ?_)
                · have hr := (if_neg c).symm.trans hr
                  refine j_iconst X (v := 0) (by decide) dX8_readAll_108 ?_
                  cases hr
                  exact J.sub [0, 1, 2, 3, 4, 5] rfl hJ29
                · have hr := (if_pos c).symm.trans hr
                  refine j_iconst X (v := 1) (by decide) dX8_readAll_104 ?_
                  refine j_goto X (tgt := 109) (by decide) dX8_readAll_105 ?_
                  cases hr
                  exact J.sub [0, 1, 2, 3, 4, 5] rfl hJ29
              clear hr
              refine j_if_ne X (tgt := 99) (by decide) dX8_readAll_92 (fun c => ?_) (fun c => ?_)
              · have hr := (if_neg c).symm.trans hr
                refine j_iconst X (v := 0) (by decide) dX8_readAll_99 ?_
                cases hr
                exact J.sub [0, 1, 2, 3, 4, 5] rfl hJ27
              · have hr := (if_pos c).symm.trans hr
                refine j_iconst X (v := 1) (by decide) dX8_readAll_95 ?_
                refine j_goto X (tgt := 100) (by decide) dX8_readAll_96 ?_
                cases hr
                exact J.sub [0, 1, 2, 3, 4, 5] rfl hJ27
          clear h
          refine j_icmp_ne X (tgt := 82) (by decide) dX8_readAll_75 (fun c => ?_) (fun c => ?_)
          · have hr := (if_neg c).symm.trans hr
            refine j_iconst X (v := 0) (by decide) dX8_readAll_82 ?_
            cases hr
            exact J.sub [0, 1, 2, 4, 5] rfl hJ17
          · have hr := (if_pos c).symm.trans hr
            refine j_iconst X (v := 1) (by decide) dX8_readAll_78 ?_
            refine j_goto X (tgt := 83) (by decide) dX8_readAll_79 ?_
            cases hr
            exact J.sub [0, 1, 2, 4, 5] rfl hJ17
        clear h
        refine j_icmp_ne X (tgt := 68) (by decide) dX8_readAll_61 (fun c => ?_) (fun c => ?_)
        · have hr := (if_neg c).symm.trans hr
          refine j_iconst X (v := 0) (by decide) dX8_readAll_68 ?_
          cases hr
          exact J.sub [0, 1, 2, 4, 5] rfl hJ14
        · have hr := (if_pos c).symm.trans hr
          refine j_iconst X (v := 1) (by decide) dX8_readAll_64 ?_
          refine j_goto X (tgt := 69) (by decide) dX8_readAll_65 ?_
          cases hr
          exact J.sub [0, 1, 2, 4, 5] rfl hJ14
      · have h := (if_neg c).symm.trans h
        refine j_aload_n X 3 rfl rfl dX8_readAll_31 ?_
        refine j_geti X cf6 pk_68 pl_68 10 rfl ⟨rfl, rfl⟩ bw_764 dX8_readAll_32 ?_
        refine j_aload_n X 3 rfl rfl dX8_readAll_35 ?_
        refine j_geti X cf6 pk_68 pl_68 9 rfl ⟨rfl, rfl⟩ bw_763 dX8_readAll_36 ?_
        refine j_icmp_ge X (tgt := 151) (by decide) dX8_readAll_39 (fun c => ?_) (fun c => ?_)
        · have h := (if_pos c).symm.trans h
          refine j_iload_n X 2 rfl rfl dX8_readAll_151 ?_
          exact j_iret X Y rfl (ret_wi h) dX8_readAll_152
        · have h := (if_neg c).symm.trans h
          refine j_aload_n X 3 rfl rfl dX8_readAll_42 ?_
          refine j_geti X cf6 pk_68 pl_68 10 rfl ⟨rfl, rfl⟩ bw_764 dX8_readAll_43 ?_
          refine nm_elim h (fun x39 ex39 h => ?_)
          refine j_istore X (L' := [(4, .int x39), (3, .int v3), (2, .int v2), (1, .int v1), (0, .ref (ad 68))]) ex39 (by decide) rfl dX8_readAll_46 ?_
          refine j_aload_n X 4 rfl rfl dX8_readAll_48 ?_
          refine bd2_elim h (fun r40 σ41 hc42 h => ?_)
          refine j_callVl X (As := []) (rest := []) mf_X8_word bw_904 bw_906 bs_27 ⟨rfl, rfl⟩ ⟨Nat.le_of_ble_eq_true rfl, Nat.le_of_ble_eq_true rfl⟩ cf6 pk_68 pl_68 (c_X8_word Γ.2.1 E ad  hc42) rfl rfl (Nat.le_of_ble_eq_true rfl) dX8_readAll_49 ?_
          refine bd1_elim h (fun r43 hc44 h => ?_)
          refine j_callSi X (As := [.long r40]) (rest := []) mf_X8_itemBy bw_916 bw_917 ⟨rfl, rfl⟩ ⟨Nat.le_of_ble_eq_true rfl, Nat.le_of_ble_eq_true rfl⟩ (c_X8_itemBy Γ.2.1 E ad  hc44) rfl rfl (Nat.le_of_ble_eq_true rfl) dX8_readAll_52 ?_
          refine j_istore X (L' := [(5, .int r43), (4, .int x39), (3, .int v3), (2, .int v2), (1, .int v1), (0, .ref (ad 68))]) rfl (by decide) rfl dX8_readAll_55 ?_
          refine j_iload_n X 3 rfl rfl dX8_readAll_57 ?_
          refine j_iload X 0 rfl dX8_readAll_58 ?_
          refine j_iconst X (v := 1) (by decide) dX8_readAll_60 ?_
          refine bd1_elim h (fun o46 hr h => ?_)
          have hJ45 : J Γ E 6 ad RF 85 σ41 0 0 69 [(5, .int r43), (4, .int x39), (3, .int v3), (1, .int v1), (0, .ref (ad 68))] [.int o46, .int v2] := by
            refine j_iadd X dX8_readAll_69 ?_
            refine nm_elim h (fun x47 ex47 h => ?_)
            refine j_istore_n X (L' := [(2, .int x47), (5, .int r43), (4, .int x39), (3, .int v3), (1, .int v1), (0, .ref (ad 68))]) ex47 rfl (by decide) rfl dX8_readAll_70 ?_
            refine j_iload_n X 3 rfl rfl dX8_readAll_71 ?_
            refine j_iload X 1 rfl dX8_readAll_72 ?_
            refine j_iconst X (v := 2) (by decide) dX8_readAll_74 ?_
            refine bd1_elim h (fun o49 hr h => ?_)
            have hJ48 : J Γ E 6 ad RF 85 σ41 0 0 83 [(2, .int x47), (5, .int r43), (4, .int x39), (1, .int v1), (0, .ref (ad 68))] [.int o49, .int v3] := by
              refine j_iadd X dX8_readAll_83 ?_
              refine nm_elim h (fun x50 ex50 h => ?_)
              refine j_istore_n X (L' := [(3, .int x50), (2, .int x47), (5, .int r43), (4, .int x39), (1, .int v1), (0, .ref (ad 68))]) ex50 rfl (by decide) rfl dX8_readAll_84 ?_
              refine j_iload X 2 rfl dX8_readAll_85 ?_
              refine bd1_elim h (fun σ52 hr h => ?_)
              have hJ51 : J Γ E 6 ad RF 85 σ52 0 0 141 [(3, .int x50), (2, .int x47), (1, .int v1), (0, .ref (ad 68))] [] := by
                refine nm_elim h (fun x53 ex53 h => ?_)
                refine j_iinc1 X (L' := [(1, .int x53), (3, .int x50), (2, .int x47), (0, .ref (ad 68))]) 2 rfl (q := 1) (by decide) ex53 (by decide) rfl dX8_readAll_141 ?_
                refine j_aload_n X 3 rfl rfl dX8_readAll_144 ?_
                refine bd1_elim h (fun σ54 hc55 h => ?_)
                refine j_callVv X (As := []) (rest := []) mf_X8_skips bw_896 bw_898 bs_25 ⟨rfl, rfl⟩ ⟨Nat.le_of_ble_eq_true rfl, Nat.le_of_ble_eq_true rfl⟩ cf6 pk_68 pl_68 (c_X8_skips Γ.2.1 E ad  hc55) rfl rfl (Nat.le_of_ble_eq_true rfl) dX8_readAll_145 ?_
                refine j_goto X (tgt := 20) (by decide) dX8_readAll_148 ?_
                exact J.sub [1, 2, 0, 3] rfl (ih x50 x47 x53 σ54 h)
              clear h
              refine j_if_lt X (tgt := 123) (by decide) dX8_readAll_87 (fun c => ?_) (fun c => ?_)
              · have hr := (if_pos c).symm.trans hr
                refine j_aload_n X 5 rfl rfl dX8_readAll_123 ?_
                refine j_iload X 3 rfl dX8_readAll_124 ?_
                refine bd1_elim hr (fun σ56 hc57 hr => ?_)
                refine j_callVv X (As := [.int x39]) (rest := []) mf_X8_faults bw_923 bw_925 bs_28 ⟨rfl, rfl⟩ ⟨Nat.le_of_ble_eq_true rfl, Nat.le_of_ble_eq_true rfl⟩ cf6 pk_68 pl_68 (c_X8_faults Γ.2.1 E ad  hc57) rfl rfl (Nat.le_of_ble_eq_true rfl) dX8_readAll_126 ?_
                refine j_goto X (tgt := 141) (by decide) dX8_readAll_129 ?_
                cases hr
                exact J.sub [0, 1, 4, 5] rfl hJ51
              · have hr := (if_neg c).symm.trans hr
                refine j_iload X 2 rfl dX8_readAll_90 ?_
                refine bd1_elim hr (fun o59 hr hr => ?_)
                have hJ58 : J Γ E 6 ad RF 85 σ41 0 0 100 [(3, .int x50), (2, .int x47), (5, .int r43), (4, .int x39), (1, .int v1), (0, .ref (ad 68))] [.int o59] := by
                  refine j_iload_n X 4 rfl rfl dX8_readAll_100 ?_
                  refine bd1_elim hr (fun o61 hr hr => ?_)
                  have hJ60 : J Γ E 6 ad RF 85 σ41 0 0 109 [(3, .int x50), (2, .int x47), (5, .int r43), (4, .int x39), (1, .int v1), (0, .ref (ad 68))] [.int o61, .int o59] := by
                    refine j_icmp_ne X (tgt := 123) (by decide) dX8_readAll_109 (fun c => ?_) (fun c => ?_)
                    · have hr := (if_neg c).symm.trans hr
                      refine j_aload_n X 5 rfl rfl dX8_readAll_123 ?_
                      refine j_iload X 3 rfl dX8_readAll_124 ?_
                      refine bd1_elim hr (fun σ62 hc63 hr => ?_)
                      refine j_callVv X (As := [.int x39]) (rest := []) mf_X8_faults bw_923 bw_925 bs_28 ⟨rfl, rfl⟩ ⟨Nat.le_of_ble_eq_true rfl, Nat.le_of_ble_eq_true rfl⟩ cf6 pk_68 pl_68 (c_X8_faults Γ.2.1 E ad  hc63) rfl rfl (Nat.le_of_ble_eq_true rfl) dX8_readAll_126 ?_
                      refine j_goto X (tgt := 141) (by decide) dX8_readAll_129 ?_
                      cases hr
                      exact J.sub [0, 1, 4, 5] rfl hJ51
                    · have hr := (if_pos c).symm.trans hr
                      refine j_iload_n X 1 rfl rfl dX8_readAll_112 ?_
                      refine j_bipush X (v := 8) (by decide) dX8_readAll_113 ?_
                      refine j_icmp_gt X (tgt := 123) (by decide) dX8_readAll_115 (fun c => ?_) (fun c => ?_)
                      · have hr := (if_pos c).symm.trans hr
                        refine j_aload_n X 5 rfl rfl dX8_readAll_123 ?_
                        refine j_iload X 3 rfl dX8_readAll_124 ?_
                        refine bd1_elim hr (fun σ64 hc65 hr => ?_)
                        refine j_callVv X (As := [.int x39]) (rest := []) mf_X8_faults bw_923 bw_925 bs_28 ⟨rfl, rfl⟩ ⟨Nat.le_of_ble_eq_true rfl, Nat.le_of_ble_eq_true rfl⟩ cf6 pk_68 pl_68 (c_X8_faults Γ.2.1 E ad  hc65) rfl rfl (Nat.le_of_ble_eq_true rfl) dX8_readAll_126 ?_
                        refine j_goto X (tgt := 141) (by decide) dX8_readAll_129 ?_
                        cases hr
                        exact J.sub [0, 1, 4, 5] rfl hJ51
                      · have hr := (if_neg c).symm.trans hr
                        refine j_iload_n X 0 rfl rfl dX8_readAll_118 ?_
                        refine j_iconst X (v := 3) (by decide) dX8_readAll_119 ?_
                        refine j_icmp_le X (tgt := 132) (by decide) dX8_readAll_120 (fun c => ?_) (fun c => ?_)
                        · have hr := (if_pos c).symm.trans hr
                          refine j_aload_n X 5 rfl rfl dX8_readAll_132 ?_
                          refine j_iload X 2 rfl dX8_readAll_133 ?_
                          refine j_iconst X (v := 4) (by decide) dX8_readAll_135 ?_
                          refine j_iload_n X 4 rfl rfl dX8_readAll_136 ?_
                          refine j_imul X dX8_readAll_137 ?_
                          refine bd1_elim hr (fun σ66 hc67 hr => ?_)
                          refine j_callVv X (As := [.int r43, .int ((4 : Int32) * v1)]) (rest := []) mf_X8_readItem bw_927 bw_929 bs_29 ⟨rfl, rfl⟩ ⟨Nat.le_of_ble_eq_true rfl, Nat.le_of_ble_eq_true rfl⟩ cf6 pk_68 pl_68 (c_X8_readItem Γ.2.1 E ad  hc67) rfl rfl (Nat.le_of_ble_eq_true rfl) dX8_readAll_138 ?_
                          cases hr
                          exact J.sub [0, 1, 4, 5] rfl hJ51
                        · have hr := (if_neg c).symm.trans hr
                          refine j_aload_n X 5 rfl rfl dX8_readAll_123 ?_
                          refine j_iload X 3 rfl dX8_readAll_124 ?_
                          refine bd1_elim hr (fun σ68 hc69 hr => ?_)
                          refine j_callVv X (As := [.int x39]) (rest := []) mf_X8_faults bw_923 bw_925 bs_28 ⟨rfl, rfl⟩ ⟨Nat.le_of_ble_eq_true rfl, Nat.le_of_ble_eq_true rfl⟩ cf6 pk_68 pl_68 (c_X8_faults Γ.2.1 E ad  hc69) rfl rfl (Nat.le_of_ble_eq_true rfl) dX8_readAll_126 ?_
                          refine j_goto X (tgt := 141) (by decide) dX8_readAll_129 ?_
                          cases hr
                          exact J.sub [0, 1, 4, 5] rfl hJ51
                  clear hr
                  refine j_if_ne X (tgt := 108) (by decide) dX8_readAll_101 (fun c => ?_) (fun c => ?_)
                  · have hr := (if_neg c).symm.trans hr
                    refine j_iconst X (v := 0) (by decide) dX8_readAll_108 ?_
                    cases hr
                    exact J.sub [0, 1, 2, 3, 4, 5] rfl hJ60
                  · have hr := (if_pos c).symm.trans hr
                    refine j_iconst X (v := 1) (by decide) dX8_readAll_104 ?_
                    refine j_goto X (tgt := 109) (by decide) dX8_readAll_105 ?_
                    cases hr
                    exact J.sub [0, 1, 2, 3, 4, 5] rfl hJ60
                clear hr
                refine j_if_ne X (tgt := 99) (by decide) dX8_readAll_92 (fun c => ?_) (fun c => ?_)
                · have hr := (if_neg c).symm.trans hr
                  refine j_iconst X (v := 0) (by decide) dX8_readAll_99 ?_
                  cases hr
                  exact J.sub [0, 1, 2, 3, 4, 5] rfl hJ58
                · have hr := (if_pos c).symm.trans hr
                  refine j_iconst X (v := 1) (by decide) dX8_readAll_95 ?_
                  refine j_goto X (tgt := 100) (by decide) dX8_readAll_96 ?_
                  cases hr
                  exact J.sub [0, 1, 2, 3, 4, 5] rfl hJ58
            clear h
            refine j_icmp_ne X (tgt := 82) (by decide) dX8_readAll_75 (fun c => ?_) (fun c => ?_)
            · have hr := (if_neg c).symm.trans hr
              refine j_iconst X (v := 0) (by decide) dX8_readAll_82 ?_
              cases hr
              exact J.sub [0, 1, 2, 4, 5] rfl hJ48
            · have hr := (if_pos c).symm.trans hr
              refine j_iconst X (v := 1) (by decide) dX8_readAll_78 ?_
              refine j_goto X (tgt := 83) (by decide) dX8_readAll_79 ?_
              cases hr
              exact J.sub [0, 1, 2, 4, 5] rfl hJ48
          clear h
          refine j_icmp_ne X (tgt := 68) (by decide) dX8_readAll_61 (fun c => ?_) (fun c => ?_)
          · have hr := (if_neg c).symm.trans hr
            refine j_iconst X (v := 0) (by decide) dX8_readAll_68 ?_
            cases hr
            exact J.sub [0, 1, 2, 4, 5] rfl hJ45
          · have hr := (if_pos c).symm.trans hr
            refine j_iconst X (v := 1) (by decide) dX8_readAll_64 ?_
            refine j_goto X (tgt := 69) (by decide) dX8_readAll_65 ?_
            cases hr
            exact J.sub [0, 1, 2, 4, 5] rfl hJ45
set_option maxHeartbeats 4000000 in
set_option maxRecDepth 100000 in
theorem c_X8_readAll (l : Launch) (E : Ev) (ad : Nat → Nat)    {σ : Sg} {r : Int32 × Sg} (h : m_X8_readAll  σ = some r) : Met l yX8_readAll (wY yX8_readAll cX8_readAll 6 (some .int)) rm_X8_readAll (va_Pc [.ref (ad 68)] (PreU E ad RF 85 σ)) (QcN E ad (some (.int r.1), r.2)) 0 0 (EA E) := by
  refine met_of (L0 := [(0, .ref (ad 68))]) rfl (Nat.le_of_ble_eq_true rfl) rfl (fun Γ X Y => ?_)
  have X : XC Γ E rm_X8_readAll cX8_readAll 6 RX8 := X
  unfold m_X8_readAll at h
  refine j_iconst X (v := 0) (by decide) dX8_readAll_0 ?_
  refine nm_elim h (fun x1 ex1 h => ?_)
  refine j_istore_n X (L' := [(1, .int x1), (0, .ref (ad 68))]) ex1 rfl (by decide) rfl dX8_readAll_1 ?_
  refine j_iconst X (v := 0) (by decide) dX8_readAll_2 ?_
  refine nm_elim h (fun x2 ex2 h => ?_)
  refine j_istore_n X (L' := [(2, .int x2), (1, .int x1), (0, .ref (ad 68))]) ex2 rfl (by decide) rfl dX8_readAll_3 ?_
  refine j_iconst X (v := 0) (by decide) dX8_readAll_4 ?_
  refine nm_elim h (fun x3 ex3 h => ?_)
  refine j_istore_n X (L' := [(3, .int x3), (2, .int x2), (1, .int x1), (0, .ref (ad 68))]) ex3 rfl (by decide) rfl dX8_readAll_5 ?_
  refine j_aload_n X 3 rfl rfl dX8_readAll_6 ?_
  refine j_iconst X (v := 0) (by decide) dX8_readAll_7 ?_
  refine nm_elim h (fun σ4 eσ4 h => ?_)
  refine j_puti X cf6 pk_68 pl_68 10 rfl ⟨rfl, rfl⟩ (.inl rfl) rfl rfl eσ4 bw_764 dX8_readAll_8 ?_
  refine j_aload_n X 3 rfl rfl dX8_readAll_11 ?_
  refine j_iconst X (v := -1) (by decide) dX8_readAll_12 ?_
  refine nm_elim h (fun σ5 eσ5 h => ?_)
  refine j_puti X cf6 pk_68 pl_68 11 rfl ⟨rfl, rfl⟩ (.inl rfl) rfl rfl eσ5 bw_765 dX8_readAll_13 ?_
  refine j_aload_n X 3 rfl rfl dX8_readAll_16 ?_
  refine bd1_elim h (fun σ6 hc7 h => ?_)
  refine j_callVv X (As := []) (rest := []) mf_X8_skips bw_896 bw_898 bs_25 ⟨rfl, rfl⟩ ⟨Nat.le_of_ble_eq_true rfl, Nat.le_of_ble_eq_true rfl⟩ cf6 pk_68 pl_68 (c_X8_skips Γ.2.1 E ad  hc7) rfl rfl (Nat.le_of_ble_eq_true rfl) dX8_readAll_17 ?_
  refine J.sub [0, 1, 2, 3] rfl ?_
  exact jl_X8_readAll_L20 X  Y 1000 x3 x2 x1 σ6 h

abbrev rm_X8_becomes : Room := { frames := 8, cells := 0, slots := 0, locals := 187 }
set_option maxHeartbeats 4000000 in
set_option maxRecDepth 100000 in
theorem c_X8_becomes (l : Launch) (E : Ev) (ad : Nat → Nat)   {a1 : Int32} {σ : Sg} {r : Sg} (h : m_X8_becomes a1 σ = some r) : Met l yX8_becomes (wY yX8_becomes cX8_becomes 3 none) rm_X8_becomes (va_Pc [.ref (ad 68), .int a1] (PreU E ad RF 85 σ)) (QcN E ad (none, r)) 0 0 (EA E) := by
  refine met_of (L0 := [(0, .ref (ad 68)), (1, .int a1)]) rfl (Nat.le_of_ble_eq_true rfl) rfl (fun Γ X Y => ?_)
  have X : XC Γ E rm_X8_becomes cX8_becomes 3 RX8 := X
  unfold m_X8_becomes at h
  refine j_aload_n X 0 rfl rfl dX8_becomes_0 ?_
  refine j_getr X cf6 pk_68 pl_68 12 rfl ⟨rfl, rfl⟩ 76 rfl bw_766 dX8_becomes_1 ?_
  refine j_iload_n X 1 rfl rfl dX8_becomes_4 ?_
  refine j_iconst X (v := 1) (by decide) dX8_becomes_5 ?_
  refine j_iadd X dX8_becomes_6 ?_
  refine gd_elim h (fun g h => ?_)
  refine j_iald X pk_76 pl_76 g dX8_becomes_7 ?_
  refine nm_elim h (fun x1 ex1 h => ?_)
  refine j_istore_n X (L' := [(2, .int x1), (0, .ref (ad 68)), (1, .int a1)]) ex1 rfl (by decide) rfl dX8_becomes_8 ?_
  refine j_aload_n X 1 rfl rfl dX8_becomes_9 ?_
  refine j_getr X cf6 pk_68 pl_68 12 rfl ⟨rfl, rfl⟩ 76 rfl bw_766 dX8_becomes_10 ?_
  refine j_iload_n X 2 rfl rfl dX8_becomes_13 ?_
  refine gd_elim h (fun g h => ?_)
  refine j_iald X pk_76 pl_76 g dX8_becomes_14 ?_
  refine nm_elim h (fun x2 ex2 h => ?_)
  refine j_topi ex2 ?_
  by_cases c0 : x2 = 0
  · have h := (if_pos c0).symm.trans h
    refine j_tableIn X (tgt := 48) (by rw [c0]; decide) (by rw [c0]; decide) (by rw [c0]; rfl) (by decide) dX8_becomes_15 ?_
    refine j_aload_n X 1 rfl rfl dX8_becomes_48 ?_
    refine bd1_elim h (fun σ3 hc4 h => ?_)
    refine j_callVv X (As := []) (rest := []) mf_X8_empties bw_750 bw_752 bs_19 ⟨rfl, rfl⟩ ⟨Nat.le_of_ble_eq_true rfl, Nat.le_of_ble_eq_true rfl⟩ cf6 pk_68 pl_68 (c_X8_empties Γ.2.1 E ad  hc4) rfl rfl (Nat.le_of_ble_eq_true rfl) dX8_becomes_49 ?_
    refine j_goto X (tgt := 129) (by decide) dX8_becomes_52 ?_
    exact j_vret X Y (ret_wv h) dX8_becomes_129
  · have h := (if_neg c0).symm.trans h
    by_cases c1 : x2 = 1
    · have h := (if_pos c1).symm.trans h
      refine j_tableIn X (tgt := 55) (by rw [c1]; decide) (by rw [c1]; decide) (by rw [c1]; rfl) (by decide) dX8_becomes_15 ?_
      refine j_aload_n X 1 rfl rfl dX8_becomes_55 ?_
      refine j_iload_n X 0 rfl rfl dX8_becomes_56 ?_
      refine j_aload_n X 1 rfl rfl dX8_becomes_57 ?_
      refine j_getr X cf6 pk_68 pl_68 12 rfl ⟨rfl, rfl⟩ 76 rfl bw_766 dX8_becomes_58 ?_
      refine j_iload_n X 2 rfl rfl dX8_becomes_61 ?_
      refine j_iconst X (v := 2) (by decide) dX8_becomes_62 ?_
      refine j_iadd X dX8_becomes_63 ?_
      refine gd_elim h (fun g h => ?_)
      refine j_iald X pk_76 pl_76 g dX8_becomes_64 ?_
      refine j_aload_n X 1 rfl rfl dX8_becomes_65 ?_
      refine j_getr X cf6 pk_68 pl_68 12 rfl ⟨rfl, rfl⟩ 76 rfl bw_766 dX8_becomes_66 ?_
      refine j_iload_n X 2 rfl rfl dX8_becomes_69 ?_
      refine j_iconst X (v := 3) (by decide) dX8_becomes_70 ?_
      refine j_iadd X dX8_becomes_71 ?_
      refine gd_elim h (fun g h => ?_)
      refine j_iald X pk_76 pl_76 g dX8_becomes_72 ?_
      refine bd1_elim h (fun σ5 hc6 h => ?_)
      refine j_callVv X (As := [.int x1, .int (σ.1 76 (a1 + (2 : Int32)).toNatClampNeg), .int (σ.1 76 (a1 + (3 : Int32)).toNatClampNeg)]) (rest := []) mf_X8_sayingComes bw_867 bw_869 bs_22 ⟨rfl, rfl⟩ ⟨Nat.le_of_ble_eq_true rfl, Nat.le_of_ble_eq_true rfl⟩ cf6 pk_68 pl_68 (c_X8_sayingComes Γ.2.1 E ad  hc6) rfl rfl (Nat.le_of_ble_eq_true rfl) dX8_becomes_73 ?_
      refine j_goto X (tgt := 129) (by decide) dX8_becomes_76 ?_
      exact j_vret X Y (ret_wv h) dX8_becomes_129
    · have h := (if_neg c1).symm.trans h
      by_cases c2 : x2 = 2
      · have h := (if_pos c2).symm.trans h
        refine j_tableIn X (tgt := 79) (by rw [c2]; decide) (by rw [c2]; decide) (by rw [c2]; rfl) (by decide) dX8_becomes_15 ?_
        refine j_aload_n X 1 rfl rfl dX8_becomes_79 ?_
        refine j_iload_n X 0 rfl rfl dX8_becomes_80 ?_
        refine j_aload_n X 1 rfl rfl dX8_becomes_81 ?_
        refine j_getr X cf6 pk_68 pl_68 12 rfl ⟨rfl, rfl⟩ 76 rfl bw_766 dX8_becomes_82 ?_
        refine j_iload_n X 2 rfl rfl dX8_becomes_85 ?_
        refine j_iconst X (v := 2) (by decide) dX8_becomes_86 ?_
        refine j_iadd X dX8_becomes_87 ?_
        refine gd_elim h (fun g h => ?_)
        refine j_iald X pk_76 pl_76 g dX8_becomes_88 ?_
        refine bd1_elim h (fun σ7 hc8 h => ?_)
        refine j_callVv X (As := [.int x1, .int (σ.1 76 (a1 + (2 : Int32)).toNatClampNeg)]) (rest := []) mf_X8_earComes bw_875 bw_877 bs_23 ⟨rfl, rfl⟩ ⟨Nat.le_of_ble_eq_true rfl, Nat.le_of_ble_eq_true rfl⟩ cf6 pk_68 pl_68 (c_X8_earComes Γ.2.1 E ad  hc8) rfl rfl (Nat.le_of_ble_eq_true rfl) dX8_becomes_89 ?_
        refine j_goto X (tgt := 129) (by decide) dX8_becomes_92 ?_
        exact j_vret X Y (ret_wv h) dX8_becomes_129
      · have h := (if_neg c2).symm.trans h
        by_cases c3 : x2 = 3
        · have h := (if_pos c3).symm.trans h
          refine j_tableIn X (tgt := 95) (by rw [c3]; decide) (by rw [c3]; decide) (by rw [c3]; rfl) (by decide) dX8_becomes_15 ?_
          refine j_aload_n X 1 rfl rfl dX8_becomes_95 ?_
          refine j_getr X cf6 pk_68 pl_68 7 rfl ⟨rfl, rfl⟩ 74 rfl bw_761 dX8_becomes_96 ?_
          refine j_iconst X (v := 1) (by decide) dX8_becomes_99 ?_
          refine j_iload_n X 0 rfl rfl dX8_becomes_100 ?_
          refine j_iadd X dX8_becomes_101 ?_
          refine j_aload_n X 1 rfl rfl dX8_becomes_102 ?_
          refine j_getr X cf6 pk_68 pl_68 7 rfl ⟨rfl, rfl⟩ 74 rfl bw_761 dX8_becomes_103 ?_
          refine j_iconst X (v := 0) (by decide) dX8_becomes_106 ?_
          refine gd_elim h (fun g h => ?_)
          refine j_iald X pk_74 pl_74 g dX8_becomes_107 ?_
          refine gd_elim h (fun g h => ?_)
          refine nm_elim h (fun σ9 eσ9 h => ?_)
          refine j_iast X pk_74 pl_74 g eσ9 dX8_becomes_108 ?_
          refine j_goto X (tgt := 129) (by decide) dX8_becomes_109 ?_
          exact j_vret X Y (ret_wv h) dX8_becomes_129
        · have h := (if_neg c3).symm.trans h
          by_cases c4 : x2 = 4
          · have h := (if_pos c4).symm.trans h
            refine j_tableIn X (tgt := 112) (by rw [c4]; decide) (by rw [c4]; decide) (by rw [c4]; rfl) (by decide) dX8_becomes_15 ?_
            refine j_aload_n X 1 rfl rfl dX8_becomes_112 ?_
            refine j_getr X cf6 pk_68 pl_68 7 rfl ⟨rfl, rfl⟩ 74 rfl bw_761 dX8_becomes_113 ?_
            refine j_iconst X (v := 1) (by decide) dX8_becomes_116 ?_
            refine j_iload_n X 0 rfl rfl dX8_becomes_117 ?_
            refine j_iadd X dX8_becomes_118 ?_
            refine j_iconst X (v := -1) (by decide) dX8_becomes_119 ?_
            refine gd_elim h (fun g h => ?_)
            refine nm_elim h (fun σ10 eσ10 h => ?_)
            refine j_iast X pk_74 pl_74 g eσ10 dX8_becomes_120 ?_
            refine j_goto X (tgt := 129) (by decide) dX8_becomes_121 ?_
            exact j_vret X Y (ret_wv h) dX8_becomes_129
          · have h := (if_neg c4).symm.trans h
            refine j_tableOut X (tgt := 124) (sw_out (x := x2) (lo := 0) (hi := 4) (fun z h1 h2 => by rcases (by omega : z = 0 ∨ z = 1 ∨ z = 2 ∨ z = 3 ∨ z = 4) with rfl | rfl | rfl | rfl | rfl <;> first | exact c0 | exact c1 | exact c2 | exact c3 | exact c4)) (by decide) dX8_becomes_15 ?_
            refine j_aload_n X 1 rfl rfl dX8_becomes_124 ?_
            refine j_iload_n X 0 rfl rfl dX8_becomes_125 ?_
            refine bd1_elim h (fun σ11 hc12 h => ?_)
            refine j_callVv X (As := [.int x1]) (rest := []) mf_X8_goMinutes bw_948 bw_950 bs_33 ⟨rfl, rfl⟩ ⟨Nat.le_of_ble_eq_true rfl, Nat.le_of_ble_eq_true rfl⟩ cf6 pk_68 pl_68 (c_X8_goMinutes Γ.2.1 E ad  hc12) rfl rfl (Nat.le_of_ble_eq_true rfl) dX8_becomes_126 ?_
            exact j_vret X Y (ret_wv h) dX8_becomes_129

abbrev rm_X8_read : Room := { frames := 9, cells := 0, slots := 0, locals := 209 }
set_option maxHeartbeats 4000000 in
set_option maxRecDepth 100000 in
theorem jl_X8_read_L40 {Γ : Cx} {E : Ev} {ad : Nat → Nat} (X : XC Γ E rm_X8_read cX8_read 3 RX8)   {c1 : Int32}  {kx : Sg → Option (Int32 × Sg)} {r : Int32 × Sg} (Y : XQ Γ E ad (some .int) (some (.int r.1), r.2))  : ∀ n (v2 : Int32) (σ : Sg), m_X8_read_L40 c1 kx n v2 σ = some r → J Γ E 3 ad RF 85 σ 0 0 40 [(2, .int v2), (1, .int c1), (0, .ref (ad 68))] [] := by
  intro n
  induction n with
  | zero =>
    intro v2 σ h
    cases h
  | succ n ih =>
    intro v2 σ h
    rw [m_X8_read_L40.eq_2] at h
    refine j_iload_n X 0 rfl rfl dX8_read_40 ?_
    refine j_iload_n X 1 rfl rfl dX8_read_41 ?_
    refine j_icmp_ge X (tgt := 58) (by decide) dX8_read_42 (fun c => ?_) (fun c => ?_)
    · have h := (if_pos c).symm.trans h
      refine j_iload_n X 1 rfl rfl dX8_read_58 ?_
      exact j_iret X Y rfl (ret_wi h) dX8_read_59
    · have h := (if_neg c).symm.trans h
      refine j_aload_n X 2 rfl rfl dX8_read_45 ?_
      refine j_iconst X (v := 4) (by decide) dX8_read_46 ?_
      refine j_iload_n X 0 rfl rfl dX8_read_47 ?_
      refine j_imul X dX8_read_48 ?_
      refine bd1_elim h (fun σ5 hc6 h => ?_)
      refine j_callVv X (As := [.int ((4 : Int32) * v2)]) (rest := []) mf_X8_becomes bw_944 bw_946 bs_32 ⟨rfl, rfl⟩ ⟨Nat.le_of_ble_eq_true rfl, Nat.le_of_ble_eq_true rfl⟩ cf6 pk_68 pl_68 (c_X8_becomes Γ.2.1 E ad  hc6) rfl rfl (Nat.le_of_ble_eq_true rfl) dX8_read_49 ?_
      refine nm_elim h (fun x7 ex7 h => ?_)
      refine j_iinc1 X (L' := [(2, .int x7), (1, .int c1), (0, .ref (ad 68))]) 0 rfl (q := 1) (by decide) ex7 (by decide) rfl dX8_read_52 ?_
      refine j_goto X (tgt := 40) (by decide) dX8_read_55 ?_
      exact J.sub [0, 1, 2] rfl (ih x7 σ5 h)
set_option maxHeartbeats 4000000 in
set_option maxRecDepth 100000 in
theorem c_X8_read (l : Launch) (E : Ev) (ad : Nat → Nat)    {σ : Sg} {r : Int32 × Sg} (h : m_X8_read  σ = some r) : Met l yX8_read (wY yX8_read cX8_read 3 (some .int)) rm_X8_read (va_Pc [.ref (ad 68)] (PreU E ad RF 85 σ)) (QcN E ad (some (.int r.1), r.2)) 0 0 (EA E) := by
  refine met_of (L0 := [(0, .ref (ad 68))]) rfl (Nat.le_of_ble_eq_true rfl) rfl (fun Γ X Y => ?_)
  have X : XC Γ E rm_X8_read cX8_read 3 RX8 := X
  unfold m_X8_read at h
  refine j_aload_n X 0 rfl rfl dX8_read_0 ?_
  refine bd2_elim h (fun r1 σ2 hc3 h => ?_)
  refine j_callVi X (As := []) (rest := []) mf_X8_readAll bw_892 bw_894 bs_24 ⟨rfl, rfl⟩ ⟨Nat.le_of_ble_eq_true rfl, Nat.le_of_ble_eq_true rfl⟩ cf6 pk_68 pl_68 (c_X8_readAll Γ.2.1 E ad  hc3) rfl rfl (Nat.le_of_ble_eq_true rfl) dX8_read_1 ?_
  refine j_istore_n X (L' := [(1, .int r1), (0, .ref (ad 68))]) rfl rfl (by decide) rfl dX8_read_4 ?_
  refine j_aload_n X 1 rfl rfl dX8_read_5 ?_
  refine j_geti X cf6 pk_68 pl_68 11 rfl ⟨rfl, rfl⟩ bw_765 dX8_read_6 ?_
  refine j_if_lt X (tgt := 38) (by decide) dX8_read_9 (fun c => ?_) (fun c => ?_)
  · have h := (if_pos c).symm.trans h
    refine j_iconst X (v := 0) (by decide) dX8_read_38 ?_
    refine nm_elim h (fun x4 ex4 h => ?_)
    refine j_istore_n X (L' := [(2, .int x4), (1, .int r1), (0, .ref (ad 68))]) ex4 rfl (by decide) rfl dX8_read_39 ?_
    refine J.sub [0, 1, 2] rfl ?_
    exact jl_X8_read_L40 X  Y 1000 x4 σ2 h
  · have h := (if_neg c).symm.trans h
    refine j_bipush X (v := -10) (by decide) dX8_read_12 ?_
    refine j_aload_n X 1 rfl rfl dX8_read_14 ?_
    refine j_geti X cf6 pk_68 pl_68 11 rfl ⟨rfl, rfl⟩ bw_765 dX8_read_15 ?_
    refine j_aload_n X 1 rfl rfl dX8_read_18 ?_
    refine j_geti X cf6 pk_68 pl_68 9 rfl ⟨rfl, rfl⟩ bw_763 dX8_read_19 ?_
    refine bd1_elim h (fun o10 hr h => ?_)
    have hJ9 : J Γ E 3 ad RF 85 σ2 0 0 36 [] [.int o10, .int (-10 : Int32)] := by
      refine j_isub X dX8_read_36 ?_
      exact j_iret X Y rfl (ret_wi h) dX8_read_37
    clear h
    refine j_icmp_ge X (tgt := 32) (by decide) dX8_read_22 (fun c => ?_) (fun c => ?_)
    · have hr := (if_pos c).symm.trans hr
      refine j_aload_n X 1 rfl rfl dX8_read_32 ?_
      refine j_geti X cf6 pk_68 pl_68 9 rfl ⟨rfl, rfl⟩ bw_763 dX8_read_33 ?_
      cases hr
      exact J.sub [] rfl hJ9
    · have hr := (if_neg c).symm.trans hr
      refine j_aload_n X 1 rfl rfl dX8_read_25 ?_
      refine j_geti X cf6 pk_68 pl_68 11 rfl ⟨rfl, rfl⟩ bw_765 dX8_read_26 ?_
      refine j_goto X (tgt := 36) (by decide) dX8_read_29 ?_
      cases hr
      exact J.sub [] rfl hJ9

abbrev rm_X8_keeps : Room := { frames := 0, cells := 0, slots := 0, locals := 0 }
set_option maxHeartbeats 4000000 in
set_option maxRecDepth 100000 in
theorem jl_X8_keeps_L47 {β : Type} {Γ : Cx} {E : Ev} {ad : Nat → Nat} (X : XC Γ E rm_X8_keeps cX8_keeps 2 RX8)     {kx : Sg → Option (β)} {r : β}  (hkx : ∀ (σ : Sg), kx σ = some r → J Γ E 2 ad RF 85 σ 0 0 79 [(0, .ref (ad 68))] []) : ∀ n (v1 : Int32) (σ : Sg), m_X8_keeps_L47 kx n v1 σ = some r → J Γ E 2 ad RF 85 σ 0 0 47 [(1, .int v1), (0, .ref (ad 68))] [] := by
  intro n
  induction n with
  | zero =>
    intro v1 σ h
    cases h
  | succ n ih =>
    intro v1 σ h
    rw [m_X8_keeps_L47.eq_2] at h
    refine j_iload_n X 0 rfl rfl dX8_keeps_47 ?_
    refine j_bipush X (v := 11) (by decide) dX8_keeps_48 ?_
    refine j_icmp_ge X (tgt := 79) (by decide) dX8_keeps_50 (fun c => ?_) (fun c => ?_)
    · have h := (if_pos c).symm.trans h
      exact J.sub [1] rfl (hkx σ h)
    · have h := (if_neg c).symm.trans h
      refine j_aload_n X 1 rfl rfl dX8_keeps_53 ?_
      refine j_getr X cf6 pk_68 pl_68 13 rfl ⟨rfl, rfl⟩ 77 rfl bw_767 dX8_keeps_54 ?_
      refine j_bipush X (v := 11) (by decide) dX8_keeps_57 ?_
      refine j_aload_n X 1 rfl rfl dX8_keeps_59 ?_
      refine j_geti X cf6 pk_68 pl_68 14 rfl ⟨rfl, rfl⟩ bw_768 dX8_keeps_60 ?_
      refine j_imul X dX8_keeps_63 ?_
      refine j_iload_n X 0 rfl rfl dX8_keeps_64 ?_
      refine j_iadd X dX8_keeps_65 ?_
      refine j_aload_n X 1 rfl rfl dX8_keeps_66 ?_
      refine j_getr X cf6 pk_68 pl_68 7 rfl ⟨rfl, rfl⟩ 74 rfl bw_761 dX8_keeps_67 ?_
      refine j_iload_n X 0 rfl rfl dX8_keeps_70 ?_
      refine gd_elim h (fun g h => ?_)
      refine j_iald X pk_74 pl_74 g dX8_keeps_71 ?_
      refine gd_elim h (fun g h => ?_)
      refine nm_elim h (fun σ4 eσ4 h => ?_)
      refine j_iast X pk_77 pl_77 g eσ4 dX8_keeps_72 ?_
      refine nm_elim h (fun x5 ex5 h => ?_)
      refine j_iinc1 X (L' := [(1, .int x5), (0, .ref (ad 68))]) 0 rfl (q := 1) (by decide) ex5 (by decide) rfl dX8_keeps_73 ?_
      refine j_goto X (tgt := 47) (by decide) dX8_keeps_76 ?_
      exact J.sub [0, 1] rfl (ih x5 σ4 h)
set_option maxHeartbeats 4000000 in
set_option maxRecDepth 100000 in
theorem jl_X8_keeps_L12 {β : Type} {Γ : Cx} {E : Ev} {ad : Nat → Nat} (X : XC Γ E rm_X8_keeps cX8_keeps 2 RX8)     {kx : Sg → Option (β)} {r : β}  (hkx : ∀ (σ : Sg), kx σ = some r → J Γ E 2 ad RF 85 σ 0 0 39 [(0, .ref (ad 68))] []) : ∀ n (v1 : Int32) (σ : Sg), m_X8_keeps_L12 kx n v1 σ = some r → J Γ E 2 ad RF 85 σ 0 0 12 [(1, .int v1), (0, .ref (ad 68))] [] := by
  intro n
  induction n with
  | zero =>
    intro v1 σ h
    cases h
  | succ n ih =>
    intro v1 σ h
    rw [m_X8_keeps_L12.eq_2] at h
    refine j_iload_n X 0 rfl rfl dX8_keeps_12 ?_
    refine j_bipush X (v := 88) (by decide) dX8_keeps_13 ?_
    refine j_icmp_ge X (tgt := 39) (by decide) dX8_keeps_15 (fun c => ?_) (fun c => ?_)
    · have h := (if_pos c).symm.trans h
      exact J.sub [1] rfl (hkx σ h)
    · have h := (if_neg c).symm.trans h
      refine j_aload_n X 1 rfl rfl dX8_keeps_18 ?_
      refine j_getr X cf6 pk_68 pl_68 13 rfl ⟨rfl, rfl⟩ 77 rfl bw_767 dX8_keeps_19 ?_
      refine j_iload_n X 0 rfl rfl dX8_keeps_22 ?_
      refine j_bipush X (v := 11) (by decide) dX8_keeps_23 ?_
      refine j_isub X dX8_keeps_25 ?_
      refine j_aload_n X 1 rfl rfl dX8_keeps_26 ?_
      refine j_getr X cf6 pk_68 pl_68 13 rfl ⟨rfl, rfl⟩ 77 rfl bw_767 dX8_keeps_27 ?_
      refine j_iload_n X 0 rfl rfl dX8_keeps_30 ?_
      refine gd_elim h (fun g h => ?_)
      refine j_iald X pk_77 pl_77 g dX8_keeps_31 ?_
      refine gd_elim h (fun g h => ?_)
      refine nm_elim h (fun σ9 eσ9 h => ?_)
      refine j_iast X pk_77 pl_77 g eσ9 dX8_keeps_32 ?_
      refine nm_elim h (fun x10 ex10 h => ?_)
      refine j_iinc1 X (L' := [(1, .int x10), (0, .ref (ad 68))]) 0 rfl (q := 1) (by decide) ex10 (by decide) rfl dX8_keeps_33 ?_
      refine j_goto X (tgt := 12) (by decide) dX8_keeps_36 ?_
      exact J.sub [0, 1] rfl (ih x10 σ9 h)
set_option maxHeartbeats 4000000 in
set_option maxRecDepth 100000 in
theorem c_X8_keeps (l : Launch) (E : Ev) (ad : Nat → Nat)    {σ : Sg} {r : Sg} (h : m_X8_keeps  σ = some r) : Met l yX8_keeps (wY yX8_keeps cX8_keeps 2 none) rm_X8_keeps (va_Pc [.ref (ad 68)] (PreU E ad RF 85 σ)) (QcN E ad (none, r)) 0 0 (EA E) := by
  refine met_of (L0 := [(0, .ref (ad 68))]) rfl (Nat.le_of_ble_eq_true rfl) rfl (fun Γ X Y => ?_)
  have X : XC Γ E rm_X8_keeps cX8_keeps 2 RX8 := X
  unfold m_X8_keeps at h
  refine j_aload_n X 0 rfl rfl dX8_keeps_0 ?_
  refine j_geti X cf6 pk_68 pl_68 14 rfl ⟨rfl, rfl⟩ bw_768 dX8_keeps_1 ?_
  refine j_bipush X (v := 8) (by decide) dX8_keeps_4 ?_
  refine bd1_elim h (fun σ2 hr h => ?_)
  have hJ1 : J Γ E 2 ad RF 85 σ2 0 0 45 [(0, .ref (ad 68))] [] := by
    refine j_iconst X (v := 0) (by decide) dX8_keeps_45 ?_
    refine nm_elim h (fun x3 ex3 h => ?_)
    refine j_istore_n X (L' := [(1, .int x3), (0, .ref (ad 68))]) ex3 rfl (by decide) rfl dX8_keeps_46 ?_
    refine J.sub [0, 1] rfl ?_
    refine jl_X8_keeps_L47 X  (fun σ6 h => ?_) 1000 x3 σ2 h
    refine j_aload_n X 0 rfl rfl dX8_keeps_79 ?_
    refine j_dup X rfl dX8_keeps_80 ?_
    refine j_geti X cf6 pk_68 pl_68 14 rfl ⟨rfl, rfl⟩ bw_768 dX8_keeps_81 ?_
    refine j_iconst X (v := 1) (by decide) dX8_keeps_84 ?_
    refine j_iadd X dX8_keeps_85 ?_
    refine nm_elim h (fun σ7 eσ7 h => ?_)
    refine j_puti X cf6 pk_68 pl_68 14 rfl ⟨rfl, rfl⟩ (.inl rfl) rfl rfl eσ7 bw_768 dX8_keeps_86 ?_
    exact j_vret X Y (ret_wv h) dX8_keeps_89
  clear h
  refine j_icmp_ne X (tgt := 45) (by decide) dX8_keeps_6 (fun c => ?_) (fun c => ?_)
  · have hr := (if_neg c).symm.trans hr
    cases hr
    exact J.sub [0] rfl hJ1
  · have hr := (if_pos c).symm.trans hr
    refine j_bipush X (v := 11) (by decide) dX8_keeps_9 ?_
    refine nm_elim hr (fun x8 ex8 hr => ?_)
    refine j_istore_n X (L' := [(1, .int x8), (0, .ref (ad 68))]) ex8 rfl (by decide) rfl dX8_keeps_11 ?_
    refine J.sub [0, 1] rfl ?_
    refine jl_X8_keeps_L12 X  (fun σ11 hr => ?_) 1000 x8 σ hr
    refine j_aload_n X 0 rfl rfl dX8_keeps_39 ?_
    refine j_bipush X (v := 7) (by decide) dX8_keeps_40 ?_
    refine nm_elim hr (fun σ12 eσ12 hr => ?_)
    refine j_puti X cf6 pk_68 pl_68 14 rfl ⟨rfl, rfl⟩ (.inl rfl) rfl rfl eσ12 bw_768 dX8_keeps_42 ?_
    cases hr
    exact J.sub [0] rfl hJ1

abbrev rm_X8_loudNow : Room := { frames := 3, cells := 0, slots := 0, locals := 72 }
set_option maxHeartbeats 4000000 in
set_option maxRecDepth 100000 in
theorem c_X8_loudNow (l : Launch) (E : Ev) (ad : Nat → Nat)   {a1 : Int32} {σ : Sg} {r : Int32} (h : m_X8_loudNow a1 σ = some r) : Met l yX8_loudNow (wY yX8_loudNow cX8_loudNow 2 (some .int)) rm_X8_loudNow (va_Pc [.ref (ad 68), .int a1] (PreU E ad RF 85 σ)) (QcN E ad (some (.int r), σ)) 0 0 (EA E) := by
  refine met_of (L0 := [(0, .ref (ad 68)), (1, .int a1)]) rfl (Nat.le_of_ble_eq_true rfl) rfl (fun Γ X Y => ?_)
  have X : XC Γ E rm_X8_loudNow cX8_loudNow 2 RX8 := X
  unfold m_X8_loudNow at h
  refine j_aload_n X 0 rfl rfl dX8_loudNow_0 ?_
  refine j_sipush X (v := 255) (by decide) dX8_loudNow_1 ?_
  refine j_iload_n X 1 rfl rfl dX8_loudNow_4 ?_
  refine j_aload_n X 0 rfl rfl dX8_loudNow_5 ?_
  refine j_iload_n X 1 rfl rfl dX8_loudNow_6 ?_
  refine bd1_elim h (fun r1 hc2 h => ?_)
  refine j_callVi X (As := [.int a1]) (rest := [.int a1, .int (255 : Int32), .ref (ad 68)]) mf_X8_minuteOf bw_960 bw_962 bs_36 ⟨rfl, rfl⟩ ⟨Nat.le_of_ble_eq_true rfl, Nat.le_of_ble_eq_true rfl⟩ cf6 pk_68 pl_68 (c_X8_minuteOf Γ.2.1 E ad  hc2) rfl rfl (Nat.le_of_ble_eq_true rfl) dX8_loudNow_7 ?_
  refine bd1_elim h (fun r3 hc4 h => ?_)
  refine j_callVi X (As := [.int (255 : Int32), .int a1, .int r1]) (rest := []) mf_X8_together bw_972 bw_974 bs_39 ⟨rfl, rfl⟩ ⟨Nat.le_of_ble_eq_true rfl, Nat.le_of_ble_eq_true rfl⟩ cf6 pk_68 pl_68 (c_X8_together Γ.2.1 E ad  hc4) rfl rfl (Nat.le_of_ble_eq_true rfl) dX8_loudNow_10 ?_
  exact j_iret X Y rfl (ret_pi h) dX8_loudNow_13

abbrev rm_X8_strips : Room := { frames := 4, cells := 0, slots := 0, locals := 93 }
set_option maxHeartbeats 4000000 in
set_option maxRecDepth 100000 in
theorem c_X8_strips (l : Launch) (E : Ev) (ad : Nat → Nat)   {a1 : Int32} {σ : Sg} {r : Int32 × Sg} (h : m_X8_strips a1 σ = some r) : Met l yX8_strips (wY yX8_strips cX8_strips 2 (some .int)) rm_X8_strips (va_Pc [.ref (ad 68), .int a1] (PreU E ad RF 85 σ)) (QcN E ad (some (.int r.1), r.2)) 0 0 (EA E) := by
  refine met_of (L0 := [(0, .ref (ad 68)), (1, .int a1)]) rfl (Nat.le_of_ble_eq_true rfl) rfl (fun Γ X Y => ?_)
  have X : XC Γ E rm_X8_strips cX8_strips 2 RX8 := X
  unfold m_X8_strips at h
  refine j_iload_n X 1 rfl rfl dX8_strips_0 ?_
  refine bd1_elim h (fun r1 hc2 h => ?_)
  refine j_callSi X (As := [.int a1]) (rest := []) mf_X8_isRoom bw_854 bw_855 ⟨rfl, rfl⟩ ⟨Nat.le_of_ble_eq_true rfl, Nat.le_of_ble_eq_true rfl⟩ (c_X8_isRoom Γ.2.1 E ad  hc2) rfl rfl (Nat.le_of_ble_eq_true rfl) dX8_strips_1 ?_
  refine j_if_ne X (tgt := 12) (by decide) dX8_strips_4 (fun c => ?_) (fun c => ?_)
  · have h := (if_neg c).symm.trans h
    refine j_aload_n X 0 rfl rfl dX8_strips_12 ?_
    refine bd1_elim h (fun σ3 hc4 h => ?_)
    refine j_callVv X (As := []) (rest := []) mf_X8_keeps bw_993 bw_995 bs_41 ⟨rfl, rfl⟩ ⟨Nat.le_of_ble_eq_true rfl, Nat.le_of_ble_eq_true rfl⟩ cf6 pk_68 pl_68 (c_X8_keeps Γ.2.1 E ad  hc4) rfl rfl (Nat.le_of_ble_eq_true rfl) dX8_strips_13 ?_
    refine j_aload_n X 0 rfl rfl dX8_strips_16 ?_
    refine j_getr X cf6 pk_68 pl_68 7 rfl ⟨rfl, rfl⟩ 74 rfl bw_761 dX8_strips_17 ?_
    refine j_iconst X (v := 1) (by decide) dX8_strips_20 ?_
    refine j_iload_n X 1 rfl rfl dX8_strips_21 ?_
    refine j_iadd X dX8_strips_22 ?_
    refine j_aload_n X 0 rfl rfl dX8_strips_23 ?_
    refine j_getr X cf6 pk_68 pl_68 7 rfl ⟨rfl, rfl⟩ 74 rfl bw_761 dX8_strips_24 ?_
    refine j_iconst X (v := 0) (by decide) dX8_strips_27 ?_
    refine gd_elim h (fun g h => ?_)
    refine j_iald X pk_74 pl_74 g dX8_strips_28 ?_
    refine gd_elim h (fun g h => ?_)
    refine nm_elim h (fun σ5 eσ5 h => ?_)
    refine j_iast X pk_74 pl_74 g eσ5 dX8_strips_29 ?_
    refine j_aload_n X 0 rfl rfl dX8_strips_30 ?_
    refine j_iload_n X 1 rfl rfl dX8_strips_31 ?_
    refine bd1_elim h (fun r6 hc7 h => ?_)
    refine j_callVi X (As := [.int a1]) (rest := []) mf_X8_loudNow bw_997 bw_999 bs_42 ⟨rfl, rfl⟩ ⟨Nat.le_of_ble_eq_true rfl, Nat.le_of_ble_eq_true rfl⟩ cf6 pk_68 pl_68 (c_X8_loudNow Γ.2.1 E ad  hc7) rfl rfl (Nat.le_of_ble_eq_true rfl) dX8_strips_32 ?_
    exact j_iret X Y rfl (ret_wi h) dX8_strips_35
  · have h := (if_pos c).symm.trans h
    refine j_aload_n X 0 rfl rfl dX8_strips_7 ?_
    refine bd2_elim h (fun r8 σ9 hc10 h => ?_)
    refine j_callVi X (As := []) (rest := []) mf_X8_bad bw_859 bw_861 bs_20 ⟨rfl, rfl⟩ ⟨Nat.le_of_ble_eq_true rfl, Nat.le_of_ble_eq_true rfl⟩ cf6 pk_68 pl_68 (c_X8_bad Γ.2.1 E ad  hc10) rfl rfl (Nat.le_of_ble_eq_true rfl) dX8_strips_8 ?_
    exact j_iret X Y rfl (ret_wi h) dX8_strips_11

abbrev rm_X8_papers : Room := { frames := 2, cells := 0, slots := 0, locals := 45 }
set_option maxHeartbeats 4000000 in
set_option maxRecDepth 100000 in
theorem c_X8_papers (l : Launch) (E : Ev) (ad : Nat → Nat)   {a1 : Int32} {σ : Sg} {r : Int32 × Sg} (h : m_X8_papers a1 σ = some r) : Met l yX8_papers (wY yX8_papers cX8_papers 2 (some .int)) rm_X8_papers (va_Pc [.ref (ad 68), .int a1] (PreU E ad RF 85 σ)) (QcN E ad (some (.int r.1), r.2)) 0 0 (EA E) := by
  refine met_of (L0 := [(0, .ref (ad 68)), (1, .int a1)]) rfl (Nat.le_of_ble_eq_true rfl) rfl (fun Γ X Y => ?_)
  have X : XC Γ E rm_X8_papers cX8_papers 2 RX8 := X
  unfold m_X8_papers at h
  refine j_iload_n X 1 rfl rfl dX8_papers_0 ?_
  refine bd1_elim h (fun r1 hc2 h => ?_)
  refine j_callSi X (As := [.int a1]) (rest := []) mf_X8_isRoom bw_854 bw_855 ⟨rfl, rfl⟩ ⟨Nat.le_of_ble_eq_true rfl, Nat.le_of_ble_eq_true rfl⟩ (c_X8_isRoom Γ.2.1 E ad  hc2) rfl rfl (Nat.le_of_ble_eq_true rfl) dX8_papers_1 ?_
  refine j_if_ne X (tgt := 12) (by decide) dX8_papers_4 (fun c => ?_) (fun c => ?_)
  · have h := (if_neg c).symm.trans h
    refine j_aload_n X 0 rfl rfl dX8_papers_12 ?_
    refine j_getr X cf6 pk_68 pl_68 7 rfl ⟨rfl, rfl⟩ 74 rfl bw_761 dX8_papers_13 ?_
    refine j_iconst X (v := 1) (by decide) dX8_papers_16 ?_
    refine j_iload_n X 1 rfl rfl dX8_papers_17 ?_
    refine j_iadd X dX8_papers_18 ?_
    refine gd_elim h (fun g h => ?_)
    refine j_iald X pk_74 pl_74 g dX8_papers_19 ?_
    refine j_if_ge X (tgt := 28) (by decide) dX8_papers_20 (fun c => ?_) (fun c => ?_)
    · have h := (if_pos c).symm.trans h
      refine j_aload_n X 0 rfl rfl dX8_papers_28 ?_
      refine bd1_elim h (fun σ3 hc4 h => ?_)
      refine j_callVv X (As := []) (rest := []) mf_X8_keeps bw_993 bw_995 bs_41 ⟨rfl, rfl⟩ ⟨Nat.le_of_ble_eq_true rfl, Nat.le_of_ble_eq_true rfl⟩ cf6 pk_68 pl_68 (c_X8_keeps Γ.2.1 E ad  hc4) rfl rfl (Nat.le_of_ble_eq_true rfl) dX8_papers_29 ?_
      refine j_aload_n X 0 rfl rfl dX8_papers_32 ?_
      refine j_getr X cf6 pk_68 pl_68 7 rfl ⟨rfl, rfl⟩ 74 rfl bw_761 dX8_papers_33 ?_
      refine j_iconst X (v := 1) (by decide) dX8_papers_36 ?_
      refine j_iload_n X 1 rfl rfl dX8_papers_37 ?_
      refine j_iadd X dX8_papers_38 ?_
      refine j_iconst X (v := -1) (by decide) dX8_papers_39 ?_
      refine gd_elim h (fun g h => ?_)
      refine nm_elim h (fun σ5 eσ5 h => ?_)
      refine j_iast X pk_74 pl_74 g eσ5 dX8_papers_40 ?_
      refine j_iconst X (v := 1) (by decide) dX8_papers_41 ?_
      exact j_iret X Y rfl (ret_wi h) dX8_papers_42
    · have h := (if_neg c).symm.trans h
      refine j_aload_n X 0 rfl rfl dX8_papers_23 ?_
      refine bd2_elim h (fun r6 σ7 hc8 h => ?_)
      refine j_callVi X (As := []) (rest := []) mf_X8_no bw_1005 bw_1007 bs_43 ⟨rfl, rfl⟩ ⟨Nat.le_of_ble_eq_true rfl, Nat.le_of_ble_eq_true rfl⟩ cf6 pk_68 pl_68 (c_X8_no Γ.2.1 E ad  hc8) rfl rfl (Nat.le_of_ble_eq_true rfl) dX8_papers_24 ?_
      exact j_iret X Y rfl (ret_wi h) dX8_papers_27
  · have h := (if_pos c).symm.trans h
    refine j_aload_n X 0 rfl rfl dX8_papers_7 ?_
    refine bd2_elim h (fun r9 σ10 hc11 h => ?_)
    refine j_callVi X (As := []) (rest := []) mf_X8_bad bw_859 bw_861 bs_20 ⟨rfl, rfl⟩ ⟨Nat.le_of_ble_eq_true rfl, Nat.le_of_ble_eq_true rfl⟩ cf6 pk_68 pl_68 (c_X8_bad Γ.2.1 E ad  hc11) rfl rfl (Nat.le_of_ble_eq_true rfl) dX8_papers_8 ?_
    exact j_iret X Y rfl (ret_wi h) dX8_papers_11

abbrev rm_X8_goes : Room := { frames := 2, cells := 0, slots := 0, locals := 46 }
set_option maxHeartbeats 4000000 in
set_option maxRecDepth 100000 in
theorem c_X8_goes (l : Launch) (E : Ev) (ad : Nat → Nat)   {a1 : Int32} {a2 : Int32} {σ : Sg} {r : Int32 × Sg} (h : m_X8_goes a1 a2 σ = some r) : Met l yX8_goes (wY yX8_goes cX8_goes 4 (some .int)) rm_X8_goes (va_Pc [.ref (ad 68), .int a1, .int a2] (PreU E ad RF 85 σ)) (QcN E ad (some (.int r.1), r.2)) 0 0 (EA E) := by
  refine met_of (L0 := [(0, .ref (ad 68)), (1, .int a1), (2, .int a2)]) rfl (Nat.le_of_ble_eq_true rfl) rfl (fun Γ X Y => ?_)
  have X : XC Γ E rm_X8_goes cX8_goes 4 RX8 := X
  unfold m_X8_goes at h
  refine j_aload_n X 0 rfl rfl dX8_goes_0 ?_
  refine j_iload_n X 1 rfl rfl dX8_goes_1 ?_
  refine bd1_elim h (fun r1 hc2 h => ?_)
  refine j_callVi X (As := [.int a1]) (rest := []) mf_X8_isEar bw_1013 bw_1015 bs_44 ⟨rfl, rfl⟩ ⟨Nat.le_of_ble_eq_true rfl, Nat.le_of_ble_eq_true rfl⟩ cf6 pk_68 pl_68 (c_X8_isEar Γ.2.1 E ad  hc2) rfl rfl (Nat.le_of_ble_eq_true rfl) dX8_goes_2 ?_
  refine j_if_eq X (tgt := 15) (by decide) dX8_goes_5 (fun c => ?_) (fun c => ?_)
  · have h := (if_pos c).symm.trans h
    refine j_aload_n X 0 rfl rfl dX8_goes_15 ?_
    refine bd2_elim h (fun r3 σ4 hc5 h => ?_)
    refine j_callVi X (As := []) (rest := []) mf_X8_bad bw_859 bw_861 bs_20 ⟨rfl, rfl⟩ ⟨Nat.le_of_ble_eq_true rfl, Nat.le_of_ble_eq_true rfl⟩ cf6 pk_68 pl_68 (c_X8_bad Γ.2.1 E ad  hc5) rfl rfl (Nat.le_of_ble_eq_true rfl) dX8_goes_16 ?_
    exact j_iret X Y rfl (ret_wi h) dX8_goes_19
  · have h := (if_neg c).symm.trans h
    refine j_iload_n X 2 rfl rfl dX8_goes_8 ?_
    refine bd1_elim h (fun r6 hc7 h => ?_)
    refine j_callSi X (As := [.int a2]) (rest := []) mf_X8_isRoom bw_854 bw_855 ⟨rfl, rfl⟩ ⟨Nat.le_of_ble_eq_true rfl, Nat.le_of_ble_eq_true rfl⟩ (c_X8_isRoom Γ.2.1 E ad  hc7) rfl rfl (Nat.le_of_ble_eq_true rfl) dX8_goes_9 ?_
    refine j_if_ne X (tgt := 20) (by decide) dX8_goes_12 (fun c => ?_) (fun c => ?_)
    · have h := (if_neg c).symm.trans h
      refine j_aload_n X 0 rfl rfl dX8_goes_20 ?_
      refine j_getr X cf6 pk_68 pl_68 7 rfl ⟨rfl, rfl⟩ 74 rfl bw_761 dX8_goes_21 ?_
      refine j_iconst X (v := 5) (by decide) dX8_goes_24 ?_
      refine j_iload_n X 1 rfl rfl dX8_goes_25 ?_
      refine j_iadd X dX8_goes_26 ?_
      refine gd_elim h (fun g h => ?_)
      refine j_iald X pk_74 pl_74 g dX8_goes_27 ?_
      refine nm_elim h (fun x8 ex8 h => ?_)
      refine j_istore_n X (L' := [(3, .int x8), (0, .ref (ad 68)), (1, .int a1), (2, .int a2)]) ex8 rfl (by decide) rfl dX8_goes_28 ?_
      refine j_iload_n X 0 rfl rfl dX8_goes_29 ?_
      refine j_iload_n X 3 rfl rfl dX8_goes_30 ?_
      refine j_icmp_ne X (tgt := 39) (by decide) dX8_goes_31 (fun c => ?_) (fun c => ?_)
      · have h := (if_neg c).symm.trans h
        refine j_aload_n X 1 rfl rfl dX8_goes_39 ?_
        refine bd1_elim h (fun σ9 hc10 h => ?_)
        refine j_callVv X (As := []) (rest := []) mf_X8_keeps bw_993 bw_995 bs_41 ⟨rfl, rfl⟩ ⟨Nat.le_of_ble_eq_true rfl, Nat.le_of_ble_eq_true rfl⟩ cf6 pk_68 pl_68 (c_X8_keeps Γ.2.1 E ad  hc10) rfl rfl (Nat.le_of_ble_eq_true rfl) dX8_goes_40 ?_
        refine j_aload_n X 1 rfl rfl dX8_goes_43 ?_
        refine j_getr X cf6 pk_68 pl_68 7 rfl ⟨rfl, rfl⟩ 74 rfl bw_761 dX8_goes_44 ?_
        refine j_iconst X (v := 5) (by decide) dX8_goes_47 ?_
        refine j_iload_n X 2 rfl rfl dX8_goes_48 ?_
        refine j_iadd X dX8_goes_49 ?_
        refine j_iload_n X 3 rfl rfl dX8_goes_50 ?_
        refine gd_elim h (fun g h => ?_)
        refine nm_elim h (fun σ11 eσ11 h => ?_)
        refine j_iast X pk_74 pl_74 g eσ11 dX8_goes_51 ?_
        refine j_iload_n X 0 rfl rfl dX8_goes_52 ?_
        exact j_iret X Y rfl (ret_wi h) dX8_goes_53
      · have h := (if_pos c).symm.trans h
        refine j_aload_n X 1 rfl rfl dX8_goes_34 ?_
        refine bd2_elim h (fun r12 σ13 hc14 h => ?_)
        refine j_callVi X (As := []) (rest := []) mf_X8_no bw_1005 bw_1007 bs_43 ⟨rfl, rfl⟩ ⟨Nat.le_of_ble_eq_true rfl, Nat.le_of_ble_eq_true rfl⟩ cf6 pk_68 pl_68 (c_X8_no Γ.2.1 E ad  hc14) rfl rfl (Nat.le_of_ble_eq_true rfl) dX8_goes_35 ?_
        exact j_iret X Y rfl (ret_wi h) dX8_goes_38
    · have h := (if_pos c).symm.trans h
      refine j_aload_n X 0 rfl rfl dX8_goes_15 ?_
      refine bd2_elim h (fun r15 σ16 hc17 h => ?_)
      refine j_callVi X (As := []) (rest := []) mf_X8_bad bw_859 bw_861 bs_20 ⟨rfl, rfl⟩ ⟨Nat.le_of_ble_eq_true rfl, Nat.le_of_ble_eq_true rfl⟩ cf6 pk_68 pl_68 (c_X8_bad Γ.2.1 E ad  hc17) rfl rfl (Nat.le_of_ble_eq_true rfl) dX8_goes_16 ?_
      exact j_iret X Y rfl (ret_wi h) dX8_goes_19

abbrev rm_X8_minutes : Room := { frames := 8, cells := 0, slots := 0, locals := 187 }
set_option maxHeartbeats 4000000 in
set_option maxRecDepth 100000 in
theorem c_X8_minutes (l : Launch) (E : Ev) (ad : Nat → Nat)   {a1 : Int32} {σ : Sg} {r : Int32 × Sg} (h : m_X8_minutes a1 σ = some r) : Met l yX8_minutes (wY yX8_minutes cX8_minutes 2 (some .int)) rm_X8_minutes (va_Pc [.ref (ad 68), .int a1] (PreU E ad RF 85 σ)) (QcN E ad (some (.int r.1), r.2)) 0 0 (EA E) := by
  refine met_of (L0 := [(0, .ref (ad 68)), (1, .int a1)]) rfl (Nat.le_of_ble_eq_true rfl) rfl (fun Γ X Y => ?_)
  have X : XC Γ E rm_X8_minutes cX8_minutes 2 RX8 := X
  unfold m_X8_minutes at h
  refine j_iload_n X 1 rfl rfl dX8_minutes_0 ?_
  refine j_i2l X dX8_minutes_1 ?_
  refine j_lconst X (v := 1) (by decide) dX8_minutes_2 ?_
  refine j_ldc2 X (v := 99) bw_1021 dX8_minutes_3 ?_
  refine bd1_elim h (fun r1 hc2 h => ?_)
  refine j_callSi X (As := [.long (Int32.toInt64 a1), .long (1 : Int64), .long (99 : Int64)]) (rest := []) mf_X8_in bw_842 bw_843 ⟨rfl, rfl⟩ ⟨Nat.le_of_ble_eq_true rfl, Nat.le_of_ble_eq_true rfl⟩ (c_X8_in Γ.2.1 E ad  hc2) rfl rfl (Nat.le_of_ble_eq_true rfl) dX8_minutes_6 ?_
  refine j_if_ne X (tgt := 17) (by decide) dX8_minutes_9 (fun c => ?_) (fun c => ?_)
  · have h := (if_neg c).symm.trans h
    refine j_aload_n X 0 rfl rfl dX8_minutes_17 ?_
    refine bd1_elim h (fun σ3 hc4 h => ?_)
    refine j_callVv X (As := []) (rest := []) mf_X8_keeps bw_993 bw_995 bs_41 ⟨rfl, rfl⟩ ⟨Nat.le_of_ble_eq_true rfl, Nat.le_of_ble_eq_true rfl⟩ cf6 pk_68 pl_68 (c_X8_keeps Γ.2.1 E ad  hc4) rfl rfl (Nat.le_of_ble_eq_true rfl) dX8_minutes_18 ?_
    refine j_aload_n X 0 rfl rfl dX8_minutes_21 ?_
    refine j_iload_n X 1 rfl rfl dX8_minutes_22 ?_
    refine bd1_elim h (fun σ5 hc6 h => ?_)
    refine j_callVv X (As := [.int a1]) (rest := []) mf_X8_goMinutes bw_948 bw_950 bs_33 ⟨rfl, rfl⟩ ⟨Nat.le_of_ble_eq_true rfl, Nat.le_of_ble_eq_true rfl⟩ cf6 pk_68 pl_68 (c_X8_goMinutes Γ.2.1 E ad  hc6) rfl rfl (Nat.le_of_ble_eq_true rfl) dX8_minutes_23 ?_
    refine j_aload_n X 0 rfl rfl dX8_minutes_26 ?_
    refine bd1_elim h (fun r7 hc8 h => ?_)
    refine j_callVi X (As := []) (rest := []) mf_X8_knownByAll bw_1022 bw_1024 bs_45 ⟨rfl, rfl⟩ ⟨Nat.le_of_ble_eq_true rfl, Nat.le_of_ble_eq_true rfl⟩ cf6 pk_68 pl_68 (c_X8_knownByAll Γ.2.1 E ad  hc8) rfl rfl (Nat.le_of_ble_eq_true rfl) dX8_minutes_27 ?_
    exact j_iret X Y rfl (ret_wi h) dX8_minutes_30
  · have h := (if_pos c).symm.trans h
    refine j_aload_n X 0 rfl rfl dX8_minutes_12 ?_
    refine bd2_elim h (fun r9 σ10 hc11 h => ?_)
    refine j_callVi X (As := []) (rest := []) mf_X8_bad bw_859 bw_861 bs_20 ⟨rfl, rfl⟩ ⟨Nat.le_of_ble_eq_true rfl, Nat.le_of_ble_eq_true rfl⟩ cf6 pk_68 pl_68 (c_X8_bad Γ.2.1 E ad  hc11) rfl rfl (Nat.le_of_ble_eq_true rfl) dX8_minutes_13 ?_
    exact j_iret X Y rfl (ret_wi h) dX8_minutes_16

abbrev rm_X8_undo : Room := { frames := 1, cells := 0, slots := 0, locals := 20 }
set_option maxHeartbeats 4000000 in
set_option maxRecDepth 100000 in
theorem jl_X8_undo_L24 {Γ : Cx} {E : Ev} {ad : Nat → Nat} (X : XC Γ E rm_X8_undo cX8_undo 2 RX8)     {kx : Sg → Option (Int32 × Sg)} {r : Int32 × Sg} (Y : XQ Γ E ad (some .int) (some (.int r.1), r.2))  : ∀ n (v1 : Int32) (σ : Sg), m_X8_undo_L24 kx n v1 σ = some r → J Γ E 2 ad RF 85 σ 0 0 24 [(1, .int v1), (0, .ref (ad 68))] [] := by
  intro n
  induction n with
  | zero =>
    intro v1 σ h
    cases h
  | succ n ih =>
    intro v1 σ h
    rw [m_X8_undo_L24.eq_2] at h
    refine j_iload_n X 0 rfl rfl dX8_undo_24 ?_
    refine j_bipush X (v := 11) (by decide) dX8_undo_25 ?_
    refine j_icmp_ge X (tgt := 56) (by decide) dX8_undo_27 (fun c => ?_) (fun c => ?_)
    · have h := (if_pos c).symm.trans h
      refine j_aload_n X 1 rfl rfl dX8_undo_56 ?_
      refine j_getr X cf6 pk_68 pl_68 7 rfl ⟨rfl, rfl⟩ 74 rfl bw_761 dX8_undo_57 ?_
      refine j_iconst X (v := 0) (by decide) dX8_undo_60 ?_
      refine gd_elim h (fun g h => ?_)
      refine j_iald X pk_74 pl_74 g dX8_undo_61 ?_
      exact j_iret X Y rfl (ret_wi h) dX8_undo_62
    · have h := (if_neg c).symm.trans h
      refine j_aload_n X 1 rfl rfl dX8_undo_30 ?_
      refine j_getr X cf6 pk_68 pl_68 7 rfl ⟨rfl, rfl⟩ 74 rfl bw_761 dX8_undo_31 ?_
      refine j_iload_n X 0 rfl rfl dX8_undo_34 ?_
      refine j_aload_n X 1 rfl rfl dX8_undo_35 ?_
      refine j_getr X cf6 pk_68 pl_68 13 rfl ⟨rfl, rfl⟩ 77 rfl bw_767 dX8_undo_36 ?_
      refine j_bipush X (v := 11) (by decide) dX8_undo_39 ?_
      refine j_aload_n X 1 rfl rfl dX8_undo_41 ?_
      refine j_geti X cf6 pk_68 pl_68 14 rfl ⟨rfl, rfl⟩ bw_768 dX8_undo_42 ?_
      refine j_imul X dX8_undo_45 ?_
      refine j_iload_n X 0 rfl rfl dX8_undo_46 ?_
      refine j_iadd X dX8_undo_47 ?_
      refine gd_elim h (fun g h => ?_)
      refine j_iald X pk_77 pl_77 g dX8_undo_48 ?_
      refine gd_elim h (fun g h => ?_)
      refine nm_elim h (fun σ3 eσ3 h => ?_)
      refine j_iast X pk_74 pl_74 g eσ3 dX8_undo_49 ?_
      refine nm_elim h (fun x4 ex4 h => ?_)
      refine j_iinc1 X (L' := [(1, .int x4), (0, .ref (ad 68))]) 0 rfl (q := 1) (by decide) ex4 (by decide) rfl dX8_undo_50 ?_
      refine j_goto X (tgt := 24) (by decide) dX8_undo_53 ?_
      exact J.sub [0, 1] rfl (ih x4 σ3 h)
set_option maxHeartbeats 4000000 in
set_option maxRecDepth 100000 in
theorem c_X8_undo (l : Launch) (E : Ev) (ad : Nat → Nat)    {σ : Sg} {r : Int32 × Sg} (h : m_X8_undo  σ = some r) : Met l yX8_undo (wY yX8_undo cX8_undo 2 (some .int)) rm_X8_undo (va_Pc [.ref (ad 68)] (PreU E ad RF 85 σ)) (QcN E ad (some (.int r.1), r.2)) 0 0 (EA E) := by
  refine met_of (L0 := [(0, .ref (ad 68))]) rfl (Nat.le_of_ble_eq_true rfl) rfl (fun Γ X Y => ?_)
  have X : XC Γ E rm_X8_undo cX8_undo 2 RX8 := X
  unfold m_X8_undo at h
  refine j_aload_n X 0 rfl rfl dX8_undo_0 ?_
  refine j_geti X cf6 pk_68 pl_68 14 rfl ⟨rfl, rfl⟩ bw_768 dX8_undo_1 ?_
  refine j_if_ne X (tgt := 12) (by decide) dX8_undo_4 (fun c => ?_) (fun c => ?_)
  · have h := (if_neg c).symm.trans h
    refine j_aload_n X 0 rfl rfl dX8_undo_12 ?_
    refine j_dup X rfl dX8_undo_13 ?_
    refine j_geti X cf6 pk_68 pl_68 14 rfl ⟨rfl, rfl⟩ bw_768 dX8_undo_14 ?_
    refine j_iconst X (v := 1) (by decide) dX8_undo_17 ?_
    refine j_isub X dX8_undo_18 ?_
    refine nm_elim h (fun σ1 eσ1 h => ?_)
    refine j_puti X cf6 pk_68 pl_68 14 rfl ⟨rfl, rfl⟩ (.inl rfl) rfl rfl eσ1 bw_768 dX8_undo_19 ?_
    refine j_iconst X (v := 0) (by decide) dX8_undo_22 ?_
    refine nm_elim h (fun x2 ex2 h => ?_)
    refine j_istore_n X (L' := [(1, .int x2), (0, .ref (ad 68))]) ex2 rfl (by decide) rfl dX8_undo_23 ?_
    refine J.sub [0, 1] rfl ?_
    exact jl_X8_undo_L24 X  Y 1000 x2 σ1 h
  · have h := (if_pos c).symm.trans h
    refine j_aload_n X 0 rfl rfl dX8_undo_7 ?_
    refine bd2_elim h (fun r6 σ7 hc8 h => ?_)
    refine j_callVi X (As := []) (rest := []) mf_X8_no bw_1005 bw_1007 bs_43 ⟨rfl, rfl⟩ ⟨Nat.le_of_ble_eq_true rfl, Nat.le_of_ble_eq_true rfl⟩ cf6 pk_68 pl_68 (c_X8_no Γ.2.1 E ad  hc8) rfl rfl (Nat.le_of_ble_eq_true rfl) dX8_undo_8 ?_
    exact j_iret X Y rfl (ret_wi h) dX8_undo_11

abbrev rm_X8_of : Room := { frames := 2, cells := 0, slots := 0, locals := 46 }
set_option maxHeartbeats 4000000 in
set_option maxRecDepth 100000 in
theorem c_X8_of (l : Launch) (E : Ev) (ad : Nat → Nat)   {a1 : Int32} {a2 : Int32} {σ : Sg} {r : Int32 × Sg} (h : m_X8_of a1 a2 σ = some r) : Met l yX8_of (wY yX8_of cX8_of 3 (some .int)) rm_X8_of (va_Pc [.ref (ad 68), .int a1, .int a2] (PreU E ad RF 85 σ)) (QcN E ad (some (.int r.1), r.2)) 0 0 (EA E) := by
  refine met_of (L0 := [(0, .ref (ad 68)), (1, .int a1), (2, .int a2)]) rfl (Nat.le_of_ble_eq_true rfl) rfl (fun Γ X Y => ?_)
  have X : XC Γ E rm_X8_of cX8_of 3 RX8 := X
  unfold m_X8_of at h
  refine j_aload_n X 0 rfl rfl dX8_of_0 ?_
  refine j_iload_n X 1 rfl rfl dX8_of_1 ?_
  refine bd1_elim h (fun r1 hc2 h => ?_)
  refine j_callVi X (As := [.int a1]) (rest := []) mf_X8_isSaying bw_1037 bw_1039 bs_46 ⟨rfl, rfl⟩ ⟨Nat.le_of_ble_eq_true rfl, Nat.le_of_ble_eq_true rfl⟩ cf6 pk_68 pl_68 (c_X8_isSaying Γ.2.1 E ad  hc2) rfl rfl (Nat.le_of_ble_eq_true rfl) dX8_of_2 ?_
  refine j_if_eq X (tgt := 20) (by decide) dX8_of_5 (fun c => ?_) (fun c => ?_)
  · have h := (if_pos c).symm.trans h
    refine j_aload_n X 0 rfl rfl dX8_of_20 ?_
    refine bd2_elim h (fun r3 σ4 hc5 h => ?_)
    refine j_callVi X (As := []) (rest := []) mf_X8_bad bw_859 bw_861 bs_20 ⟨rfl, rfl⟩ ⟨Nat.le_of_ble_eq_true rfl, Nat.le_of_ble_eq_true rfl⟩ cf6 pk_68 pl_68 (c_X8_bad Γ.2.1 E ad  hc5) rfl rfl (Nat.le_of_ble_eq_true rfl) dX8_of_21 ?_
    exact j_iret X Y rfl (ret_wi h) dX8_of_24
  · have h := (if_neg c).symm.trans h
    refine j_iload_n X 2 rfl rfl dX8_of_8 ?_
    refine j_i2l X dX8_of_9 ?_
    refine j_lconst X (v := 0) (by decide) dX8_of_10 ?_
    refine j_ldc2 X (v := 2) bw_841 dX8_of_11 ?_
    refine bd1_elim h (fun r6 hc7 h => ?_)
    refine j_callSi X (As := [.long (Int32.toInt64 a2), .long (0 : Int64), .long (2 : Int64)]) (rest := []) mf_X8_in bw_842 bw_843 ⟨rfl, rfl⟩ ⟨Nat.le_of_ble_eq_true rfl, Nat.le_of_ble_eq_true rfl⟩ (c_X8_in Γ.2.1 E ad  hc7) rfl rfl (Nat.le_of_ble_eq_true rfl) dX8_of_14 ?_
    refine j_if_ne X (tgt := 25) (by decide) dX8_of_17 (fun c => ?_) (fun c => ?_)
    · have h := (if_neg c).symm.trans h
      refine j_iload_n X 2 rfl rfl dX8_of_25 ?_
      refine j_if_ne X (tgt := 38) (by decide) dX8_of_26 (fun c => ?_) (fun c => ?_)
      · have h := (if_neg c).symm.trans h
        refine j_iload_n X 2 rfl rfl dX8_of_38 ?_
        refine j_iconst X (v := 1) (by decide) dX8_of_39 ?_
        refine j_icmp_ne X (tgt := 52) (by decide) dX8_of_40 (fun c => ?_) (fun c => ?_)
        · have h := (if_neg c).symm.trans h
          refine j_aload_n X 0 rfl rfl dX8_of_52 ?_
          refine j_getr X cf6 pk_68 pl_68 4 rfl ⟨rfl, rfl⟩ 72 rfl bw_758 dX8_of_53 ?_
          refine j_iload_n X 1 rfl rfl dX8_of_56 ?_
          refine gd_elim h (fun g h => ?_)
          refine j_iald X pk_72 pl_72 g dX8_of_57 ?_
          exact j_iret X Y rfl (ret_wi h) dX8_of_58
        · have h := (if_pos c).symm.trans h
          refine j_aload_n X 0 rfl rfl dX8_of_43 ?_
          refine j_getr X cf6 pk_68 pl_68 3 rfl ⟨rfl, rfl⟩ 71 rfl bw_757 dX8_of_44 ?_
          refine j_iload_n X 1 rfl rfl dX8_of_47 ?_
          refine gd_elim h (fun g h => ?_)
          refine j_iald X pk_71 pl_71 g dX8_of_48 ?_
          refine j_goto X (tgt := 58) (by decide) dX8_of_49 ?_
          exact j_iret X Y rfl (ret_wi h) dX8_of_58
      · have h := (if_pos c).symm.trans h
        refine j_aload_n X 0 rfl rfl dX8_of_29 ?_
        refine j_getr X cf6 pk_68 pl_68 2 rfl ⟨rfl, rfl⟩ 70 rfl bw_756 dX8_of_30 ?_
        refine j_iload_n X 1 rfl rfl dX8_of_33 ?_
        refine gd_elim h (fun g h => ?_)
        refine j_iald X pk_70 pl_70 g dX8_of_34 ?_
        refine j_goto X (tgt := 58) (by decide) dX8_of_35 ?_
        exact j_iret X Y rfl (ret_wi h) dX8_of_58
    · have h := (if_pos c).symm.trans h
      refine j_aload_n X 0 rfl rfl dX8_of_20 ?_
      refine bd2_elim h (fun r8 σ9 hc10 h => ?_)
      refine j_callVi X (As := []) (rest := []) mf_X8_bad bw_859 bw_861 bs_20 ⟨rfl, rfl⟩ ⟨Nat.le_of_ble_eq_true rfl, Nat.le_of_ble_eq_true rfl⟩ cf6 pk_68 pl_68 (c_X8_bad Γ.2.1 E ad  hc10) rfl rfl (Nat.le_of_ble_eq_true rfl) dX8_of_21 ?_
      exact j_iret X Y rfl (ret_wi h) dX8_of_24

abbrev rm_X8_about : Room := { frames := 6, cells := 0, slots := 0, locals := 144 }
set_option maxHeartbeats 4000000 in
set_option maxRecDepth 100000 in
theorem c_X8_about (l : Launch) (E : Ev) (ad : Nat → Nat)   {a1 : Int32} {a2 : Int32} {σ : Sg} {r : Int32 × Sg} (h : m_X8_about a1 a2 σ = some r) : Met l yX8_about (wY yX8_about cX8_about 3 (some .int)) rm_X8_about (va_Pc [.ref (ad 68), .int a1, .int a2] (PreU E ad RF 85 σ)) (QcN E ad (some (.int r.1), r.2)) 0 0 (EA E) := by
  refine met_of (L0 := [(0, .ref (ad 68)), (1, .int a1), (2, .int a2)]) rfl (Nat.le_of_ble_eq_true rfl) rfl (fun Γ X Y => ?_)
  have X : XC Γ E rm_X8_about cX8_about 3 RX8 := X
  unfold m_X8_about at h
  refine j_aload_n X 0 rfl rfl dX8_about_0 ?_
  refine j_iload_n X 1 rfl rfl dX8_about_1 ?_
  refine bd1_elim h (fun r1 hc2 h => ?_)
  refine j_callVi X (As := [.int a1]) (rest := []) mf_X8_isEar bw_1013 bw_1015 bs_44 ⟨rfl, rfl⟩ ⟨Nat.le_of_ble_eq_true rfl, Nat.le_of_ble_eq_true rfl⟩ cf6 pk_68 pl_68 (c_X8_isEar Γ.2.1 E ad  hc2) rfl rfl (Nat.le_of_ble_eq_true rfl) dX8_about_2 ?_
  refine j_if_eq X (tgt := 20) (by decide) dX8_about_5 (fun c => ?_) (fun c => ?_)
  · have h := (if_pos c).symm.trans h
    refine j_aload_n X 0 rfl rfl dX8_about_20 ?_
    refine bd2_elim h (fun r3 σ4 hc5 h => ?_)
    refine j_callVi X (As := []) (rest := []) mf_X8_bad bw_859 bw_861 bs_20 ⟨rfl, rfl⟩ ⟨Nat.le_of_ble_eq_true rfl, Nat.le_of_ble_eq_true rfl⟩ cf6 pk_68 pl_68 (c_X8_bad Γ.2.1 E ad  hc5) rfl rfl (Nat.le_of_ble_eq_true rfl) dX8_about_21 ?_
    exact j_iret X Y rfl (ret_wi h) dX8_about_24
  · have h := (if_neg c).symm.trans h
    refine j_iload_n X 2 rfl rfl dX8_about_8 ?_
    refine j_i2l X dX8_about_9 ?_
    refine j_lconst X (v := 0) (by decide) dX8_about_10 ?_
    refine j_ldc2 X (v := 3) bw_857 dX8_about_11 ?_
    refine bd1_elim h (fun r6 hc7 h => ?_)
    refine j_callSi X (As := [.long (Int32.toInt64 a2), .long (0 : Int64), .long (3 : Int64)]) (rest := []) mf_X8_in bw_842 bw_843 ⟨rfl, rfl⟩ ⟨Nat.le_of_ble_eq_true rfl, Nat.le_of_ble_eq_true rfl⟩ (c_X8_in Γ.2.1 E ad  hc7) rfl rfl (Nat.le_of_ble_eq_true rfl) dX8_about_14 ?_
    refine j_if_ne X (tgt := 25) (by decide) dX8_about_17 (fun c => ?_) (fun c => ?_)
    · have h := (if_neg c).symm.trans h
      refine j_iload_n X 2 rfl rfl dX8_about_25 ?_
      refine j_if_ne X (tgt := 38) (by decide) dX8_about_26 (fun c => ?_) (fun c => ?_)
      · have h := (if_neg c).symm.trans h
        refine j_iload_n X 2 rfl rfl dX8_about_38 ?_
        refine j_iconst X (v := 1) (by decide) dX8_about_39 ?_
        refine j_icmp_ne X (tgt := 54) (by decide) dX8_about_40 (fun c => ?_) (fun c => ?_)
        · have h := (if_neg c).symm.trans h
          refine j_iload_n X 2 rfl rfl dX8_about_54 ?_
          refine j_iconst X (v := 2) (by decide) dX8_about_55 ?_
          refine j_icmp_ne X (tgt := 71) (by decide) dX8_about_56 (fun c => ?_) (fun c => ?_)
          · have h := (if_neg c).symm.trans h
            refine j_aload_n X 0 rfl rfl dX8_about_71 ?_
            refine j_iload_n X 1 rfl rfl dX8_about_72 ?_
            refine bd1_elim h (fun r8 hc9 h => ?_)
            refine j_callVi X (As := [.int a1]) (rest := []) mf_X8_heardNow bw_956 bw_958 bs_35 ⟨rfl, rfl⟩ ⟨Nat.le_of_ble_eq_true rfl, Nat.le_of_ble_eq_true rfl⟩ cf6 pk_68 pl_68 (c_X8_heardNow Γ.2.1 E ad  hc9) rfl rfl (Nat.le_of_ble_eq_true rfl) dX8_about_73 ?_
            exact j_iret X Y rfl (ret_wi h) dX8_about_76
          · have h := (if_pos c).symm.trans h
            refine j_aload_n X 0 rfl rfl dX8_about_59 ?_
            refine j_getr X cf6 pk_68 pl_68 7 rfl ⟨rfl, rfl⟩ 74 rfl bw_761 dX8_about_60 ?_
            refine j_bipush X (v := 8) (by decide) dX8_about_63 ?_
            refine j_iload_n X 1 rfl rfl dX8_about_65 ?_
            refine j_iadd X dX8_about_66 ?_
            refine gd_elim h (fun g h => ?_)
            refine j_iald X pk_74 pl_74 g dX8_about_67 ?_
            refine j_goto X (tgt := 76) (by decide) dX8_about_68 ?_
            exact j_iret X Y rfl (ret_wi h) dX8_about_76
        · have h := (if_pos c).symm.trans h
          refine j_aload_n X 0 rfl rfl dX8_about_43 ?_
          refine j_getr X cf6 pk_68 pl_68 7 rfl ⟨rfl, rfl⟩ 74 rfl bw_761 dX8_about_44 ?_
          refine j_iconst X (v := 5) (by decide) dX8_about_47 ?_
          refine j_iload_n X 1 rfl rfl dX8_about_48 ?_
          refine j_iadd X dX8_about_49 ?_
          refine gd_elim h (fun g h => ?_)
          refine j_iald X pk_74 pl_74 g dX8_about_50 ?_
          refine j_goto X (tgt := 76) (by decide) dX8_about_51 ?_
          exact j_iret X Y rfl (ret_wi h) dX8_about_76
      · have h := (if_pos c).symm.trans h
        refine j_aload_n X 0 rfl rfl dX8_about_29 ?_
        refine j_getr X cf6 pk_68 pl_68 6 rfl ⟨rfl, rfl⟩ 73 rfl bw_760 dX8_about_30 ?_
        refine j_iload_n X 1 rfl rfl dX8_about_33 ?_
        refine gd_elim h (fun g h => ?_)
        refine j_iald X pk_73 pl_73 g dX8_about_34 ?_
        refine j_goto X (tgt := 76) (by decide) dX8_about_35 ?_
        exact j_iret X Y rfl (ret_wi h) dX8_about_76
    · have h := (if_pos c).symm.trans h
      refine j_aload_n X 0 rfl rfl dX8_about_20 ?_
      refine bd2_elim h (fun r10 σ11 hc12 h => ?_)
      refine j_callVi X (As := []) (rest := []) mf_X8_bad bw_859 bw_861 bs_20 ⟨rfl, rfl⟩ ⟨Nat.le_of_ble_eq_true rfl, Nat.le_of_ble_eq_true rfl⟩ cf6 pk_68 pl_68 (c_X8_bad Γ.2.1 E ad  hc12) rfl rfl (Nat.le_of_ble_eq_true rfl) dX8_about_21 ?_
      exact j_iret X Y rfl (ret_wi h) dX8_about_24

abbrev rm_X8_room : Room := { frames := 4, cells := 0, slots := 0, locals := 93 }
set_option maxHeartbeats 4000000 in
set_option maxRecDepth 100000 in
theorem c_X8_room (l : Launch) (E : Ev) (ad : Nat → Nat)   {a1 : Int32} {a2 : Int32} {σ : Sg} {r : Int32 × Sg} (h : m_X8_room a1 a2 σ = some r) : Met l yX8_room (wY yX8_room cX8_room 3 (some .int)) rm_X8_room (va_Pc [.ref (ad 68), .int a1, .int a2] (PreU E ad RF 85 σ)) (QcN E ad (some (.int r.1), r.2)) 0 0 (EA E) := by
  refine met_of (L0 := [(0, .ref (ad 68)), (1, .int a1), (2, .int a2)]) rfl (Nat.le_of_ble_eq_true rfl) rfl (fun Γ X Y => ?_)
  have X : XC Γ E rm_X8_room cX8_room 3 RX8 := X
  unfold m_X8_room at h
  refine j_iload_n X 1 rfl rfl dX8_room_0 ?_
  refine bd1_elim h (fun r1 hc2 h => ?_)
  refine j_callSi X (As := [.int a1]) (rest := []) mf_X8_isRoom bw_854 bw_855 ⟨rfl, rfl⟩ ⟨Nat.le_of_ble_eq_true rfl, Nat.le_of_ble_eq_true rfl⟩ (c_X8_isRoom Γ.2.1 E ad  hc2) rfl rfl (Nat.le_of_ble_eq_true rfl) dX8_room_1 ?_
  refine j_if_eq X (tgt := 17) (by decide) dX8_room_4 (fun c => ?_) (fun c => ?_)
  · have h := (if_pos c).symm.trans h
    refine j_aload_n X 0 rfl rfl dX8_room_17 ?_
    refine bd2_elim h (fun r3 σ4 hc5 h => ?_)
    refine j_callVi X (As := []) (rest := []) mf_X8_bad bw_859 bw_861 bs_20 ⟨rfl, rfl⟩ ⟨Nat.le_of_ble_eq_true rfl, Nat.le_of_ble_eq_true rfl⟩ cf6 pk_68 pl_68 (c_X8_bad Γ.2.1 E ad  hc5) rfl rfl (Nat.le_of_ble_eq_true rfl) dX8_room_18 ?_
    exact j_iret X Y rfl (ret_wi h) dX8_room_21
  · have h := (if_neg c).symm.trans h
    refine j_iload_n X 2 rfl rfl dX8_room_7 ?_
    refine j_i2l X dX8_room_8 ?_
    refine j_lconst X (v := 0) (by decide) dX8_room_9 ?_
    refine j_lconst X (v := 1) (by decide) dX8_room_10 ?_
    refine bd1_elim h (fun r6 hc7 h => ?_)
    refine j_callSi X (As := [.long (Int32.toInt64 a2), .long (0 : Int64), .long (1 : Int64)]) (rest := []) mf_X8_in bw_842 bw_843 ⟨rfl, rfl⟩ ⟨Nat.le_of_ble_eq_true rfl, Nat.le_of_ble_eq_true rfl⟩ (c_X8_in Γ.2.1 E ad  hc7) rfl rfl (Nat.le_of_ble_eq_true rfl) dX8_room_11 ?_
    refine j_if_ne X (tgt := 22) (by decide) dX8_room_14 (fun c => ?_) (fun c => ?_)
    · have h := (if_neg c).symm.trans h
      refine j_iload_n X 2 rfl rfl dX8_room_22 ?_
      refine j_if_ne X (tgt := 34) (by decide) dX8_room_23 (fun c => ?_) (fun c => ?_)
      · have h := (if_neg c).symm.trans h
        refine j_aload_n X 0 rfl rfl dX8_room_34 ?_
        refine j_iload_n X 1 rfl rfl dX8_room_35 ?_
        refine bd1_elim h (fun r8 hc9 h => ?_)
        refine j_callVi X (As := [.int a1]) (rest := []) mf_X8_loudNow bw_997 bw_999 bs_42 ⟨rfl, rfl⟩ ⟨Nat.le_of_ble_eq_true rfl, Nat.le_of_ble_eq_true rfl⟩ cf6 pk_68 pl_68 (c_X8_loudNow Γ.2.1 E ad  hc9) rfl rfl (Nat.le_of_ble_eq_true rfl) dX8_room_36 ?_
        exact j_iret X Y rfl (ret_wi h) dX8_room_39
      · have h := (if_pos c).symm.trans h
        refine j_aload_n X 0 rfl rfl dX8_room_26 ?_
        refine j_iload_n X 1 rfl rfl dX8_room_27 ?_
        refine bd1_elim h (fun r10 hc11 h => ?_)
        refine j_callVi X (As := [.int a1]) (rest := []) mf_X8_minuteOf bw_960 bw_962 bs_36 ⟨rfl, rfl⟩ ⟨Nat.le_of_ble_eq_true rfl, Nat.le_of_ble_eq_true rfl⟩ cf6 pk_68 pl_68 (c_X8_minuteOf Γ.2.1 E ad  hc11) rfl rfl (Nat.le_of_ble_eq_true rfl) dX8_room_28 ?_
        refine j_goto X (tgt := 39) (by decide) dX8_room_31 ?_
        exact j_iret X Y rfl (ret_wi h) dX8_room_39
    · have h := (if_pos c).symm.trans h
      refine j_aload_n X 0 rfl rfl dX8_room_17 ?_
      refine bd2_elim h (fun r12 σ13 hc14 h => ?_)
      refine j_callVi X (As := []) (rest := []) mf_X8_bad bw_859 bw_861 bs_20 ⟨rfl, rfl⟩ ⟨Nat.le_of_ble_eq_true rfl, Nat.le_of_ble_eq_true rfl⟩ cf6 pk_68 pl_68 (c_X8_bad Γ.2.1 E ad  hc14) rfl rfl (Nat.le_of_ble_eq_true rfl) dX8_room_18 ?_
      exact j_iret X Y rfl (ret_wi h) dX8_room_21

abbrev rm_X8_loud : Room := { frames := 2, cells := 0, slots := 0, locals := 47 }
set_option maxHeartbeats 4000000 in
set_option maxRecDepth 100000 in
theorem c_X8_loud (l : Launch) (E : Ev) (ad : Nat → Nat)   {a1 : Int32} {a2 : Int32} {σ : Sg} {r : Int32 × Sg} (h : m_X8_loud a1 a2 σ = some r) : Met l yX8_loud (wY yX8_loud cX8_loud 3 (some .int)) rm_X8_loud (va_Pc [.ref (ad 68), .int a1, .int a2] (PreU E ad RF 85 σ)) (QcN E ad (some (.int r.1), r.2)) 0 0 (EA E) := by
  refine met_of (L0 := [(0, .ref (ad 68)), (1, .int a1), (2, .int a2)]) rfl (Nat.le_of_ble_eq_true rfl) rfl (fun Γ X Y => ?_)
  have X : XC Γ E rm_X8_loud cX8_loud 3 RX8 := X
  unfold m_X8_loud at h
  refine j_aload_n X 0 rfl rfl dX8_loud_0 ?_
  refine j_iload_n X 1 rfl rfl dX8_loud_1 ?_
  refine bd1_elim h (fun r1 hc2 h => ?_)
  refine j_callVi X (As := [.int a1]) (rest := []) mf_X8_isSaying bw_1037 bw_1039 bs_46 ⟨rfl, rfl⟩ ⟨Nat.le_of_ble_eq_true rfl, Nat.le_of_ble_eq_true rfl⟩ cf6 pk_68 pl_68 (c_X8_isSaying Γ.2.1 E ad  hc2) rfl rfl (Nat.le_of_ble_eq_true rfl) dX8_loud_2 ?_
  refine j_if_eq X (tgt := 29) (by decide) dX8_loud_5 (fun c => ?_) (fun c => ?_)
  · have h := (if_pos c).symm.trans h
    refine j_aload_n X 0 rfl rfl dX8_loud_29 ?_
    refine bd2_elim h (fun r3 σ4 hc5 h => ?_)
    refine j_callVi X (As := []) (rest := []) mf_X8_bad bw_859 bw_861 bs_20 ⟨rfl, rfl⟩ ⟨Nat.le_of_ble_eq_true rfl, Nat.le_of_ble_eq_true rfl⟩ cf6 pk_68 pl_68 (c_X8_bad Γ.2.1 E ad  hc5) rfl rfl (Nat.le_of_ble_eq_true rfl) dX8_loud_30 ?_
    exact j_iret X Y rfl (ret_wi h) dX8_loud_33
  · have h := (if_neg c).symm.trans h
    refine j_iload_n X 2 rfl rfl dX8_loud_8 ?_
    refine j_i2l X dX8_loud_9 ?_
    refine j_lconst X (v := 0) (by decide) dX8_loud_10 ?_
    refine j_ldc2 X (v := 29) bw_1053 dX8_loud_11 ?_
    refine bd1_elim h (fun r6 hc7 h => ?_)
    refine j_callSi X (As := [.long (Int32.toInt64 a2), .long (0 : Int64), .long (29 : Int64)]) (rest := []) mf_X8_in bw_842 bw_843 ⟨rfl, rfl⟩ ⟨Nat.le_of_ble_eq_true rfl, Nat.le_of_ble_eq_true rfl⟩ (c_X8_in Γ.2.1 E ad  hc7) rfl rfl (Nat.le_of_ble_eq_true rfl) dX8_loud_14 ?_
    refine j_if_eq X (tgt := 29) (by decide) dX8_loud_17 (fun c => ?_) (fun c => ?_)
    · have h := (if_pos c).symm.trans h
      refine j_aload_n X 0 rfl rfl dX8_loud_29 ?_
      refine bd2_elim h (fun r8 σ9 hc10 h => ?_)
      refine j_callVi X (As := []) (rest := []) mf_X8_bad bw_859 bw_861 bs_20 ⟨rfl, rfl⟩ ⟨Nat.le_of_ble_eq_true rfl, Nat.le_of_ble_eq_true rfl⟩ cf6 pk_68 pl_68 (c_X8_bad Γ.2.1 E ad  hc10) rfl rfl (Nat.le_of_ble_eq_true rfl) dX8_loud_30 ?_
      exact j_iret X Y rfl (ret_wi h) dX8_loud_33
    · have h := (if_neg c).symm.trans h
      refine j_aload_n X 0 rfl rfl dX8_loud_20 ?_
      refine j_iload_n X 1 rfl rfl dX8_loud_21 ?_
      refine j_iload_n X 2 rfl rfl dX8_loud_22 ?_
      refine bd1_elim h (fun r11 hc12 h => ?_)
      refine j_callVi X (As := [.int a1, .int a2]) (rest := []) mf_X8_loudIn bw_976 bw_978 bs_40 ⟨rfl, rfl⟩ ⟨Nat.le_of_ble_eq_true rfl, Nat.le_of_ble_eq_true rfl⟩ cf6 pk_68 pl_68 (c_X8_loudIn Γ.2.1 E ad  hc12) rfl rfl (Nat.le_of_ble_eq_true rfl) dX8_loud_23 ?_
      refine j_goto X (tgt := 33) (by decide) dX8_loud_26 ?_
      exact j_iret X Y rfl (ret_wi h) dX8_loud_33

abbrev rm_X8_first : Room := { frames := 6, cells := 0, slots := 0, locals := 144 }
set_option maxHeartbeats 4000000 in
set_option maxRecDepth 100000 in
theorem jl_X8_first_L34 {β : Type} {Γ : Cx} {E : Ev} {ad : Nat → Nat} (X : XC Γ E rm_X8_first cX8_first 6 RX8)   {c3 : Int32} {c1 : Int32} {c2 : Int32}  {kx : Int32 → Sg → Option (β)} {r : β}  (hkx : ∀ (v4 : Int32) (σ : Sg), kx v4 σ = some r → J Γ E 6 ad RF 85 σ 0 0 84 [(4, .int v4), (3, .int c3), (0, .ref (ad 68))] []) : ∀ n (v5 : Int32) (v4 : Int32) (σ : Sg), m_X8_first_L34 c3 c1 c2 kx n v5 v4 σ = some r → J Γ E 6 ad RF 85 σ 0 0 34 [(5, .int v5), (4, .int v4), (3, .int c3), (0, .ref (ad 68)), (1, .int c1), (2, .int c2)] [] := by
  intro n
  induction n with
  | zero =>
    intro v5 v4 σ h
    cases h
  | succ n ih =>
    intro v5 v4 σ h
    rw [m_X8_first_L34.eq_2] at h
    refine j_iload X 0 rfl dX8_first_34 ?_
    refine j_bipush X (v := 41) (by decide) dX8_first_36 ?_
    refine j_icmp_ge X (tgt := 84) (by decide) dX8_first_38 (fun c => ?_) (fun c => ?_)
    · have h := (if_pos c).symm.trans h
      exact J.sub [1, 2, 3] rfl (hkx v4 σ h)
    · have h := (if_neg c).symm.trans h
      refine j_iload X 1 rfl dX8_first_41 ?_
      refine j_iconst X (v := -1) (by decide) dX8_first_43 ?_
      refine j_icmp_ne X (tgt := 84) (by decide) dX8_first_44 (fun c => ?_) (fun c => ?_)
      · have h := (if_neg c).symm.trans h
        exact J.sub [1, 2, 3] rfl (hkx v4 σ h)
      · have h := (if_pos c).symm.trans h
        refine j_aload_n X 3 rfl rfl dX8_first_47 ?_
        refine j_iload_n X 4 rfl rfl dX8_first_48 ?_
        refine bd1_elim h (fun r11 hc12 h => ?_)
        refine j_callVi X (As := [.int c1]) (rest := []) mf_X8_heardNow bw_956 bw_958 bs_35 ⟨rfl, rfl⟩ ⟨Nat.le_of_ble_eq_true rfl, Nat.le_of_ble_eq_true rfl⟩ cf6 pk_68 pl_68 (c_X8_heardNow Γ.2.1 E ad  hc12) rfl rfl (Nat.le_of_ble_eq_true rfl) dX8_first_49 ?_
        refine j_iload_n X 5 rfl rfl dX8_first_52 ?_
        refine j_ishr X dX8_first_53 ?_
        refine j_iconst X (v := 1) (by decide) dX8_first_54 ?_
        refine j_iand X dX8_first_55 ?_
        refine j_iconst X (v := 1) (by decide) dX8_first_56 ?_
        refine bd1_elim h (fun o14 hr h => ?_)
        have hJ13 : J Γ E 6 ad RF 85 σ 0 0 66 [(5, .int v5), (3, .int c3), (0, .ref (ad 68)), (1, .int c1), (2, .int c2)] [.int o14] := by
          refine j_istore X (L' := [(4, .int o14), (5, .int v5), (3, .int c3), (0, .ref (ad 68)), (1, .int c1), (2, .int c2)]) rfl (by decide) rfl dX8_first_66 ?_
          refine j_aload_n X 3 rfl rfl dX8_first_68 ?_
          refine j_getr X cf6 pk_68 pl_68 7 rfl ⟨rfl, rfl⟩ 74 rfl bw_761 dX8_first_69 ?_
          refine j_iconst X (v := 0) (by decide) dX8_first_72 ?_
          refine j_dup2 X rfl rfl dX8_first_73 ?_
          refine gd_elim h (fun g h => ?_)
          refine j_iald X pk_74 pl_74 g dX8_first_74 ?_
          refine j_iconst X (v := 1) (by decide) dX8_first_75 ?_
          refine j_iadd X dX8_first_76 ?_
          refine gd_elim h (fun g h => ?_)
          refine nm_elim h (fun σ15 eσ15 h => ?_)
          refine j_iast X pk_74 pl_74 g eσ15 dX8_first_77 ?_
          refine nm_elim h (fun x16 ex16 h => ?_)
          refine j_iinc1 X (L' := [(5, .int x16), (4, .int o14), (3, .int c3), (0, .ref (ad 68)), (1, .int c1), (2, .int c2)]) 1 rfl (q := 1) (by decide) ex16 (by decide) rfl dX8_first_78 ?_
          refine j_goto X (tgt := 34) (by decide) dX8_first_81 ?_
          exact J.sub [0, 1, 2, 3, 4, 5] rfl (ih x16 o14 σ15 h)
        clear h
        refine j_icmp_ne X (tgt := 65) (by decide) dX8_first_57 (fun c => ?_) (fun c => ?_)
        · have hr := (if_neg c).symm.trans hr
          refine j_iconst X (v := -1) (by decide) dX8_first_65 ?_
          cases hr
          exact J.sub [0, 2, 3, 4, 5] rfl hJ13
        · have hr := (if_pos c).symm.trans hr
          refine j_iload X 0 rfl dX8_first_60 ?_
          refine j_goto X (tgt := 66) (by decide) dX8_first_62 ?_
          cases hr
          exact J.sub [0, 2, 3, 4, 5] rfl hJ13
set_option maxHeartbeats 4000000 in
set_option maxRecDepth 100000 in
theorem c_X8_first (l : Launch) (E : Ev) (ad : Nat → Nat)   {a1 : Int32} {a2 : Int32} {σ : Sg} {r : Int32 × Sg} (h : m_X8_first a1 a2 σ = some r) : Met l yX8_first (wY yX8_first cX8_first 6 (some .int)) rm_X8_first (va_Pc [.ref (ad 68), .int a1, .int a2] (PreU E ad RF 85 σ)) (QcN E ad (some (.int r.1), r.2)) 0 0 (EA E) := by
  refine met_of (L0 := [(0, .ref (ad 68)), (1, .int a1), (2, .int a2)]) rfl (Nat.le_of_ble_eq_true rfl) rfl (fun Γ X Y => ?_)
  have X : XC Γ E rm_X8_first cX8_first 6 RX8 := X
  unfold m_X8_first at h
  refine j_aload_n X 0 rfl rfl dX8_first_0 ?_
  refine j_iload_n X 1 rfl rfl dX8_first_1 ?_
  refine bd1_elim h (fun r1 hc2 h => ?_)
  refine j_callVi X (As := [.int a1]) (rest := []) mf_X8_isEar bw_1013 bw_1015 bs_44 ⟨rfl, rfl⟩ ⟨Nat.le_of_ble_eq_true rfl, Nat.le_of_ble_eq_true rfl⟩ cf6 pk_68 pl_68 (c_X8_isEar Γ.2.1 E ad  hc2) rfl rfl (Nat.le_of_ble_eq_true rfl) dX8_first_2 ?_
  refine j_if_eq X (tgt := 16) (by decide) dX8_first_5 (fun c => ?_) (fun c => ?_)
  · have h := (if_pos c).symm.trans h
    refine j_aload_n X 0 rfl rfl dX8_first_16 ?_
    refine bd2_elim h (fun r3 σ4 hc5 h => ?_)
    refine j_callVi X (As := []) (rest := []) mf_X8_bad bw_859 bw_861 bs_20 ⟨rfl, rfl⟩ ⟨Nat.le_of_ble_eq_true rfl, Nat.le_of_ble_eq_true rfl⟩ cf6 pk_68 pl_68 (c_X8_bad Γ.2.1 E ad  hc5) rfl rfl (Nat.le_of_ble_eq_true rfl) dX8_first_17 ?_
    exact j_iret X Y rfl (ret_wi h) dX8_first_20
  · have h := (if_neg c).symm.trans h
    refine j_aload_n X 0 rfl rfl dX8_first_8 ?_
    refine j_iload_n X 2 rfl rfl dX8_first_9 ?_
    refine bd1_elim h (fun r6 hc7 h => ?_)
    refine j_callVi X (As := [.int a2]) (rest := []) mf_X8_isSaying bw_1037 bw_1039 bs_46 ⟨rfl, rfl⟩ ⟨Nat.le_of_ble_eq_true rfl, Nat.le_of_ble_eq_true rfl⟩ cf6 pk_68 pl_68 (c_X8_isSaying Γ.2.1 E ad  hc7) rfl rfl (Nat.le_of_ble_eq_true rfl) dX8_first_10 ?_
    refine j_if_ne X (tgt := 21) (by decide) dX8_first_13 (fun c => ?_) (fun c => ?_)
    · have h := (if_neg c).symm.trans h
      refine j_aload_n X 0 rfl rfl dX8_first_21 ?_
      refine j_getr X cf6 pk_68 pl_68 7 rfl ⟨rfl, rfl⟩ 74 rfl bw_761 dX8_first_22 ?_
      refine j_iconst X (v := 0) (by decide) dX8_first_25 ?_
      refine gd_elim h (fun g h => ?_)
      refine j_iald X pk_74 pl_74 g dX8_first_26 ?_
      refine nm_elim h (fun x8 ex8 h => ?_)
      refine j_istore_n X (L' := [(3, .int x8), (0, .ref (ad 68)), (1, .int a1), (2, .int a2)]) ex8 rfl (by decide) rfl dX8_first_27 ?_
      refine j_iconst X (v := -1) (by decide) dX8_first_28 ?_
      refine nm_elim h (fun x9 ex9 h => ?_)
      refine j_istore X (L' := [(4, .int x9), (3, .int x8), (0, .ref (ad 68)), (1, .int a1), (2, .int a2)]) ex9 (by decide) rfl dX8_first_29 ?_
      refine j_iconst X (v := 0) (by decide) dX8_first_31 ?_
      refine nm_elim h (fun x10 ex10 h => ?_)
      refine j_istore X (L' := [(5, .int x10), (4, .int x9), (3, .int x8), (0, .ref (ad 68)), (1, .int a1), (2, .int a2)]) ex10 (by decide) rfl dX8_first_32 ?_
      refine J.sub [0, 1, 2, 3, 4, 5] rfl ?_
      refine jl_X8_first_L34 X  (fun x17 σ18 h => ?_) 1000 x10 x9 σ h
      refine j_aload_n X 2 rfl rfl dX8_first_84 ?_
      refine j_getr X cf6 pk_68 pl_68 7 rfl ⟨rfl, rfl⟩ 74 rfl bw_761 dX8_first_85 ?_
      refine j_iconst X (v := 0) (by decide) dX8_first_88 ?_
      refine j_iload_n X 1 rfl rfl dX8_first_89 ?_
      refine gd_elim h (fun g h => ?_)
      refine nm_elim h (fun σ19 eσ19 h => ?_)
      refine j_iast X pk_74 pl_74 g eσ19 dX8_first_90 ?_
      refine j_iload X 0 rfl dX8_first_91 ?_
      exact j_iret X Y rfl (ret_wi h) dX8_first_93
    · have h := (if_pos c).symm.trans h
      refine j_aload_n X 0 rfl rfl dX8_first_16 ?_
      refine bd2_elim h (fun r20 σ21 hc22 h => ?_)
      refine j_callVi X (As := []) (rest := []) mf_X8_bad bw_859 bw_861 bs_20 ⟨rfl, rfl⟩ ⟨Nat.le_of_ble_eq_true rfl, Nat.le_of_ble_eq_true rfl⟩ cf6 pk_68 pl_68 (c_X8_bad Γ.2.1 E ad  hc22) rfl rfl (Nat.le_of_ble_eq_true rfl) dX8_first_17 ?_
      exact j_iret X Y rfl (ret_wi h) dX8_first_20

abbrev rm_X8_stays : Room := { frames := 5, cells := 0, slots := 0, locals := 123 }
set_option maxHeartbeats 4000000 in
set_option maxRecDepth 100000 in
theorem jl_X8_stays_L9 {Γ : Cx} {E : Ev} {ad : Nat → Nat} (X : XC Γ E rm_X8_stays cX8_stays 8 RX8)   {c1 : Int32} {c2 : Int32} {c3 : Int32} {c4 : Int32} {σ : Sg} {kx : Unit → Option (Int32)} {r : Int32} (Y : XQ Γ E ad (some .int) (some (.int r), σ))  : ∀ n (v7 : Int32) (v6 : Int32) (v5 : Int32), m_X8_stays_L9 c1 c2 c3 c4 σ kx n v7 v6 v5 = some r → J Γ E 8 ad RF 85 σ 0 0 9 [(7, .int v7), (6, .int v6), (5, .int v5), (0, .ref (ad 68)), (1, .int c1), (2, .int c2), (3, .int c3), (4, .int c4)] [] := by
  intro n
  induction n with
  | zero =>
    intro v7 v6 v5 h
    cases h
  | succ n ih =>
    intro v7 v6 v5 h
    rw [m_X8_stays_L9.eq_2] at h
    refine j_iload X 0 rfl dX8_stays_9 ?_
    refine j_bipush X (v := 31) (by decide) dX8_stays_11 ?_
    refine j_icmp_ge X (tgt := 87) (by decide) dX8_stays_13 (fun c => ?_) (fun c => ?_)
    · have h := (if_pos c).symm.trans h
      refine j_iload X 1 rfl dX8_stays_87 ?_
      exact j_iret X Y rfl (ret_pi h) dX8_stays_89
    · have h := (if_neg c).symm.trans h
      refine j_iload X 1 rfl dX8_stays_16 ?_
      refine j_iconst X (v := -1) (by decide) dX8_stays_18 ?_
      refine j_icmp_ne X (tgt := 87) (by decide) dX8_stays_19 (fun c => ?_) (fun c => ?_)
      · have h := (if_neg c).symm.trans h
        refine j_iload X 1 rfl dX8_stays_87 ?_
        exact j_iret X Y rfl (ret_pi h) dX8_stays_89
      · have h := (if_pos c).symm.trans h
        refine j_iload_n X 5 rfl rfl dX8_stays_22 ?_
        refine j_aload_n X 3 rfl rfl dX8_stays_23 ?_
        refine j_getr X cf6 pk_68 pl_68 7 rfl ⟨rfl, rfl⟩ 74 rfl bw_761 dX8_stays_24 ?_
        refine j_bipush X (v := 8) (by decide) dX8_stays_27 ?_
        refine j_iload_n X 4 rfl rfl dX8_stays_29 ?_
        refine j_iadd X dX8_stays_30 ?_
        refine gd_elim h (fun g h => ?_)
        refine j_iald X pk_74 pl_74 g dX8_stays_31 ?_
        refine j_iload X 2 rfl dX8_stays_32 ?_
        refine j_ior X dX8_stays_34 ?_
        refine j_iconst X (v := -1) (by decide) dX8_stays_35 ?_
        refine j_ixor X dX8_stays_36 ?_
        refine j_iand X dX8_stays_37 ?_
        refine bd1_elim h (fun o5 hr h => ?_)
        have hJ4 : J Γ E 8 ad RF 85 σ 0 0 54 [(7, .int v7), (5, .int v5), (0, .ref (ad 68)), (1, .int c1), (2, .int c2), (3, .int c3), (4, .int c4)] [.int o5] := by
          refine j_istore X (L' := [(6, .int o5), (7, .int v7), (5, .int v5), (0, .ref (ad 68)), (1, .int c1), (2, .int c2), (3, .int c3), (4, .int c4)]) rfl (by decide) rfl dX8_stays_54 ?_
          refine j_iload X 2 rfl dX8_stays_56 ?_
          refine j_iload X 1 rfl dX8_stays_58 ?_
          refine j_bipush X (v := 30) (by decide) dX8_stays_60 ?_
          refine bd1_elim h (fun o7 hr h => ?_)
          have hJ6 : J Γ E 8 ad RF 85 σ 0 0 78 [(6, .int o5), (7, .int v7), (0, .ref (ad 68)), (1, .int c1), (2, .int c2), (3, .int c3), (4, .int c4)] [.int o7, .int v5] := by
            refine j_ior X dX8_stays_78 ?_
            refine nm_elim h (fun x8 ex8 h => ?_)
            refine j_istore X (L' := [(5, .int x8), (6, .int o5), (7, .int v7), (0, .ref (ad 68)), (1, .int c1), (2, .int c2), (3, .int c3), (4, .int c4)]) ex8 (by decide) rfl dX8_stays_79 ?_
            refine nm_elim h (fun x9 ex9 h => ?_)
            refine j_iinc1 X (L' := [(7, .int x9), (5, .int x8), (6, .int o5), (0, .ref (ad 68)), (1, .int c1), (2, .int c2), (3, .int c3), (4, .int c4)]) 2 rfl (q := 1) (by decide) ex9 (by decide) rfl dX8_stays_81 ?_
            refine j_goto X (tgt := 9) (by decide) dX8_stays_84 ?_
            exact J.sub [0, 2, 1, 3, 4, 5, 6, 7] rfl (ih x9 o5 x8 h)
          clear h
          refine j_icmp_ge X (tgt := 77) (by decide) dX8_stays_62 (fun c => ?_) (fun c => ?_)
          · have hr := (if_pos c).symm.trans hr
            refine j_iconst X (v := 0) (by decide) dX8_stays_77 ?_
            cases hr
            exact J.sub [0, 1, 3, 4, 5, 6, 7] rfl hJ6
          · have hr := (if_neg c).symm.trans hr
            refine j_aload_n X 3 rfl rfl dX8_stays_65 ?_
            refine j_iload_n X 4 rfl rfl dX8_stays_66 ?_
            refine j_iload X 7 rfl dX8_stays_67 ?_
            refine j_iload X 1 rfl dX8_stays_69 ?_
            refine bd1_elim hr (fun r10 hc11 hr => ?_)
            refine j_callVi X (As := [.int c1, .int c4, .int v7]) (rest := [.int v5]) mf_X8_heardIn bw_964 bw_966 bs_37 ⟨rfl, rfl⟩ ⟨Nat.le_of_ble_eq_true rfl, Nat.le_of_ble_eq_true rfl⟩ cf6 pk_68 pl_68 (c_X8_heardIn Γ.2.1 E ad  hc11) rfl rfl (Nat.le_of_ble_eq_true rfl) dX8_stays_71 ?_
            refine j_goto X (tgt := 78) (by decide) dX8_stays_74 ?_
            cases hr
            exact J.sub [0, 1, 3, 4, 5, 6, 7] rfl hJ6
        clear h
        refine j_if_ne X (tgt := 53) (by decide) dX8_stays_38 (fun c => ?_) (fun c => ?_)
        · have hr := (if_neg c).symm.trans hr
          refine j_iconst X (v := -1) (by decide) dX8_stays_53 ?_
          cases hr
          exact J.sub [0, 2, 3, 4, 5, 6, 7] rfl hJ4
        · have hr := (if_pos c).symm.trans hr
          refine j_iload_n X 6 rfl rfl dX8_stays_41 ?_
          refine j_iload X 2 rfl dX8_stays_42 ?_
          refine j_iand X dX8_stays_44 ?_
          refine j_if_ne X (tgt := 53) (by decide) dX8_stays_45 (fun c => ?_) (fun c => ?_)
          · have hr := (if_neg c).symm.trans hr
            refine j_iconst X (v := -1) (by decide) dX8_stays_53 ?_
            cases hr
            exact J.sub [0, 2, 3, 4, 5, 6, 7] rfl hJ4
          · have hr := (if_pos c).symm.trans hr
            refine j_iload X 0 rfl dX8_stays_48 ?_
            refine j_goto X (tgt := 54) (by decide) dX8_stays_50 ?_
            cases hr
            exact J.sub [0, 2, 3, 4, 5, 6, 7] rfl hJ4
set_option maxHeartbeats 4000000 in
set_option maxRecDepth 100000 in
theorem c_X8_stays (l : Launch) (E : Ev) (ad : Nat → Nat)   {a1 : Int32} {a2 : Int32} {a3 : Int32} {a4 : Int32} {σ : Sg} {r : Int32} (h : m_X8_stays a1 a2 a3 a4 σ = some r) : Met l yX8_stays (wY yX8_stays cX8_stays 8 (some .int)) rm_X8_stays (va_Pc [.ref (ad 68), .int a1, .int a2, .int a3, .int a4] (PreU E ad RF 85 σ)) (QcN E ad (some (.int r), σ)) 0 0 (EA E) := by
  refine met_of (L0 := [(0, .ref (ad 68)), (1, .int a1), (2, .int a2), (3, .int a3), (4, .int a4)]) rfl (Nat.le_of_ble_eq_true rfl) rfl (fun Γ X Y => ?_)
  have X : XC Γ E rm_X8_stays cX8_stays 8 RX8 := X
  unfold m_X8_stays at h
  refine j_iconst X (v := 0) (by decide) dX8_stays_0 ?_
  refine nm_elim h (fun x1 ex1 h => ?_)
  refine j_istore X (L' := [(5, .int x1), (0, .ref (ad 68)), (1, .int a1), (2, .int a2), (3, .int a3), (4, .int a4)]) ex1 (by decide) rfl dX8_stays_1 ?_
  refine j_iconst X (v := -1) (by decide) dX8_stays_3 ?_
  refine nm_elim h (fun x2 ex2 h => ?_)
  refine j_istore X (L' := [(6, .int x2), (5, .int x1), (0, .ref (ad 68)), (1, .int a1), (2, .int a2), (3, .int a3), (4, .int a4)]) ex2 (by decide) rfl dX8_stays_4 ?_
  refine j_iconst X (v := 0) (by decide) dX8_stays_6 ?_
  refine nm_elim h (fun x3 ex3 h => ?_)
  refine j_istore X (L' := [(7, .int x3), (6, .int x2), (5, .int x1), (0, .ref (ad 68)), (1, .int a1), (2, .int a2), (3, .int a3), (4, .int a4)]) ex3 (by decide) rfl dX8_stays_7 ?_
  refine J.sub [0, 1, 2, 3, 4, 5, 6, 7] rfl ?_
  exact jl_X8_stays_L9 X  Y 1000 x3 x2 x1 h

abbrev rm_X8_stay : Room := { frames := 6, cells := 0, slots := 0, locals := 150 }
set_option maxHeartbeats 4000000 in
set_option maxRecDepth 100000 in
theorem jl_X8_stay_L90 {Γ : Cx} {E : Ev} {ad : Nat → Nat} (X : XC Γ E rm_X8_stay cX8_stay 9 RX8)   {c1 : Int32} {c2 : Int32} {c3 : Int32} {σ : Sg} {kx : Unit → Option (Int32 × Sg)} {r : Int32 × Sg} (Y : XQ Γ E ad (some .int) (some (.int r.1), r.2))  : ∀ n (v7 : Int32) (v6 : Int32), m_X8_stay_L90 c1 c2 c3 σ kx n v7 v6 = some r → J Γ E 9 ad RF 85 σ 0 0 90 [(7, .int v7), (6, .int v6), (0, .ref (ad 68)), (1, .int c1), (2, .int c2), (3, .int c3)] [] := by
  intro n
  induction n with
  | zero =>
    intro v7 v6 h
    cases h
  | succ n ih =>
    intro v7 v6 h
    rw [m_X8_stay_L90.eq_2] at h
    refine j_iload X 0 rfl dX8_stay_90 ?_
    refine j_if_lt X (tgt := 149) (by decide) dX8_stay_92 (fun c => ?_) (fun c => ?_)
    · have h := (if_pos c).symm.trans h
      refine j_iload X 1 rfl dX8_stay_149 ?_
      exact j_iret X Y rfl (ret_wi h) dX8_stay_151
    · have h := (if_neg c).symm.trans h
      refine j_aload_n X 2 rfl rfl dX8_stay_95 ?_
      refine j_iload_n X 3 rfl rfl dX8_stay_96 ?_
      refine j_iload_n X 4 rfl rfl dX8_stay_97 ?_
      refine j_iload_n X 5 rfl rfl dX8_stay_98 ?_
      refine j_iload X 0 rfl dX8_stay_99 ?_
      refine bd1_elim h (fun r24 hc25 h => ?_)
      refine j_callVi X (As := [.int c1, .int c2, .int c3, .int v7]) (rest := []) mf_X8_stays bw_1063 bw_1065 bs_47 ⟨rfl, rfl⟩ ⟨Nat.le_of_ble_eq_true rfl, Nat.le_of_ble_eq_true rfl⟩ cf6 pk_68 pl_68 (c_X8_stays Γ.2.1 E ad  hc25) rfl rfl (Nat.le_of_ble_eq_true rfl) dX8_stay_101 ?_
      refine j_istore X (L' := [(8, .int r24), (7, .int v7), (6, .int v6), (0, .ref (ad 68)), (1, .int c1), (2, .int c2), (3, .int c3)]) rfl (by decide) rfl dX8_stay_104 ?_
      refine j_iload X 0 rfl dX8_stay_106 ?_
      refine j_iconst X (v := -1) (by decide) dX8_stay_108 ?_
      refine bd1_elim h (fun o27 hr h => ?_)
      have hJ26 : J Γ E 9 ad RF 85 σ 0 0 141 [(7, .int v7), (0, .ref (ad 68)), (1, .int c1), (2, .int c2), (3, .int c3)] [.int o27] := by
        refine j_istore X (L' := [(6, .int o27), (7, .int v7), (0, .ref (ad 68)), (1, .int c1), (2, .int c2), (3, .int c3)]) rfl (by decide) rfl dX8_stay_141 ?_
        refine nm_elim h (fun x28 ex28 h => ?_)
        refine j_iinc1 X (L' := [(7, .int x28), (6, .int o27), (0, .ref (ad 68)), (1, .int c1), (2, .int c2), (3, .int c3)]) 1 rfl (q := -1) (by decide) ex28 (by decide) rfl dX8_stay_143 ?_
        refine j_goto X (tgt := 90) (by decide) dX8_stay_146 ?_
        exact J.sub [0, 1, 2, 3, 4, 5] rfl (ih x28 o27 h)
      clear h
      refine j_icmp_eq X (tgt := 139) (by decide) dX8_stay_109 (fun c => ?_) (fun c => ?_)
      · have hr := (if_pos c).symm.trans hr
        refine j_iload X 2 rfl dX8_stay_139 ?_
        cases hr
        exact J.sub [1, 3, 4, 5, 6] rfl hJ26
      · have hr := (if_neg c).symm.trans hr
        refine j_iload X 2 rfl dX8_stay_112 ?_
        refine j_iconst X (v := -1) (by decide) dX8_stay_114 ?_
        refine j_icmp_eq X (tgt := 128) (by decide) dX8_stay_115 (fun c => ?_) (fun c => ?_)
        · have hr := (if_pos c).symm.trans hr
          refine j_bipush X (v := 100) (by decide) dX8_stay_128 ?_
          refine j_iload X 0 rfl dX8_stay_130 ?_
          refine j_imul X dX8_stay_132 ?_
          refine j_iload X 1 rfl dX8_stay_133 ?_
          refine j_iadd X dX8_stay_135 ?_
          refine j_goto X (tgt := 141) (by decide) dX8_stay_136 ?_
          cases hr
          exact J.sub [1, 3, 4, 5, 6] rfl hJ26
        · have hr := (if_neg c).symm.trans hr
          refine j_iload X 0 rfl dX8_stay_118 ?_
          refine j_iload X 2 rfl dX8_stay_120 ?_
          refine j_bipush X (v := 100) (by decide) dX8_stay_122 ?_
          refine j_idiv X (by decide) dX8_stay_124 ?_
          refine j_icmp_gt X (tgt := 139) (by decide) dX8_stay_125 (fun c => ?_) (fun c => ?_)
          · have hr := (if_pos c).symm.trans hr
            refine j_iload X 2 rfl dX8_stay_139 ?_
            cases hr
            exact J.sub [1, 3, 4, 5, 6] rfl hJ26
          · have hr := (if_neg c).symm.trans hr
            refine j_bipush X (v := 100) (by decide) dX8_stay_128 ?_
            refine j_iload X 0 rfl dX8_stay_130 ?_
            refine j_imul X dX8_stay_132 ?_
            refine j_iload X 1 rfl dX8_stay_133 ?_
            refine j_iadd X dX8_stay_135 ?_
            refine j_goto X (tgt := 141) (by decide) dX8_stay_136 ?_
            cases hr
            exact J.sub [1, 3, 4, 5, 6] rfl hJ26
set_option maxHeartbeats 4000000 in
set_option maxRecDepth 100000 in
theorem c_X8_stay (l : Launch) (E : Ev) (ad : Nat → Nat)   {a1 : Int32} {a2 : Int32} {a3 : Int32} {a4 : Int32} {σ : Sg} {r : Int32 × Sg} (h : m_X8_stay a1 a2 a3 a4 σ = some r) : Met l yX8_stay (wY yX8_stay cX8_stay 9 (some .int)) rm_X8_stay (va_Pc [.ref (ad 68), .int a1, .int a2, .int a3, .int a4] (PreU E ad RF 85 σ)) (QcN E ad (some (.int r.1), r.2)) 0 0 (EA E) := by
  refine met_of (L0 := [(0, .ref (ad 68)), (1, .int a1), (2, .int a2), (3, .int a3), (4, .int a4)]) rfl (Nat.le_of_ble_eq_true rfl) rfl (fun Γ X Y => ?_)
  have X : XC Γ E rm_X8_stay cX8_stay 9 RX8 := X
  unfold m_X8_stay at h
  refine j_iconst X (v := 1) (by decide) dX8_stay_0 ?_
  refine j_aload_n X 0 rfl rfl dX8_stay_1 ?_
  refine j_geti X cf6 pk_68 pl_68 1 rfl ⟨rfl, rfl⟩ bw_755 dX8_stay_2 ?_
  refine j_ishl X dX8_stay_5 ?_
  refine j_iconst X (v := 1) (by decide) dX8_stay_6 ?_
  refine j_isub X dX8_stay_7 ?_
  refine nm_elim h (fun x1 ex1 h => ?_)
  refine j_istore X (L' := [(5, .int x1), (0, .ref (ad 68)), (1, .int a1), (2, .int a2), (3, .int a3), (4, .int a4)]) ex1 (by decide) rfl dX8_stay_8 ?_
  refine j_aload_n X 1 rfl rfl dX8_stay_10 ?_
  refine j_iload_n X 2 rfl rfl dX8_stay_11 ?_
  refine bd1_elim h (fun r2 hc3 h => ?_)
  refine j_callVi X (As := [.int a1]) (rest := []) mf_X8_isEar bw_1013 bw_1015 bs_44 ⟨rfl, rfl⟩ ⟨Nat.le_of_ble_eq_true rfl, Nat.le_of_ble_eq_true rfl⟩ cf6 pk_68 pl_68 (c_X8_isEar Γ.2.1 E ad  hc3) rfl rfl (Nat.le_of_ble_eq_true rfl) dX8_stay_12 ?_
  refine j_if_eq X (tgt := 63) (by decide) dX8_stay_15 (fun c => ?_) (fun c => ?_)
  · have h := (if_pos c).symm.trans h
    refine j_aload_n X 1 rfl rfl dX8_stay_63 ?_
    refine bd2_elim h (fun r4 σ5 hc6 h => ?_)
    refine j_callVi X (As := []) (rest := []) mf_X8_bad bw_859 bw_861 bs_20 ⟨rfl, rfl⟩ ⟨Nat.le_of_ble_eq_true rfl, Nat.le_of_ble_eq_true rfl⟩ cf6 pk_68 pl_68 (c_X8_bad Γ.2.1 E ad  hc6) rfl rfl (Nat.le_of_ble_eq_true rfl) dX8_stay_64 ?_
    exact j_iret X Y rfl (ret_wi h) dX8_stay_67
  · have h := (if_neg c).symm.trans h
    refine j_iload_n X 3 rfl rfl dX8_stay_18 ?_
    refine j_i2l X dX8_stay_19 ?_
    refine j_lconst X (v := 0) (by decide) dX8_stay_20 ?_
    refine j_iload X 0 rfl dX8_stay_21 ?_
    refine j_i2l X dX8_stay_23 ?_
    refine bd1_elim h (fun r7 hc8 h => ?_)
    refine j_callSi X (As := [.long (Int32.toInt64 a2), .long (0 : Int64), .long (Int32.toInt64 x1)]) (rest := []) mf_X8_in bw_842 bw_843 ⟨rfl, rfl⟩ ⟨Nat.le_of_ble_eq_true rfl, Nat.le_of_ble_eq_true rfl⟩ (c_X8_in Γ.2.1 E ad  hc8) rfl rfl (Nat.le_of_ble_eq_true rfl) dX8_stay_24 ?_
    refine j_if_eq X (tgt := 63) (by decide) dX8_stay_27 (fun c => ?_) (fun c => ?_)
    · have h := (if_pos c).symm.trans h
      refine j_aload_n X 1 rfl rfl dX8_stay_63 ?_
      refine bd2_elim h (fun r9 σ10 hc11 h => ?_)
      refine j_callVi X (As := []) (rest := []) mf_X8_bad bw_859 bw_861 bs_20 ⟨rfl, rfl⟩ ⟨Nat.le_of_ble_eq_true rfl, Nat.le_of_ble_eq_true rfl⟩ cf6 pk_68 pl_68 (c_X8_bad Γ.2.1 E ad  hc11) rfl rfl (Nat.le_of_ble_eq_true rfl) dX8_stay_64 ?_
      exact j_iret X Y rfl (ret_wi h) dX8_stay_67
    · have h := (if_neg c).symm.trans h
      refine j_iload_n X 4 rfl rfl dX8_stay_30 ?_
      refine j_i2l X dX8_stay_31 ?_
      refine j_lconst X (v := 0) (by decide) dX8_stay_32 ?_
      refine j_iload X 0 rfl dX8_stay_33 ?_
      refine j_i2l X dX8_stay_35 ?_
      refine bd1_elim h (fun r12 hc13 h => ?_)
      refine j_callSi X (As := [.long (Int32.toInt64 a3), .long (0 : Int64), .long (Int32.toInt64 x1)]) (rest := []) mf_X8_in bw_842 bw_843 ⟨rfl, rfl⟩ ⟨Nat.le_of_ble_eq_true rfl, Nat.le_of_ble_eq_true rfl⟩ (c_X8_in Γ.2.1 E ad  hc13) rfl rfl (Nat.le_of_ble_eq_true rfl) dX8_stay_36 ?_
      refine j_if_eq X (tgt := 63) (by decide) dX8_stay_39 (fun c => ?_) (fun c => ?_)
      · have h := (if_pos c).symm.trans h
        refine j_aload_n X 1 rfl rfl dX8_stay_63 ?_
        refine bd2_elim h (fun r14 σ15 hc16 h => ?_)
        refine j_callVi X (As := []) (rest := []) mf_X8_bad bw_859 bw_861 bs_20 ⟨rfl, rfl⟩ ⟨Nat.le_of_ble_eq_true rfl, Nat.le_of_ble_eq_true rfl⟩ cf6 pk_68 pl_68 (c_X8_bad Γ.2.1 E ad  hc16) rfl rfl (Nat.le_of_ble_eq_true rfl) dX8_stay_64 ?_
        exact j_iret X Y rfl (ret_wi h) dX8_stay_67
      · have h := (if_neg c).symm.trans h
        refine j_iload_n X 3 rfl rfl dX8_stay_42 ?_
        refine j_iload_n X 4 rfl rfl dX8_stay_43 ?_
        refine j_iand X dX8_stay_44 ?_
        refine j_if_ne X (tgt := 63) (by decide) dX8_stay_45 (fun c => ?_) (fun c => ?_)
        · have h := (if_neg c).symm.trans h
          refine j_aload_n X 1 rfl rfl dX8_stay_63 ?_
          refine bd2_elim h (fun r17 σ18 hc19 h => ?_)
          refine j_callVi X (As := []) (rest := []) mf_X8_bad bw_859 bw_861 bs_20 ⟨rfl, rfl⟩ ⟨Nat.le_of_ble_eq_true rfl, Nat.le_of_ble_eq_true rfl⟩ cf6 pk_68 pl_68 (c_X8_bad Γ.2.1 E ad  hc19) rfl rfl (Nat.le_of_ble_eq_true rfl) dX8_stay_64 ?_
          exact j_iret X Y rfl (ret_wi h) dX8_stay_67
        · have h := (if_pos c).symm.trans h
          refine j_iload X 5 rfl dX8_stay_48 ?_
          refine j_i2l X dX8_stay_50 ?_
          refine j_ldc2 X (v := -1) bw_1062 dX8_stay_51 ?_
          refine j_ldc2 X (v := 3) bw_857 dX8_stay_54 ?_
          refine bd1_elim h (fun r20 hc21 h => ?_)
          refine j_callSi X (As := [.long (Int32.toInt64 a4), .long (-1 : Int64), .long (3 : Int64)]) (rest := []) mf_X8_in bw_842 bw_843 ⟨rfl, rfl⟩ ⟨Nat.le_of_ble_eq_true rfl, Nat.le_of_ble_eq_true rfl⟩ (c_X8_in Γ.2.1 E ad  hc21) rfl rfl (Nat.le_of_ble_eq_true rfl) dX8_stay_57 ?_
          refine j_if_ne X (tgt := 68) (by decide) dX8_stay_60 (fun c => ?_) (fun c => ?_)
          · have h := (if_neg c).symm.trans h
            refine j_iload X 5 rfl dX8_stay_68 ?_
            refine j_iconst X (v := -1) (by decide) dX8_stay_70 ?_
            refine j_icmp_eq X (tgt := 84) (by decide) dX8_stay_71 (fun c => ?_) (fun c => ?_)
            · have h := (if_pos c).symm.trans h
              refine j_iconst X (v := -1) (by decide) dX8_stay_84 ?_
              refine nm_elim h (fun x22 ex22 h => ?_)
              refine j_istore X (L' := [(6, .int x22), (5, .int x1), (0, .ref (ad 68)), (1, .int a1), (2, .int a2), (3, .int a3), (4, .int a4)]) ex22 (by decide) rfl dX8_stay_85 ?_
              refine j_iconst X (v := 3) (by decide) dX8_stay_87 ?_
              refine nm_elim h (fun x23 ex23 h => ?_)
              refine j_istore X (L' := [(7, .int x23), (6, .int x22), (5, .int x1), (0, .ref (ad 68)), (1, .int a1), (2, .int a2), (3, .int a3), (4, .int a4)]) ex23 (by decide) rfl dX8_stay_88 ?_
              refine J.sub [0, 1, 3, 4, 5, 6] rfl ?_
              exact jl_X8_stay_L90 X  Y 1000 x23 x22 h
            · have h := (if_neg c).symm.trans h
              refine j_aload_n X 1 rfl rfl dX8_stay_74 ?_
              refine j_iload_n X 2 rfl rfl dX8_stay_75 ?_
              refine j_iload_n X 3 rfl rfl dX8_stay_76 ?_
              refine j_iload_n X 4 rfl rfl dX8_stay_77 ?_
              refine j_iload X 5 rfl dX8_stay_78 ?_
              refine bd1_elim h (fun r29 hc30 h => ?_)
              refine j_callVi X (As := [.int a1, .int a2, .int a3, .int a4]) (rest := []) mf_X8_stays bw_1063 bw_1065 bs_47 ⟨rfl, rfl⟩ ⟨Nat.le_of_ble_eq_true rfl, Nat.le_of_ble_eq_true rfl⟩ cf6 pk_68 pl_68 (c_X8_stays Γ.2.1 E ad  hc30) rfl rfl (Nat.le_of_ble_eq_true rfl) dX8_stay_80 ?_
              exact j_iret X Y rfl (ret_wi h) dX8_stay_83
          · have h := (if_pos c).symm.trans h
            refine j_aload_n X 1 rfl rfl dX8_stay_63 ?_
            refine bd2_elim h (fun r31 σ32 hc33 h => ?_)
            refine j_callVi X (As := []) (rest := []) mf_X8_bad bw_859 bw_861 bs_20 ⟨rfl, rfl⟩ ⟨Nat.le_of_ble_eq_true rfl, Nat.le_of_ble_eq_true rfl⟩ cf6 pk_68 pl_68 (c_X8_bad Γ.2.1 E ad  hc33) rfl rfl (Nat.le_of_ble_eq_true rfl) dX8_stay_64 ?_
            exact j_iret X Y rfl (ret_wi h) dX8_stay_67

abbrev rm_X8_heardBehind : Room := { frames := 5, cells := 0, slots := 0, locals := 123 }
set_option maxHeartbeats 4000000 in
set_option maxRecDepth 100000 in
theorem jl_X8_heardBehind_L14 {Γ : Cx} {E : Ev} {ad : Nat → Nat} (X : XC Γ E rm_X8_heardBehind cX8_heardBehind 6 RX8)   {c1 : Int32} {c2 : Int32} {c3 : Int32} {σ : Sg} {kx : Unit → Option (Int32)} {r : Int32} (Y : XQ Γ E ad (some .int) (some (.int r), σ))  : ∀ n (v5 : Int32) (v4 : Int32), m_X8_heardBehind_L14 c1 c2 c3 σ kx n v5 v4 = some r → J Γ E 6 ad RF 85 σ 0 0 14 [(5, .int v5), (4, .int v4), (0, .ref (ad 68)), (1, .int c1), (2, .int c2), (3, .int c3)] [] := by
  intro n
  induction n with
  | zero =>
    intro v5 v4 h
    cases h
  | succ n ih =>
    intro v5 v4 h
    rw [m_X8_heardBehind_L14.eq_2] at h
    refine j_iload X 0 rfl dX8_heardBehind_14 ?_
    refine j_iload_n X 5 rfl rfl dX8_heardBehind_16 ?_
    refine j_icmp_ge X (tgt := 39) (by decide) dX8_heardBehind_17 (fun c => ?_) (fun c => ?_)
    · have h := (if_pos c).symm.trans h
      refine j_iload X 1 rfl dX8_heardBehind_39 ?_
      exact j_iret X Y rfl (ret_pi h) dX8_heardBehind_41
    · have h := (if_neg c).symm.trans h
      refine j_iload X 1 rfl dX8_heardBehind_20 ?_
      refine j_aload_n X 2 rfl rfl dX8_heardBehind_22 ?_
      refine j_iload_n X 3 rfl rfl dX8_heardBehind_23 ?_
      refine j_iload_n X 4 rfl rfl dX8_heardBehind_24 ?_
      refine j_iload X 0 rfl dX8_heardBehind_25 ?_
      refine bd1_elim h (fun r3 hc4 h => ?_)
      refine j_callVi X (As := [.int c1, .int c2, .int v5]) (rest := [.int v4]) mf_X8_heardIn bw_964 bw_966 bs_37 ⟨rfl, rfl⟩ ⟨Nat.le_of_ble_eq_true rfl, Nat.le_of_ble_eq_true rfl⟩ cf6 pk_68 pl_68 (c_X8_heardIn Γ.2.1 E ad  hc4) rfl rfl (Nat.le_of_ble_eq_true rfl) dX8_heardBehind_27 ?_
      refine j_ior X dX8_heardBehind_30 ?_
      refine nm_elim h (fun x5 ex5 h => ?_)
      refine j_istore X (L' := [(4, .int x5), (5, .int v5), (0, .ref (ad 68)), (1, .int c1), (2, .int c2), (3, .int c3)]) ex5 (by decide) rfl dX8_heardBehind_31 ?_
      refine nm_elim h (fun x6 ex6 h => ?_)
      refine j_iinc1 X (L' := [(5, .int x6), (4, .int x5), (0, .ref (ad 68)), (1, .int c1), (2, .int c2), (3, .int c3)]) 1 rfl (q := 1) (by decide) ex6 (by decide) rfl dX8_heardBehind_33 ?_
      refine j_goto X (tgt := 14) (by decide) dX8_heardBehind_36 ?_
      exact J.sub [0, 1, 2, 3, 4, 5] rfl (ih x6 x5 h)
set_option maxHeartbeats 4000000 in
set_option maxRecDepth 100000 in
theorem c_X8_heardBehind (l : Launch) (E : Ev) (ad : Nat → Nat)   {a1 : Int32} {a2 : Int32} {a3 : Int32} {σ : Sg} {r : Int32} (h : m_X8_heardBehind a1 a2 a3 σ = some r) : Met l yX8_heardBehind (wY yX8_heardBehind cX8_heardBehind 6 (some .int)) rm_X8_heardBehind (va_Pc [.ref (ad 68), .int a1, .int a2, .int a3] (PreU E ad RF 85 σ)) (QcN E ad (some (.int r), σ)) 0 0 (EA E) := by
  refine met_of (L0 := [(0, .ref (ad 68)), (1, .int a1), (2, .int a2), (3, .int a3)]) rfl (Nat.le_of_ble_eq_true rfl) rfl (fun Γ X Y => ?_)
  have X : XC Γ E rm_X8_heardBehind cX8_heardBehind 6 RX8 := X
  unfold m_X8_heardBehind at h
  refine j_aload_n X 0 rfl rfl dX8_heardBehind_0 ?_
  refine j_getr X cf6 pk_68 pl_68 7 rfl ⟨rfl, rfl⟩ 74 rfl bw_761 dX8_heardBehind_1 ?_
  refine j_bipush X (v := 8) (by decide) dX8_heardBehind_4 ?_
  refine j_iload_n X 1 rfl rfl dX8_heardBehind_6 ?_
  refine j_iadd X dX8_heardBehind_7 ?_
  refine gd_elim h (fun g h => ?_)
  refine j_iald X pk_74 pl_74 g dX8_heardBehind_8 ?_
  refine nm_elim h (fun x1 ex1 h => ?_)
  refine j_istore X (L' := [(4, .int x1), (0, .ref (ad 68)), (1, .int a1), (2, .int a2), (3, .int a3)]) ex1 (by decide) rfl dX8_heardBehind_9 ?_
  refine j_iconst X (v := 0) (by decide) dX8_heardBehind_11 ?_
  refine nm_elim h (fun x2 ex2 h => ?_)
  refine j_istore X (L' := [(5, .int x2), (4, .int x1), (0, .ref (ad 68)), (1, .int a1), (2, .int a2), (3, .int a3)]) ex2 (by decide) rfl dX8_heardBehind_12 ?_
  refine J.sub [0, 1, 2, 3, 4, 5] rfl ?_
  exact jl_X8_heardBehind_L14 X  Y 1000 x2 x1 h

abbrev rm_X8_stand : Room := { frames := 6, cells := 0, slots := 0, locals := 148 }
set_option maxHeartbeats 4000000 in
set_option maxRecDepth 100000 in
theorem jl_X8_stand_L48 {β : Type} {Γ : Cx} {E : Ev} {ad : Nat → Nat} (X : XC Γ E rm_X8_stand cX8_stand 7 RX8)   {c1 : Int32} {c2 : Int32} {σ : Sg} {kx : Int32 → Int32 → Option (β)} {r : β}  (hkx : ∀ (v4 : Int32) (v3 : Int32), kx v4 v3 = some r → J Γ E 7 ad RF 85 σ 0 0 127 [(4, .int v4), (3, .int v3), (2, .int c2)] []) : ∀ n (v5 : Int32) (v4 : Int32) (v3 : Int32), m_X8_stand_L48 c1 c2 σ kx n v5 v4 v3 = some r → J Γ E 7 ad RF 85 σ 0 0 48 [(5, .int v5), (4, .int v4), (3, .int v3), (0, .ref (ad 68)), (1, .int c1), (2, .int c2)] [] := by
  intro n
  induction n with
  | zero =>
    intro v5 v4 v3 h
    cases h
  | succ n ih =>
    intro v5 v4 v3 h
    rw [m_X8_stand_L48.eq_2] at h
    refine j_iload X 0 rfl dX8_stand_48 ?_
    refine j_bipush X (v := 16) (by decide) dX8_stand_50 ?_
    refine j_icmp_ge X (tgt := 127) (by decide) dX8_stand_52 (fun c => ?_) (fun c => ?_)
    · have h := (if_pos c).symm.trans h
      exact J.sub [1, 2, 5] rfl (hkx v4 v3 h)
    · have h := (if_neg c).symm.trans h
      refine j_aload_n X 3 rfl rfl dX8_stand_55 ?_
      refine j_iconst X (v := 0) (by decide) dX8_stand_56 ?_
      refine j_iload X 0 rfl dX8_stand_57 ?_
      refine j_iconst X (v := 4) (by decide) dX8_stand_59 ?_
      refine j_idiv X (by decide) dX8_stand_60 ?_
      refine j_iload_n X 4 rfl rfl dX8_stand_61 ?_
      refine bd1_elim h (fun r11 hc12 h => ?_)
      refine j_callVi X (As := [.int (0 : Int32), .int (v5 / (4 : Int32)), .int c1]) (rest := []) mf_X8_heardBehind bw_1072 bw_1074 bs_48 ⟨rfl, rfl⟩ ⟨Nat.le_of_ble_eq_true rfl, Nat.le_of_ble_eq_true rfl⟩ cf6 pk_68 pl_68 (c_X8_heardBehind Γ.2.1 E ad  hc12) rfl rfl (Nat.le_of_ble_eq_true rfl) dX8_stand_62 ?_
      refine j_aload_n X 3 rfl rfl dX8_stand_65 ?_
      refine j_iconst X (v := 1) (by decide) dX8_stand_66 ?_
      refine j_iload X 0 rfl dX8_stand_67 ?_
      refine j_iconst X (v := 4) (by decide) dX8_stand_69 ?_
      refine j_irem X (by decide) dX8_stand_70 ?_
      refine j_iload_n X 4 rfl rfl dX8_stand_71 ?_
      refine bd1_elim h (fun r13 hc14 h => ?_)
      refine j_callVi X (As := [.int (1 : Int32), .int (v5 - v5 / (4 : Int32) * (4 : Int32)), .int c1]) (rest := [.int r11]) mf_X8_heardBehind bw_1072 bw_1074 bs_48 ⟨rfl, rfl⟩ ⟨Nat.le_of_ble_eq_true rfl, Nat.le_of_ble_eq_true rfl⟩ cf6 pk_68 pl_68 (c_X8_heardBehind Γ.2.1 E ad  hc14) rfl rfl (Nat.le_of_ble_eq_true rfl) dX8_stand_72 ?_
      refine j_ior X dX8_stand_75 ?_
      refine bd1_elim h (fun r15 hc16 h => ?_)
      refine j_callSi X (As := [.int (r11 ||| r13)]) (rest := []) mf_X8_many bw_1026 bw_1027 ⟨rfl, rfl⟩ ⟨Nat.le_of_ble_eq_true rfl, Nat.le_of_ble_eq_true rfl⟩ (c_X8_many Γ.2.1 E ad  hc16) rfl rfl (Nat.le_of_ble_eq_true rfl) dX8_stand_76 ?_
      refine j_istore X (L' := [(6, .int r15), (5, .int v5), (4, .int v4), (3, .int v3), (0, .ref (ad 68)), (1, .int c1), (2, .int c2)]) rfl (by decide) rfl dX8_stand_79 ?_
      refine j_iload X 0 rfl dX8_stand_81 ?_
      refine j_iload X 2 rfl dX8_stand_83 ?_
      refine bd1_elim h (fun o18 hr h => ?_)
      have hJ17 : J Γ E 7 ad RF 85 σ 0 0 104 [(6, .int r15), (5, .int v5), (4, .int v4), (0, .ref (ad 68)), (1, .int c1), (2, .int c2)] [.int o18] := by
        refine j_istore_n X (L' := [(3, .int o18), (6, .int r15), (5, .int v5), (4, .int v4), (0, .ref (ad 68)), (1, .int c1), (2, .int c2)]) rfl rfl (by decide) rfl dX8_stand_104 ?_
        refine j_iload X 1 rfl dX8_stand_105 ?_
        refine j_iload X 3 rfl dX8_stand_107 ?_
        refine bd1_elim h (fun o20 hr h => ?_)
        have hJ19 : J Γ E 7 ad RF 85 σ 0 0 119 [(3, .int o18), (5, .int v5), (0, .ref (ad 68)), (1, .int c1), (2, .int c2)] [.int o20] := by
          refine j_istore X (L' := [(4, .int o20), (3, .int o18), (5, .int v5), (0, .ref (ad 68)), (1, .int c1), (2, .int c2)]) rfl (by decide) rfl dX8_stand_119 ?_
          refine nm_elim h (fun x21 ex21 h => ?_)
          refine j_iinc1 X (L' := [(5, .int x21), (4, .int o20), (3, .int o18), (0, .ref (ad 68)), (1, .int c1), (2, .int c2)]) 2 rfl (q := 1) (by decide) ex21 (by decide) rfl dX8_stand_121 ?_
          refine j_goto X (tgt := 48) (by decide) dX8_stand_124 ?_
          exact J.sub [0, 1, 2, 3, 4, 5] rfl (ih x21 o20 o18 h)
        clear h
        refine j_icmp_le X (tgt := 117) (by decide) dX8_stand_109 (fun c => ?_) (fun c => ?_)
        · have hr := (if_pos c).symm.trans hr
          refine j_iload X 3 rfl dX8_stand_117 ?_
          cases hr
          exact J.sub [0, 2, 4, 5, 6] rfl hJ19
        · have hr := (if_neg c).symm.trans hr
          refine j_iload X 1 rfl dX8_stand_112 ?_
          refine j_goto X (tgt := 119) (by decide) dX8_stand_114 ?_
          cases hr
          exact J.sub [0, 2, 4, 5, 6] rfl hJ19
      clear h
      refine j_icmp_le X (tgt := 103) (by decide) dX8_stand_85 (fun c => ?_) (fun c => ?_)
      · have hr := (if_pos c).symm.trans hr
        refine j_iload_n X 3 rfl rfl dX8_stand_103 ?_
        cases hr
        exact J.sub [0, 1, 2, 4, 5, 6] rfl hJ17
      · have hr := (if_neg c).symm.trans hr
        refine j_bipush X (v := 10) (by decide) dX8_stand_88 ?_
        refine j_iload X 1 rfl dX8_stand_90 ?_
        refine j_iconst X (v := 4) (by decide) dX8_stand_92 ?_
        refine j_idiv X (by decide) dX8_stand_93 ?_
        refine j_imul X dX8_stand_94 ?_
        refine j_iload X 1 rfl dX8_stand_95 ?_
        refine j_iconst X (v := 4) (by decide) dX8_stand_97 ?_
        refine j_irem X (by decide) dX8_stand_98 ?_
        refine j_iadd X dX8_stand_99 ?_
        refine j_goto X (tgt := 104) (by decide) dX8_stand_100 ?_
        cases hr
        exact J.sub [0, 1, 2, 4, 5, 6] rfl hJ17
set_option maxHeartbeats 4000000 in
set_option maxRecDepth 100000 in
theorem c_X8_stand (l : Launch) (E : Ev) (ad : Nat → Nat)   {a1 : Int32} {a2 : Int32} {σ : Sg} {r : Int32 × Sg} (h : m_X8_stand a1 a2 σ = some r) : Met l yX8_stand (wY yX8_stand cX8_stand 7 (some .int)) rm_X8_stand (va_Pc [.ref (ad 68), .int a1, .int a2] (PreU E ad RF 85 σ)) (QcN E ad (some (.int r.1), r.2)) 0 0 (EA E) := by
  refine met_of (L0 := [(0, .ref (ad 68)), (1, .int a1), (2, .int a2)]) rfl (Nat.le_of_ble_eq_true rfl) rfl (fun Γ X Y => ?_)
  have X : XC Γ E rm_X8_stand cX8_stand 7 RX8 := X
  unfold m_X8_stand at h
  refine j_iload_n X 1 rfl rfl dX8_stand_0 ?_
  refine j_i2l X dX8_stand_1 ?_
  refine j_lconst X (v := 1) (by decide) dX8_stand_2 ?_
  refine j_ldc2 X (v := 30) bw_1071 dX8_stand_3 ?_
  refine bd1_elim h (fun r1 hc2 h => ?_)
  refine j_callSi X (As := [.long (Int32.toInt64 a1), .long (1 : Int64), .long (30 : Int64)]) (rest := []) mf_X8_in bw_842 bw_843 ⟨rfl, rfl⟩ ⟨Nat.le_of_ble_eq_true rfl, Nat.le_of_ble_eq_true rfl⟩ (c_X8_in Γ.2.1 E ad  hc2) rfl rfl (Nat.le_of_ble_eq_true rfl) dX8_stand_6 ?_
  refine j_if_eq X (tgt := 22) (by decide) dX8_stand_9 (fun c => ?_) (fun c => ?_)
  · have h := (if_pos c).symm.trans h
    refine j_aload_n X 0 rfl rfl dX8_stand_22 ?_
    refine bd2_elim h (fun r3 σ4 hc5 h => ?_)
    refine j_callVi X (As := []) (rest := []) mf_X8_bad bw_859 bw_861 bs_20 ⟨rfl, rfl⟩ ⟨Nat.le_of_ble_eq_true rfl, Nat.le_of_ble_eq_true rfl⟩ cf6 pk_68 pl_68 (c_X8_bad Γ.2.1 E ad  hc5) rfl rfl (Nat.le_of_ble_eq_true rfl) dX8_stand_23 ?_
    exact j_iret X Y rfl (ret_wi h) dX8_stand_26
  · have h := (if_neg c).symm.trans h
    refine j_iload_n X 2 rfl rfl dX8_stand_12 ?_
    refine j_i2l X dX8_stand_13 ?_
    refine j_lconst X (v := 0) (by decide) dX8_stand_14 ?_
    refine j_lconst X (v := 1) (by decide) dX8_stand_15 ?_
    refine bd1_elim h (fun r6 hc7 h => ?_)
    refine j_callSi X (As := [.long (Int32.toInt64 a2), .long (0 : Int64), .long (1 : Int64)]) (rest := []) mf_X8_in bw_842 bw_843 ⟨rfl, rfl⟩ ⟨Nat.le_of_ble_eq_true rfl, Nat.le_of_ble_eq_true rfl⟩ (c_X8_in Γ.2.1 E ad  hc7) rfl rfl (Nat.le_of_ble_eq_true rfl) dX8_stand_16 ?_
    refine j_if_ne X (tgt := 27) (by decide) dX8_stand_19 (fun c => ?_) (fun c => ?_)
    · have h := (if_neg c).symm.trans h
      refine j_aload_n X 0 rfl rfl dX8_stand_27 ?_
      refine j_geti X cf6 pk_68 pl_68 5 rfl ⟨rfl, rfl⟩ bw_759 dX8_stand_28 ?_
      refine j_iconst X (v := 2) (by decide) dX8_stand_31 ?_
      refine j_icmp_ge X (tgt := 40) (by decide) dX8_stand_32 (fun c => ?_) (fun c => ?_)
      · have h := (if_pos c).symm.trans h
        refine j_iconst X (v := 0) (by decide) dX8_stand_40 ?_
        refine nm_elim h (fun x8 ex8 h => ?_)
        refine j_istore_n X (L' := [(3, .int x8), (0, .ref (ad 68)), (1, .int a1), (2, .int a2)]) ex8 rfl (by decide) rfl dX8_stand_41 ?_
        refine j_iconst X (v := -1) (by decide) dX8_stand_42 ?_
        refine nm_elim h (fun x9 ex9 h => ?_)
        refine j_istore X (L' := [(4, .int x9), (3, .int x8), (0, .ref (ad 68)), (1, .int a1), (2, .int a2)]) ex9 (by decide) rfl dX8_stand_43 ?_
        refine j_iconst X (v := 0) (by decide) dX8_stand_45 ?_
        refine nm_elim h (fun x10 ex10 h => ?_)
        refine j_istore X (L' := [(5, .int x10), (4, .int x9), (3, .int x8), (0, .ref (ad 68)), (1, .int a1), (2, .int a2)]) ex10 (by decide) rfl dX8_stand_46 ?_
        refine J.sub [0, 1, 2, 3, 4, 5] rfl ?_
        refine jl_X8_stand_L48 X  (fun x22 x23 h => ?_) 1000 x10 x9 x8 h
        refine j_iload_n X 2 rfl rfl dX8_stand_127 ?_
        refine j_if_ne X (tgt := 136) (by decide) dX8_stand_128 (fun c => ?_) (fun c => ?_)
        · have h := (if_neg c).symm.trans h
          refine j_iload_n X 1 rfl rfl dX8_stand_136 ?_
          exact j_iret X Y rfl (ret_wi h) dX8_stand_137
        · have h := (if_pos c).symm.trans h
          refine j_iload X 0 rfl dX8_stand_131 ?_
          refine j_goto X (tgt := 137) (by decide) dX8_stand_133 ?_
          exact j_iret X Y rfl (ret_wi h) dX8_stand_137
      · have h := (if_neg c).symm.trans h
        refine j_aload_n X 0 rfl rfl dX8_stand_35 ?_
        refine bd2_elim h (fun r24 σ25 hc26 h => ?_)
        refine j_callVi X (As := []) (rest := []) mf_X8_no bw_1005 bw_1007 bs_43 ⟨rfl, rfl⟩ ⟨Nat.le_of_ble_eq_true rfl, Nat.le_of_ble_eq_true rfl⟩ cf6 pk_68 pl_68 (c_X8_no Γ.2.1 E ad  hc26) rfl rfl (Nat.le_of_ble_eq_true rfl) dX8_stand_36 ?_
        exact j_iret X Y rfl (ret_wi h) dX8_stand_39
    · have h := (if_pos c).symm.trans h
      refine j_aload_n X 0 rfl rfl dX8_stand_22 ?_
      refine bd2_elim h (fun r27 σ28 hc29 h => ?_)
      refine j_callVi X (As := []) (rest := []) mf_X8_bad bw_859 bw_861 bs_20 ⟨rfl, rfl⟩ ⟨Nat.le_of_ble_eq_true rfl, Nat.le_of_ble_eq_true rfl⟩ cf6 pk_68 pl_68 (c_X8_bad Γ.2.1 E ad  hc29) rfl rfl (Nat.le_of_ble_eq_true rfl) dX8_stand_23 ?_
      exact j_iret X Y rfl (ret_wi h) dX8_stand_26
