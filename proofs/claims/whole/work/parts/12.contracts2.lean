/-! ===== CONTRACTS: printed by wip/gen ===== -/
abbrev rm_X7_undo : Room := { frames := 2, cells := 0, slots := 0, locals := 46 }
set_option maxHeartbeats 4000000 in
set_option maxRecDepth 100000 in
theorem c_X7_undo (l : Launch) (E : Ev) (ad : Nat → Nat)    {σ : Sg} {r : Int32 × Sg} (h : m_X7_undo  σ = some r) : Met l yX7_undo (wY yX7_undo cX7_undo 1 (some .int)) rm_X7_undo (va_Pc [.ref (ad 0)] (PreU E ad RF 85 σ)) (QcN E ad (some (.int r.1), r.2)) 0 0 (EA E) := by
  refine met_of (L0 := [(0, .ref (ad 0))]) rfl (Nat.le_of_ble_eq_true rfl) rfl (fun Γ X Y => ?_)
  have X : XC Γ E rm_X7_undo cX7_undo 1 RX7 := X
  unfold m_X7_undo at h
  refine j_aload_n X 0 rfl rfl dX7_undo_0 ?_
  refine j_getr X cf5 pk_0 pl_0 0 rfl ⟨rfl, rfl⟩ 1 rfl bw_157 dX7_undo_1 ?_
  refine j_getr X cf1 pk_1 pl_1 7 rfl ⟨rfl, rfl⟩ (1 + 13) (RF_H7 pl_1) bw_81 dX7_undo_4 ?_
  refine j_geti X cf4 (lay_lt (lay_H7 pl_1) (by decide)) (lay_H7 pl_1) 3 rfl ⟨rfl, rfl⟩ bw_43 dX7_undo_7 ?_
  refine j_if_ne X (tgt := 18) (by decide) dX7_undo_10 (fun c => ?_) (fun c => ?_)
  · have h := (if_neg c).symm.trans h
    refine j_aload_n X 0 rfl rfl dX7_undo_18 ?_
    refine j_getr X cf5 pk_0 pl_0 0 rfl ⟨rfl, rfl⟩ 1 rfl bw_157 dX7_undo_19 ?_
    refine bd1_elim h (fun σ1 hc2 h => ?_)
    refine j_callVv X (As := []) (rest := []) mf_X2_recall bw_491 bw_492 bs_552 ⟨rfl, rfl⟩ ⟨Nat.le_of_ble_eq_true rfl, Nat.le_of_ble_eq_true rfl⟩ cf1 pk_1 pl_1 (c_X2_recall Γ.2.1 E ad pl_1 hc2) rfl rfl (Nat.le_of_ble_eq_true rfl) dX7_undo_22 ?_
    refine j_aload_n X 0 rfl rfl dX7_undo_25 ?_
    refine j_getr X cf5 pk_0 pl_0 0 rfl ⟨rfl, rfl⟩ 1 rfl bw_157 dX7_undo_26 ?_
    refine j_geti X cf1 pk_1 pl_1 0 rfl ⟨rfl, rfl⟩ bw_59 dX7_undo_29 ?_
    exact j_iret X Y rfl (ret_wi h) dX7_undo_32
  · have h := (if_pos c).symm.trans h
    refine j_aload_n X 0 rfl rfl dX7_undo_13 ?_
    refine bd2_elim h (fun r3 σ4 hc5 h => ?_)
    refine j_callVi X (As := []) (rest := []) mf_X7_refuseNo bw_457 bw_459 bs_10 ⟨rfl, rfl⟩ ⟨Nat.le_of_ble_eq_true rfl, Nat.le_of_ble_eq_true rfl⟩ cf5 pk_0 pl_0 (c_X7_refuseNo Γ.2.1 E ad  hc5) rfl rfl (Nat.le_of_ble_eq_true rfl) dX7_undo_14 ?_
    exact j_iret X Y rfl (ret_wi h) dX7_undo_17

abbrev rm_X7_isSaying : Room := { frames := 0, cells := 0, slots := 0, locals := 0 }
set_option maxHeartbeats 4000000 in
set_option maxRecDepth 100000 in
theorem c_X7_isSaying (l : Launch) (E : Ev) (ad : Nat → Nat)   {a1 : Int32} {σ : Sg} {r : Int32} (h : m_X7_isSaying a1 σ = some r) : Met l yX7_isSaying (wY yX7_isSaying cX7_isSaying 2 (some .boolean)) rm_X7_isSaying (va_Pc [.ref (ad 0), .int a1] (PreU E ad RF 85 σ)) (QcN E ad (some (.int r), σ)) 0 0 (EA E) := by
  refine met_of (L0 := [(0, .ref (ad 0)), (1, .int a1)]) rfl (Nat.le_of_ble_eq_true rfl) rfl (fun Γ X Y => ?_)
  have X : XC Γ E rm_X7_isSaying cX7_isSaying 2 RX7 := X
  unfold m_X7_isSaying at h
  refine j_iload_n X 1 rfl rfl dX7_isSaying_0 ?_
  refine j_if_lt X (tgt := 22) (by decide) dX7_isSaying_1 (fun c => ?_) (fun c => ?_)
  · have h := (if_pos c).symm.trans h
    refine j_iconst X (v := 0) (by decide) dX7_isSaying_22 ?_
    exact j_iret X Y rfl (ret_pi h) dX7_isSaying_23
  · have h := (if_neg c).symm.trans h
    refine j_iload_n X 1 rfl rfl dX7_isSaying_4 ?_
    refine j_aload_n X 0 rfl rfl dX7_isSaying_5 ?_
    refine j_getr X cf5 pk_0 pl_0 0 rfl ⟨rfl, rfl⟩ 1 rfl bw_157 dX7_isSaying_6 ?_
    refine j_getr X cf1 pk_1 pl_1 1 rfl ⟨rfl, rfl⟩ (1 + 1) (RF_H1 pl_1) bw_61 dX7_isSaying_9 ?_
    refine j_geti X cf4 (lay_lt (lay_H1 pl_1) (by decide)) (lay_H1 pl_1) 3 rfl ⟨rfl, rfl⟩ bw_43 dX7_isSaying_12 ?_
    refine j_icmp_ge X (tgt := 22) (by decide) dX7_isSaying_15 (fun c => ?_) (fun c => ?_)
    · have h := (if_pos c).symm.trans h
      refine j_iconst X (v := 0) (by decide) dX7_isSaying_22 ?_
      exact j_iret X Y rfl (ret_pi h) dX7_isSaying_23
    · have h := (if_neg c).symm.trans h
      refine j_iconst X (v := 1) (by decide) dX7_isSaying_18 ?_
      refine j_goto X (tgt := 23) (by decide) dX7_isSaying_19 ?_
      exact j_iret X Y rfl (ret_pi h) dX7_isSaying_23

abbrev rm_X7_of : Room := { frames := 1, cells := 0, slots := 0, locals := 23 }
set_option maxHeartbeats 4000000 in
set_option maxRecDepth 100000 in
theorem c_X7_of (l : Launch) (E : Ev) (ad : Nat → Nat)   {a1 : Int32} {a2 : Int32} {σ : Sg} {r : Int32 × Sg} (h : m_X7_of a1 a2 σ = some r) : Met l yX7_of (wY yX7_of cX7_of 3 (some .int)) rm_X7_of (va_Pc [.ref (ad 0), .int a1, .int a2] (PreU E ad RF 85 σ)) (QcN E ad (some (.int r.1), r.2)) 0 0 (EA E) := by
  refine met_of (L0 := [(0, .ref (ad 0)), (1, .int a1), (2, .int a2)]) rfl (Nat.le_of_ble_eq_true rfl) rfl (fun Γ X Y => ?_)
  have X : XC Γ E rm_X7_of cX7_of 3 RX7 := X
  unfold m_X7_of at h
  refine j_aload_n X 0 rfl rfl dX7_of_0 ?_
  refine j_iload_n X 1 rfl rfl dX7_of_1 ?_
  refine bd1_elim h (fun r1 hc2 h => ?_)
  refine j_callVi X (As := [.int a1]) (rest := []) mf_X7_isSaying bw_499 bw_501 bs_12 ⟨rfl, rfl⟩ ⟨Nat.le_of_ble_eq_true rfl, Nat.le_of_ble_eq_true rfl⟩ cf5 pk_0 pl_0 (c_X7_isSaying Γ.2.1 E ad  hc2) rfl rfl (Nat.le_of_ble_eq_true rfl) dX7_of_2 ?_
  refine j_if_eq X (tgt := 17) (by decide) dX7_of_5 (fun c => ?_) (fun c => ?_)
  · have h := (if_pos c).symm.trans h
    refine j_aload_n X 0 rfl rfl dX7_of_17 ?_
    refine bd2_elim h (fun r3 σ4 hc5 h => ?_)
    refine j_callVi X (As := []) (rest := []) mf_X7_refuseBad bw_227 bw_229 bs_0 ⟨rfl, rfl⟩ ⟨Nat.le_of_ble_eq_true rfl, Nat.le_of_ble_eq_true rfl⟩ cf5 pk_0 pl_0 (c_X7_refuseBad Γ.2.1 E ad  hc5) rfl rfl (Nat.le_of_ble_eq_true rfl) dX7_of_18 ?_
    exact j_iret X Y rfl (ret_wi h) dX7_of_21
  · have h := (if_neg c).symm.trans h
    refine j_iload_n X 2 rfl rfl dX7_of_8 ?_
    refine j_iconst X (v := 0) (by decide) dX7_of_9 ?_
    refine j_iconst X (v := 2) (by decide) dX7_of_10 ?_
    refine bd1_elim h (fun r6 hc7 h => ?_)
    refine j_callSi X (As := [.int a2, .int (0 : Int32), .int (2 : Int32)]) (rest := []) mf_X7_within bw_224 bw_225 ⟨rfl, rfl⟩ ⟨Nat.le_of_ble_eq_true rfl, Nat.le_of_ble_eq_true rfl⟩ (c_X7_within Γ.2.1 E ad  hc7) rfl rfl (Nat.le_of_ble_eq_true rfl) dX7_of_11 ?_
    refine j_if_ne X (tgt := 22) (by decide) dX7_of_14 (fun c => ?_) (fun c => ?_)
    · have h := (if_neg c).symm.trans h
      refine j_aload_n X 0 rfl rfl dX7_of_22 ?_
      refine j_getr X cf5 pk_0 pl_0 0 rfl ⟨rfl, rfl⟩ 1 rfl bw_157 dX7_of_23 ?_
      refine j_getr X cf1 pk_1 pl_1 1 rfl ⟨rfl, rfl⟩ (1 + 1) (RF_H1 pl_1) bw_61 dX7_of_26 ?_
      refine j_iload_n X 1 rfl rfl dX7_of_29 ?_
      refine j_iload_n X 2 rfl rfl dX7_of_30 ?_
      refine bd1_elim h (fun r8 hc9 h => ?_)
      refine j_callVi X (As := [.int a1, .int a2]) (rest := []) mf_X6_get bw_470 bw_281 bs_341 ⟨rfl, rfl⟩ ⟨Nat.le_of_ble_eq_true rfl, Nat.le_of_ble_eq_true rfl⟩ cf4 (lay_lt (lay_H1 pl_1) (by decide)) (lay_H1 pl_1) (c_X6_get Γ.2.1 E ad (lay_H1 pl_1) hc9) rfl rfl (Nat.le_of_ble_eq_true rfl) dX7_of_31 ?_
      exact j_iret X Y rfl (ret_wi h) dX7_of_34
    · have h := (if_pos c).symm.trans h
      refine j_aload_n X 0 rfl rfl dX7_of_17 ?_
      refine bd2_elim h (fun r10 σ11 hc12 h => ?_)
      refine j_callVi X (As := []) (rest := []) mf_X7_refuseBad bw_227 bw_229 bs_0 ⟨rfl, rfl⟩ ⟨Nat.le_of_ble_eq_true rfl, Nat.le_of_ble_eq_true rfl⟩ cf5 pk_0 pl_0 (c_X7_refuseBad Γ.2.1 E ad  hc12) rfl rfl (Nat.le_of_ble_eq_true rfl) dX7_of_18 ?_
      exact j_iret X Y rfl (ret_wi h) dX7_of_21

abbrev rm_X7_about : Room := { frames := 4, cells := 0, slots := 0, locals := 101 }
set_option maxHeartbeats 4000000 in
set_option maxRecDepth 100000 in
theorem c_X7_about (l : Launch) (E : Ev) (ad : Nat → Nat)   {a1 : Int32} {a2 : Int32} {σ : Sg} {r : Int32 × Sg} (h : m_X7_about a1 a2 σ = some r) : Met l yX7_about (wY yX7_about cX7_about 3 (some .int)) rm_X7_about (va_Pc [.ref (ad 0), .int a1, .int a2] (PreU E ad RF 85 σ)) (QcN E ad (some (.int r.1), r.2)) 0 0 (EA E) := by
  refine met_of (L0 := [(0, .ref (ad 0)), (1, .int a1), (2, .int a2)]) rfl (Nat.le_of_ble_eq_true rfl) rfl (fun Γ X Y => ?_)
  have X : XC Γ E rm_X7_about cX7_about 3 RX7 := X
  unfold m_X7_about at h
  refine j_aload_n X 0 rfl rfl dX7_about_0 ?_
  refine j_iload_n X 1 rfl rfl dX7_about_1 ?_
  refine bd1_elim h (fun r1 hc2 h => ?_)
  refine j_callVi X (As := [.int a1]) (rest := []) mf_X7_isListener bw_466 bw_468 bs_11 ⟨rfl, rfl⟩ ⟨Nat.le_of_ble_eq_true rfl, Nat.le_of_ble_eq_true rfl⟩ cf5 pk_0 pl_0 (c_X7_isListener Γ.2.1 E ad  hc2) rfl rfl (Nat.le_of_ble_eq_true rfl) dX7_about_2 ?_
  refine j_if_eq X (tgt := 17) (by decide) dX7_about_5 (fun c => ?_) (fun c => ?_)
  · have h := (if_pos c).symm.trans h
    refine j_aload_n X 0 rfl rfl dX7_about_17 ?_
    refine bd2_elim h (fun r3 σ4 hc5 h => ?_)
    refine j_callVi X (As := []) (rest := []) mf_X7_refuseBad bw_227 bw_229 bs_0 ⟨rfl, rfl⟩ ⟨Nat.le_of_ble_eq_true rfl, Nat.le_of_ble_eq_true rfl⟩ cf5 pk_0 pl_0 (c_X7_refuseBad Γ.2.1 E ad  hc5) rfl rfl (Nat.le_of_ble_eq_true rfl) dX7_about_18 ?_
    exact j_iret X Y rfl (ret_wi h) dX7_about_21
  · have h := (if_neg c).symm.trans h
    refine j_iload_n X 2 rfl rfl dX7_about_8 ?_
    refine j_iconst X (v := 0) (by decide) dX7_about_9 ?_
    refine j_iconst X (v := 3) (by decide) dX7_about_10 ?_
    refine bd1_elim h (fun r6 hc7 h => ?_)
    refine j_callSi X (As := [.int a2, .int (0 : Int32), .int (3 : Int32)]) (rest := []) mf_X7_within bw_224 bw_225 ⟨rfl, rfl⟩ ⟨Nat.le_of_ble_eq_true rfl, Nat.le_of_ble_eq_true rfl⟩ (c_X7_within Γ.2.1 E ad  hc7) rfl rfl (Nat.le_of_ble_eq_true rfl) dX7_about_11 ?_
    refine j_if_ne X (tgt := 22) (by decide) dX7_about_14 (fun c => ?_) (fun c => ?_)
    · have h := (if_neg c).symm.trans h
      refine j_iload_n X 2 rfl rfl dX7_about_22 ?_
      refine j_iconst X (v := 3) (by decide) dX7_about_23 ?_
      refine j_icmp_ne X (tgt := 38) (by decide) dX7_about_24 (fun c => ?_) (fun c => ?_)
      · have h := (if_neg c).symm.trans h
        refine j_aload_n X 0 rfl rfl dX7_about_38 ?_
        refine j_getr X cf5 pk_0 pl_0 0 rfl ⟨rfl, rfl⟩ 1 rfl bw_157 dX7_about_39 ?_
        refine j_getr X cf1 pk_1 pl_1 2 rfl ⟨rfl, rfl⟩ (1 + 3) (RF_H2 pl_1) bw_68 dX7_about_42 ?_
        refine j_iload_n X 1 rfl rfl dX7_about_45 ?_
        refine j_iload_n X 2 rfl rfl dX7_about_46 ?_
        refine bd1_elim h (fun r8 hc9 h => ?_)
        refine j_callVi X (As := [.int a1, .int a2]) (rest := []) mf_X6_get bw_470 bw_281 bs_341 ⟨rfl, rfl⟩ ⟨Nat.le_of_ble_eq_true rfl, Nat.le_of_ble_eq_true rfl⟩ cf4 (lay_lt (lay_H2 pl_1) (by decide)) (lay_H2 pl_1) (c_X6_get Γ.2.1 E ad (lay_H2 pl_1) hc9) rfl rfl (Nat.le_of_ble_eq_true rfl) dX7_about_47 ?_
        exact j_iret X Y rfl (ret_wi h) dX7_about_50
      · have h := (if_pos c).symm.trans h
        refine j_aload_n X 0 rfl rfl dX7_about_27 ?_
        refine j_getr X cf5 pk_0 pl_0 0 rfl ⟨rfl, rfl⟩ 1 rfl bw_157 dX7_about_28 ?_
        refine j_iload_n X 1 rfl rfl dX7_about_31 ?_
        refine bd1_elim h (fun r10 hc11 h => ?_)
        refine j_callVi X (As := [.int a1]) (rest := []) mf_X2_heardNow bw_507 bw_508 bs_568 ⟨rfl, rfl⟩ ⟨Nat.le_of_ble_eq_true rfl, Nat.le_of_ble_eq_true rfl⟩ cf1 pk_1 pl_1 (c_X2_heardNow Γ.2.1 E ad pl_1 hc11) rfl rfl (Nat.le_of_ble_eq_true rfl) dX7_about_32 ?_
        refine j_goto X (tgt := 50) (by decide) dX7_about_35 ?_
        exact j_iret X Y rfl (ret_wi h) dX7_about_50
    · have h := (if_pos c).symm.trans h
      refine j_aload_n X 0 rfl rfl dX7_about_17 ?_
      refine bd2_elim h (fun r12 σ13 hc14 h => ?_)
      refine j_callVi X (As := []) (rest := []) mf_X7_refuseBad bw_227 bw_229 bs_0 ⟨rfl, rfl⟩ ⟨Nat.le_of_ble_eq_true rfl, Nat.le_of_ble_eq_true rfl⟩ cf5 pk_0 pl_0 (c_X7_refuseBad Γ.2.1 E ad  hc14) rfl rfl (Nat.le_of_ble_eq_true rfl) dX7_about_18 ?_
      exact j_iret X Y rfl (ret_wi h) dX7_about_21

abbrev rm_X7_room : Room := { frames := 4, cells := 0, slots := 0, locals := 89 }
set_option maxHeartbeats 4000000 in
set_option maxRecDepth 100000 in
theorem c_X7_room (l : Launch) (E : Ev) (ad : Nat → Nat)   {a1 : Int32} {a2 : Int32} {σ : Sg} {r : Int32 × Sg} (h : m_X7_room a1 a2 σ = some r) : Met l yX7_room (wY yX7_room cX7_room 3 (some .int)) rm_X7_room (va_Pc [.ref (ad 0), .int a1, .int a2] (PreU E ad RF 85 σ)) (QcN E ad (some (.int r.1), r.2)) 0 0 (EA E) := by
  refine met_of (L0 := [(0, .ref (ad 0)), (1, .int a1), (2, .int a2)]) rfl (Nat.le_of_ble_eq_true rfl) rfl (fun Γ X Y => ?_)
  have X : XC Γ E rm_X7_room cX7_room 3 RX7 := X
  unfold m_X7_room at h
  refine j_iload_n X 1 rfl rfl dX7_room_0 ?_
  refine bd1_elim h (fun r1 hc2 h => ?_)
  refine j_callSi X (As := [.int a1]) (rest := []) mf_X7_isRoom bw_221 bw_222 ⟨rfl, rfl⟩ ⟨Nat.le_of_ble_eq_true rfl, Nat.le_of_ble_eq_true rfl⟩ (c_X7_isRoom Γ.2.1 E ad  hc2) rfl rfl (Nat.le_of_ble_eq_true rfl) dX7_room_1 ?_
  refine j_if_eq X (tgt := 16) (by decide) dX7_room_4 (fun c => ?_) (fun c => ?_)
  · have h := (if_pos c).symm.trans h
    refine j_aload_n X 0 rfl rfl dX7_room_16 ?_
    refine bd2_elim h (fun r3 σ4 hc5 h => ?_)
    refine j_callVi X (As := []) (rest := []) mf_X7_refuseBad bw_227 bw_229 bs_0 ⟨rfl, rfl⟩ ⟨Nat.le_of_ble_eq_true rfl, Nat.le_of_ble_eq_true rfl⟩ cf5 pk_0 pl_0 (c_X7_refuseBad Γ.2.1 E ad  hc5) rfl rfl (Nat.le_of_ble_eq_true rfl) dX7_room_17 ?_
    exact j_iret X Y rfl (ret_wi h) dX7_room_20
  · have h := (if_neg c).symm.trans h
    refine j_iload_n X 2 rfl rfl dX7_room_7 ?_
    refine j_iconst X (v := 0) (by decide) dX7_room_8 ?_
    refine j_iconst X (v := 1) (by decide) dX7_room_9 ?_
    refine bd1_elim h (fun r6 hc7 h => ?_)
    refine j_callSi X (As := [.int a2, .int (0 : Int32), .int (1 : Int32)]) (rest := []) mf_X7_within bw_224 bw_225 ⟨rfl, rfl⟩ ⟨Nat.le_of_ble_eq_true rfl, Nat.le_of_ble_eq_true rfl⟩ (c_X7_within Γ.2.1 E ad  hc7) rfl rfl (Nat.le_of_ble_eq_true rfl) dX7_room_10 ?_
    refine j_if_ne X (tgt := 21) (by decide) dX7_room_13 (fun c => ?_) (fun c => ?_)
    · have h := (if_neg c).symm.trans h
      refine j_iload_n X 2 rfl rfl dX7_room_21 ?_
      refine j_if_ne X (tgt := 37) (by decide) dX7_room_22 (fun c => ?_) (fun c => ?_)
      · have h := (if_neg c).symm.trans h
        refine j_aload_n X 0 rfl rfl dX7_room_37 ?_
        refine j_getr X cf5 pk_0 pl_0 0 rfl ⟨rfl, rfl⟩ 1 rfl bw_157 dX7_room_38 ?_
        refine j_iload_n X 1 rfl rfl dX7_room_41 ?_
        refine bd1_elim h (fun r8 hc9 h => ?_)
        refine j_callVi X (As := [.int a1]) (rest := []) mf_X2_roomLoudness bw_448 bw_449 bs_509 ⟨rfl, rfl⟩ ⟨Nat.le_of_ble_eq_true rfl, Nat.le_of_ble_eq_true rfl⟩ cf1 pk_1 pl_1 (c_X2_roomLoudness Γ.2.1 E ad pl_1 hc9) rfl rfl (Nat.le_of_ble_eq_true rfl) dX7_room_42 ?_
        exact j_iret X Y rfl (ret_wi h) dX7_room_45
      · have h := (if_pos c).symm.trans h
        refine j_aload_n X 0 rfl rfl dX7_room_25 ?_
        refine j_getr X cf5 pk_0 pl_0 0 rfl ⟨rfl, rfl⟩ 1 rfl bw_157 dX7_room_26 ?_
        refine j_iload_n X 1 rfl rfl dX7_room_29 ?_
        refine j_iconst X (v := 0) (by decide) dX7_room_30 ?_
        refine bd1_elim h (fun r10 hc11 h => ?_)
        refine j_callVi X (As := [.int a1, .int (0 : Int32)]) (rest := []) mf_X2_roomMinute bw_515 bw_384 bs_444 ⟨rfl, rfl⟩ ⟨Nat.le_of_ble_eq_true rfl, Nat.le_of_ble_eq_true rfl⟩ cf1 pk_1 pl_1 (c_X2_roomMinute Γ.2.1 E ad pl_1 hc11) rfl rfl (Nat.le_of_ble_eq_true rfl) dX7_room_31 ?_
        refine j_goto X (tgt := 45) (by decide) dX7_room_34 ?_
        exact j_iret X Y rfl (ret_wi h) dX7_room_45
    · have h := (if_pos c).symm.trans h
      refine j_aload_n X 0 rfl rfl dX7_room_16 ?_
      refine bd2_elim h (fun r12 σ13 hc14 h => ?_)
      refine j_callVi X (As := []) (rest := []) mf_X7_refuseBad bw_227 bw_229 bs_0 ⟨rfl, rfl⟩ ⟨Nat.le_of_ble_eq_true rfl, Nat.le_of_ble_eq_true rfl⟩ cf5 pk_0 pl_0 (c_X7_refuseBad Γ.2.1 E ad  hc14) rfl rfl (Nat.le_of_ble_eq_true rfl) dX7_room_17 ?_
      exact j_iret X Y rfl (ret_wi h) dX7_room_20

abbrev rm_X7_loud : Room := { frames := 2, cells := 0, slots := 0, locals := 48 }
set_option maxHeartbeats 4000000 in
set_option maxRecDepth 100000 in
theorem c_X7_loud (l : Launch) (E : Ev) (ad : Nat → Nat)   {a1 : Int32} {a2 : Int32} {σ : Sg} {r : Int32 × Sg} (h : m_X7_loud a1 a2 σ = some r) : Met l yX7_loud (wY yX7_loud cX7_loud 3 (some .int)) rm_X7_loud (va_Pc [.ref (ad 0), .int a1, .int a2] (PreU E ad RF 85 σ)) (QcN E ad (some (.int r.1), r.2)) 0 0 (EA E) := by
  refine met_of (L0 := [(0, .ref (ad 0)), (1, .int a1), (2, .int a2)]) rfl (Nat.le_of_ble_eq_true rfl) rfl (fun Γ X Y => ?_)
  have X : XC Γ E rm_X7_loud cX7_loud 3 RX7 := X
  unfold m_X7_loud at h
  refine j_aload_n X 0 rfl rfl dX7_loud_0 ?_
  refine j_iload_n X 1 rfl rfl dX7_loud_1 ?_
  refine bd1_elim h (fun r1 hc2 h => ?_)
  refine j_callVi X (As := [.int a1]) (rest := []) mf_X7_isSaying bw_499 bw_501 bs_12 ⟨rfl, rfl⟩ ⟨Nat.le_of_ble_eq_true rfl, Nat.le_of_ble_eq_true rfl⟩ cf5 pk_0 pl_0 (c_X7_isSaying Γ.2.1 E ad  hc2) rfl rfl (Nat.le_of_ble_eq_true rfl) dX7_loud_2 ?_
  refine j_if_eq X (tgt := 15) (by decide) dX7_loud_5 (fun c => ?_) (fun c => ?_)
  · have h := (if_pos c).symm.trans h
    refine j_aload_n X 0 rfl rfl dX7_loud_15 ?_
    refine bd2_elim h (fun r3 σ4 hc5 h => ?_)
    refine j_callVi X (As := []) (rest := []) mf_X7_refuseBad bw_227 bw_229 bs_0 ⟨rfl, rfl⟩ ⟨Nat.le_of_ble_eq_true rfl, Nat.le_of_ble_eq_true rfl⟩ cf5 pk_0 pl_0 (c_X7_refuseBad Γ.2.1 E ad  hc5) rfl rfl (Nat.le_of_ble_eq_true rfl) dX7_loud_16 ?_
    exact j_iret X Y rfl (ret_wi h) dX7_loud_19
  · have h := (if_neg c).symm.trans h
    refine j_iload_n X 2 rfl rfl dX7_loud_8 ?_
    refine bd1_elim h (fun r6 hc7 h => ?_)
    refine j_callSi X (As := [.int a2]) (rest := []) mf_X7_isSpeakingMinute bw_520 bw_392 ⟨rfl, rfl⟩ ⟨Nat.le_of_ble_eq_true rfl, Nat.le_of_ble_eq_true rfl⟩ (c_X7_isSpeakingMinute Γ.2.1 E ad  hc7) rfl rfl (Nat.le_of_ble_eq_true rfl) dX7_loud_9 ?_
    refine j_if_ne X (tgt := 20) (by decide) dX7_loud_12 (fun c => ?_) (fun c => ?_)
    · have h := (if_neg c).symm.trans h
      refine j_aload_n X 0 rfl rfl dX7_loud_20 ?_
      refine j_getr X cf5 pk_0 pl_0 0 rfl ⟨rfl, rfl⟩ 1 rfl bw_157 dX7_loud_21 ?_
      refine j_iload_n X 1 rfl rfl dX7_loud_24 ?_
      refine j_iload_n X 2 rfl rfl dX7_loud_25 ?_
      refine bd1_elim h (fun r8 hc9 h => ?_)
      refine j_callVi X (As := [.int a1, .int a2]) (rest := []) mf_X2_loudness bw_521 bw_413 bs_473 ⟨rfl, rfl⟩ ⟨Nat.le_of_ble_eq_true rfl, Nat.le_of_ble_eq_true rfl⟩ cf1 pk_1 pl_1 (c_X2_loudness Γ.2.1 E ad pl_1 hc9) rfl rfl (Nat.le_of_ble_eq_true rfl) dX7_loud_26 ?_
      exact j_iret X Y rfl (ret_wi h) dX7_loud_29
    · have h := (if_pos c).symm.trans h
      refine j_aload_n X 0 rfl rfl dX7_loud_15 ?_
      refine bd2_elim h (fun r10 σ11 hc12 h => ?_)
      refine j_callVi X (As := []) (rest := []) mf_X7_refuseBad bw_227 bw_229 bs_0 ⟨rfl, rfl⟩ ⟨Nat.le_of_ble_eq_true rfl, Nat.le_of_ble_eq_true rfl⟩ cf5 pk_0 pl_0 (c_X7_refuseBad Γ.2.1 E ad  hc12) rfl rfl (Nat.le_of_ble_eq_true rfl) dX7_loud_16 ?_
      exact j_iret X Y rfl (ret_wi h) dX7_loud_19

abbrev rm_X7_first : Room := { frames := 4, cells := 0, slots := 0, locals := 103 }
set_option maxHeartbeats 4000000 in
set_option maxRecDepth 100000 in
theorem c_X7_first (l : Launch) (E : Ev) (ad : Nat → Nat)   {a1 : Int32} {a2 : Int32} {σ : Sg} {r : Int32 × Sg} (h : m_X7_first a1 a2 σ = some r) : Met l yX7_first (wY yX7_first cX7_first 3 (some .int)) rm_X7_first (va_Pc [.ref (ad 0), .int a1, .int a2] (PreU E ad RF 85 σ)) (QcN E ad (some (.int r.1), r.2)) 0 0 (EA E) := by
  refine met_of (L0 := [(0, .ref (ad 0)), (1, .int a1), (2, .int a2)]) rfl (Nat.le_of_ble_eq_true rfl) rfl (fun Γ X Y => ?_)
  have X : XC Γ E rm_X7_first cX7_first 3 RX7 := X
  unfold m_X7_first at h
  refine j_aload_n X 0 rfl rfl dX7_first_0 ?_
  refine j_iload_n X 1 rfl rfl dX7_first_1 ?_
  refine bd1_elim h (fun r1 hc2 h => ?_)
  refine j_callVi X (As := [.int a1]) (rest := []) mf_X7_isListener bw_466 bw_468 bs_11 ⟨rfl, rfl⟩ ⟨Nat.le_of_ble_eq_true rfl, Nat.le_of_ble_eq_true rfl⟩ cf5 pk_0 pl_0 (c_X7_isListener Γ.2.1 E ad  hc2) rfl rfl (Nat.le_of_ble_eq_true rfl) dX7_first_2 ?_
  refine j_if_eq X (tgt := 16) (by decide) dX7_first_5 (fun c => ?_) (fun c => ?_)
  · have h := (if_pos c).symm.trans h
    refine j_aload_n X 0 rfl rfl dX7_first_16 ?_
    refine bd2_elim h (fun r3 σ4 hc5 h => ?_)
    refine j_callVi X (As := []) (rest := []) mf_X7_refuseBad bw_227 bw_229 bs_0 ⟨rfl, rfl⟩ ⟨Nat.le_of_ble_eq_true rfl, Nat.le_of_ble_eq_true rfl⟩ cf5 pk_0 pl_0 (c_X7_refuseBad Γ.2.1 E ad  hc5) rfl rfl (Nat.le_of_ble_eq_true rfl) dX7_first_17 ?_
    exact j_iret X Y rfl (ret_wi h) dX7_first_20
  · have h := (if_neg c).symm.trans h
    refine j_aload_n X 0 rfl rfl dX7_first_8 ?_
    refine j_iload_n X 2 rfl rfl dX7_first_9 ?_
    refine bd1_elim h (fun r6 hc7 h => ?_)
    refine j_callVi X (As := [.int a2]) (rest := []) mf_X7_isSaying bw_499 bw_501 bs_12 ⟨rfl, rfl⟩ ⟨Nat.le_of_ble_eq_true rfl, Nat.le_of_ble_eq_true rfl⟩ cf5 pk_0 pl_0 (c_X7_isSaying Γ.2.1 E ad  hc7) rfl rfl (Nat.le_of_ble_eq_true rfl) dX7_first_10 ?_
    refine j_if_ne X (tgt := 21) (by decide) dX7_first_13 (fun c => ?_) (fun c => ?_)
    · have h := (if_neg c).symm.trans h
      refine j_aload_n X 0 rfl rfl dX7_first_21 ?_
      refine j_getr X cf5 pk_0 pl_0 0 rfl ⟨rfl, rfl⟩ 1 rfl bw_157 dX7_first_22 ?_
      refine j_iload_n X 1 rfl rfl dX7_first_25 ?_
      refine j_iload_n X 2 rfl rfl dX7_first_26 ?_
      refine bd1_elim h (fun r8 hc9 h => ?_)
      refine j_callSi X (As := [.ref (ad 1), .int a1, .int a2]) (rest := []) mf_X4_firstHearing bw_526 bw_527 ⟨rfl, rfl⟩ ⟨Nat.le_of_ble_eq_true rfl, Nat.le_of_ble_eq_true rfl⟩ (c_X4_firstHearing Γ.2.1 E ad pl_1 hc9) rfl rfl (Nat.le_of_ble_eq_true rfl) dX7_first_27 ?_
      exact j_iret X Y rfl (ret_wi h) dX7_first_30
    · have h := (if_pos c).symm.trans h
      refine j_aload_n X 0 rfl rfl dX7_first_16 ?_
      refine bd2_elim h (fun r10 σ11 hc12 h => ?_)
      refine j_callVi X (As := []) (rest := []) mf_X7_refuseBad bw_227 bw_229 bs_0 ⟨rfl, rfl⟩ ⟨Nat.le_of_ble_eq_true rfl, Nat.le_of_ble_eq_true rfl⟩ cf5 pk_0 pl_0 (c_X7_refuseBad Γ.2.1 E ad  hc12) rfl rfl (Nat.le_of_ble_eq_true rfl) dX7_first_17 ?_
      exact j_iret X Y rfl (ret_wi h) dX7_first_20

abbrev rm_X7_isSet : Room := { frames := 0, cells := 0, slots := 0, locals := 0 }
set_option maxHeartbeats 4000000 in
set_option maxRecDepth 100000 in
theorem c_X7_isSet (l : Launch) (E : Ev) (ad : Nat → Nat)   {a1 : Int32} {σ : Sg} {r : Int32} (h : m_X7_isSet a1 σ = some r) : Met l yX7_isSet (wY yX7_isSet cX7_isSet 2 (some .boolean)) rm_X7_isSet (va_Pc [.ref (ad 0), .int a1] (PreU E ad RF 85 σ)) (QcN E ad (some (.int r), σ)) 0 0 (EA E) := by
  refine met_of (L0 := [(0, .ref (ad 0)), (1, .int a1)]) rfl (Nat.le_of_ble_eq_true rfl) rfl (fun Γ X Y => ?_)
  have X : XC Γ E rm_X7_isSet cX7_isSet 2 RX7 := X
  unfold m_X7_isSet at h
  refine j_iload_n X 1 rfl rfl dX7_isSet_0 ?_
  refine j_if_lt X (tgt := 24) (by decide) dX7_isSet_1 (fun c => ?_) (fun c => ?_)
  · have h := (if_pos c).symm.trans h
    refine j_iconst X (v := 0) (by decide) dX7_isSet_24 ?_
    exact j_iret X Y rfl (ret_pi h) dX7_isSet_25
  · have h := (if_neg c).symm.trans h
    refine j_iload_n X 1 rfl rfl dX7_isSet_4 ?_
    refine j_iconst X (v := 1) (by decide) dX7_isSet_5 ?_
    refine j_aload_n X 0 rfl rfl dX7_isSet_6 ?_
    refine j_getr X cf5 pk_0 pl_0 0 rfl ⟨rfl, rfl⟩ 1 rfl bw_157 dX7_isSet_7 ?_
    refine j_getr X cf1 pk_1 pl_1 1 rfl ⟨rfl, rfl⟩ (1 + 1) (RF_H1 pl_1) bw_61 dX7_isSet_10 ?_
    refine j_geti X cf4 (lay_lt (lay_H1 pl_1) (by decide)) (lay_H1 pl_1) 3 rfl ⟨rfl, rfl⟩ bw_43 dX7_isSet_13 ?_
    refine j_ishl X dX7_isSet_16 ?_
    refine j_icmp_ge X (tgt := 24) (by decide) dX7_isSet_17 (fun c => ?_) (fun c => ?_)
    · have h := (if_pos c).symm.trans h
      refine j_iconst X (v := 0) (by decide) dX7_isSet_24 ?_
      exact j_iret X Y rfl (ret_pi h) dX7_isSet_25
    · have h := (if_neg c).symm.trans h
      refine j_iconst X (v := 1) (by decide) dX7_isSet_20 ?_
      refine j_goto X (tgt := 25) (by decide) dX7_isSet_21 ?_
      exact j_iret X Y rfl (ret_pi h) dX7_isSet_25

abbrev rm_X7_stay : Room := { frames := 5, cells := 0, slots := 0, locals := 133 }
set_option maxHeartbeats 4000000 in
set_option maxRecDepth 100000 in
theorem c_X7_stay (l : Launch) (E : Ev) (ad : Nat → Nat)   {a1 : Int32} {a2 : Int32} {a3 : Int32} {a4 : Int32} {σ : Sg} {r : Int32 × Sg} (h : m_X7_stay a1 a2 a3 a4 σ = some r) : Met l yX7_stay (wY yX7_stay cX7_stay 6 (some .int)) rm_X7_stay (va_Pc [.ref (ad 0), .int a1, .int a2, .int a3, .int a4] (PreU E ad RF 85 σ)) (QcN E ad (some (.int r.1), r.2)) 0 0 (EA E) := by
  refine met_of (L0 := [(0, .ref (ad 0)), (1, .int a1), (2, .int a2), (3, .int a3), (4, .int a4)]) rfl (Nat.le_of_ble_eq_true rfl) rfl (fun Γ X Y => ?_)
  have X : XC Γ E rm_X7_stay cX7_stay 6 RX7 := X
  unfold m_X7_stay at h
  refine j_aload_n X 0 rfl rfl dX7_stay_0 ?_
  refine j_iload_n X 1 rfl rfl dX7_stay_1 ?_
  refine bd1_elim h (fun r1 hc2 h => ?_)
  refine j_callVi X (As := [.int a1]) (rest := []) mf_X7_isListener bw_466 bw_468 bs_11 ⟨rfl, rfl⟩ ⟨Nat.le_of_ble_eq_true rfl, Nat.le_of_ble_eq_true rfl⟩ cf5 pk_0 pl_0 (c_X7_isListener Γ.2.1 E ad  hc2) rfl rfl (Nat.le_of_ble_eq_true rfl) dX7_stay_2 ?_
  refine bd1_elim h (fun o4 hr h => ?_)
  have hJ3 : J Γ E 6 ad RF 85 σ 0 0 35 [(0, .ref (ad 0)), (1, .int a1), (2, .int a2), (3, .int a3), (4, .int a4)] [.int o4] := by
    refine j_istore X (L' := [(5, .int o4), (0, .ref (ad 0)), (1, .int a1), (2, .int a2), (3, .int a3), (4, .int a4)]) rfl (by decide) rfl dX7_stay_35 ?_
    refine j_iload X 0 rfl dX7_stay_37 ?_
    refine j_if_eq X (tgt := 52) (by decide) dX7_stay_39 (fun c => ?_) (fun c => ?_)
    · have h := (if_pos c).symm.trans h
      refine j_aload_n X 1 rfl rfl dX7_stay_52 ?_
      refine bd2_elim h (fun r5 σ6 hc7 h => ?_)
      refine j_callVi X (As := []) (rest := []) mf_X7_refuseBad bw_227 bw_229 bs_0 ⟨rfl, rfl⟩ ⟨Nat.le_of_ble_eq_true rfl, Nat.le_of_ble_eq_true rfl⟩ cf5 pk_0 pl_0 (c_X7_refuseBad Γ.2.1 E ad  hc7) rfl rfl (Nat.le_of_ble_eq_true rfl) dX7_stay_53 ?_
      exact j_iret X Y rfl (ret_wi h) dX7_stay_56
    · have h := (if_neg c).symm.trans h
      refine j_iload X 5 rfl dX7_stay_42 ?_
      refine j_iconst X (v := -1) (by decide) dX7_stay_44 ?_
      refine j_iconst X (v := 3) (by decide) dX7_stay_45 ?_
      refine bd1_elim h (fun r8 hc9 h => ?_)
      refine j_callSi X (As := [.int a4, .int (-1 : Int32), .int (3 : Int32)]) (rest := []) mf_X7_within bw_224 bw_225 ⟨rfl, rfl⟩ ⟨Nat.le_of_ble_eq_true rfl, Nat.le_of_ble_eq_true rfl⟩ (c_X7_within Γ.2.1 E ad  hc9) rfl rfl (Nat.le_of_ble_eq_true rfl) dX7_stay_46 ?_
      refine j_if_ne X (tgt := 57) (by decide) dX7_stay_49 (fun c => ?_) (fun c => ?_)
      · have h := (if_neg c).symm.trans h
        refine j_iload X 5 rfl dX7_stay_57 ?_
        refine j_iconst X (v := -1) (by decide) dX7_stay_59 ?_
        refine j_icmp_ne X (tgt := 74) (by decide) dX7_stay_60 (fun c => ?_) (fun c => ?_)
        · have h := (if_neg c).symm.trans h
          refine j_aload_n X 1 rfl rfl dX7_stay_74 ?_
          refine j_getr X cf5 pk_0 pl_0 0 rfl ⟨rfl, rfl⟩ 1 rfl bw_157 dX7_stay_75 ?_
          refine j_iload_n X 2 rfl rfl dX7_stay_78 ?_
          refine j_iload_n X 3 rfl rfl dX7_stay_79 ?_
          refine j_iload_n X 4 rfl rfl dX7_stay_80 ?_
          refine j_iload X 5 rfl dX7_stay_81 ?_
          refine bd1_elim h (fun r10 hc11 h => ?_)
          refine j_callSi X (As := [.ref (ad 1), .int a1, .int a2, .int a3, .int a4]) (rest := []) mf_X4_stayIn bw_547 bw_545 ⟨rfl, rfl⟩ ⟨Nat.le_of_ble_eq_true rfl, Nat.le_of_ble_eq_true rfl⟩ (c_X4_stayIn Γ.2.1 E ad pl_1 hc11) rfl rfl (Nat.le_of_ble_eq_true rfl) dX7_stay_83 ?_
          exact j_iret X Y rfl (ret_wi h) dX7_stay_86
        · have h := (if_pos c).symm.trans h
          refine j_aload_n X 1 rfl rfl dX7_stay_63 ?_
          refine j_getr X cf5 pk_0 pl_0 0 rfl ⟨rfl, rfl⟩ 1 rfl bw_157 dX7_stay_64 ?_
          refine j_iload_n X 2 rfl rfl dX7_stay_67 ?_
          refine j_iload_n X 3 rfl rfl dX7_stay_68 ?_
          refine j_iload_n X 4 rfl rfl dX7_stay_69 ?_
          refine bd1_elim h (fun r12 hc13 h => ?_)
          refine j_callSi X (As := [.ref (ad 1), .int a1, .int a2, .int a3]) (rest := []) mf_X4_bestStay bw_541 bw_542 ⟨rfl, rfl⟩ ⟨Nat.le_of_ble_eq_true rfl, Nat.le_of_ble_eq_true rfl⟩ (c_X4_bestStay Γ.2.1 E ad pl_1 hc13) rfl rfl (Nat.le_of_ble_eq_true rfl) dX7_stay_70 ?_
          exact j_iret X Y rfl (ret_wi h) dX7_stay_73
      · have h := (if_pos c).symm.trans h
        refine j_aload_n X 1 rfl rfl dX7_stay_52 ?_
        refine bd2_elim h (fun r14 σ15 hc16 h => ?_)
        refine j_callVi X (As := []) (rest := []) mf_X7_refuseBad bw_227 bw_229 bs_0 ⟨rfl, rfl⟩ ⟨Nat.le_of_ble_eq_true rfl, Nat.le_of_ble_eq_true rfl⟩ cf5 pk_0 pl_0 (c_X7_refuseBad Γ.2.1 E ad  hc16) rfl rfl (Nat.le_of_ble_eq_true rfl) dX7_stay_53 ?_
        exact j_iret X Y rfl (ret_wi h) dX7_stay_56
  clear h
  refine j_if_eq X (tgt := 34) (by decide) dX7_stay_5 (fun c => ?_) (fun c => ?_)
  · have hr := (if_pos c).symm.trans hr
    refine j_iconst X (v := 0) (by decide) dX7_stay_34 ?_
    cases hr
    exact J.sub [0, 1, 2, 3, 4] rfl hJ3
  · have hr := (if_neg c).symm.trans hr
    refine j_aload_n X 0 rfl rfl dX7_stay_8 ?_
    refine j_iload_n X 2 rfl rfl dX7_stay_9 ?_
    refine bd1_elim hr (fun r17 hc18 hr => ?_)
    refine j_callVi X (As := [.int a2]) (rest := []) mf_X7_isSet bw_537 bw_539 bs_13 ⟨rfl, rfl⟩ ⟨Nat.le_of_ble_eq_true rfl, Nat.le_of_ble_eq_true rfl⟩ cf5 pk_0 pl_0 (c_X7_isSet Γ.2.1 E ad  hc18) rfl rfl (Nat.le_of_ble_eq_true rfl) dX7_stay_10 ?_
    refine j_if_eq X (tgt := 34) (by decide) dX7_stay_13 (fun c => ?_) (fun c => ?_)
    · have hr := (if_pos c).symm.trans hr
      refine j_iconst X (v := 0) (by decide) dX7_stay_34 ?_
      cases hr
      exact J.sub [0, 1, 2, 3, 4] rfl hJ3
    · have hr := (if_neg c).symm.trans hr
      refine j_aload_n X 0 rfl rfl dX7_stay_16 ?_
      refine j_iload_n X 3 rfl rfl dX7_stay_17 ?_
      refine bd1_elim hr (fun r19 hc20 hr => ?_)
      refine j_callVi X (As := [.int a3]) (rest := []) mf_X7_isSet bw_537 bw_539 bs_13 ⟨rfl, rfl⟩ ⟨Nat.le_of_ble_eq_true rfl, Nat.le_of_ble_eq_true rfl⟩ cf5 pk_0 pl_0 (c_X7_isSet Γ.2.1 E ad  hc20) rfl rfl (Nat.le_of_ble_eq_true rfl) dX7_stay_18 ?_
      refine j_if_eq X (tgt := 34) (by decide) dX7_stay_21 (fun c => ?_) (fun c => ?_)
      · have hr := (if_pos c).symm.trans hr
        refine j_iconst X (v := 0) (by decide) dX7_stay_34 ?_
        cases hr
        exact J.sub [0, 1, 2, 3, 4] rfl hJ3
      · have hr := (if_neg c).symm.trans hr
        refine j_iload_n X 2 rfl rfl dX7_stay_24 ?_
        refine j_iload_n X 3 rfl rfl dX7_stay_25 ?_
        refine j_iand X dX7_stay_26 ?_
        refine j_if_ne X (tgt := 34) (by decide) dX7_stay_27 (fun c => ?_) (fun c => ?_)
        · have hr := (if_neg c).symm.trans hr
          refine j_iconst X (v := 0) (by decide) dX7_stay_34 ?_
          cases hr
          exact J.sub [0, 1, 2, 3, 4] rfl hJ3
        · have hr := (if_pos c).symm.trans hr
          refine j_iconst X (v := 1) (by decide) dX7_stay_30 ?_
          refine j_goto X (tgt := 35) (by decide) dX7_stay_31 ?_
          cases hr
          exact J.sub [0, 1, 2, 3, 4] rfl hJ3

abbrev rm_X7_areBrothers : Room := { frames := 0, cells := 0, slots := 0, locals := 0 }
set_option maxHeartbeats 4000000 in
set_option maxRecDepth 100000 in
theorem c_X7_areBrothers (l : Launch) (E : Ev) (ad : Nat → Nat)    {σ : Sg} {r : Int32} (h : m_X7_areBrothers  σ = some r) : Met l yX7_areBrothers (wY yX7_areBrothers cX7_areBrothers 1 (some .boolean)) rm_X7_areBrothers (va_Pc [.ref (ad 0)] (PreU E ad RF 85 σ)) (QcN E ad (some (.int r), σ)) 0 0 (EA E) := by
  refine met_of (L0 := [(0, .ref (ad 0))]) rfl (Nat.le_of_ble_eq_true rfl) rfl (fun Γ X Y => ?_)
  have X : XC Γ E rm_X7_areBrothers cX7_areBrothers 1 RX7 := X
  unfold m_X7_areBrothers at h
  refine j_aload_n X 0 rfl rfl dX7_areBrothers_0 ?_
  refine j_getr X cf5 pk_0 pl_0 0 rfl ⟨rfl, rfl⟩ 1 rfl bw_157 dX7_areBrothers_1 ?_
  refine j_getr X cf1 pk_1 pl_1 2 rfl ⟨rfl, rfl⟩ (1 + 3) (RF_H2 pl_1) bw_68 dX7_areBrothers_4 ?_
  refine j_geti X cf4 (lay_lt (lay_H2 pl_1) (by decide)) (lay_H2 pl_1) 3 rfl ⟨rfl, rfl⟩ bw_43 dX7_areBrothers_7 ?_
  refine j_iconst X (v := 2) (by decide) dX7_areBrothers_10 ?_
  refine j_icmp_lt X (tgt := 18) (by decide) dX7_areBrothers_11 (fun c => ?_) (fun c => ?_)
  · have h := (if_pos c).symm.trans h
    refine j_iconst X (v := 0) (by decide) dX7_areBrothers_18 ?_
    exact j_iret X Y rfl (ret_pi h) dX7_areBrothers_19
  · have h := (if_neg c).symm.trans h
    refine j_iconst X (v := 1) (by decide) dX7_areBrothers_14 ?_
    refine j_goto X (tgt := 19) (by decide) dX7_areBrothers_15 ?_
    exact j_iret X Y rfl (ret_pi h) dX7_areBrothers_19

abbrev rm_X7_stand : Room := { frames := 5, cells := 0, slots := 0, locals := 132 }
set_option maxHeartbeats 4000000 in
set_option maxRecDepth 100000 in
theorem c_X7_stand (l : Launch) (E : Ev) (ad : Nat → Nat)   {a1 : Int32} {a2 : Int32} {σ : Sg} {r : Int32 × Sg} (h : m_X7_stand a1 a2 σ = some r) : Met l yX7_stand (wY yX7_stand cX7_stand 3 (some .int)) rm_X7_stand (va_Pc [.ref (ad 0), .int a1, .int a2] (PreU E ad RF 85 σ)) (QcN E ad (some (.int r.1), r.2)) 0 0 (EA E) := by
  refine met_of (L0 := [(0, .ref (ad 0)), (1, .int a1), (2, .int a2)]) rfl (Nat.le_of_ble_eq_true rfl) rfl (fun Γ X Y => ?_)
  have X : XC Γ E rm_X7_stand cX7_stand 3 RX7 := X
  unfold m_X7_stand at h
  refine j_iload_n X 1 rfl rfl dX7_stand_0 ?_
  refine j_iconst X (v := 1) (by decide) dX7_stand_1 ?_
  refine j_bipush X (v := 30) (by decide) dX7_stand_2 ?_
  refine bd1_elim h (fun r1 hc2 h => ?_)
  refine j_callSi X (As := [.int a1, .int (1 : Int32), .int (30 : Int32)]) (rest := []) mf_X7_within bw_224 bw_225 ⟨rfl, rfl⟩ ⟨Nat.le_of_ble_eq_true rfl, Nat.le_of_ble_eq_true rfl⟩ (c_X7_within Γ.2.1 E ad  hc2) rfl rfl (Nat.le_of_ble_eq_true rfl) dX7_stand_4 ?_
  refine j_if_eq X (tgt := 19) (by decide) dX7_stand_7 (fun c => ?_) (fun c => ?_)
  · have h := (if_pos c).symm.trans h
    refine j_aload_n X 0 rfl rfl dX7_stand_19 ?_
    refine bd2_elim h (fun r3 σ4 hc5 h => ?_)
    refine j_callVi X (As := []) (rest := []) mf_X7_refuseBad bw_227 bw_229 bs_0 ⟨rfl, rfl⟩ ⟨Nat.le_of_ble_eq_true rfl, Nat.le_of_ble_eq_true rfl⟩ cf5 pk_0 pl_0 (c_X7_refuseBad Γ.2.1 E ad  hc5) rfl rfl (Nat.le_of_ble_eq_true rfl) dX7_stand_20 ?_
    exact j_iret X Y rfl (ret_wi h) dX7_stand_23
  · have h := (if_neg c).symm.trans h
    refine j_iload_n X 2 rfl rfl dX7_stand_10 ?_
    refine j_iconst X (v := 0) (by decide) dX7_stand_11 ?_
    refine j_iconst X (v := 1) (by decide) dX7_stand_12 ?_
    refine bd1_elim h (fun r6 hc7 h => ?_)
    refine j_callSi X (As := [.int a2, .int (0 : Int32), .int (1 : Int32)]) (rest := []) mf_X7_within bw_224 bw_225 ⟨rfl, rfl⟩ ⟨Nat.le_of_ble_eq_true rfl, Nat.le_of_ble_eq_true rfl⟩ (c_X7_within Γ.2.1 E ad  hc7) rfl rfl (Nat.le_of_ble_eq_true rfl) dX7_stand_13 ?_
    refine j_if_ne X (tgt := 24) (by decide) dX7_stand_16 (fun c => ?_) (fun c => ?_)
    · have h := (if_neg c).symm.trans h
      refine j_aload_n X 0 rfl rfl dX7_stand_24 ?_
      refine bd1_elim h (fun r8 hc9 h => ?_)
      refine j_callVi X (As := []) (rest := []) mf_X7_areBrothers bw_552 bw_554 bs_14 ⟨rfl, rfl⟩ ⟨Nat.le_of_ble_eq_true rfl, Nat.le_of_ble_eq_true rfl⟩ cf5 pk_0 pl_0 (c_X7_areBrothers Γ.2.1 E ad  hc9) rfl rfl (Nat.le_of_ble_eq_true rfl) dX7_stand_25 ?_
      refine j_if_ne X (tgt := 36) (by decide) dX7_stand_28 (fun c => ?_) (fun c => ?_)
      · have h := (if_neg c).symm.trans h
        refine j_aload_n X 0 rfl rfl dX7_stand_36 ?_
        refine j_getr X cf5 pk_0 pl_0 7 rfl ⟨rfl, rfl⟩ 64 rfl bw_164 dX7_stand_37 ?_
        refine j_aload_n X 0 rfl rfl dX7_stand_40 ?_
        refine j_getr X cf5 pk_0 pl_0 0 rfl ⟨rfl, rfl⟩ 1 rfl bw_157 dX7_stand_41 ?_
        refine j_iload_n X 1 rfl rfl dX7_stand_44 ?_
        refine j_iload_n X 2 rfl rfl dX7_stand_45 ?_
        refine bd2_elim h (fun r10 σ11 hc12 h => ?_)
        refine j_callVi X (As := [.ref (ad 1), .int a1, .int a2]) (rest := []) mf_X4_bestStand bw_556 bw_557 bs_617 ⟨rfl, rfl⟩ ⟨Nat.le_of_ble_eq_true rfl, Nat.le_of_ble_eq_true rfl⟩ cf2 pk_64 pl_64 (c_X4_bestStand Γ.2.1 E ad pl_1 hc12) rfl rfl (Nat.le_of_ble_eq_true rfl) dX7_stand_46 ?_
        exact j_iret X Y rfl (ret_wi h) dX7_stand_49
      · have h := (if_pos c).symm.trans h
        refine j_aload_n X 0 rfl rfl dX7_stand_31 ?_
        refine bd2_elim h (fun r13 σ14 hc15 h => ?_)
        refine j_callVi X (As := []) (rest := []) mf_X7_refuseNo bw_457 bw_459 bs_10 ⟨rfl, rfl⟩ ⟨Nat.le_of_ble_eq_true rfl, Nat.le_of_ble_eq_true rfl⟩ cf5 pk_0 pl_0 (c_X7_refuseNo Γ.2.1 E ad  hc15) rfl rfl (Nat.le_of_ble_eq_true rfl) dX7_stand_32 ?_
        exact j_iret X Y rfl (ret_wi h) dX7_stand_35
    · have h := (if_pos c).symm.trans h
      refine j_aload_n X 0 rfl rfl dX7_stand_19 ?_
      refine bd2_elim h (fun r16 σ17 hc18 h => ?_)
      refine j_callVi X (As := []) (rest := []) mf_X7_refuseBad bw_227 bw_229 bs_0 ⟨rfl, rfl⟩ ⟨Nat.le_of_ble_eq_true rfl, Nat.le_of_ble_eq_true rfl⟩ cf5 pk_0 pl_0 (c_X7_refuseBad Γ.2.1 E ad  hc18) rfl rfl (Nat.le_of_ble_eq_true rfl) dX7_stand_20 ?_
      exact j_iret X Y rfl (ret_wi h) dX7_stand_23

abbrev rm_X7_told : Room := { frames := 2, cells := 0, slots := 0, locals := 49 }
set_option maxHeartbeats 4000000 in
set_option maxRecDepth 100000 in
theorem c_X7_told (l : Launch) (E : Ev) (ad : Nat → Nat)   {a1 : Int32} {a2 : Int32} {a3 : Int32} {σ : Sg} {r : Int32 × Sg} (h : m_X7_told a1 a2 a3 σ = some r) : Met l yX7_told (wY yX7_told cX7_told 4 (some .int)) rm_X7_told (va_Pc [.ref (ad 0), .int a1, .int a2, .int a3] (PreU E ad RF 85 σ)) (QcN E ad (some (.int r.1), r.2)) 0 0 (EA E) := by
  refine met_of (L0 := [(0, .ref (ad 0)), (1, .int a1), (2, .int a2), (3, .int a3)]) rfl (Nat.le_of_ble_eq_true rfl) rfl (fun Γ X Y => ?_)
  have X : XC Γ E rm_X7_told cX7_told 4 RX7 := X
  unfold m_X7_told at h
  refine j_iload_n X 1 rfl rfl dX7_told_0 ?_
  refine bd1_elim h (fun r1 hc2 h => ?_)
  refine j_callSi X (As := [.int a1]) (rest := []) mf_X7_isRoom bw_221 bw_222 ⟨rfl, rfl⟩ ⟨Nat.le_of_ble_eq_true rfl, Nat.le_of_ble_eq_true rfl⟩ (c_X7_isRoom Γ.2.1 E ad  hc2) rfl rfl (Nat.le_of_ble_eq_true rfl) dX7_told_1 ?_
  refine j_if_eq X (tgt := 24) (by decide) dX7_told_4 (fun c => ?_) (fun c => ?_)
  · have h := (if_pos c).symm.trans h
    refine j_aload_n X 0 rfl rfl dX7_told_24 ?_
    refine bd2_elim h (fun r3 σ4 hc5 h => ?_)
    refine j_callVi X (As := []) (rest := []) mf_X7_refuseBad bw_227 bw_229 bs_0 ⟨rfl, rfl⟩ ⟨Nat.le_of_ble_eq_true rfl, Nat.le_of_ble_eq_true rfl⟩ cf5 pk_0 pl_0 (c_X7_refuseBad Γ.2.1 E ad  hc5) rfl rfl (Nat.le_of_ble_eq_true rfl) dX7_told_25 ?_
    exact j_iret X Y rfl (ret_wi h) dX7_told_28
  · have h := (if_neg c).symm.trans h
    refine j_iload_n X 2 rfl rfl dX7_told_7 ?_
    refine bd1_elim h (fun r6 hc7 h => ?_)
    refine j_callSi X (As := [.int a2]) (rest := []) mf_X7_isSpeakingMinute bw_520 bw_392 ⟨rfl, rfl⟩ ⟨Nat.le_of_ble_eq_true rfl, Nat.le_of_ble_eq_true rfl⟩ (c_X7_isSpeakingMinute Γ.2.1 E ad  hc7) rfl rfl (Nat.le_of_ble_eq_true rfl) dX7_told_8 ?_
    refine j_if_eq X (tgt := 24) (by decide) dX7_told_11 (fun c => ?_) (fun c => ?_)
    · have h := (if_pos c).symm.trans h
      refine j_aload_n X 0 rfl rfl dX7_told_24 ?_
      refine bd2_elim h (fun r8 σ9 hc10 h => ?_)
      refine j_callVi X (As := []) (rest := []) mf_X7_refuseBad bw_227 bw_229 bs_0 ⟨rfl, rfl⟩ ⟨Nat.le_of_ble_eq_true rfl, Nat.le_of_ble_eq_true rfl⟩ cf5 pk_0 pl_0 (c_X7_refuseBad Γ.2.1 E ad  hc10) rfl rfl (Nat.le_of_ble_eq_true rfl) dX7_told_25 ?_
      exact j_iret X Y rfl (ret_wi h) dX7_told_28
    · have h := (if_neg c).symm.trans h
      refine j_iload_n X 3 rfl rfl dX7_told_14 ?_
      refine j_iconst X (v := 0) (by decide) dX7_told_15 ?_
      refine j_bipush X (v := 99) (by decide) dX7_told_16 ?_
      refine bd1_elim h (fun r11 hc12 h => ?_)
      refine j_callSi X (As := [.int a3, .int (0 : Int32), .int (99 : Int32)]) (rest := []) mf_X7_within bw_224 bw_225 ⟨rfl, rfl⟩ ⟨Nat.le_of_ble_eq_true rfl, Nat.le_of_ble_eq_true rfl⟩ (c_X7_within Γ.2.1 E ad  hc12) rfl rfl (Nat.le_of_ble_eq_true rfl) dX7_told_18 ?_
      refine j_if_ne X (tgt := 29) (by decide) dX7_told_21 (fun c => ?_) (fun c => ?_)
      · have h := (if_neg c).symm.trans h
        refine j_aload_n X 0 rfl rfl dX7_told_29 ?_
        refine j_getr X cf5 pk_0 pl_0 0 rfl ⟨rfl, rfl⟩ 1 rfl bw_157 dX7_told_30 ?_
        refine j_getr X cf1 pk_1 pl_1 4 rfl ⟨rfl, rfl⟩ (1 + 7) (RF_H4 pl_1) bw_73 dX7_told_33 ?_
        refine bd1_elim h (fun r13 hc14 h => ?_)
        refine j_callVi X (As := []) (rest := []) mf_X6_isFull bw_231 bw_232 bs_292 ⟨rfl, rfl⟩ ⟨Nat.le_of_ble_eq_true rfl, Nat.le_of_ble_eq_true rfl⟩ cf4 (lay_lt (lay_H4 pl_1) (by decide)) (lay_H4 pl_1) (c_X6_isFull Γ.2.1 E ad (lay_H4 pl_1) hc14) rfl rfl (Nat.le_of_ble_eq_true rfl) dX7_told_36 ?_
        refine j_if_eq X (tgt := 47) (by decide) dX7_told_39 (fun c => ?_) (fun c => ?_)
        · have h := (if_pos c).symm.trans h
          refine j_aload_n X 0 rfl rfl dX7_told_47 ?_
          refine j_getr X cf5 pk_0 pl_0 0 rfl ⟨rfl, rfl⟩ 1 rfl bw_157 dX7_told_48 ?_
          refine j_getr X cf1 pk_1 pl_1 4 rfl ⟨rfl, rfl⟩ (1 + 7) (RF_H4 pl_1) bw_73 dX7_told_51 ?_
          refine j_iload_n X 1 rfl rfl dX7_told_54 ?_
          refine j_iload_n X 2 rfl rfl dX7_told_55 ?_
          refine j_iload_n X 3 rfl rfl dX7_told_56 ?_
          refine j_iconst X (v := 0) (by decide) dX7_told_57 ?_
          refine bd2_elim h (fun r15 σ16 hc17 h => ?_)
          refine j_callVi X (As := [.int a1, .int a2, .int a3, .int (0 : Int32)]) (rest := []) mf_X6_add bw_261 bw_244 bs_304 ⟨rfl, rfl⟩ ⟨Nat.le_of_ble_eq_true rfl, Nat.le_of_ble_eq_true rfl⟩ cf4 (lay_lt (lay_H4 pl_1) (by decide)) (lay_H4 pl_1) (c_X6_add Γ.2.1 E ad (lay_H4 pl_1) hc17) rfl rfl (Nat.le_of_ble_eq_true rfl) dX7_told_58 ?_
          refine j_iconst X (v := 1) (by decide) dX7_told_61 ?_
          refine j_iadd X dX7_told_62 ?_
          exact j_iret X Y rfl (ret_wi h) dX7_told_63
        · have h := (if_neg c).symm.trans h
          refine j_aload_n X 0 rfl rfl dX7_told_42 ?_
          refine bd2_elim h (fun r18 σ19 hc20 h => ?_)
          refine j_callVi X (As := []) (rest := []) mf_X7_refuseFull bw_235 bw_237 bs_1 ⟨rfl, rfl⟩ ⟨Nat.le_of_ble_eq_true rfl, Nat.le_of_ble_eq_true rfl⟩ cf5 pk_0 pl_0 (c_X7_refuseFull Γ.2.1 E ad  hc20) rfl rfl (Nat.le_of_ble_eq_true rfl) dX7_told_43 ?_
          exact j_iret X Y rfl (ret_wi h) dX7_told_46
      · have h := (if_pos c).symm.trans h
        refine j_aload_n X 0 rfl rfl dX7_told_24 ?_
        refine bd2_elim h (fun r21 σ22 hc23 h => ?_)
        refine j_callVi X (As := []) (rest := []) mf_X7_refuseBad bw_227 bw_229 bs_0 ⟨rfl, rfl⟩ ⟨Nat.le_of_ble_eq_true rfl, Nat.le_of_ble_eq_true rfl⟩ cf5 pk_0 pl_0 (c_X7_refuseBad Γ.2.1 E ad  hc23) rfl rfl (Nat.le_of_ble_eq_true rfl) dX7_told_25 ?_
        exact j_iret X Y rfl (ret_wi h) dX7_told_28

abbrev rm_X7_said : Room := { frames := 4, cells := 0, slots := 0, locals := 101 }
set_option maxHeartbeats 4000000 in
set_option maxRecDepth 100000 in
theorem c_X7_said (l : Launch) (E : Ev) (ad : Nat → Nat)   {a1 : Int32} {a2 : Int32} {σ : Sg} {r : Int32 × Sg} (h : m_X7_said a1 a2 σ = some r) : Met l yX7_said (wY yX7_said cX7_said 3 (some .int)) rm_X7_said (va_Pc [.ref (ad 0), .int a1, .int a2] (PreU E ad RF 85 σ)) (QcN E ad (some (.int r.1), r.2)) 0 0 (EA E) := by
  refine met_of (L0 := [(0, .ref (ad 0)), (1, .int a1), (2, .int a2)]) rfl (Nat.le_of_ble_eq_true rfl) rfl (fun Γ X Y => ?_)
  have X : XC Γ E rm_X7_said cX7_said 3 RX7 := X
  unfold m_X7_said at h
  refine j_iload_n X 1 rfl rfl dX7_said_0 ?_
  refine bd1_elim h (fun r1 hc2 h => ?_)
  refine j_callSi X (As := [.int a1]) (rest := []) mf_X7_isRoom bw_221 bw_222 ⟨rfl, rfl⟩ ⟨Nat.le_of_ble_eq_true rfl, Nat.le_of_ble_eq_true rfl⟩ (c_X7_isRoom Γ.2.1 E ad  hc2) rfl rfl (Nat.le_of_ble_eq_true rfl) dX7_said_1 ?_
  refine j_if_eq X (tgt := 16) (by decide) dX7_said_4 (fun c => ?_) (fun c => ?_)
  · have h := (if_pos c).symm.trans h
    refine j_aload_n X 0 rfl rfl dX7_said_16 ?_
    refine bd2_elim h (fun r3 σ4 hc5 h => ?_)
    refine j_callVi X (As := []) (rest := []) mf_X7_refuseBad bw_227 bw_229 bs_0 ⟨rfl, rfl⟩ ⟨Nat.le_of_ble_eq_true rfl, Nat.le_of_ble_eq_true rfl⟩ cf5 pk_0 pl_0 (c_X7_refuseBad Γ.2.1 E ad  hc5) rfl rfl (Nat.le_of_ble_eq_true rfl) dX7_said_17 ?_
    exact j_iret X Y rfl (ret_wi h) dX7_said_20
  · have h := (if_neg c).symm.trans h
    refine j_iload_n X 2 rfl rfl dX7_said_7 ?_
    refine j_iconst X (v := 0) (by decide) dX7_said_8 ?_
    refine j_iconst X (v := 2) (by decide) dX7_said_9 ?_
    refine bd1_elim h (fun r6 hc7 h => ?_)
    refine j_callSi X (As := [.int a2, .int (0 : Int32), .int (2 : Int32)]) (rest := []) mf_X7_within bw_224 bw_225 ⟨rfl, rfl⟩ ⟨Nat.le_of_ble_eq_true rfl, Nat.le_of_ble_eq_true rfl⟩ (c_X7_within Γ.2.1 E ad  hc7) rfl rfl (Nat.le_of_ble_eq_true rfl) dX7_said_10 ?_
    refine j_if_ne X (tgt := 21) (by decide) dX7_said_13 (fun c => ?_) (fun c => ?_)
    · have h := (if_neg c).symm.trans h
      refine j_aload_n X 0 rfl rfl dX7_said_21 ?_
      refine j_getr X cf5 pk_0 pl_0 0 rfl ⟨rfl, rfl⟩ 1 rfl bw_157 dX7_said_22 ?_
      refine j_iload_n X 1 rfl rfl dX7_said_25 ?_
      refine j_iload_n X 2 rfl rfl dX7_said_26 ?_
      refine bd1_elim h (fun r8 hc9 h => ?_)
      refine j_callSi X (As := [.ref (ad 1), .int a1, .int a2]) (rest := []) mf_X0_setsSaid bw_573 bw_574 ⟨rfl, rfl⟩ ⟨Nat.le_of_ble_eq_true rfl, Nat.le_of_ble_eq_true rfl⟩ (c_X0_setsSaid Γ.2.1 E ad pl_1 hc9) rfl rfl (Nat.le_of_ble_eq_true rfl) dX7_said_27 ?_
      exact j_iret X Y rfl (ret_wi h) dX7_said_30
    · have h := (if_pos c).symm.trans h
      refine j_aload_n X 0 rfl rfl dX7_said_16 ?_
      refine bd2_elim h (fun r10 σ11 hc12 h => ?_)
      refine j_callVi X (As := []) (rest := []) mf_X7_refuseBad bw_227 bw_229 bs_0 ⟨rfl, rfl⟩ ⟨Nat.le_of_ble_eq_true rfl, Nat.le_of_ble_eq_true rfl⟩ cf5 pk_0 pl_0 (c_X7_refuseBad Γ.2.1 E ad  hc12) rfl rfl (Nat.le_of_ble_eq_true rfl) dX7_said_17 ?_
      exact j_iret X Y rfl (ret_wi h) dX7_said_20

abbrev rm_X7_note : Room := { frames := 2, cells := 0, slots := 0, locals := 49 }
set_option maxHeartbeats 4000000 in
set_option maxRecDepth 100000 in
theorem c_X7_note (l : Launch) (E : Ev) (ad : Nat → Nat)   {a1 : Int32} {a2 : Int32} {a3 : Int32} {a4 : Int32} {σ : Sg} {r : Int32 × Sg} (h : m_X7_note a1 a2 a3 a4 σ = some r) : Met l yX7_note (wY yX7_note cX7_note 6 (some .int)) rm_X7_note (va_Pc [.ref (ad 0), .int a1, .int a2, .int a3, .int a4] (PreU E ad RF 85 σ)) (QcN E ad (some (.int r.1), r.2)) 0 0 (EA E) := by
  refine met_of (L0 := [(0, .ref (ad 0)), (1, .int a1), (2, .int a2), (3, .int a3), (4, .int a4)]) rfl (Nat.le_of_ble_eq_true rfl) rfl (fun Γ X Y => ?_)
  have X : XC Γ E rm_X7_note cX7_note 6 RX7 := X
  unfold m_X7_note at h
  refine j_aload_n X 0 rfl rfl dX7_note_0 ?_
  refine j_iload_n X 1 rfl rfl dX7_note_1 ?_
  refine bd1_elim h (fun r1 hc2 h => ?_)
  refine j_callVi X (As := [.int a1]) (rest := []) mf_X7_isSaying bw_499 bw_501 bs_12 ⟨rfl, rfl⟩ ⟨Nat.le_of_ble_eq_true rfl, Nat.le_of_ble_eq_true rfl⟩ cf5 pk_0 pl_0 (c_X7_isSaying Γ.2.1 E ad  hc2) rfl rfl (Nat.le_of_ble_eq_true rfl) dX7_note_2 ?_
  refine bd1_elim h (fun o4 hr h => ?_)
  have hJ3 : J Γ E 6 ad RF 85 σ 0 0 30 [(0, .ref (ad 0)), (1, .int a1), (2, .int a2), (3, .int a3), (4, .int a4)] [.int o4] := by
    refine j_istore X (L' := [(5, .int o4), (0, .ref (ad 0)), (1, .int a1), (2, .int a2), (3, .int a3), (4, .int a4)]) rfl (by decide) rfl dX7_note_30 ?_
    refine j_iload X 0 rfl dX7_note_32 ?_
    refine j_if_eq X (tgt := 48) (by decide) dX7_note_34 (fun c => ?_) (fun c => ?_)
    · have h := (if_pos c).symm.trans h
      refine j_aload_n X 1 rfl rfl dX7_note_48 ?_
      refine bd2_elim h (fun r5 σ6 hc7 h => ?_)
      refine j_callVi X (As := []) (rest := []) mf_X7_refuseBad bw_227 bw_229 bs_0 ⟨rfl, rfl⟩ ⟨Nat.le_of_ble_eq_true rfl, Nat.le_of_ble_eq_true rfl⟩ cf5 pk_0 pl_0 (c_X7_refuseBad Γ.2.1 E ad  hc7) rfl rfl (Nat.le_of_ble_eq_true rfl) dX7_note_49 ?_
      exact j_iret X Y rfl (ret_wi h) dX7_note_52
    · have h := (if_neg c).symm.trans h
      refine j_iload X 5 rfl dX7_note_37 ?_
      refine j_iconst X (v := 0) (by decide) dX7_note_39 ?_
      refine j_bipush X (v := 20) (by decide) dX7_note_40 ?_
      refine bd1_elim h (fun r8 hc9 h => ?_)
      refine j_callSi X (As := [.int a4, .int (0 : Int32), .int (20 : Int32)]) (rest := []) mf_X7_within bw_224 bw_225 ⟨rfl, rfl⟩ ⟨Nat.le_of_ble_eq_true rfl, Nat.le_of_ble_eq_true rfl⟩ (c_X7_within Γ.2.1 E ad  hc9) rfl rfl (Nat.le_of_ble_eq_true rfl) dX7_note_42 ?_
      refine j_if_ne X (tgt := 53) (by decide) dX7_note_45 (fun c => ?_) (fun c => ?_)
      · have h := (if_neg c).symm.trans h
        refine j_aload_n X 1 rfl rfl dX7_note_53 ?_
        refine j_getr X cf5 pk_0 pl_0 0 rfl ⟨rfl, rfl⟩ 1 rfl bw_157 dX7_note_54 ?_
        refine j_getr X cf1 pk_1 pl_1 5 rfl ⟨rfl, rfl⟩ (1 + 9) (RF_H5 pl_1) bw_76 dX7_note_57 ?_
        refine bd1_elim h (fun r10 hc11 h => ?_)
        refine j_callVi X (As := []) (rest := []) mf_X6_isFull bw_231 bw_232 bs_292 ⟨rfl, rfl⟩ ⟨Nat.le_of_ble_eq_true rfl, Nat.le_of_ble_eq_true rfl⟩ cf4 (lay_lt (lay_H5 pl_1) (by decide)) (lay_H5 pl_1) (c_X6_isFull Γ.2.1 E ad (lay_H5 pl_1) hc11) rfl rfl (Nat.le_of_ble_eq_true rfl) dX7_note_60 ?_
        refine j_if_eq X (tgt := 71) (by decide) dX7_note_63 (fun c => ?_) (fun c => ?_)
        · have h := (if_pos c).symm.trans h
          refine j_aload_n X 1 rfl rfl dX7_note_71 ?_
          refine j_getr X cf5 pk_0 pl_0 0 rfl ⟨rfl, rfl⟩ 1 rfl bw_157 dX7_note_72 ?_
          refine j_getr X cf1 pk_1 pl_1 5 rfl ⟨rfl, rfl⟩ (1 + 9) (RF_H5 pl_1) bw_76 dX7_note_75 ?_
          refine j_iload_n X 2 rfl rfl dX7_note_78 ?_
          refine j_iload_n X 3 rfl rfl dX7_note_79 ?_
          refine j_iload_n X 4 rfl rfl dX7_note_80 ?_
          refine j_iload X 5 rfl dX7_note_81 ?_
          refine bd2_elim h (fun r12 σ13 hc14 h => ?_)
          refine j_callVi X (As := [.int a1, .int a2, .int a3, .int a4]) (rest := []) mf_X6_add bw_261 bw_244 bs_304 ⟨rfl, rfl⟩ ⟨Nat.le_of_ble_eq_true rfl, Nat.le_of_ble_eq_true rfl⟩ cf4 (lay_lt (lay_H5 pl_1) (by decide)) (lay_H5 pl_1) (c_X6_add Γ.2.1 E ad (lay_H5 pl_1) hc14) rfl rfl (Nat.le_of_ble_eq_true rfl) dX7_note_83 ?_
          refine j_iconst X (v := 1) (by decide) dX7_note_86 ?_
          refine j_iadd X dX7_note_87 ?_
          exact j_iret X Y rfl (ret_wi h) dX7_note_88
        · have h := (if_neg c).symm.trans h
          refine j_aload_n X 1 rfl rfl dX7_note_66 ?_
          refine bd2_elim h (fun r15 σ16 hc17 h => ?_)
          refine j_callVi X (As := []) (rest := []) mf_X7_refuseFull bw_235 bw_237 bs_1 ⟨rfl, rfl⟩ ⟨Nat.le_of_ble_eq_true rfl, Nat.le_of_ble_eq_true rfl⟩ cf5 pk_0 pl_0 (c_X7_refuseFull Γ.2.1 E ad  hc17) rfl rfl (Nat.le_of_ble_eq_true rfl) dX7_note_67 ?_
          exact j_iret X Y rfl (ret_wi h) dX7_note_70
      · have h := (if_pos c).symm.trans h
        refine j_aload_n X 1 rfl rfl dX7_note_48 ?_
        refine bd2_elim h (fun r18 σ19 hc20 h => ?_)
        refine j_callVi X (As := []) (rest := []) mf_X7_refuseBad bw_227 bw_229 bs_0 ⟨rfl, rfl⟩ ⟨Nat.le_of_ble_eq_true rfl, Nat.le_of_ble_eq_true rfl⟩ cf5 pk_0 pl_0 (c_X7_refuseBad Γ.2.1 E ad  hc20) rfl rfl (Nat.le_of_ble_eq_true rfl) dX7_note_49 ?_
        exact j_iret X Y rfl (ret_wi h) dX7_note_52
  clear h
  refine j_if_eq X (tgt := 29) (by decide) dX7_note_5 (fun c => ?_) (fun c => ?_)
  · have hr := (if_pos c).symm.trans hr
    refine j_iconst X (v := 0) (by decide) dX7_note_29 ?_
    cases hr
    exact J.sub [0, 1, 2, 3, 4] rfl hJ3
  · have hr := (if_neg c).symm.trans hr
    refine j_iload_n X 2 rfl rfl dX7_note_8 ?_
    refine j_iconst X (v := 1) (by decide) dX7_note_9 ?_
    refine j_bipush X (v := 9) (by decide) dX7_note_10 ?_
    refine bd1_elim hr (fun r21 hc22 hr => ?_)
    refine j_callSi X (As := [.int a2, .int (1 : Int32), .int (9 : Int32)]) (rest := []) mf_X7_within bw_224 bw_225 ⟨rfl, rfl⟩ ⟨Nat.le_of_ble_eq_true rfl, Nat.le_of_ble_eq_true rfl⟩ (c_X7_within Γ.2.1 E ad  hc22) rfl rfl (Nat.le_of_ble_eq_true rfl) dX7_note_12 ?_
    refine j_if_eq X (tgt := 29) (by decide) dX7_note_15 (fun c => ?_) (fun c => ?_)
    · have hr := (if_pos c).symm.trans hr
      refine j_iconst X (v := 0) (by decide) dX7_note_29 ?_
      cases hr
      exact J.sub [0, 1, 2, 3, 4] rfl hJ3
    · have hr := (if_neg c).symm.trans hr
      refine j_iload_n X 3 rfl rfl dX7_note_18 ?_
      refine bd1_elim hr (fun r23 hc24 hr => ?_)
      refine j_callSi X (As := [.int a3]) (rest := []) mf_X7_isSpeakingMinute bw_520 bw_392 ⟨rfl, rfl⟩ ⟨Nat.le_of_ble_eq_true rfl, Nat.le_of_ble_eq_true rfl⟩ (c_X7_isSpeakingMinute Γ.2.1 E ad  hc24) rfl rfl (Nat.le_of_ble_eq_true rfl) dX7_note_19 ?_
      refine j_if_eq X (tgt := 29) (by decide) dX7_note_22 (fun c => ?_) (fun c => ?_)
      · have hr := (if_pos c).symm.trans hr
        refine j_iconst X (v := 0) (by decide) dX7_note_29 ?_
        cases hr
        exact J.sub [0, 1, 2, 3, 4] rfl hJ3
      · have hr := (if_neg c).symm.trans hr
        refine j_iconst X (v := 1) (by decide) dX7_note_25 ?_
        refine j_goto X (tgt := 30) (by decide) dX7_note_26 ?_
        cases hr
        exact J.sub [0, 1, 2, 3, 4] rfl hJ3

abbrev rm_X7_mark : Room := { frames := 2, cells := 0, slots := 0, locals := 49 }
set_option maxHeartbeats 4000000 in
set_option maxRecDepth 100000 in
theorem c_X7_mark (l : Launch) (E : Ev) (ad : Nat → Nat)   {a1 : Int32} {a2 : Int32} {a3 : Int32} {a4 : Int32} {σ : Sg} {r : Int32 × Sg} (h : m_X7_mark a1 a2 a3 a4 σ = some r) : Met l yX7_mark (wY yX7_mark cX7_mark 6 (some .int)) rm_X7_mark (va_Pc [.ref (ad 0), .int a1, .int a2, .int a3, .int a4] (PreU E ad RF 85 σ)) (QcN E ad (some (.int r.1), r.2)) 0 0 (EA E) := by
  refine met_of (L0 := [(0, .ref (ad 0)), (1, .int a1), (2, .int a2), (3, .int a3), (4, .int a4)]) rfl (Nat.le_of_ble_eq_true rfl) rfl (fun Γ X Y => ?_)
  have X : XC Γ E rm_X7_mark cX7_mark 6 RX7 := X
  unfold m_X7_mark at h
  refine j_aload_n X 0 rfl rfl dX7_mark_0 ?_
  refine j_iload_n X 1 rfl rfl dX7_mark_1 ?_
  refine bd1_elim h (fun r1 hc2 h => ?_)
  refine j_callVi X (As := [.int a1]) (rest := []) mf_X7_isListener bw_466 bw_468 bs_11 ⟨rfl, rfl⟩ ⟨Nat.le_of_ble_eq_true rfl, Nat.le_of_ble_eq_true rfl⟩ cf5 pk_0 pl_0 (c_X7_isListener Γ.2.1 E ad  hc2) rfl rfl (Nat.le_of_ble_eq_true rfl) dX7_mark_2 ?_
  refine bd1_elim h (fun o4 hr h => ?_)
  have hJ3 : J Γ E 6 ad RF 85 σ 0 0 33 [(0, .ref (ad 0)), (1, .int a1), (2, .int a2), (3, .int a3), (4, .int a4)] [.int o4] := by
    refine j_istore X (L' := [(5, .int o4), (0, .ref (ad 0)), (1, .int a1), (2, .int a2), (3, .int a3), (4, .int a4)]) rfl (by decide) rfl dX7_mark_33 ?_
    refine j_iload X 0 rfl dX7_mark_35 ?_
    refine j_if_eq X (tgt := 50) (by decide) dX7_mark_37 (fun c => ?_) (fun c => ?_)
    · have h := (if_pos c).symm.trans h
      refine j_aload_n X 1 rfl rfl dX7_mark_50 ?_
      refine bd2_elim h (fun r5 σ6 hc7 h => ?_)
      refine j_callVi X (As := []) (rest := []) mf_X7_refuseBad bw_227 bw_229 bs_0 ⟨rfl, rfl⟩ ⟨Nat.le_of_ble_eq_true rfl, Nat.le_of_ble_eq_true rfl⟩ cf5 pk_0 pl_0 (c_X7_refuseBad Γ.2.1 E ad  hc7) rfl rfl (Nat.le_of_ble_eq_true rfl) dX7_mark_51 ?_
      exact j_iret X Y rfl (ret_wi h) dX7_mark_54
    · have h := (if_neg c).symm.trans h
      refine j_iload X 5 rfl dX7_mark_40 ?_
      refine j_iconst X (v := 0) (by decide) dX7_mark_42 ?_
      refine j_iconst X (v := 1) (by decide) dX7_mark_43 ?_
      refine bd1_elim h (fun r8 hc9 h => ?_)
      refine j_callSi X (As := [.int a4, .int (0 : Int32), .int (1 : Int32)]) (rest := []) mf_X7_within bw_224 bw_225 ⟨rfl, rfl⟩ ⟨Nat.le_of_ble_eq_true rfl, Nat.le_of_ble_eq_true rfl⟩ (c_X7_within Γ.2.1 E ad  hc9) rfl rfl (Nat.le_of_ble_eq_true rfl) dX7_mark_44 ?_
      refine j_if_ne X (tgt := 55) (by decide) dX7_mark_47 (fun c => ?_) (fun c => ?_)
      · have h := (if_neg c).symm.trans h
        refine j_aload_n X 1 rfl rfl dX7_mark_55 ?_
        refine j_getr X cf5 pk_0 pl_0 0 rfl ⟨rfl, rfl⟩ 1 rfl bw_157 dX7_mark_56 ?_
        refine j_getr X cf1 pk_1 pl_1 6 rfl ⟨rfl, rfl⟩ (1 + 11) (RF_H6 pl_1) bw_79 dX7_mark_59 ?_
        refine bd1_elim h (fun r10 hc11 h => ?_)
        refine j_callVi X (As := []) (rest := []) mf_X6_isFull bw_231 bw_232 bs_292 ⟨rfl, rfl⟩ ⟨Nat.le_of_ble_eq_true rfl, Nat.le_of_ble_eq_true rfl⟩ cf4 (lay_lt (lay_H6 pl_1) (by decide)) (lay_H6 pl_1) (c_X6_isFull Γ.2.1 E ad (lay_H6 pl_1) hc11) rfl rfl (Nat.le_of_ble_eq_true rfl) dX7_mark_62 ?_
        refine j_if_eq X (tgt := 73) (by decide) dX7_mark_65 (fun c => ?_) (fun c => ?_)
        · have h := (if_pos c).symm.trans h
          refine j_aload_n X 1 rfl rfl dX7_mark_73 ?_
          refine j_getr X cf5 pk_0 pl_0 0 rfl ⟨rfl, rfl⟩ 1 rfl bw_157 dX7_mark_74 ?_
          refine j_getr X cf1 pk_1 pl_1 6 rfl ⟨rfl, rfl⟩ (1 + 11) (RF_H6 pl_1) bw_79 dX7_mark_77 ?_
          refine j_iload_n X 2 rfl rfl dX7_mark_80 ?_
          refine j_iload_n X 3 rfl rfl dX7_mark_81 ?_
          refine j_iload_n X 4 rfl rfl dX7_mark_82 ?_
          refine j_iload X 5 rfl dX7_mark_83 ?_
          refine bd2_elim h (fun r12 σ13 hc14 h => ?_)
          refine j_callVi X (As := [.int a1, .int a2, .int a3, .int a4]) (rest := []) mf_X6_add bw_261 bw_244 bs_304 ⟨rfl, rfl⟩ ⟨Nat.le_of_ble_eq_true rfl, Nat.le_of_ble_eq_true rfl⟩ cf4 (lay_lt (lay_H6 pl_1) (by decide)) (lay_H6 pl_1) (c_X6_add Γ.2.1 E ad (lay_H6 pl_1) hc14) rfl rfl (Nat.le_of_ble_eq_true rfl) dX7_mark_85 ?_
          refine j_iconst X (v := 1) (by decide) dX7_mark_88 ?_
          refine j_iadd X dX7_mark_89 ?_
          exact j_iret X Y rfl (ret_wi h) dX7_mark_90
        · have h := (if_neg c).symm.trans h
          refine j_aload_n X 1 rfl rfl dX7_mark_68 ?_
          refine bd2_elim h (fun r15 σ16 hc17 h => ?_)
          refine j_callVi X (As := []) (rest := []) mf_X7_refuseFull bw_235 bw_237 bs_1 ⟨rfl, rfl⟩ ⟨Nat.le_of_ble_eq_true rfl, Nat.le_of_ble_eq_true rfl⟩ cf5 pk_0 pl_0 (c_X7_refuseFull Γ.2.1 E ad  hc17) rfl rfl (Nat.le_of_ble_eq_true rfl) dX7_mark_69 ?_
          exact j_iret X Y rfl (ret_wi h) dX7_mark_72
      · have h := (if_pos c).symm.trans h
        refine j_aload_n X 1 rfl rfl dX7_mark_50 ?_
        refine bd2_elim h (fun r18 σ19 hc20 h => ?_)
        refine j_callVi X (As := []) (rest := []) mf_X7_refuseBad bw_227 bw_229 bs_0 ⟨rfl, rfl⟩ ⟨Nat.le_of_ble_eq_true rfl, Nat.le_of_ble_eq_true rfl⟩ cf5 pk_0 pl_0 (c_X7_refuseBad Γ.2.1 E ad  hc20) rfl rfl (Nat.le_of_ble_eq_true rfl) dX7_mark_51 ?_
        exact j_iret X Y rfl (ret_wi h) dX7_mark_54
  clear h
  refine j_if_eq X (tgt := 32) (by decide) dX7_mark_5 (fun c => ?_) (fun c => ?_)
  · have hr := (if_pos c).symm.trans hr
    refine j_iconst X (v := 0) (by decide) dX7_mark_32 ?_
    cases hr
    exact J.sub [0, 1, 2, 3, 4] rfl hJ3
  · have hr := (if_neg c).symm.trans hr
    refine j_iload_n X 2 rfl rfl dX7_mark_8 ?_
    refine j_iconst X (v := 0) (by decide) dX7_mark_9 ?_
    refine j_bipush X (v := 20) (by decide) dX7_mark_10 ?_
    refine bd1_elim hr (fun r21 hc22 hr => ?_)
    refine j_callSi X (As := [.int a2, .int (0 : Int32), .int (20 : Int32)]) (rest := []) mf_X7_within bw_224 bw_225 ⟨rfl, rfl⟩ ⟨Nat.le_of_ble_eq_true rfl, Nat.le_of_ble_eq_true rfl⟩ (c_X7_within Γ.2.1 E ad  hc22) rfl rfl (Nat.le_of_ble_eq_true rfl) dX7_mark_12 ?_
    refine j_if_eq X (tgt := 32) (by decide) dX7_mark_15 (fun c => ?_) (fun c => ?_)
    · have hr := (if_pos c).symm.trans hr
      refine j_iconst X (v := 0) (by decide) dX7_mark_32 ?_
      cases hr
      exact J.sub [0, 1, 2, 3, 4] rfl hJ3
    · have hr := (if_neg c).symm.trans hr
      refine j_iload_n X 3 rfl rfl dX7_mark_18 ?_
      refine j_iconst X (v := 0) (by decide) dX7_mark_19 ?_
      refine j_bipush X (v := 99) (by decide) dX7_mark_20 ?_
      refine bd1_elim hr (fun r23 hc24 hr => ?_)
      refine j_callSi X (As := [.int a3, .int (0 : Int32), .int (99 : Int32)]) (rest := []) mf_X7_within bw_224 bw_225 ⟨rfl, rfl⟩ ⟨Nat.le_of_ble_eq_true rfl, Nat.le_of_ble_eq_true rfl⟩ (c_X7_within Γ.2.1 E ad  hc24) rfl rfl (Nat.le_of_ble_eq_true rfl) dX7_mark_22 ?_
      refine j_if_eq X (tgt := 32) (by decide) dX7_mark_25 (fun c => ?_) (fun c => ?_)
      · have hr := (if_pos c).symm.trans hr
        refine j_iconst X (v := 0) (by decide) dX7_mark_32 ?_
        cases hr
        exact J.sub [0, 1, 2, 3, 4] rfl hJ3
      · have hr := (if_neg c).symm.trans hr
        refine j_iconst X (v := 1) (by decide) dX7_mark_28 ?_
        refine j_goto X (tgt := 33) (by decide) dX7_mark_29 ?_
        cases hr
        exact J.sub [0, 1, 2, 3, 4] rfl hJ3

abbrev rm_X7_forget : Room := { frames := 1, cells := 0, slots := 0, locals := 21 }
set_option maxHeartbeats 4000000 in
set_option maxRecDepth 100000 in
theorem c_X7_forget (l : Launch) (E : Ev) (ad : Nat → Nat)   {a1 : Int32} {σ : Sg} {r : Int32 × Sg} (h : m_X7_forget a1 σ = some r) : Met l yX7_forget (wY yX7_forget cX7_forget 2 (some .int)) rm_X7_forget (va_Pc [.ref (ad 0), .int a1] (PreU E ad RF 85 σ)) (QcN E ad (some (.int r.1), r.2)) 0 0 (EA E) := by
  refine met_of (L0 := [(0, .ref (ad 0)), (1, .int a1)]) rfl (Nat.le_of_ble_eq_true rfl) rfl (fun Γ X Y => ?_)
  have X : XC Γ E rm_X7_forget cX7_forget 2 RX7 := X
  unfold m_X7_forget at h
  refine j_iload_n X 1 rfl rfl dX7_forget_0 ?_
  by_cases c0 : a1 = 0
  · have h := (if_pos c0).symm.trans h
    refine j_tableIn X (tgt := 28) (by rw [c0]; decide) (by rw [c0]; decide) (by rw [c0]; rfl) (by decide) dX7_forget_1 ?_
    refine j_aload_n X 0 rfl rfl dX7_forget_28 ?_
    refine j_getr X cf5 pk_0 pl_0 0 rfl ⟨rfl, rfl⟩ 1 rfl bw_157 dX7_forget_29 ?_
    refine j_getr X cf1 pk_1 pl_1 4 rfl ⟨rfl, rfl⟩ (1 + 7) (RF_H4 pl_1) bw_73 dX7_forget_32 ?_
    refine bd2_elim h (fun r1 σ2 hc3 h => ?_)
    refine j_callVi X (As := []) (rest := []) mf_X6_empty bw_266 bw_203 bs_263 ⟨rfl, rfl⟩ ⟨Nat.le_of_ble_eq_true rfl, Nat.le_of_ble_eq_true rfl⟩ cf4 (lay_lt (lay_H4 pl_1) (by decide)) (lay_H4 pl_1) (c_X6_empty Γ.2.1 E ad (lay_H4 pl_1) hc3) rfl rfl (Nat.le_of_ble_eq_true rfl) dX7_forget_35 ?_
    exact j_iret X Y rfl (ret_wi h) dX7_forget_38
  · have h := (if_neg c0).symm.trans h
    by_cases c1 : a1 = 1
    · have h := (if_pos c1).symm.trans h
      refine j_tableIn X (tgt := 39) (by rw [c1]; decide) (by rw [c1]; decide) (by rw [c1]; rfl) (by decide) dX7_forget_1 ?_
      refine j_aload_n X 0 rfl rfl dX7_forget_39 ?_
      refine j_getr X cf5 pk_0 pl_0 0 rfl ⟨rfl, rfl⟩ 1 rfl bw_157 dX7_forget_40 ?_
      refine j_getr X cf1 pk_1 pl_1 5 rfl ⟨rfl, rfl⟩ (1 + 9) (RF_H5 pl_1) bw_76 dX7_forget_43 ?_
      refine bd2_elim h (fun r4 σ5 hc6 h => ?_)
      refine j_callVi X (As := []) (rest := []) mf_X6_empty bw_266 bw_203 bs_263 ⟨rfl, rfl⟩ ⟨Nat.le_of_ble_eq_true rfl, Nat.le_of_ble_eq_true rfl⟩ cf4 (lay_lt (lay_H5 pl_1) (by decide)) (lay_H5 pl_1) (c_X6_empty Γ.2.1 E ad (lay_H5 pl_1) hc6) rfl rfl (Nat.le_of_ble_eq_true rfl) dX7_forget_46 ?_
      exact j_iret X Y rfl (ret_wi h) dX7_forget_49
    · have h := (if_neg c1).symm.trans h
      by_cases c2 : a1 = 2
      · have h := (if_pos c2).symm.trans h
        refine j_tableIn X (tgt := 50) (by rw [c2]; decide) (by rw [c2]; decide) (by rw [c2]; rfl) (by decide) dX7_forget_1 ?_
        refine j_aload_n X 0 rfl rfl dX7_forget_50 ?_
        refine j_getr X cf5 pk_0 pl_0 0 rfl ⟨rfl, rfl⟩ 1 rfl bw_157 dX7_forget_51 ?_
        refine j_getr X cf1 pk_1 pl_1 6 rfl ⟨rfl, rfl⟩ (1 + 11) (RF_H6 pl_1) bw_79 dX7_forget_54 ?_
        refine bd2_elim h (fun r7 σ8 hc9 h => ?_)
        refine j_callVi X (As := []) (rest := []) mf_X6_empty bw_266 bw_203 bs_263 ⟨rfl, rfl⟩ ⟨Nat.le_of_ble_eq_true rfl, Nat.le_of_ble_eq_true rfl⟩ cf4 (lay_lt (lay_H6 pl_1) (by decide)) (lay_H6 pl_1) (c_X6_empty Γ.2.1 E ad (lay_H6 pl_1) hc9) rfl rfl (Nat.le_of_ble_eq_true rfl) dX7_forget_57 ?_
        exact j_iret X Y rfl (ret_wi h) dX7_forget_60
      · have h := (if_neg c2).symm.trans h
        refine j_tableOut X (tgt := 61) (sw_out (x := a1) (lo := 0) (hi := 2) (fun z h1 h2 => by rcases (by omega : z = 0 ∨ z = 1 ∨ z = 2) with rfl | rfl | rfl <;> first | exact c0 | exact c1 | exact c2)) (by decide) dX7_forget_1 ?_
        refine j_aload_n X 0 rfl rfl dX7_forget_61 ?_
        refine bd2_elim h (fun r10 σ11 hc12 h => ?_)
        refine j_callVi X (As := []) (rest := []) mf_X7_refuseBad bw_227 bw_229 bs_0 ⟨rfl, rfl⟩ ⟨Nat.le_of_ble_eq_true rfl, Nat.le_of_ble_eq_true rfl⟩ cf5 pk_0 pl_0 (c_X7_refuseBad Γ.2.1 E ad  hc12) rfl rfl (Nat.le_of_ble_eq_true rfl) dX7_forget_62 ?_
        exact j_iret X Y rfl (ret_wi h) dX7_forget_65

abbrev rm_X7_is : Room := { frames := 3, cells := 0, slots := 0, locals := 73 }
set_option maxHeartbeats 4000000 in
set_option maxRecDepth 100000 in
theorem c_X7_is (l : Launch) (E : Ev) (ad : Nat → Nat)   {a1 : Int32} {σ : Sg} {r : Int32 × Sg} (h : m_X7_is a1 σ = some r) : Met l yX7_is (wY yX7_is cX7_is 2 (some .int)) rm_X7_is (va_Pc [.ref (ad 0), .int a1] (PreU E ad RF 85 σ)) (QcN E ad (some (.int r.1), r.2)) 0 0 (EA E) := by
  refine met_of (L0 := [(0, .ref (ad 0)), (1, .int a1)]) rfl (Nat.le_of_ble_eq_true rfl) rfl (fun Γ X Y => ?_)
  have X : XC Γ E rm_X7_is cX7_is 2 RX7 := X
  unfold m_X7_is at h
  refine j_aload_n X 0 rfl rfl dX7_is_0 ?_
  refine j_iload_n X 1 rfl rfl dX7_is_1 ?_
  refine bd1_elim h (fun r1 hc2 h => ?_)
  refine j_callVi X (As := [.int a1]) (rest := []) mf_X7_isSaying bw_499 bw_501 bs_12 ⟨rfl, rfl⟩ ⟨Nat.le_of_ble_eq_true rfl, Nat.le_of_ble_eq_true rfl⟩ cf5 pk_0 pl_0 (c_X7_isSaying Γ.2.1 E ad  hc2) rfl rfl (Nat.le_of_ble_eq_true rfl) dX7_is_2 ?_
  refine j_if_ne X (tgt := 13) (by decide) dX7_is_5 (fun c => ?_) (fun c => ?_)
  · have h := (if_neg c).symm.trans h
    refine j_aload_n X 0 rfl rfl dX7_is_13 ?_
    refine j_getr X cf5 pk_0 pl_0 0 rfl ⟨rfl, rfl⟩ 1 rfl bw_157 dX7_is_14 ?_
    refine j_iload_n X 1 rfl rfl dX7_is_17 ?_
    refine bd1_elim h (fun r3 hc4 h => ?_)
    refine j_callSi X (As := [.ref (ad 1), .int a1]) (rest := []) mf_X0_sayingKinds bw_598 bw_599 ⟨rfl, rfl⟩ ⟨Nat.le_of_ble_eq_true rfl, Nat.le_of_ble_eq_true rfl⟩ (c_X0_sayingKinds Γ.2.1 E ad pl_1 hc4) rfl rfl (Nat.le_of_ble_eq_true rfl) dX7_is_18 ?_
    exact j_iret X Y rfl (ret_wi h) dX7_is_21
  · have h := (if_pos c).symm.trans h
    refine j_aload_n X 0 rfl rfl dX7_is_8 ?_
    refine bd2_elim h (fun r5 σ6 hc7 h => ?_)
    refine j_callVi X (As := []) (rest := []) mf_X7_refuseBad bw_227 bw_229 bs_0 ⟨rfl, rfl⟩ ⟨Nat.le_of_ble_eq_true rfl, Nat.le_of_ble_eq_true rfl⟩ cf5 pk_0 pl_0 (c_X7_refuseBad Γ.2.1 E ad  hc7) rfl rfl (Nat.le_of_ble_eq_true rfl) dX7_is_9 ?_
    exact j_iret X Y rfl (ret_wi h) dX7_is_12

abbrev rm_X7_look : Room := { frames := 4, cells := 0, slots := 0, locals := 103 }
set_option maxHeartbeats 4000000 in
set_option maxRecDepth 100000 in
theorem c_X7_look (l : Launch) (E : Ev) (ad : Nat → Nat)   {a1 : Int32} {σ : Sg} {r : Int32 × Sg} (h : m_X7_look a1 σ = some r) : Met l yX7_look (wY yX7_look cX7_look 2 (some .int)) rm_X7_look (va_Pc [.ref (ad 0), .int a1] (PreU E ad RF 85 σ)) (QcN E ad (some (.int r.1), r.2)) 0 0 (EA E) := by
  refine met_of (L0 := [(0, .ref (ad 0)), (1, .int a1)]) rfl (Nat.le_of_ble_eq_true rfl) rfl (fun Γ X Y => ?_)
  have X : XC Γ E rm_X7_look cX7_look 2 RX7 := X
  unfold m_X7_look at h
  refine j_aload_n X 0 rfl rfl dX7_look_0 ?_
  refine j_iload_n X 1 rfl rfl dX7_look_1 ?_
  refine bd1_elim h (fun r1 hc2 h => ?_)
  refine j_callVi X (As := [.int a1]) (rest := []) mf_X7_isSaying bw_499 bw_501 bs_12 ⟨rfl, rfl⟩ ⟨Nat.le_of_ble_eq_true rfl, Nat.le_of_ble_eq_true rfl⟩ cf5 pk_0 pl_0 (c_X7_isSaying Γ.2.1 E ad  hc2) rfl rfl (Nat.le_of_ble_eq_true rfl) dX7_look_2 ?_
  refine j_if_ne X (tgt := 13) (by decide) dX7_look_5 (fun c => ?_) (fun c => ?_)
  · have h := (if_neg c).symm.trans h
    refine j_aload_n X 0 rfl rfl dX7_look_13 ?_
    refine j_getr X cf5 pk_0 pl_0 0 rfl ⟨rfl, rfl⟩ 1 rfl bw_157 dX7_look_14 ?_
    refine j_iload_n X 1 rfl rfl dX7_look_17 ?_
    refine bd1_elim h (fun r3 hc4 h => ?_)
    refine j_callSi X (As := [.ref (ad 1), .int a1]) (rest := []) mf_X0_nextLook bw_609 bw_610 ⟨rfl, rfl⟩ ⟨Nat.le_of_ble_eq_true rfl, Nat.le_of_ble_eq_true rfl⟩ (c_X0_nextLook Γ.2.1 E ad pl_1 hc4) rfl rfl (Nat.le_of_ble_eq_true rfl) dX7_look_18 ?_
    exact j_iret X Y rfl (ret_wi h) dX7_look_21
  · have h := (if_pos c).symm.trans h
    refine j_aload_n X 0 rfl rfl dX7_look_8 ?_
    refine bd2_elim h (fun r5 σ6 hc7 h => ?_)
    refine j_callVi X (As := []) (rest := []) mf_X7_refuseBad bw_227 bw_229 bs_0 ⟨rfl, rfl⟩ ⟨Nat.le_of_ble_eq_true rfl, Nat.le_of_ble_eq_true rfl⟩ cf5 pk_0 pl_0 (c_X7_refuseBad Γ.2.1 E ad  hc7) rfl rfl (Nat.le_of_ble_eq_true rfl) dX7_look_9 ?_
    exact j_iret X Y rfl (ret_wi h) dX7_look_12

abbrev rm_X7_kinds : Room := { frames := 4, cells := 0, slots := 0, locals := 96 }
set_option maxHeartbeats 4000000 in
set_option maxRecDepth 100000 in
theorem c_X7_kinds (l : Launch) (E : Ev) (ad : Nat → Nat)   {a1 : Int32} {σ : Sg} {r : Int32 × Sg} (h : m_X7_kinds a1 σ = some r) : Met l yX7_kinds (wY yX7_kinds cX7_kinds 2 (some .int)) rm_X7_kinds (va_Pc [.ref (ad 0), .int a1] (PreU E ad RF 85 σ)) (QcN E ad (some (.int r.1), r.2)) 0 0 (EA E) := by
  refine met_of (L0 := [(0, .ref (ad 0)), (1, .int a1)]) rfl (Nat.le_of_ble_eq_true rfl) rfl (fun Γ X Y => ?_)
  have X : XC Γ E rm_X7_kinds cX7_kinds 2 RX7 := X
  unfold m_X7_kinds at h
  refine j_aload_n X 0 rfl rfl dX7_kinds_0 ?_
  refine j_iload_n X 1 rfl rfl dX7_kinds_1 ?_
  refine bd1_elim h (fun r1 hc2 h => ?_)
  refine j_callVi X (As := [.int a1]) (rest := []) mf_X7_isListener bw_466 bw_468 bs_11 ⟨rfl, rfl⟩ ⟨Nat.le_of_ble_eq_true rfl, Nat.le_of_ble_eq_true rfl⟩ cf5 pk_0 pl_0 (c_X7_isListener Γ.2.1 E ad  hc2) rfl rfl (Nat.le_of_ble_eq_true rfl) dX7_kinds_2 ?_
  refine j_if_ne X (tgt := 13) (by decide) dX7_kinds_5 (fun c => ?_) (fun c => ?_)
  · have h := (if_neg c).symm.trans h
    refine j_aload_n X 0 rfl rfl dX7_kinds_13 ?_
    refine j_getr X cf5 pk_0 pl_0 0 rfl ⟨rfl, rfl⟩ 1 rfl bw_157 dX7_kinds_14 ?_
    refine j_iload_n X 1 rfl rfl dX7_kinds_17 ?_
    refine bd1_elim h (fun r3 hc4 h => ?_)
    refine j_callSi X (As := [.ref (ad 1), .int a1]) (rest := []) mf_X0_listenerKinds bw_625 bw_626 ⟨rfl, rfl⟩ ⟨Nat.le_of_ble_eq_true rfl, Nat.le_of_ble_eq_true rfl⟩ (c_X0_listenerKinds Γ.2.1 E ad pl_1 hc4) rfl rfl (Nat.le_of_ble_eq_true rfl) dX7_kinds_18 ?_
    exact j_iret X Y rfl (ret_wi h) dX7_kinds_21
  · have h := (if_pos c).symm.trans h
    refine j_aload_n X 0 rfl rfl dX7_kinds_8 ?_
    refine bd2_elim h (fun r5 σ6 hc7 h => ?_)
    refine j_callVi X (As := []) (rest := []) mf_X7_refuseBad bw_227 bw_229 bs_0 ⟨rfl, rfl⟩ ⟨Nat.le_of_ble_eq_true rfl, Nat.le_of_ble_eq_true rfl⟩ cf5 pk_0 pl_0 (c_X7_refuseBad Γ.2.1 E ad  hc7) rfl rfl (Nat.le_of_ble_eq_true rfl) dX7_kinds_9 ?_
    exact j_iret X Y rfl (ret_wi h) dX7_kinds_12

abbrev rm_X7_ask : Room := { frames := 5, cells := 0, slots := 0, locals := 123 }
set_option maxHeartbeats 4000000 in
set_option maxRecDepth 100000 in
theorem c_X7_ask (l : Launch) (E : Ev) (ad : Nat → Nat)   {a1 : Int32} {σ : Sg} {r : Int32 × Sg} (h : m_X7_ask a1 σ = some r) : Met l yX7_ask (wY yX7_ask cX7_ask 2 (some .int)) rm_X7_ask (va_Pc [.ref (ad 0), .int a1] (PreU E ad RF 85 σ)) (QcN E ad (some (.int r.1), r.2)) 0 0 (EA E) := by
  refine met_of (L0 := [(0, .ref (ad 0)), (1, .int a1)]) rfl (Nat.le_of_ble_eq_true rfl) rfl (fun Γ X Y => ?_)
  have X : XC Γ E rm_X7_ask cX7_ask 2 RX7 := X
  unfold m_X7_ask at h
  refine j_aload_n X 0 rfl rfl dX7_ask_0 ?_
  refine j_iload_n X 1 rfl rfl dX7_ask_1 ?_
  refine bd1_elim h (fun r1 hc2 h => ?_)
  refine j_callVi X (As := [.int a1]) (rest := []) mf_X7_isListener bw_466 bw_468 bs_11 ⟨rfl, rfl⟩ ⟨Nat.le_of_ble_eq_true rfl, Nat.le_of_ble_eq_true rfl⟩ cf5 pk_0 pl_0 (c_X7_isListener Γ.2.1 E ad  hc2) rfl rfl (Nat.le_of_ble_eq_true rfl) dX7_ask_2 ?_
  refine j_if_ne X (tgt := 13) (by decide) dX7_ask_5 (fun c => ?_) (fun c => ?_)
  · have h := (if_neg c).symm.trans h
    refine j_aload_n X 0 rfl rfl dX7_ask_13 ?_
    refine j_getr X cf5 pk_0 pl_0 0 rfl ⟨rfl, rfl⟩ 1 rfl bw_157 dX7_ask_14 ?_
    refine j_iload_n X 1 rfl rfl dX7_ask_17 ?_
    refine bd1_elim h (fun r3 hc4 h => ?_)
    refine j_callSi X (As := [.ref (ad 1), .int a1]) (rest := []) mf_X0_nextQuestion bw_636 bw_637 ⟨rfl, rfl⟩ ⟨Nat.le_of_ble_eq_true rfl, Nat.le_of_ble_eq_true rfl⟩ (c_X0_nextQuestion Γ.2.1 E ad pl_1 hc4) rfl rfl (Nat.le_of_ble_eq_true rfl) dX7_ask_18 ?_
    exact j_iret X Y rfl (ret_wi h) dX7_ask_21
  · have h := (if_pos c).symm.trans h
    refine j_aload_n X 0 rfl rfl dX7_ask_8 ?_
    refine bd2_elim h (fun r5 σ6 hc7 h => ?_)
    refine j_callVi X (As := []) (rest := []) mf_X7_refuseBad bw_227 bw_229 bs_0 ⟨rfl, rfl⟩ ⟨Nat.le_of_ble_eq_true rfl, Nat.le_of_ble_eq_true rfl⟩ cf5 pk_0 pl_0 (c_X7_refuseBad Γ.2.1 E ad  hc7) rfl rfl (Nat.le_of_ble_eq_true rfl) dX7_ask_9 ?_
    exact j_iret X Y rfl (ret_wi h) dX7_ask_12

abbrev rm_X7_brothers : Room := { frames := 4, cells := 0, slots := 0, locals := 104 }
set_option maxHeartbeats 4000000 in
set_option maxRecDepth 100000 in
theorem c_X7_brothers (l : Launch) (E : Ev) (ad : Nat → Nat)   {a1 : Int32} {σ : Sg} {r : Int32 × Sg} (h : m_X7_brothers a1 σ = some r) : Met l yX7_brothers (wY yX7_brothers cX7_brothers 2 (some .int)) rm_X7_brothers (va_Pc [.ref (ad 0), .int a1] (PreU E ad RF 85 σ)) (QcN E ad (some (.int r.1), r.2)) 0 0 (EA E) := by
  refine met_of (L0 := [(0, .ref (ad 0)), (1, .int a1)]) rfl (Nat.le_of_ble_eq_true rfl) rfl (fun Γ X Y => ?_)
  have X : XC Γ E rm_X7_brothers cX7_brothers 2 RX7 := X
  unfold m_X7_brothers at h
  refine j_iload_n X 1 rfl rfl dX7_brothers_0 ?_
  refine j_iconst X (v := -1) (by decide) dX7_brothers_1 ?_
  refine j_icmp_ge X (tgt := 13) (by decide) dX7_brothers_2 (fun c => ?_) (fun c => ?_)
  · have h := (if_pos c).symm.trans h
    refine j_aload_n X 0 rfl rfl dX7_brothers_13 ?_
    refine bd1_elim h (fun r1 hc2 h => ?_)
    refine j_callVi X (As := []) (rest := []) mf_X7_areBrothers bw_552 bw_554 bs_14 ⟨rfl, rfl⟩ ⟨Nat.le_of_ble_eq_true rfl, Nat.le_of_ble_eq_true rfl⟩ cf5 pk_0 pl_0 (c_X7_areBrothers Γ.2.1 E ad  hc2) rfl rfl (Nat.le_of_ble_eq_true rfl) dX7_brothers_14 ?_
    refine j_if_ne X (tgt := 25) (by decide) dX7_brothers_17 (fun c => ?_) (fun c => ?_)
    · have h := (if_neg c).symm.trans h
      refine j_aload_n X 0 rfl rfl dX7_brothers_25 ?_
      refine j_getr X cf5 pk_0 pl_0 7 rfl ⟨rfl, rfl⟩ 64 rfl bw_164 dX7_brothers_26 ?_
      refine j_aload_n X 0 rfl rfl dX7_brothers_29 ?_
      refine j_getr X cf5 pk_0 pl_0 0 rfl ⟨rfl, rfl⟩ 1 rfl bw_157 dX7_brothers_30 ?_
      refine j_iload_n X 1 rfl rfl dX7_brothers_33 ?_
      refine bd2_elim h (fun r3 σ4 hc5 h => ?_)
      refine j_callVi X (As := [.ref (ad 1), .int a1]) (rest := []) mf_X4_restingPair bw_648 bw_649 bs_709 ⟨rfl, rfl⟩ ⟨Nat.le_of_ble_eq_true rfl, Nat.le_of_ble_eq_true rfl⟩ cf2 pk_64 pl_64 (c_X4_restingPair Γ.2.1 E ad pl_1 hc5) rfl rfl (Nat.le_of_ble_eq_true rfl) dX7_brothers_34 ?_
      exact j_iret X Y rfl (ret_wi h) dX7_brothers_37
    · have h := (if_pos c).symm.trans h
      refine j_aload_n X 0 rfl rfl dX7_brothers_20 ?_
      refine bd2_elim h (fun r6 σ7 hc8 h => ?_)
      refine j_callVi X (As := []) (rest := []) mf_X7_refuseNo bw_457 bw_459 bs_10 ⟨rfl, rfl⟩ ⟨Nat.le_of_ble_eq_true rfl, Nat.le_of_ble_eq_true rfl⟩ cf5 pk_0 pl_0 (c_X7_refuseNo Γ.2.1 E ad  hc8) rfl rfl (Nat.le_of_ble_eq_true rfl) dX7_brothers_21 ?_
      exact j_iret X Y rfl (ret_wi h) dX7_brothers_24
  · have h := (if_neg c).symm.trans h
    refine j_aload_n X 0 rfl rfl dX7_brothers_5 ?_
    refine bd2_elim h (fun r9 σ10 hc11 h => ?_)
    refine j_callVi X (As := []) (rest := []) mf_X7_refuseBad bw_227 bw_229 bs_0 ⟨rfl, rfl⟩ ⟨Nat.le_of_ble_eq_true rfl, Nat.le_of_ble_eq_true rfl⟩ cf5 pk_0 pl_0 (c_X7_refuseBad Γ.2.1 E ad  hc11) rfl rfl (Nat.le_of_ble_eq_true rfl) dX7_brothers_6 ?_
    refine j_pop X rfl dX7_brothers_9 ?_
    refine j_bipush X (v := -10) (by decide) dX7_brothers_10 ?_
    exact j_iret X Y rfl (ret_wi h) dX7_brothers_12

abbrev rm_X7_holds : Room := { frames := 4, cells := 0, slots := 0, locals := 102 }
set_option maxHeartbeats 4000000 in
set_option maxRecDepth 100000 in
theorem c_X7_holds (l : Launch) (E : Ev) (ad : Nat → Nat)   {a1 : Int32} {a2 : Int32} {a3 : Int32} {σ : Sg} {r : Int32 × Sg} (h : m_X7_holds a1 a2 a3 σ = some r) : Met l yX7_holds (wY yX7_holds cX7_holds 4 (some .int)) rm_X7_holds (va_Pc [.ref (ad 0), .int a1, .int a2, .int a3] (PreU E ad RF 85 σ)) (QcN E ad (some (.int r.1), r.2)) 0 0 (EA E) := by
  refine met_of (L0 := [(0, .ref (ad 0)), (1, .int a1), (2, .int a2), (3, .int a3)]) rfl (Nat.le_of_ble_eq_true rfl) rfl (fun Γ X Y => ?_)
  have X : XC Γ E rm_X7_holds cX7_holds 4 RX7 := X
  unfold m_X7_holds at h
  refine j_aload_n X 0 rfl rfl dX7_holds_0 ?_
  refine j_iload_n X 1 rfl rfl dX7_holds_1 ?_
  refine bd1_elim h (fun r1 hc2 h => ?_)
  refine j_callVi X (As := [.int a1]) (rest := []) mf_X7_isListener bw_466 bw_468 bs_11 ⟨rfl, rfl⟩ ⟨Nat.le_of_ble_eq_true rfl, Nat.le_of_ble_eq_true rfl⟩ cf5 pk_0 pl_0 (c_X7_isListener Γ.2.1 E ad  hc2) rfl rfl (Nat.le_of_ble_eq_true rfl) dX7_holds_2 ?_
  refine j_if_eq X (tgt := 26) (by decide) dX7_holds_5 (fun c => ?_) (fun c => ?_)
  · have h := (if_pos c).symm.trans h
    refine j_aload_n X 0 rfl rfl dX7_holds_26 ?_
    refine bd2_elim h (fun r3 σ4 hc5 h => ?_)
    refine j_callVi X (As := []) (rest := []) mf_X7_refuseBad bw_227 bw_229 bs_0 ⟨rfl, rfl⟩ ⟨Nat.le_of_ble_eq_true rfl, Nat.le_of_ble_eq_true rfl⟩ cf5 pk_0 pl_0 (c_X7_refuseBad Γ.2.1 E ad  hc5) rfl rfl (Nat.le_of_ble_eq_true rfl) dX7_holds_27 ?_
    exact j_iret X Y rfl (ret_wi h) dX7_holds_30
  · have h := (if_neg c).symm.trans h
    refine j_aload_n X 0 rfl rfl dX7_holds_8 ?_
    refine j_iload_n X 2 rfl rfl dX7_holds_9 ?_
    refine bd1_elim h (fun r6 hc7 h => ?_)
    refine j_callVi X (As := [.int a2]) (rest := []) mf_X7_isSaying bw_499 bw_501 bs_12 ⟨rfl, rfl⟩ ⟨Nat.le_of_ble_eq_true rfl, Nat.le_of_ble_eq_true rfl⟩ cf5 pk_0 pl_0 (c_X7_isSaying Γ.2.1 E ad  hc7) rfl rfl (Nat.le_of_ble_eq_true rfl) dX7_holds_10 ?_
    refine j_if_eq X (tgt := 26) (by decide) dX7_holds_13 (fun c => ?_) (fun c => ?_)
    · have h := (if_pos c).symm.trans h
      refine j_aload_n X 0 rfl rfl dX7_holds_26 ?_
      refine bd2_elim h (fun r8 σ9 hc10 h => ?_)
      refine j_callVi X (As := []) (rest := []) mf_X7_refuseBad bw_227 bw_229 bs_0 ⟨rfl, rfl⟩ ⟨Nat.le_of_ble_eq_true rfl, Nat.le_of_ble_eq_true rfl⟩ cf5 pk_0 pl_0 (c_X7_refuseBad Γ.2.1 E ad  hc10) rfl rfl (Nat.le_of_ble_eq_true rfl) dX7_holds_27 ?_
      exact j_iret X Y rfl (ret_wi h) dX7_holds_30
    · have h := (if_neg c).symm.trans h
      refine j_iload_n X 3 rfl rfl dX7_holds_16 ?_
      refine j_iconst X (v := 0) (by decide) dX7_holds_17 ?_
      refine j_bipush X (v := 10) (by decide) dX7_holds_18 ?_
      refine bd1_elim h (fun r11 hc12 h => ?_)
      refine j_callSi X (As := [.int a3, .int (0 : Int32), .int (10 : Int32)]) (rest := []) mf_X7_within bw_224 bw_225 ⟨rfl, rfl⟩ ⟨Nat.le_of_ble_eq_true rfl, Nat.le_of_ble_eq_true rfl⟩ (c_X7_within Γ.2.1 E ad  hc12) rfl rfl (Nat.le_of_ble_eq_true rfl) dX7_holds_20 ?_
      refine j_if_ne X (tgt := 31) (by decide) dX7_holds_23 (fun c => ?_) (fun c => ?_)
      · have h := (if_neg c).symm.trans h
        refine j_aload_n X 0 rfl rfl dX7_holds_31 ?_
        refine j_getr X cf5 pk_0 pl_0 8 rfl ⟨rfl, rfl⟩ 67 rfl bw_165 dX7_holds_32 ?_
        refine j_aload_n X 0 rfl rfl dX7_holds_35 ?_
        refine j_getr X cf5 pk_0 pl_0 0 rfl ⟨rfl, rfl⟩ 1 rfl bw_157 dX7_holds_36 ?_
        refine j_iload_n X 1 rfl rfl dX7_holds_39 ?_
        refine j_iload_n X 2 rfl rfl dX7_holds_40 ?_
        refine j_iload_n X 3 rfl rfl dX7_holds_41 ?_
        refine bd1_elim h (fun σ13 hc14 h => ?_)
        refine j_callVv X (As := [.ref (ad 1), .int a1, .int a2, .int a3]) (rest := []) mf_X1_becomeChance bw_664 bw_665 bs_725 ⟨rfl, rfl⟩ ⟨Nat.le_of_ble_eq_true rfl, Nat.le_of_ble_eq_true rfl⟩ cf0 pk_67 pl_67 (c_X1_becomeChance Γ.2.1 E ad pl_1 hc14) rfl rfl (Nat.le_of_ble_eq_true rfl) dX7_holds_42 ?_
        refine j_iconst X (v := 1) (by decide) dX7_holds_45 ?_
        exact j_iret X Y rfl (ret_wi h) dX7_holds_46
      · have h := (if_pos c).symm.trans h
        refine j_aload_n X 0 rfl rfl dX7_holds_26 ?_
        refine bd2_elim h (fun r15 σ16 hc17 h => ?_)
        refine j_callVi X (As := []) (rest := []) mf_X7_refuseBad bw_227 bw_229 bs_0 ⟨rfl, rfl⟩ ⟨Nat.le_of_ble_eq_true rfl, Nat.le_of_ble_eq_true rfl⟩ cf5 pk_0 pl_0 (c_X7_refuseBad Γ.2.1 E ad  hc17) rfl rfl (Nat.le_of_ble_eq_true rfl) dX7_holds_27 ?_
        exact j_iret X Y rfl (ret_wi h) dX7_holds_30

abbrev rm_X7_jobs : Room := { frames := 5, cells := 0, slots := 0, locals := 132 }
set_option maxHeartbeats 4000000 in
set_option maxRecDepth 100000 in
theorem c_X7_jobs (l : Launch) (E : Ev) (ad : Nat → Nat)   {a1 : Int32} {a2 : Int32} {σ : Sg} {r : Int32 × Sg} (h : m_X7_jobs a1 a2 σ = some r) : Met l yX7_jobs (wY yX7_jobs cX7_jobs 3 (some .int)) rm_X7_jobs (va_Pc [.ref (ad 0), .int a1, .int a2] (PreU E ad RF 85 σ)) (QcN E ad (some (.int r.1), r.2)) 0 0 (EA E) := by
  refine met_of (L0 := [(0, .ref (ad 0)), (1, .int a1), (2, .int a2)]) rfl (Nat.le_of_ble_eq_true rfl) rfl (fun Γ X Y => ?_)
  have X : XC Γ E rm_X7_jobs cX7_jobs 3 RX7 := X
  unfold m_X7_jobs at h
  refine j_iload_n X 1 rfl rfl dX7_jobs_0 ?_
  refine j_iconst X (v := 0) (by decide) dX7_jobs_1 ?_
  refine j_ldc X (v := 999999) bw_690 dX7_jobs_2 ?_
  refine bd1_elim h (fun r1 hc2 h => ?_)
  refine j_callSi X (As := [.int a1, .int (0 : Int32), .int (999999 : Int32)]) (rest := []) mf_X7_within bw_224 bw_225 ⟨rfl, rfl⟩ ⟨Nat.le_of_ble_eq_true rfl, Nat.le_of_ble_eq_true rfl⟩ (c_X7_within Γ.2.1 E ad  hc2) rfl rfl (Nat.le_of_ble_eq_true rfl) dX7_jobs_4 ?_
  refine j_if_eq X (tgt := 20) (by decide) dX7_jobs_7 (fun c => ?_) (fun c => ?_)
  · have h := (if_pos c).symm.trans h
    refine j_aload_n X 0 rfl rfl dX7_jobs_20 ?_
    refine bd2_elim h (fun r3 σ4 hc5 h => ?_)
    refine j_callVi X (As := []) (rest := []) mf_X7_refuseBad bw_227 bw_229 bs_0 ⟨rfl, rfl⟩ ⟨Nat.le_of_ble_eq_true rfl, Nat.le_of_ble_eq_true rfl⟩ cf5 pk_0 pl_0 (c_X7_refuseBad Γ.2.1 E ad  hc5) rfl rfl (Nat.le_of_ble_eq_true rfl) dX7_jobs_21 ?_
    exact j_iret X Y rfl (ret_wi h) dX7_jobs_24
  · have h := (if_neg c).symm.trans h
    refine j_iload_n X 2 rfl rfl dX7_jobs_10 ?_
    refine j_iconst X (v := 0) (by decide) dX7_jobs_11 ?_
    refine j_bipush X (v := 60) (by decide) dX7_jobs_12 ?_
    refine bd1_elim h (fun r6 hc7 h => ?_)
    refine j_callSi X (As := [.int a2, .int (0 : Int32), .int (60 : Int32)]) (rest := []) mf_X7_within bw_224 bw_225 ⟨rfl, rfl⟩ ⟨Nat.le_of_ble_eq_true rfl, Nat.le_of_ble_eq_true rfl⟩ (c_X7_within Γ.2.1 E ad  hc7) rfl rfl (Nat.le_of_ble_eq_true rfl) dX7_jobs_14 ?_
    refine j_if_ne X (tgt := 25) (by decide) dX7_jobs_17 (fun c => ?_) (fun c => ?_)
    · have h := (if_neg c).symm.trans h
      refine j_aload_n X 0 rfl rfl dX7_jobs_25 ?_
      refine j_getr X cf5 pk_0 pl_0 1 rfl ⟨rfl, rfl⟩ 16 rfl bw_158 dX7_jobs_26 ?_
      refine j_aload_n X 0 rfl rfl dX7_jobs_29 ?_
      refine j_getr X cf5 pk_0 pl_0 0 rfl ⟨rfl, rfl⟩ 1 rfl bw_157 dX7_jobs_30 ?_
      refine bd1_elim h (fun σ8 hc9 h => ?_)
      refine j_callVv X (As := [.ref (ad 1)]) (rest := []) mf_X2_copy bw_422 bw_423 bs_483 ⟨rfl, rfl⟩ ⟨Nat.le_of_ble_eq_true rfl, Nat.le_of_ble_eq_true rfl⟩ cf1 pk_16 pl_16 (c_X2_copy Γ.2.1 E ad pl_16 pl_1 hc9) rfl rfl (Nat.le_of_ble_eq_true rfl) dX7_jobs_33 ?_
      refine j_aload_n X 0 rfl rfl dX7_jobs_36 ?_
      refine j_getr X cf5 pk_0 pl_0 1 rfl ⟨rfl, rfl⟩ 16 rfl bw_158 dX7_jobs_37 ?_
      refine j_iload_n X 1 rfl rfl dX7_jobs_40 ?_
      refine j_iload_n X 2 rfl rfl dX7_jobs_41 ?_
      refine bd1_elim h (fun σ10 hc11 h => ?_)
      refine j_callSv X (As := [.ref (ad 16), .int a1, .int a2]) (rest := []) mf_X4_workJobs bw_691 bw_692 ⟨rfl, rfl⟩ ⟨Nat.le_of_ble_eq_true rfl, Nat.le_of_ble_eq_true rfl⟩ (c_X4_workJobs Γ.2.1 E ad pl_16 hc11) rfl rfl (Nat.le_of_ble_eq_true rfl) dX7_jobs_42 ?_
      refine j_aload_n X 0 rfl rfl dX7_jobs_45 ?_
      refine j_getr X cf5 pk_0 pl_0 1 rfl ⟨rfl, rfl⟩ 16 rfl bw_158 dX7_jobs_46 ?_
      refine bd1_elim h (fun r12 hc13 h => ?_)
      refine j_callVi X (As := []) (rest := []) mf_X2_knownByAny bw_477 bw_478 bs_538 ⟨rfl, rfl⟩ ⟨Nat.le_of_ble_eq_true rfl, Nat.le_of_ble_eq_true rfl⟩ cf1 pk_16 pl_16 (c_X2_knownByAny Γ.2.1 E ad pl_16 hc13) rfl rfl (Nat.le_of_ble_eq_true rfl) dX7_jobs_49 ?_
      exact j_iret X Y rfl (ret_wi h) dX7_jobs_52
    · have h := (if_pos c).symm.trans h
      refine j_aload_n X 0 rfl rfl dX7_jobs_20 ?_
      refine bd2_elim h (fun r14 σ15 hc16 h => ?_)
      refine j_callVi X (As := []) (rest := []) mf_X7_refuseBad bw_227 bw_229 bs_0 ⟨rfl, rfl⟩ ⟨Nat.le_of_ble_eq_true rfl, Nat.le_of_ble_eq_true rfl⟩ cf5 pk_0 pl_0 (c_X7_refuseBad Γ.2.1 E ad  hc16) rfl rfl (Nat.le_of_ble_eq_true rfl) dX7_jobs_21 ?_
      exact j_iret X Y rfl (ret_wi h) dX7_jobs_24

abbrev rm_X7_part : Room := { frames := 1, cells := 0, slots := 0, locals := 22 }
set_option maxHeartbeats 4000000 in
set_option maxRecDepth 100000 in
theorem c_X7_part (l : Launch) (E : Ev) (ad : Nat → Nat)   {a1 : Int32} {σ : Sg} {r : Int64 × Sg} (h : m_X7_part a1 σ = some r) : Met l yX7_part (wY yX7_part cX7_part 2 (some .long)) rm_X7_part (va_Pc [.ref (ad 0), .int a1] (PreU E ad RF 85 σ)) (QcN E ad (some (.long r.1), r.2)) 0 0 (EA E) := by
  refine met_of (L0 := [(0, .ref (ad 0)), (1, .int a1)]) rfl (Nat.le_of_ble_eq_true rfl) rfl (fun Γ X Y => ?_)
  have X : XC Γ E rm_X7_part cX7_part 2 RX7 := X
  unfold m_X7_part at h
  refine j_iload_n X 1 rfl rfl dX7_part_0 ?_
  refine j_iconst X (v := 0) (by decide) dX7_part_1 ?_
  refine j_iconst X (v := 1) (by decide) dX7_part_2 ?_
  refine bd1_elim h (fun r1 hc2 h => ?_)
  refine j_callSi X (As := [.int a1, .int (0 : Int32), .int (1 : Int32)]) (rest := []) mf_X7_within bw_224 bw_225 ⟨rfl, rfl⟩ ⟨Nat.le_of_ble_eq_true rfl, Nat.le_of_ble_eq_true rfl⟩ (c_X7_within Γ.2.1 E ad  hc2) rfl rfl (Nat.le_of_ble_eq_true rfl) dX7_part_3 ?_
  refine j_if_ne X (tgt := 15) (by decide) dX7_part_6 (fun c => ?_) (fun c => ?_)
  · have h := (if_neg c).symm.trans h
    refine j_iload_n X 1 rfl rfl dX7_part_15 ?_
    refine j_if_ne X (tgt := 29) (by decide) dX7_part_16 (fun c => ?_) (fun c => ?_)
    · have h := (if_neg c).symm.trans h
      refine j_aload_n X 0 rfl rfl dX7_part_29 ?_
      refine j_getr X cf5 pk_0 pl_0 8 rfl ⟨rfl, rfl⟩ 67 rfl bw_165 dX7_part_30 ?_
      refine j_getl X cf0 pk_67 pl_67 1 rfl ⟨rfl, rfl⟩ bw_151 dX7_part_33 ?_
      exact j_lret X Y (ret_wl h) dX7_part_36
    · have h := (if_pos c).symm.trans h
      refine j_aload_n X 0 rfl rfl dX7_part_19 ?_
      refine j_getr X cf5 pk_0 pl_0 8 rfl ⟨rfl, rfl⟩ 67 rfl bw_165 dX7_part_20 ?_
      refine j_getl X cf0 pk_67 pl_67 0 rfl ⟨rfl, rfl⟩ bw_149 dX7_part_23 ?_
      refine j_goto X (tgt := 36) (by decide) dX7_part_26 ?_
      exact j_lret X Y (ret_wl h) dX7_part_36
  · have h := (if_pos c).symm.trans h
    refine j_aload_n X 0 rfl rfl dX7_part_9 ?_
    refine bd2_elim h (fun r3 σ4 hc5 h => ?_)
    refine j_callVi X (As := []) (rest := []) mf_X7_refuseBad bw_227 bw_229 bs_0 ⟨rfl, rfl⟩ ⟨Nat.le_of_ble_eq_true rfl, Nat.le_of_ble_eq_true rfl⟩ cf5 pk_0 pl_0 (c_X7_refuseBad Γ.2.1 E ad  hc5) rfl rfl (Nat.le_of_ble_eq_true rfl) dX7_part_10 ?_
    refine j_i2l X dX7_part_13 ?_
    exact j_lret X Y (ret_wl h) dX7_part_14

abbrev rm_X7_image : Room := { frames := 3, cells := 0, slots := 0, locals := 64 }
set_option maxHeartbeats 4000000 in
set_option maxRecDepth 100000 in
theorem c_X7_image (l : Launch) (E : Ev) (ad : Nat → Nat)   {a1 : Int32} {σ : Sg} {r : Int32 × Sg} (h : m_X7_image a1 σ = some r) : Met l yX7_image (wY yX7_image cX7_image 2 (some .int)) rm_X7_image (va_Pc [.ref (ad 0), .int a1] (PreU E ad RF 85 σ)) (QcN E ad (some (.int r.1), r.2)) 0 0 (EA E) := by
  refine met_of (L0 := [(0, .ref (ad 0)), (1, .int a1)]) rfl (Nat.le_of_ble_eq_true rfl) rfl (fun Γ X Y => ?_)
  have X : XC Γ E rm_X7_image cX7_image 2 RX7 := X
  unfold m_X7_image at h
  refine j_iload_n X 1 rfl rfl dX7_image_0 ?_
  by_cases c0 : a1 = 0
  · have h := (if_pos c0).symm.trans h
    refine j_lookup X (tgt := 28) (off := 27) (by decide) (by rw [c0] <;> rfl) (by decide) dX7_image_1 ?_
    refine j_aload_n X 0 rfl rfl dX7_image_28 ?_
    refine j_getr X cf5 pk_0 pl_0 2 rfl ⟨rfl, rfl⟩ 31 rfl bw_159 dX7_image_29 ?_
    refine j_aload_n X 0 rfl rfl dX7_image_32 ?_
    refine j_getr X cf5 pk_0 pl_0 0 rfl ⟨rfl, rfl⟩ 1 rfl bw_157 dX7_image_33 ?_
    refine bd1_elim h (fun σ1 hc2 h => ?_)
    refine j_callVv X (As := [.ref (ad 1)]) (rest := []) mf_X2_copy bw_422 bw_423 bs_483 ⟨rfl, rfl⟩ ⟨Nat.le_of_ble_eq_true rfl, Nat.le_of_ble_eq_true rfl⟩ cf1 pk_31 pl_31 (c_X2_copy Γ.2.1 E ad pl_31 pl_1 hc2) rfl rfl (Nat.le_of_ble_eq_true rfl) dX7_image_36 ?_
    refine j_aload_n X 0 rfl rfl dX7_image_39 ?_
    refine j_iconst X (v := 1) (by decide) dX7_image_40 ?_
    refine nm_elim h (fun σ3 eσ3 h => ?_)
    refine j_puti X cf5 pk_0 pl_0 4 rfl ⟨rfl, rfl⟩ (.inl rfl) rfl rfl eσ3 bw_161 dX7_image_41 ?_
    refine j_iconst X (v := 1) (by decide) dX7_image_44 ?_
    exact j_iret X Y rfl (ret_wi h) dX7_image_45
  · have h := (if_neg c0).symm.trans h
    by_cases c1 : a1 = 1
    · have h := (if_pos c1).symm.trans h
      refine j_lookup X (tgt := 46) (off := 45) (by decide) (by rw [c1] <;> rfl) (by decide) dX7_image_1 ?_
      refine j_aload_n X 0 rfl rfl dX7_image_46 ?_
      refine j_getr X cf5 pk_0 pl_0 3 rfl ⟨rfl, rfl⟩ 46 rfl bw_160 dX7_image_47 ?_
      refine j_aload_n X 0 rfl rfl dX7_image_50 ?_
      refine j_getr X cf5 pk_0 pl_0 0 rfl ⟨rfl, rfl⟩ 1 rfl bw_157 dX7_image_51 ?_
      refine bd1_elim h (fun σ4 hc5 h => ?_)
      refine j_callVv X (As := [.ref (ad 1)]) (rest := []) mf_X2_copy bw_422 bw_423 bs_483 ⟨rfl, rfl⟩ ⟨Nat.le_of_ble_eq_true rfl, Nat.le_of_ble_eq_true rfl⟩ cf1 pk_46 pl_46 (c_X2_copy Γ.2.1 E ad pl_46 pl_1 hc5) rfl rfl (Nat.le_of_ble_eq_true rfl) dX7_image_54 ?_
      refine j_aload_n X 0 rfl rfl dX7_image_57 ?_
      refine j_iconst X (v := 1) (by decide) dX7_image_58 ?_
      refine nm_elim h (fun σ6 eσ6 h => ?_)
      refine j_puti X cf5 pk_0 pl_0 5 rfl ⟨rfl, rfl⟩ (.inl rfl) rfl rfl eσ6 bw_162 dX7_image_59 ?_
      refine j_iconst X (v := 1) (by decide) dX7_image_62 ?_
      exact j_iret X Y rfl (ret_wi h) dX7_image_63
    · have h := (if_neg c1).symm.trans h
      refine j_lookup X (tgt := 64) (off := 63) (by decide) (by show Op.lookupswitch.offset [(0, 27), (1, 45)] 63 _ = _; rw [lv_osw (a := 0) c0 rfl, lv_osw (a := 1) c1 rfl] <;> rfl) (by decide) dX7_image_1 ?_
      refine j_aload_n X 0 rfl rfl dX7_image_64 ?_
      refine bd2_elim h (fun r7 σ8 hc9 h => ?_)
      refine j_callVi X (As := []) (rest := []) mf_X7_refuseBad bw_227 bw_229 bs_0 ⟨rfl, rfl⟩ ⟨Nat.le_of_ble_eq_true rfl, Nat.le_of_ble_eq_true rfl⟩ cf5 pk_0 pl_0 (c_X7_refuseBad Γ.2.1 E ad  hc9) rfl rfl (Nat.le_of_ble_eq_true rfl) dX7_image_65 ?_
      exact j_iret X Y rfl (ret_wi h) dX7_image_68

abbrev rm_X7_from : Room := { frames := 3, cells := 0, slots := 0, locals := 64 }
set_option maxHeartbeats 4000000 in
set_option maxRecDepth 100000 in
theorem c_X7_from (l : Launch) (E : Ev) (ad : Nat → Nat)   {a1 : Int32} {σ : Sg} {r : Int32 × Sg} (h : m_X7_from a1 σ = some r) : Met l yX7_from (wY yX7_from cX7_from 3 (some .int)) rm_X7_from (va_Pc [.ref (ad 0), .int a1] (PreU E ad RF 85 σ)) (QcN E ad (some (.int r.1), r.2)) 0 0 (EA E) := by
  refine met_of (L0 := [(0, .ref (ad 0)), (1, .int a1)]) rfl (Nat.le_of_ble_eq_true rfl) rfl (fun Γ X Y => ?_)
  have X : XC Γ E rm_X7_from cX7_from 3 RX7 := X
  unfold m_X7_from at h
  refine j_iload_n X 1 rfl rfl dX7_from_0 ?_
  refine j_iconst X (v := 0) (by decide) dX7_from_1 ?_
  refine j_iconst X (v := 1) (by decide) dX7_from_2 ?_
  refine bd1_elim h (fun r1 hc2 h => ?_)
  refine j_callSi X (As := [.int a1, .int (0 : Int32), .int (1 : Int32)]) (rest := []) mf_X7_within bw_224 bw_225 ⟨rfl, rfl⟩ ⟨Nat.le_of_ble_eq_true rfl, Nat.le_of_ble_eq_true rfl⟩ (c_X7_within Γ.2.1 E ad  hc2) rfl rfl (Nat.le_of_ble_eq_true rfl) dX7_from_3 ?_
  refine j_if_ne X (tgt := 14) (by decide) dX7_from_6 (fun c => ?_) (fun c => ?_)
  · have h := (if_neg c).symm.trans h
    refine j_iload_n X 1 rfl rfl dX7_from_14 ?_
    refine bd1_elim h (fun o4 hr h => ?_)
    have hJ3 : J Γ E 3 ad RF 85 σ 0 0 29 [(0, .ref (ad 0)), (1, .int a1)] [.int o4] := by
      refine j_istore_n X (L' := [(2, .int o4), (0, .ref (ad 0)), (1, .int a1)]) rfl rfl (by decide) rfl dX7_from_29 ?_
      refine j_iload_n X 0 rfl rfl dX7_from_30 ?_
      refine j_if_ne X (tgt := 39) (by decide) dX7_from_31 (fun c => ?_) (fun c => ?_)
      · have h := (if_neg c).symm.trans h
        refine j_aload_n X 1 rfl rfl dX7_from_39 ?_
        refine j_getr X cf5 pk_0 pl_0 0 rfl ⟨rfl, rfl⟩ 1 rfl bw_157 dX7_from_40 ?_
        refine j_iload_n X 2 rfl rfl dX7_from_43 ?_
        refine j_if_ne X (tgt := 54) (by decide) dX7_from_44 (fun c => ?_) (fun c => ?_)
        · have h := (if_neg c).symm.trans h
          refine j_aload_n X 1 rfl rfl dX7_from_54 ?_
          refine j_getr X cf5 pk_0 pl_0 3 rfl ⟨rfl, rfl⟩ 46 rfl bw_160 dX7_from_55 ?_
          refine bd1_elim h (fun σ5 hc6 h => ?_)
          refine j_callVv X (As := [.ref (ad 46)]) (rest := []) mf_X2_copy bw_422 bw_423 bs_483 ⟨rfl, rfl⟩ ⟨Nat.le_of_ble_eq_true rfl, Nat.le_of_ble_eq_true rfl⟩ cf1 pk_1 pl_1 (c_X2_copy Γ.2.1 E ad pl_1 pl_46 hc6) rfl rfl (Nat.le_of_ble_eq_true rfl) dX7_from_58 ?_
          refine j_iconst X (v := 1) (by decide) dX7_from_61 ?_
          exact j_iret X Y rfl (ret_wi h) dX7_from_62
        · have h := (if_pos c).symm.trans h
          refine j_aload_n X 1 rfl rfl dX7_from_47 ?_
          refine j_getr X cf5 pk_0 pl_0 2 rfl ⟨rfl, rfl⟩ 31 rfl bw_159 dX7_from_48 ?_
          refine j_goto X (tgt := 58) (by decide) dX7_from_51 ?_
          refine bd1_elim h (fun σ7 hc8 h => ?_)
          refine j_callVv X (As := [.ref (ad 31)]) (rest := []) mf_X2_copy bw_422 bw_423 bs_483 ⟨rfl, rfl⟩ ⟨Nat.le_of_ble_eq_true rfl, Nat.le_of_ble_eq_true rfl⟩ cf1 pk_1 pl_1 (c_X2_copy Γ.2.1 E ad pl_1 pl_31 hc8) rfl rfl (Nat.le_of_ble_eq_true rfl) dX7_from_58 ?_
          refine j_iconst X (v := 1) (by decide) dX7_from_61 ?_
          exact j_iret X Y rfl (ret_wi h) dX7_from_62
      · have h := (if_pos c).symm.trans h
        refine j_aload_n X 1 rfl rfl dX7_from_34 ?_
        refine bd2_elim h (fun r9 σ10 hc11 h => ?_)
        refine j_callVi X (As := []) (rest := []) mf_X7_refuseNo bw_457 bw_459 bs_10 ⟨rfl, rfl⟩ ⟨Nat.le_of_ble_eq_true rfl, Nat.le_of_ble_eq_true rfl⟩ cf5 pk_0 pl_0 (c_X7_refuseNo Γ.2.1 E ad  hc11) rfl rfl (Nat.le_of_ble_eq_true rfl) dX7_from_35 ?_
        exact j_iret X Y rfl (ret_wi h) dX7_from_38
    clear h
    refine j_if_ne X (tgt := 25) (by decide) dX7_from_15 (fun c => ?_) (fun c => ?_)
    · have hr := (if_neg c).symm.trans hr
      refine j_aload_n X 0 rfl rfl dX7_from_25 ?_
      refine j_geti X cf5 pk_0 pl_0 5 rfl ⟨rfl, rfl⟩ bw_162 dX7_from_26 ?_
      cases hr
      exact J.sub [0, 1] rfl hJ3
    · have hr := (if_pos c).symm.trans hr
      refine j_aload_n X 0 rfl rfl dX7_from_18 ?_
      refine j_geti X cf5 pk_0 pl_0 4 rfl ⟨rfl, rfl⟩ bw_161 dX7_from_19 ?_
      refine j_goto X (tgt := 29) (by decide) dX7_from_22 ?_
      cases hr
      exact J.sub [0, 1] rfl hJ3
  · have h := (if_pos c).symm.trans h
    refine j_aload_n X 0 rfl rfl dX7_from_9 ?_
    refine bd2_elim h (fun r12 σ13 hc14 h => ?_)
    refine j_callVi X (As := []) (rest := []) mf_X7_refuseBad bw_227 bw_229 bs_0 ⟨rfl, rfl⟩ ⟨Nat.le_of_ble_eq_true rfl, Nat.le_of_ble_eq_true rfl⟩ cf5 pk_0 pl_0 (c_X7_refuseBad Γ.2.1 E ad  hc14) rfl rfl (Nat.le_of_ble_eq_true rfl) dX7_from_10 ?_
    exact j_iret X Y rfl (ret_wi h) dX7_from_13

abbrev rm_X7_status : Room := { frames := 1, cells := 0, slots := 0, locals := 20 }
set_option maxHeartbeats 4000000 in
set_option maxRecDepth 100000 in
theorem c_X7_status (l : Launch) (E : Ev) (ad : Nat → Nat)   {a1 : Int32} {σ : Sg} {r : Int32 × Sg} (h : m_X7_status a1 σ = some r) : Met l yX7_status (wY yX7_status cX7_status 2 (some .int)) rm_X7_status (va_Pc [.ref (ad 0), .int a1] (PreU E ad RF 85 σ)) (QcN E ad (some (.int r.1), r.2)) 0 0 (EA E) := by
  refine met_of (L0 := [(0, .ref (ad 0)), (1, .int a1)]) rfl (Nat.le_of_ble_eq_true rfl) rfl (fun Γ X Y => ?_)
  have X : XC Γ E rm_X7_status cX7_status 2 RX7 := X
  unfold m_X7_status at h
  refine j_iload_n X 1 rfl rfl dX7_status_0 ?_
  by_cases c0 : a1 = 0
  · have h := (if_pos c0).symm.trans h
    refine j_tableIn X (tgt := 28) (by rw [c0]; decide) (by rw [c0]; decide) (by rw [c0]; rfl) (by decide) dX7_status_1 ?_
    refine j_aload_n X 0 rfl rfl dX7_status_28 ?_
    refine j_geti X cf5 pk_0 pl_0 9 rfl ⟨rfl, rfl⟩ bw_166 dX7_status_29 ?_
    exact j_iret X Y rfl (ret_wi h) dX7_status_32
  · have h := (if_neg c0).symm.trans h
    by_cases c1 : a1 = 1
    · have h := (if_pos c1).symm.trans h
      refine j_tableIn X (tgt := 33) (by rw [c1]; decide) (by rw [c1]; decide) (by rw [c1]; rfl) (by decide) dX7_status_1 ?_
      refine j_aload_n X 0 rfl rfl dX7_status_33 ?_
      refine j_geti X cf5 pk_0 pl_0 10 rfl ⟨rfl, rfl⟩ bw_167 dX7_status_34 ?_
      exact j_iret X Y rfl (ret_wi h) dX7_status_37
    · have h := (if_neg c1).symm.trans h
      by_cases c2 : a1 = 2
      · have h := (if_pos c2).symm.trans h
        refine j_tableIn X (tgt := 38) (by rw [c2]; decide) (by rw [c2]; decide) (by rw [c2]; rfl) (by decide) dX7_status_1 ?_
        refine j_aload_n X 0 rfl rfl dX7_status_38 ?_
        refine j_geti X cf5 pk_0 pl_0 11 rfl ⟨rfl, rfl⟩ bw_168 dX7_status_39 ?_
        exact j_iret X Y rfl (ret_wi h) dX7_status_42
      · have h := (if_neg c2).symm.trans h
        refine j_tableOut X (tgt := 43) (sw_out (x := a1) (lo := 0) (hi := 2) (fun z h1 h2 => by rcases (by omega : z = 0 ∨ z = 1 ∨ z = 2) with rfl | rfl | rfl <;> first | exact c0 | exact c1 | exact c2)) (by decide) dX7_status_1 ?_
        refine j_aload_n X 0 rfl rfl dX7_status_43 ?_
        refine bd2_elim h (fun r1 σ2 hc3 h => ?_)
        refine j_callVi X (As := []) (rest := []) mf_X7_refuseBad bw_227 bw_229 bs_0 ⟨rfl, rfl⟩ ⟨Nat.le_of_ble_eq_true rfl, Nat.le_of_ble_eq_true rfl⟩ cf5 pk_0 pl_0 (c_X7_refuseBad Γ.2.1 E ad  hc3) rfl rfl (Nat.le_of_ble_eq_true rfl) dX7_status_44 ?_
        refine j_pop X rfl dX7_status_47 ?_
        refine j_iconst X (v := -1) (by decide) dX7_status_48 ?_
        exact j_iret X Y rfl (ret_wi h) dX7_status_49

abbrev rm_X7_howMany : Room := { frames := 3, cells := 0, slots := 0, locals := 66 }
set_option maxHeartbeats 4000000 in
set_option maxRecDepth 100000 in
theorem c_X7_howMany (l : Launch) (E : Ev) (ad : Nat → Nat)   {a1 : Int32} {σ : Sg} {r : Int32} (h : m_X7_howMany a1 σ = some r) : Met l yX7_howMany (wY yX7_howMany cX7_howMany 2 (some .int)) rm_X7_howMany (va_Pc [.ref (ad 0), .int a1] (PreU E ad RF 85 σ)) (QcN E ad (some (.int r), σ)) 0 0 (EA E) := by
  refine met_of (L0 := [(0, .ref (ad 0)), (1, .int a1)]) rfl (Nat.le_of_ble_eq_true rfl) rfl (fun Γ X Y => ?_)
  have X : XC Γ E rm_X7_howMany cX7_howMany 2 RX7 := X
  unfold m_X7_howMany at h
  refine j_iload_n X 1 rfl rfl dX7_howMany_0 ?_
  by_cases c0 : a1 = 0
  · have h := (if_pos c0).symm.trans h
    refine j_tableIn X (tgt := 52) (by rw [c0]; decide) (by rw [c0]; decide) (by rw [c0]; rfl) (by decide) dX7_howMany_1 ?_
    refine j_aload_n X 0 rfl rfl dX7_howMany_52 ?_
    refine j_getr X cf5 pk_0 pl_0 0 rfl ⟨rfl, rfl⟩ 1 rfl bw_157 dX7_howMany_53 ?_
    refine j_getr X cf1 pk_1 pl_1 1 rfl ⟨rfl, rfl⟩ (1 + 1) (RF_H1 pl_1) bw_61 dX7_howMany_56 ?_
    refine j_geti X cf4 (lay_lt (lay_H1 pl_1) (by decide)) (lay_H1 pl_1) 3 rfl ⟨rfl, rfl⟩ bw_43 dX7_howMany_59 ?_
    exact j_iret X Y rfl (ret_pi h) dX7_howMany_62
  · have h := (if_neg c0).symm.trans h
    by_cases c1 : a1 = 1
    · have h := (if_pos c1).symm.trans h
      refine j_tableIn X (tgt := 63) (by rw [c1]; decide) (by rw [c1]; decide) (by rw [c1]; rfl) (by decide) dX7_howMany_1 ?_
      refine j_aload_n X 0 rfl rfl dX7_howMany_63 ?_
      refine j_getr X cf5 pk_0 pl_0 0 rfl ⟨rfl, rfl⟩ 1 rfl bw_157 dX7_howMany_64 ?_
      refine j_getr X cf1 pk_1 pl_1 2 rfl ⟨rfl, rfl⟩ (1 + 3) (RF_H2 pl_1) bw_68 dX7_howMany_67 ?_
      refine j_geti X cf4 (lay_lt (lay_H2 pl_1) (by decide)) (lay_H2 pl_1) 3 rfl ⟨rfl, rfl⟩ bw_43 dX7_howMany_70 ?_
      exact j_iret X Y rfl (ret_pi h) dX7_howMany_73
    · have h := (if_neg c1).symm.trans h
      by_cases c2 : a1 = 2
      · have h := (if_pos c2).symm.trans h
        refine j_tableIn X (tgt := 74) (by rw [c2]; decide) (by rw [c2]; decide) (by rw [c2]; rfl) (by decide) dX7_howMany_1 ?_
        refine j_aload_n X 0 rfl rfl dX7_howMany_74 ?_
        refine j_getr X cf5 pk_0 pl_0 0 rfl ⟨rfl, rfl⟩ 1 rfl bw_157 dX7_howMany_75 ?_
        refine j_geti X cf1 pk_1 pl_1 0 rfl ⟨rfl, rfl⟩ bw_59 dX7_howMany_78 ?_
        exact j_iret X Y rfl (ret_pi h) dX7_howMany_81
      · have h := (if_neg c2).symm.trans h
        by_cases c3 : a1 = 3
        · have h := (if_pos c3).symm.trans h
          refine j_tableIn X (tgt := 82) (by rw [c3]; decide) (by rw [c3]; decide) (by rw [c3]; rfl) (by decide) dX7_howMany_1 ?_
          refine j_aload_n X 0 rfl rfl dX7_howMany_82 ?_
          refine j_getr X cf5 pk_0 pl_0 0 rfl ⟨rfl, rfl⟩ 1 rfl bw_157 dX7_howMany_83 ?_
          refine bd1_elim h (fun r1 hc2 h => ?_)
          refine j_callVi X (As := []) (rest := []) mf_X2_strippedRooms bw_728 bw_729 bs_789 ⟨rfl, rfl⟩ ⟨Nat.le_of_ble_eq_true rfl, Nat.le_of_ble_eq_true rfl⟩ cf1 pk_1 pl_1 (c_X2_strippedRooms Γ.2.1 E ad pl_1 hc2) rfl rfl (Nat.le_of_ble_eq_true rfl) dX7_howMany_86 ?_
          exact j_iret X Y rfl (ret_pi h) dX7_howMany_89
        · have h := (if_neg c3).symm.trans h
          by_cases c4 : a1 = 4
          · have h := (if_pos c4).symm.trans h
            refine j_tableIn X (tgt := 90) (by rw [c4]; decide) (by rw [c4]; decide) (by rw [c4]; rfl) (by decide) dX7_howMany_1 ?_
            refine j_aload_n X 0 rfl rfl dX7_howMany_90 ?_
            refine j_getr X cf5 pk_0 pl_0 0 rfl ⟨rfl, rfl⟩ 1 rfl bw_157 dX7_howMany_91 ?_
            refine bd1_elim h (fun r3 hc4 h => ?_)
            refine j_callVi X (As := []) (rest := []) mf_X2_knownByAny bw_477 bw_478 bs_538 ⟨rfl, rfl⟩ ⟨Nat.le_of_ble_eq_true rfl, Nat.le_of_ble_eq_true rfl⟩ cf1 pk_1 pl_1 (c_X2_knownByAny Γ.2.1 E ad pl_1 hc4) rfl rfl (Nat.le_of_ble_eq_true rfl) dX7_howMany_94 ?_
            exact j_iret X Y rfl (ret_pi h) dX7_howMany_97
          · have h := (if_neg c4).symm.trans h
            by_cases c5 : a1 = 5
            · have h := (if_pos c5).symm.trans h
              refine j_tableIn X (tgt := 98) (by rw [c5]; decide) (by rw [c5]; decide) (by rw [c5]; rfl) (by decide) dX7_howMany_1 ?_
              refine j_aload_n X 0 rfl rfl dX7_howMany_98 ?_
              refine j_getr X cf5 pk_0 pl_0 0 rfl ⟨rfl, rfl⟩ 1 rfl bw_157 dX7_howMany_99 ?_
              refine j_getr X cf1 pk_1 pl_1 4 rfl ⟨rfl, rfl⟩ (1 + 7) (RF_H4 pl_1) bw_73 dX7_howMany_102 ?_
              refine j_geti X cf4 (lay_lt (lay_H4 pl_1) (by decide)) (lay_H4 pl_1) 3 rfl ⟨rfl, rfl⟩ bw_43 dX7_howMany_105 ?_
              exact j_iret X Y rfl (ret_pi h) dX7_howMany_108
            · have h := (if_neg c5).symm.trans h
              by_cases c6 : a1 = 6
              · have h := (if_pos c6).symm.trans h
                refine j_tableIn X (tgt := 109) (by rw [c6]; decide) (by rw [c6]; decide) (by rw [c6]; rfl) (by decide) dX7_howMany_1 ?_
                refine j_aload_n X 0 rfl rfl dX7_howMany_109 ?_
                refine j_getr X cf5 pk_0 pl_0 0 rfl ⟨rfl, rfl⟩ 1 rfl bw_157 dX7_howMany_110 ?_
                refine j_getr X cf1 pk_1 pl_1 5 rfl ⟨rfl, rfl⟩ (1 + 9) (RF_H5 pl_1) bw_76 dX7_howMany_113 ?_
                refine j_geti X cf4 (lay_lt (lay_H5 pl_1) (by decide)) (lay_H5 pl_1) 3 rfl ⟨rfl, rfl⟩ bw_43 dX7_howMany_116 ?_
                exact j_iret X Y rfl (ret_pi h) dX7_howMany_119
              · have h := (if_neg c6).symm.trans h
                by_cases c7 : a1 = 7
                · have h := (if_pos c7).symm.trans h
                  refine j_tableIn X (tgt := 120) (by rw [c7]; decide) (by rw [c7]; decide) (by rw [c7]; rfl) (by decide) dX7_howMany_1 ?_
                  refine j_aload_n X 0 rfl rfl dX7_howMany_120 ?_
                  refine j_getr X cf5 pk_0 pl_0 0 rfl ⟨rfl, rfl⟩ 1 rfl bw_157 dX7_howMany_121 ?_
                  refine j_getr X cf1 pk_1 pl_1 6 rfl ⟨rfl, rfl⟩ (1 + 11) (RF_H6 pl_1) bw_79 dX7_howMany_124 ?_
                  refine j_geti X cf4 (lay_lt (lay_H6 pl_1) (by decide)) (lay_H6 pl_1) 3 rfl ⟨rfl, rfl⟩ bw_43 dX7_howMany_127 ?_
                  exact j_iret X Y rfl (ret_pi h) dX7_howMany_130
                · have h := (if_neg c7).symm.trans h
                  by_cases c8 : a1 = 8
                  · have h := (if_pos c8).symm.trans h
                    refine j_tableIn X (tgt := 131) (by rw [c8]; decide) (by rw [c8]; decide) (by rw [c8]; rfl) (by decide) dX7_howMany_1 ?_
                    refine j_aload_n X 0 rfl rfl dX7_howMany_131 ?_
                    refine j_getr X cf5 pk_0 pl_0 0 rfl ⟨rfl, rfl⟩ 1 rfl bw_157 dX7_howMany_132 ?_
                    refine j_getr X cf1 pk_1 pl_1 7 rfl ⟨rfl, rfl⟩ (1 + 13) (RF_H7 pl_1) bw_81 dX7_howMany_135 ?_
                    refine j_geti X cf4 (lay_lt (lay_H7 pl_1) (by decide)) (lay_H7 pl_1) 3 rfl ⟨rfl, rfl⟩ bw_43 dX7_howMany_138 ?_
                    exact j_iret X Y rfl (ret_pi h) dX7_howMany_141
                  · have h := (if_neg c8).symm.trans h
                    refine j_tableOut X (tgt := 142) (sw_out (x := a1) (lo := 0) (hi := 8) (fun z h1 h2 => by rcases (by omega : z = 0 ∨ z = 1 ∨ z = 2 ∨ z = 3 ∨ z = 4 ∨ z = 5 ∨ z = 6 ∨ z = 7 ∨ z = 8) with rfl | rfl | rfl | rfl | rfl | rfl | rfl | rfl | rfl <;> first | exact c0 | exact c1 | exact c2 | exact c3 | exact c4 | exact c5 | exact c6 | exact c7 | exact c8)) (by decide) dX7_howMany_1 ?_
                    refine j_aload_n X 0 rfl rfl dX7_howMany_142 ?_
                    refine j_getr X cf5 pk_0 pl_0 6 rfl ⟨rfl, rfl⟩ 61 rfl bw_163 dX7_howMany_143 ?_
                    refine j_getr X cf3 pk_61 pl_61 0 rfl ⟨rfl, rfl⟩ 62 rfl bw_108 dX7_howMany_146 ?_
                    refine j_geti X cf4 pk_62 pl_62 3 rfl ⟨rfl, rfl⟩ bw_43 dX7_howMany_149 ?_
                    exact j_iret X Y rfl (ret_pi h) dX7_howMany_152

abbrev rm_X7_count : Room := { frames := 4, cells := 0, slots := 0, locals := 87 }
set_option maxHeartbeats 4000000 in
set_option maxRecDepth 100000 in
theorem c_X7_count (l : Launch) (E : Ev) (ad : Nat → Nat)   {a1 : Int32} {σ : Sg} {r : Int32 × Sg} (h : m_X7_count a1 σ = some r) : Met l yX7_count (wY yX7_count cX7_count 2 (some .int)) rm_X7_count (va_Pc [.ref (ad 0), .int a1] (PreU E ad RF 85 σ)) (QcN E ad (some (.int r.1), r.2)) 0 0 (EA E) := by
  refine met_of (L0 := [(0, .ref (ad 0)), (1, .int a1)]) rfl (Nat.le_of_ble_eq_true rfl) rfl (fun Γ X Y => ?_)
  have X : XC Γ E rm_X7_count cX7_count 2 RX7 := X
  unfold m_X7_count at h
  refine j_iload_n X 1 rfl rfl dX7_count_0 ?_
  refine j_iconst X (v := 0) (by decide) dX7_count_1 ?_
  refine j_bipush X (v := 9) (by decide) dX7_count_2 ?_
  refine bd1_elim h (fun r1 hc2 h => ?_)
  refine j_callSi X (As := [.int a1, .int (0 : Int32), .int (9 : Int32)]) (rest := []) mf_X7_within bw_224 bw_225 ⟨rfl, rfl⟩ ⟨Nat.le_of_ble_eq_true rfl, Nat.le_of_ble_eq_true rfl⟩ (c_X7_within Γ.2.1 E ad  hc2) rfl rfl (Nat.le_of_ble_eq_true rfl) dX7_count_4 ?_
  refine j_if_ne X (tgt := 15) (by decide) dX7_count_7 (fun c => ?_) (fun c => ?_)
  · have h := (if_neg c).symm.trans h
    refine j_aload_n X 0 rfl rfl dX7_count_15 ?_
    refine j_iload_n X 1 rfl rfl dX7_count_16 ?_
    refine bd1_elim h (fun r3 hc4 h => ?_)
    refine j_callVi X (As := [.int a1]) (rest := []) mf_X7_howMany bw_724 bw_726 bs_18 ⟨rfl, rfl⟩ ⟨Nat.le_of_ble_eq_true rfl, Nat.le_of_ble_eq_true rfl⟩ cf5 pk_0 pl_0 (c_X7_howMany Γ.2.1 E ad  hc4) rfl rfl (Nat.le_of_ble_eq_true rfl) dX7_count_17 ?_
    exact j_iret X Y rfl (ret_wi h) dX7_count_20
  · have h := (if_pos c).symm.trans h
    refine j_aload_n X 0 rfl rfl dX7_count_10 ?_
    refine bd2_elim h (fun r5 σ6 hc7 h => ?_)
    refine j_callVi X (As := []) (rest := []) mf_X7_refuseBad bw_227 bw_229 bs_0 ⟨rfl, rfl⟩ ⟨Nat.le_of_ble_eq_true rfl, Nat.le_of_ble_eq_true rfl⟩ cf5 pk_0 pl_0 (c_X7_refuseBad Γ.2.1 E ad  hc7) rfl rfl (Nat.le_of_ble_eq_true rfl) dX7_count_11 ?_
    exact j_iret X Y rfl (ret_wi h) dX7_count_14

abbrev rm_X7_digest : Room := { frames := 4, cells := 0, slots := 0, locals := 87 }
set_option maxHeartbeats 4000000 in
set_option maxRecDepth 100000 in
theorem jl_X7_digest_L6 {β : Type} {Γ : Cx} {E : Ev} {ad : Nat → Nat} (X : XC Γ E rm_X7_digest cX7_digest 4 RX7)    {σ : Sg} {kx : Int64 → Option (β)} {r : β}  (hkx : ∀ (v1 : Int64), kx v1 = some r → J Γ E 4 ad RF 85 σ 0 0 31 [(1, .long v1), (0, .ref (ad 0))] []) : ∀ n (v3 : Int32) (v1 : Int64), m_X7_digest_L6 σ kx n v3 v1 = some r → J Γ E 4 ad RF 85 σ 0 0 6 [(3, .int v3), (1, .long v1), (0, .ref (ad 0))] [] := by
  intro n
  induction n with
  | zero =>
    intro v3 v1 h
    cases h
  | succ n ih =>
    intro v3 v1 h
    rw [m_X7_digest_L6.eq_2] at h
    refine j_iload_n X 0 rfl rfl dX7_digest_6 ?_
    refine j_bipush X (v := 10) (by decide) dX7_digest_7 ?_
    refine j_icmp_ge X (tgt := 31) (by decide) dX7_digest_9 (fun c => ?_) (fun c => ?_)
    · have h := (if_pos c).symm.trans h
      exact J.sub [1, 2] rfl (hkx v1 h)
    · have h := (if_neg c).symm.trans h
      refine j_ldc2 X (v := 31) bw_737 dX7_digest_12 ?_
      refine j_lload_n X 1 rfl rfl dX7_digest_15 ?_
      refine j_lmul X dX7_digest_16 ?_
      refine j_aload_n X 2 rfl rfl dX7_digest_17 ?_
      refine j_iload_n X 0 rfl rfl dX7_digest_18 ?_
      refine bd1_elim h (fun r3 hc4 h => ?_)
      refine j_callVi X (As := [.int v3]) (rest := [.long ((31 : Int64) * v1)]) mf_X7_howMany bw_724 bw_726 bs_18 ⟨rfl, rfl⟩ ⟨Nat.le_of_ble_eq_true rfl, Nat.le_of_ble_eq_true rfl⟩ cf5 pk_0 pl_0 (c_X7_howMany Γ.2.1 E ad  hc4) rfl rfl (Nat.le_of_ble_eq_true rfl) dX7_digest_19 ?_
      refine j_i2l X dX7_digest_22 ?_
      refine j_ladd X dX7_digest_23 ?_
      refine nm_elim h (fun x5 ex5 h => ?_)
      refine j_lstore_n X (L' := [(1, .long x5), (3, .int v3), (0, .ref (ad 0))]) ex5 rfl (by decide) rfl dX7_digest_24 ?_
      refine nm_elim h (fun x6 ex6 h => ?_)
      refine j_iinc1 X (L' := [(3, .int x6), (1, .long x5), (0, .ref (ad 0))]) 1 rfl (q := 1) (by decide) ex6 (by decide) rfl dX7_digest_25 ?_
      refine j_goto X (tgt := 6) (by decide) dX7_digest_28 ?_
      exact J.sub [0, 1, 2] rfl (ih x6 x5 h)
set_option maxHeartbeats 4000000 in
set_option maxRecDepth 100000 in
theorem jl_X7_digest_L33 {β : Type} {Γ : Cx} {E : Ev} {ad : Nat → Nat} (X : XC Γ E rm_X7_digest cX7_digest 4 RX7)    {σ : Sg} {kx : Int64 → Option (β)} {r : β}  (hkx : ∀ (v1 : Int64), kx v1 = some r → J Γ E 4 ad RF 85 σ 0 0 61 [(1, .long v1), (0, .ref (ad 0))] []) : ∀ n (v3 : Int32) (v1 : Int64), m_X7_digest_L33 σ kx n v3 v1 = some r → J Γ E 4 ad RF 85 σ 0 0 33 [(3, .int v3), (1, .long v1), (0, .ref (ad 0))] [] := by
  intro n
  induction n with
  | zero =>
    intro v3 v1 h
    cases h
  | succ n ih =>
    intro v3 v1 h
    rw [m_X7_digest_L33.eq_2] at h
    refine j_iload_n X 0 rfl rfl dX7_digest_33 ?_
    refine j_iconst X (v := 4) (by decide) dX7_digest_34 ?_
    refine j_icmp_ge X (tgt := 61) (by decide) dX7_digest_35 (fun c => ?_) (fun c => ?_)
    · have h := (if_pos c).symm.trans h
      exact J.sub [1, 2] rfl (hkx v1 h)
    · have h := (if_neg c).symm.trans h
      refine j_ldc2 X (v := 31) bw_737 dX7_digest_38 ?_
      refine j_lload_n X 1 rfl rfl dX7_digest_41 ?_
      refine j_lmul X dX7_digest_42 ?_
      refine j_aload_n X 2 rfl rfl dX7_digest_43 ?_
      refine j_getr X cf5 pk_0 pl_0 0 rfl ⟨rfl, rfl⟩ 1 rfl bw_157 dX7_digest_44 ?_
      refine j_iload_n X 0 rfl rfl dX7_digest_47 ?_
      refine j_iconst X (v := 0) (by decide) dX7_digest_48 ?_
      refine bd1_elim h (fun r9 hc10 h => ?_)
      refine j_callVi X (As := [.int v3, .int (0 : Int32)]) (rest := [.long ((31 : Int64) * v1)]) mf_X2_roomMinute bw_515 bw_384 bs_444 ⟨rfl, rfl⟩ ⟨Nat.le_of_ble_eq_true rfl, Nat.le_of_ble_eq_true rfl⟩ cf1 pk_1 pl_1 (c_X2_roomMinute Γ.2.1 E ad pl_1 hc10) rfl rfl (Nat.le_of_ble_eq_true rfl) dX7_digest_49 ?_
      refine j_i2l X dX7_digest_52 ?_
      refine j_ladd X dX7_digest_53 ?_
      refine nm_elim h (fun x11 ex11 h => ?_)
      refine j_lstore_n X (L' := [(1, .long x11), (3, .int v3), (0, .ref (ad 0))]) ex11 rfl (by decide) rfl dX7_digest_54 ?_
      refine nm_elim h (fun x12 ex12 h => ?_)
      refine j_iinc1 X (L' := [(3, .int x12), (1, .long x11), (0, .ref (ad 0))]) 1 rfl (q := 1) (by decide) ex12 (by decide) rfl dX7_digest_55 ?_
      refine j_goto X (tgt := 33) (by decide) dX7_digest_58 ?_
      exact J.sub [0, 1, 2] rfl (ih x12 x11 h)
set_option maxHeartbeats 4000000 in
set_option maxRecDepth 100000 in
theorem c_X7_digest (l : Launch) (E : Ev) (ad : Nat → Nat)    {σ : Sg} {r : Int64} (h : m_X7_digest  σ = some r) : Met l yX7_digest (wY yX7_digest cX7_digest 4 (some .long)) rm_X7_digest (va_Pc [.ref (ad 0)] (PreU E ad RF 85 σ)) (QcN E ad (some (.long r), σ)) 0 0 (EA E) := by
  refine met_of (L0 := [(0, .ref (ad 0))]) rfl (Nat.le_of_ble_eq_true rfl) rfl (fun Γ X Y => ?_)
  have X : XC Γ E rm_X7_digest cX7_digest 4 RX7 := X
  unfold m_X7_digest at h
  refine j_ldc2 X (v := 1583) bw_736 dX7_digest_0 ?_
  refine nm_elim h (fun x1 ex1 h => ?_)
  refine j_lstore_n X (L' := [(1, .long x1), (0, .ref (ad 0))]) ex1 rfl (by decide) rfl dX7_digest_3 ?_
  refine j_iconst X (v := 0) (by decide) dX7_digest_4 ?_
  refine nm_elim h (fun x2 ex2 h => ?_)
  refine j_istore_n X (L' := [(3, .int x2), (1, .long x1), (0, .ref (ad 0))]) ex2 rfl (by decide) rfl dX7_digest_5 ?_
  refine J.sub [0, 1, 2] rfl ?_
  refine jl_X7_digest_L6 X  (fun x7 h => ?_) 1000 x2 x1 h
  refine j_iconst X (v := 0) (by decide) dX7_digest_31 ?_
  refine nm_elim h (fun x8 ex8 h => ?_)
  refine j_istore_n X (L' := [(3, .int x8), (1, .long x7), (0, .ref (ad 0))]) ex8 rfl (by decide) rfl dX7_digest_32 ?_
  refine J.sub [0, 1, 2] rfl ?_
  refine jl_X7_digest_L33 X  (fun x13 h => ?_) 1000 x8 x7 h
  refine j_aload_n X 1 rfl rfl dX7_digest_61 ?_
  refine j_getr X cf5 pk_0 pl_0 0 rfl ⟨rfl, rfl⟩ 1 rfl bw_157 dX7_digest_62 ?_
  refine j_getr X cf1 pk_1 pl_1 1 rfl ⟨rfl, rfl⟩ (1 + 1) (RF_H1 pl_1) bw_61 dX7_digest_65 ?_
  refine j_lload_n X 0 rfl rfl dX7_digest_68 ?_
  refine bd1_elim h (fun r14 hc15 h => ?_)
  refine j_callVl X (As := [.long x13]) (rest := []) mf_X6_mixedInto bw_738 bw_739 bs_799 ⟨rfl, rfl⟩ ⟨Nat.le_of_ble_eq_true rfl, Nat.le_of_ble_eq_true rfl⟩ cf4 (lay_lt (lay_H1 pl_1) (by decide)) (lay_H1 pl_1) (c_X6_mixedInto Γ.2.1 E ad (lay_H1 pl_1) hc15) rfl rfl (Nat.le_of_ble_eq_true rfl) dX7_digest_69 ?_
  refine j_lstore_n X (L' := [(1, .long r14), (0, .ref (ad 0))]) rfl rfl (by decide) rfl dX7_digest_72 ?_
  refine j_aload_n X 1 rfl rfl dX7_digest_73 ?_
  refine j_getr X cf5 pk_0 pl_0 0 rfl ⟨rfl, rfl⟩ 1 rfl bw_157 dX7_digest_74 ?_
  refine j_getr X cf1 pk_1 pl_1 2 rfl ⟨rfl, rfl⟩ (1 + 3) (RF_H2 pl_1) bw_68 dX7_digest_77 ?_
  refine j_lload_n X 0 rfl rfl dX7_digest_80 ?_
  refine bd1_elim h (fun r16 hc17 h => ?_)
  refine j_callVl X (As := [.long r14]) (rest := []) mf_X6_mixedInto bw_738 bw_739 bs_799 ⟨rfl, rfl⟩ ⟨Nat.le_of_ble_eq_true rfl, Nat.le_of_ble_eq_true rfl⟩ cf4 (lay_lt (lay_H2 pl_1) (by decide)) (lay_H2 pl_1) (c_X6_mixedInto Γ.2.1 E ad (lay_H2 pl_1) hc17) rfl rfl (Nat.le_of_ble_eq_true rfl) dX7_digest_81 ?_
  refine j_lstore_n X (L' := [(1, .long r16), (0, .ref (ad 0))]) rfl rfl (by decide) rfl dX7_digest_84 ?_
  refine j_aload_n X 1 rfl rfl dX7_digest_85 ?_
  refine j_getr X cf5 pk_0 pl_0 0 rfl ⟨rfl, rfl⟩ 1 rfl bw_157 dX7_digest_86 ?_
  refine j_getr X cf1 pk_1 pl_1 4 rfl ⟨rfl, rfl⟩ (1 + 7) (RF_H4 pl_1) bw_73 dX7_digest_89 ?_
  refine j_lload_n X 0 rfl rfl dX7_digest_92 ?_
  refine bd1_elim h (fun r18 hc19 h => ?_)
  refine j_callVl X (As := [.long r16]) (rest := []) mf_X6_mixedInto bw_738 bw_739 bs_799 ⟨rfl, rfl⟩ ⟨Nat.le_of_ble_eq_true rfl, Nat.le_of_ble_eq_true rfl⟩ cf4 (lay_lt (lay_H4 pl_1) (by decide)) (lay_H4 pl_1) (c_X6_mixedInto Γ.2.1 E ad (lay_H4 pl_1) hc19) rfl rfl (Nat.le_of_ble_eq_true rfl) dX7_digest_93 ?_
  refine j_lstore_n X (L' := [(1, .long r18), (0, .ref (ad 0))]) rfl rfl (by decide) rfl dX7_digest_96 ?_
  refine j_aload_n X 1 rfl rfl dX7_digest_97 ?_
  refine j_getr X cf5 pk_0 pl_0 0 rfl ⟨rfl, rfl⟩ 1 rfl bw_157 dX7_digest_98 ?_
  refine j_getr X cf1 pk_1 pl_1 5 rfl ⟨rfl, rfl⟩ (1 + 9) (RF_H5 pl_1) bw_76 dX7_digest_101 ?_
  refine j_lload_n X 0 rfl rfl dX7_digest_104 ?_
  refine bd1_elim h (fun r20 hc21 h => ?_)
  refine j_callVl X (As := [.long r18]) (rest := []) mf_X6_mixedInto bw_738 bw_739 bs_799 ⟨rfl, rfl⟩ ⟨Nat.le_of_ble_eq_true rfl, Nat.le_of_ble_eq_true rfl⟩ cf4 (lay_lt (lay_H5 pl_1) (by decide)) (lay_H5 pl_1) (c_X6_mixedInto Γ.2.1 E ad (lay_H5 pl_1) hc21) rfl rfl (Nat.le_of_ble_eq_true rfl) dX7_digest_105 ?_
  refine j_lstore_n X (L' := [(1, .long r20), (0, .ref (ad 0))]) rfl rfl (by decide) rfl dX7_digest_108 ?_
  refine j_aload_n X 1 rfl rfl dX7_digest_109 ?_
  refine j_getr X cf5 pk_0 pl_0 0 rfl ⟨rfl, rfl⟩ 1 rfl bw_157 dX7_digest_110 ?_
  refine j_getr X cf1 pk_1 pl_1 6 rfl ⟨rfl, rfl⟩ (1 + 11) (RF_H6 pl_1) bw_79 dX7_digest_113 ?_
  refine j_lload_n X 0 rfl rfl dX7_digest_116 ?_
  refine bd1_elim h (fun r22 hc23 h => ?_)
  refine j_callVl X (As := [.long r20]) (rest := []) mf_X6_mixedInto bw_738 bw_739 bs_799 ⟨rfl, rfl⟩ ⟨Nat.le_of_ble_eq_true rfl, Nat.le_of_ble_eq_true rfl⟩ cf4 (lay_lt (lay_H6 pl_1) (by decide)) (lay_H6 pl_1) (c_X6_mixedInto Γ.2.1 E ad (lay_H6 pl_1) hc23) rfl rfl (Nat.le_of_ble_eq_true rfl) dX7_digest_117 ?_
  refine j_lstore_n X (L' := [(1, .long r22), (0, .ref (ad 0))]) rfl rfl (by decide) rfl dX7_digest_120 ?_
  refine j_ldc2 X (v := 31) bw_737 dX7_digest_121 ?_
  refine j_lload_n X 0 rfl rfl dX7_digest_124 ?_
  refine j_lmul X dX7_digest_125 ?_
  refine j_aload_n X 1 rfl rfl dX7_digest_126 ?_
  refine j_getr X cf5 pk_0 pl_0 8 rfl ⟨rfl, rfl⟩ 67 rfl bw_165 dX7_digest_127 ?_
  refine j_getl X cf0 pk_67 pl_67 0 rfl ⟨rfl, rfl⟩ bw_149 dX7_digest_130 ?_
  refine j_ladd X dX7_digest_133 ?_
  refine nm_elim h (fun x24 ex24 h => ?_)
  refine j_lstore_n X (L' := [(1, .long x24), (0, .ref (ad 0))]) ex24 rfl (by decide) rfl dX7_digest_134 ?_
  refine j_ldc2 X (v := 31) bw_737 dX7_digest_135 ?_
  refine j_lload_n X 0 rfl rfl dX7_digest_138 ?_
  refine j_lmul X dX7_digest_139 ?_
  refine j_aload_n X 1 rfl rfl dX7_digest_140 ?_
  refine j_getr X cf5 pk_0 pl_0 8 rfl ⟨rfl, rfl⟩ 67 rfl bw_165 dX7_digest_141 ?_
  refine j_getl X cf0 pk_67 pl_67 1 rfl ⟨rfl, rfl⟩ bw_151 dX7_digest_144 ?_
  refine j_ladd X dX7_digest_147 ?_
  exact j_lret X Y (ret_pl h) dX7_digest_148

abbrev rm_X8_in : Room := { frames := 0, cells := 0, slots := 0, locals := 0 }
set_option maxHeartbeats 4000000 in
set_option maxRecDepth 100000 in
theorem c_X8_in (l : Launch) (E : Ev) (ad : Nat → Nat)   {a0 : Int64} {a2 : Int64} {a4 : Int64} {σ : Sg} {r : Int32} (h : m_X8_in a0 a2 a4 σ = some r) : Met l yX8_in (wY yX8_in cX8_in 6 (some .boolean)) rm_X8_in (va_Pc [.long a0, .long a2, .long a4] (PreU E ad RF 85 σ)) (QcN E ad (some (.int r), σ)) 0 0 (EA E) := by
  refine met_of (L0 := [(0, .long a0), (2, .long a2), (4, .long a4)]) rfl (Nat.le_of_ble_eq_true rfl) rfl (fun Γ X Y => ?_)
  have X : XC Γ E rm_X8_in cX8_in 6 RX8 := X
  unfold m_X8_in at h
  refine j_lload_n X 0 rfl rfl dX8_in_0 ?_
  refine j_lload_n X 1 rfl rfl dX8_in_1 ?_
  refine j_lcmp X dX8_in_2 ?_
  refine j_if_lt X (tgt := 17) (by decide) dX8_in_3 (fun c => ?_) (fun c => ?_)
  · have h := (if_pos c).symm.trans h
    refine j_iconst X (v := 0) (by decide) dX8_in_17 ?_
    exact j_iret X Y rfl (ret_pi h) dX8_in_18
  · have h := (if_neg c).symm.trans h
    refine j_lload_n X 0 rfl rfl dX8_in_6 ?_
    refine j_lload X 2 rfl dX8_in_7 ?_
    refine j_lcmp X dX8_in_9 ?_
    refine j_if_gt X (tgt := 17) (by decide) dX8_in_10 (fun c => ?_) (fun c => ?_)
    · have h := (if_pos c).symm.trans h
      refine j_iconst X (v := 0) (by decide) dX8_in_17 ?_
      exact j_iret X Y rfl (ret_pi h) dX8_in_18
    · have h := (if_neg c).symm.trans h
      refine j_iconst X (v := 1) (by decide) dX8_in_13 ?_
      refine j_goto X (tgt := 18) (by decide) dX8_in_14 ?_
      exact j_iret X Y rfl (ret_pi h) dX8_in_18

abbrev rm_X8_bad : Room := { frames := 0, cells := 0, slots := 0, locals := 0 }
set_option maxHeartbeats 4000000 in
set_option maxRecDepth 100000 in
theorem c_X8_bad (l : Launch) (E : Ev) (ad : Nat → Nat)    {σ : Sg} {r : Int32 × Sg} (h : m_X8_bad  σ = some r) : Met l yX8_bad (wY yX8_bad cX8_bad 1 (some .int)) rm_X8_bad (va_Pc [.ref (ad 68)] (PreU E ad RF 85 σ)) (QcN E ad (some (.int r.1), r.2)) 0 0 (EA E) := by
  refine met_of (L0 := [(0, .ref (ad 68))]) rfl (Nat.le_of_ble_eq_true rfl) rfl (fun Γ X Y => ?_)
  have X : XC Γ E rm_X8_bad cX8_bad 1 RX8 := X
  unfold m_X8_bad at h
  refine j_aload_n X 0 rfl rfl dX8_bad_0 ?_
  refine j_getr X cf6 pk_68 pl_68 0 rfl ⟨rfl, rfl⟩ 69 rfl bw_754 dX8_bad_1 ?_
  refine j_iconst X (v := 0) (by decide) dX8_bad_4 ?_
  refine j_dup2 X rfl rfl dX8_bad_5 ?_
  refine gd_elim h (fun g h => ?_)
  refine j_iald X pk_69 pl_69 g dX8_bad_6 ?_
  refine j_iconst X (v := 1) (by decide) dX8_bad_7 ?_
  refine j_iadd X dX8_bad_8 ?_
  refine gd_elim h (fun g h => ?_)
  refine nm_elim h (fun σ1 eσ1 h => ?_)
  refine j_iast X pk_69 pl_69 g eσ1 dX8_bad_9 ?_
  refine j_bipush X (v := -2) (by decide) dX8_bad_10 ?_
  exact j_iret X Y rfl (ret_wi h) dX8_bad_12

abbrev rm_X8_no : Room := { frames := 0, cells := 0, slots := 0, locals := 0 }
set_option maxHeartbeats 4000000 in
set_option maxRecDepth 100000 in
theorem c_X8_no (l : Launch) (E : Ev) (ad : Nat → Nat)    {σ : Sg} {r : Int32 × Sg} (h : m_X8_no  σ = some r) : Met l yX8_no (wY yX8_no cX8_no 1 (some .int)) rm_X8_no (va_Pc [.ref (ad 68)] (PreU E ad RF 85 σ)) (QcN E ad (some (.int r.1), r.2)) 0 0 (EA E) := by
  refine met_of (L0 := [(0, .ref (ad 68))]) rfl (Nat.le_of_ble_eq_true rfl) rfl (fun Γ X Y => ?_)
  have X : XC Γ E rm_X8_no cX8_no 1 RX8 := X
  unfold m_X8_no at h
  refine j_aload_n X 0 rfl rfl dX8_no_0 ?_
  refine j_getr X cf6 pk_68 pl_68 0 rfl ⟨rfl, rfl⟩ 69 rfl bw_754 dX8_no_1 ?_
  refine j_iconst X (v := 1) (by decide) dX8_no_4 ?_
  refine j_dup2 X rfl rfl dX8_no_5 ?_
  refine gd_elim h (fun g h => ?_)
  refine j_iald X pk_69 pl_69 g dX8_no_6 ?_
  refine j_iconst X (v := 1) (by decide) dX8_no_7 ?_
  refine j_iadd X dX8_no_8 ?_
  refine gd_elim h (fun g h => ?_)
  refine nm_elim h (fun σ1 eσ1 h => ?_)
  refine j_iast X pk_69 pl_69 g eσ1 dX8_no_9 ?_
  refine j_bipush X (v := -3) (by decide) dX8_no_10 ?_
  exact j_iret X Y rfl (ret_wi h) dX8_no_12

abbrev rm_X8_full : Room := { frames := 0, cells := 0, slots := 0, locals := 0 }
set_option maxHeartbeats 4000000 in
set_option maxRecDepth 100000 in
theorem c_X8_full (l : Launch) (E : Ev) (ad : Nat → Nat)    {σ : Sg} {r : Int32 × Sg} (h : m_X8_full  σ = some r) : Met l yX8_full (wY yX8_full cX8_full 1 (some .int)) rm_X8_full (va_Pc [.ref (ad 68)] (PreU E ad RF 85 σ)) (QcN E ad (some (.int r.1), r.2)) 0 0 (EA E) := by
  refine met_of (L0 := [(0, .ref (ad 68))]) rfl (Nat.le_of_ble_eq_true rfl) rfl (fun Γ X Y => ?_)
  have X : XC Γ E rm_X8_full cX8_full 1 RX8 := X
  unfold m_X8_full at h
  refine j_aload_n X 0 rfl rfl dX8_full_0 ?_
  refine j_getr X cf6 pk_68 pl_68 0 rfl ⟨rfl, rfl⟩ 69 rfl bw_754 dX8_full_1 ?_
  refine j_iconst X (v := 2) (by decide) dX8_full_4 ?_
  refine j_dup2 X rfl rfl dX8_full_5 ?_
  refine gd_elim h (fun g h => ?_)
  refine j_iald X pk_69 pl_69 g dX8_full_6 ?_
  refine j_iconst X (v := 1) (by decide) dX8_full_7 ?_
  refine j_iadd X dX8_full_8 ?_
  refine gd_elim h (fun g h => ?_)
  refine nm_elim h (fun σ1 eσ1 h => ?_)
  refine j_iast X pk_69 pl_69 g eσ1 dX8_full_9 ?_
  refine j_bipush X (v := -4) (by decide) dX8_full_10 ?_
  exact j_iret X Y rfl (ret_wi h) dX8_full_12

abbrev rm_X8_status : Room := { frames := 1, cells := 0, slots := 0, locals := 25 }
set_option maxHeartbeats 4000000 in
set_option maxRecDepth 100000 in
theorem c_X8_status (l : Launch) (E : Ev) (ad : Nat → Nat)   {a1 : Int32} {σ : Sg} {r : Int32 × Sg} (h : m_X8_status a1 σ = some r) : Met l yX8_status (wY yX8_status cX8_status 2 (some .int)) rm_X8_status (va_Pc [.ref (ad 68), .int a1] (PreU E ad RF 85 σ)) (QcN E ad (some (.int r.1), r.2)) 0 0 (EA E) := by
  refine met_of (L0 := [(0, .ref (ad 68)), (1, .int a1)]) rfl (Nat.le_of_ble_eq_true rfl) rfl (fun Γ X Y => ?_)
  have X : XC Γ E rm_X8_status cX8_status 2 RX8 := X
  unfold m_X8_status at h
  refine j_iload_n X 1 rfl rfl dX8_status_0 ?_
  refine j_i2l X dX8_status_1 ?_
  refine j_lconst X (v := 0) (by decide) dX8_status_2 ?_
  refine j_ldc2 X (v := 2) bw_841 dX8_status_3 ?_
  refine bd1_elim h (fun r1 hc2 h => ?_)
  refine j_callSi X (As := [.long (Int32.toInt64 a1), .long (0 : Int64), .long (2 : Int64)]) (rest := []) mf_X8_in bw_842 bw_843 ⟨rfl, rfl⟩ ⟨Nat.le_of_ble_eq_true rfl, Nat.le_of_ble_eq_true rfl⟩ (c_X8_in Γ.2.1 E ad  hc2) rfl rfl (Nat.le_of_ble_eq_true rfl) dX8_status_6 ?_
  refine j_if_ne X (tgt := 24) (by decide) dX8_status_9 (fun c => ?_) (fun c => ?_)
  · have h := (if_neg c).symm.trans h
    refine j_aload_n X 0 rfl rfl dX8_status_24 ?_
    refine j_getr X cf6 pk_68 pl_68 0 rfl ⟨rfl, rfl⟩ 69 rfl bw_754 dX8_status_25 ?_
    refine j_iload_n X 1 rfl rfl dX8_status_28 ?_
    refine gd_elim h (fun g h => ?_)
    refine j_iald X pk_69 pl_69 g dX8_status_29 ?_
    exact j_iret X Y rfl (ret_wi h) dX8_status_30
  · have h := (if_pos c).symm.trans h
    refine j_aload_n X 0 rfl rfl dX8_status_12 ?_
    refine j_getr X cf6 pk_68 pl_68 0 rfl ⟨rfl, rfl⟩ 69 rfl bw_754 dX8_status_13 ?_
    refine j_iconst X (v := 0) (by decide) dX8_status_16 ?_
    refine j_dup2 X rfl rfl dX8_status_17 ?_
    refine gd_elim h (fun g h => ?_)
    refine j_iald X pk_69 pl_69 g dX8_status_18 ?_
    refine j_iconst X (v := 1) (by decide) dX8_status_19 ?_
    refine j_iadd X dX8_status_20 ?_
    refine gd_elim h (fun g h => ?_)
    refine nm_elim h (fun σ3 eσ3 h => ?_)
    refine j_iast X pk_69 pl_69 g eσ3 dX8_status_21 ?_
    refine j_iconst X (v := -1) (by decide) dX8_status_22 ?_
    exact j_iret X Y rfl (ret_wi h) dX8_status_23

abbrev rm_X8_isSaying : Room := { frames := 1, cells := 0, slots := 0, locals := 25 }
set_option maxHeartbeats 4000000 in
set_option maxRecDepth 100000 in
theorem c_X8_isSaying (l : Launch) (E : Ev) (ad : Nat → Nat)   {a1 : Int32} {σ : Sg} {r : Int32} (h : m_X8_isSaying a1 σ = some r) : Met l yX8_isSaying (wY yX8_isSaying cX8_isSaying 2 (some .boolean)) rm_X8_isSaying (va_Pc [.ref (ad 68), .int a1] (PreU E ad RF 85 σ)) (QcN E ad (some (.int r), σ)) 0 0 (EA E) := by
  refine met_of (L0 := [(0, .ref (ad 68)), (1, .int a1)]) rfl (Nat.le_of_ble_eq_true rfl) rfl (fun Γ X Y => ?_)
  have X : XC Γ E rm_X8_isSaying cX8_isSaying 2 RX8 := X
  unfold m_X8_isSaying at h
  refine j_iload_n X 1 rfl rfl dX8_isSaying_0 ?_
  refine j_i2l X dX8_isSaying_1 ?_
  refine j_lconst X (v := 0) (by decide) dX8_isSaying_2 ?_
  refine j_aload_n X 0 rfl rfl dX8_isSaying_3 ?_
  refine j_geti X cf6 pk_68 pl_68 1 rfl ⟨rfl, rfl⟩ bw_755 dX8_isSaying_4 ?_
  refine j_iconst X (v := 1) (by decide) dX8_isSaying_7 ?_
  refine j_isub X dX8_isSaying_8 ?_
  refine j_i2l X dX8_isSaying_9 ?_
  refine bd1_elim h (fun r1 hc2 h => ?_)
  refine j_callSi X (As := [.long (Int32.toInt64 a1), .long (0 : Int64), .long (Int32.toInt64 ((σ.1 68 1) - (1 : Int32)))]) (rest := []) mf_X8_in bw_842 bw_843 ⟨rfl, rfl⟩ ⟨Nat.le_of_ble_eq_true rfl, Nat.le_of_ble_eq_true rfl⟩ (c_X8_in Γ.2.1 E ad  hc2) rfl rfl (Nat.le_of_ble_eq_true rfl) dX8_isSaying_10 ?_
  refine gd_elim h (fun g h => ?_)
  exact j_iret X Y (gb_nar g) (ret_pi h) dX8_isSaying_13

abbrev rm_X8_isEar : Room := { frames := 1, cells := 0, slots := 0, locals := 25 }
set_option maxHeartbeats 4000000 in
set_option maxRecDepth 100000 in
theorem c_X8_isEar (l : Launch) (E : Ev) (ad : Nat → Nat)   {a1 : Int32} {σ : Sg} {r : Int32} (h : m_X8_isEar a1 σ = some r) : Met l yX8_isEar (wY yX8_isEar cX8_isEar 2 (some .boolean)) rm_X8_isEar (va_Pc [.ref (ad 68), .int a1] (PreU E ad RF 85 σ)) (QcN E ad (some (.int r), σ)) 0 0 (EA E) := by
  refine met_of (L0 := [(0, .ref (ad 68)), (1, .int a1)]) rfl (Nat.le_of_ble_eq_true rfl) rfl (fun Γ X Y => ?_)
  have X : XC Γ E rm_X8_isEar cX8_isEar 2 RX8 := X
  unfold m_X8_isEar at h
  refine j_iload_n X 1 rfl rfl dX8_isEar_0 ?_
  refine j_i2l X dX8_isEar_1 ?_
  refine j_lconst X (v := 0) (by decide) dX8_isEar_2 ?_
  refine j_aload_n X 0 rfl rfl dX8_isEar_3 ?_
  refine j_geti X cf6 pk_68 pl_68 5 rfl ⟨rfl, rfl⟩ bw_759 dX8_isEar_4 ?_
  refine j_iconst X (v := 1) (by decide) dX8_isEar_7 ?_
  refine j_isub X dX8_isEar_8 ?_
  refine j_i2l X dX8_isEar_9 ?_
  refine bd1_elim h (fun r1 hc2 h => ?_)
  refine j_callSi X (As := [.long (Int32.toInt64 a1), .long (0 : Int64), .long (Int32.toInt64 ((σ.1 68 5) - (1 : Int32)))]) (rest := []) mf_X8_in bw_842 bw_843 ⟨rfl, rfl⟩ ⟨Nat.le_of_ble_eq_true rfl, Nat.le_of_ble_eq_true rfl⟩ (c_X8_in Γ.2.1 E ad  hc2) rfl rfl (Nat.le_of_ble_eq_true rfl) dX8_isEar_10 ?_
  refine gd_elim h (fun g h => ?_)
  exact j_iret X Y (gb_nar g) (ret_pi h) dX8_isEar_13

abbrev rm_X8_isRoom : Room := { frames := 1, cells := 0, slots := 0, locals := 25 }
set_option maxHeartbeats 4000000 in
set_option maxRecDepth 100000 in
theorem c_X8_isRoom (l : Launch) (E : Ev) (ad : Nat → Nat)   {a0 : Int32} {σ : Sg} {r : Int32} (h : m_X8_isRoom a0 σ = some r) : Met l yX8_isRoom (wY yX8_isRoom cX8_isRoom 1 (some .boolean)) rm_X8_isRoom (va_Pc [.int a0] (PreU E ad RF 85 σ)) (QcN E ad (some (.int r), σ)) 0 0 (EA E) := by
  refine met_of (L0 := [(0, .int a0)]) rfl (Nat.le_of_ble_eq_true rfl) rfl (fun Γ X Y => ?_)
  have X : XC Γ E rm_X8_isRoom cX8_isRoom 1 RX8 := X
  unfold m_X8_isRoom at h
  refine j_iload_n X 0 rfl rfl dX8_isRoom_0 ?_
  refine j_i2l X dX8_isRoom_1 ?_
  refine j_lconst X (v := 0) (by decide) dX8_isRoom_2 ?_
  refine j_ldc2 X (v := 3) bw_857 dX8_isRoom_3 ?_
  refine bd1_elim h (fun r1 hc2 h => ?_)
  refine j_callSi X (As := [.long (Int32.toInt64 a0), .long (0 : Int64), .long (3 : Int64)]) (rest := []) mf_X8_in bw_842 bw_843 ⟨rfl, rfl⟩ ⟨Nat.le_of_ble_eq_true rfl, Nat.le_of_ble_eq_true rfl⟩ (c_X8_in Γ.2.1 E ad  hc2) rfl rfl (Nat.le_of_ble_eq_true rfl) dX8_isRoom_6 ?_
  refine gd_elim h (fun g h => ?_)
  exact j_iret X Y (gb_nar g) (ret_pi h) dX8_isRoom_9

abbrev rm_X8_empties : Room := { frames := 0, cells := 0, slots := 0, locals := 0 }
set_option maxHeartbeats 4000000 in
set_option maxRecDepth 100000 in
theorem jl_X8_empties_L12 {β : Type} {Γ : Cx} {E : Ev} {ad : Nat → Nat} (X : XC Γ E rm_X8_empties cX8_empties 2 RX8)     {kx : Sg → Option (β)} {r : β}  (hkx : ∀ (σ : Sg), kx σ = some r → J Γ E 2 ad RF 85 σ 0 0 31 [(0, .ref (ad 68))] []) : ∀ n (v1 : Int32) (σ : Sg), m_X8_empties_L12 kx n v1 σ = some r → J Γ E 2 ad RF 85 σ 0 0 12 [(1, .int v1), (0, .ref (ad 68))] [] := by
  intro n
  induction n with
  | zero =>
    intro v1 σ h
    cases h
  | succ n ih =>
    intro v1 σ h
    rw [m_X8_empties_L12.eq_2] at h
    refine j_iload_n X 0 rfl rfl dX8_empties_12 ?_
    refine j_bipush X (v := 11) (by decide) dX8_empties_13 ?_
    refine j_icmp_ge X (tgt := 31) (by decide) dX8_empties_15 (fun c => ?_) (fun c => ?_)
    · have h := (if_pos c).symm.trans h
      exact J.sub [1] rfl (hkx σ h)
    · have h := (if_neg c).symm.trans h
      refine j_aload_n X 1 rfl rfl dX8_empties_18 ?_
      refine j_getr X cf6 pk_68 pl_68 7 rfl ⟨rfl, rfl⟩ 74 rfl bw_761 dX8_empties_19 ?_
      refine j_iload_n X 0 rfl rfl dX8_empties_22 ?_
      refine j_iconst X (v := 0) (by decide) dX8_empties_23 ?_
      refine gd_elim h (fun g h => ?_)
      refine nm_elim h (fun σ4 eσ4 h => ?_)
      refine j_iast X pk_74 pl_74 g eσ4 dX8_empties_24 ?_
      refine nm_elim h (fun x5 ex5 h => ?_)
      refine j_iinc1 X (L' := [(1, .int x5), (0, .ref (ad 68))]) 0 rfl (q := 1) (by decide) ex5 (by decide) rfl dX8_empties_25 ?_
      refine j_goto X (tgt := 12) (by decide) dX8_empties_28 ?_
      exact J.sub [0, 1] rfl (ih x5 σ4 h)
set_option maxHeartbeats 4000000 in
set_option maxRecDepth 100000 in
theorem jl_X8_empties_L33 {β : Type} {Γ : Cx} {E : Ev} {ad : Nat → Nat} (X : XC Γ E rm_X8_empties cX8_empties 2 RX8)     {kx : Sg → Option (β)} {r : β}  (hkx : ∀ (σ : Sg), kx σ = some r → J Γ E 2 ad RF 85 σ 0 0 53 [(0, .ref (ad 68))] []) : ∀ n (v1 : Int32) (σ : Sg), m_X8_empties_L33 kx n v1 σ = some r → J Γ E 2 ad RF 85 σ 0 0 33 [(1, .int v1), (0, .ref (ad 68))] [] := by
  intro n
  induction n with
  | zero =>
    intro v1 σ h
    cases h
  | succ n ih =>
    intro v1 σ h
    rw [m_X8_empties_L33.eq_2] at h
    refine j_iload_n X 0 rfl rfl dX8_empties_33 ?_
    refine j_iconst X (v := 4) (by decide) dX8_empties_34 ?_
    refine j_icmp_ge X (tgt := 53) (by decide) dX8_empties_35 (fun c => ?_) (fun c => ?_)
    · have h := (if_pos c).symm.trans h
      exact J.sub [1] rfl (hkx σ h)
    · have h := (if_neg c).symm.trans h
      refine j_aload_n X 1 rfl rfl dX8_empties_38 ?_
      refine j_getr X cf6 pk_68 pl_68 7 rfl ⟨rfl, rfl⟩ 74 rfl bw_761 dX8_empties_39 ?_
      refine j_iconst X (v := 1) (by decide) dX8_empties_42 ?_
      refine j_iload_n X 0 rfl rfl dX8_empties_43 ?_
      refine j_iadd X dX8_empties_44 ?_
      refine j_iconst X (v := -1) (by decide) dX8_empties_45 ?_
      refine gd_elim h (fun g h => ?_)
      refine nm_elim h (fun σ8 eσ8 h => ?_)
      refine j_iast X pk_74 pl_74 g eσ8 dX8_empties_46 ?_
      refine nm_elim h (fun x9 ex9 h => ?_)
      refine j_iinc1 X (L' := [(1, .int x9), (0, .ref (ad 68))]) 0 rfl (q := 1) (by decide) ex9 (by decide) rfl dX8_empties_47 ?_
      refine j_goto X (tgt := 33) (by decide) dX8_empties_50 ?_
      exact J.sub [0, 1] rfl (ih x9 σ8 h)
set_option maxHeartbeats 4000000 in
set_option maxRecDepth 100000 in
theorem c_X8_empties (l : Launch) (E : Ev) (ad : Nat → Nat)    {σ : Sg} {r : Sg} (h : m_X8_empties  σ = some r) : Met l yX8_empties (wY yX8_empties cX8_empties 2 none) rm_X8_empties (va_Pc [.ref (ad 68)] (PreU E ad RF 85 σ)) (QcN E ad (none, r)) 0 0 (EA E) := by
  refine met_of (L0 := [(0, .ref (ad 68))]) rfl (Nat.le_of_ble_eq_true rfl) rfl (fun Γ X Y => ?_)
  have X : XC Γ E rm_X8_empties cX8_empties 2 RX8 := X
  unfold m_X8_empties at h
  refine j_aload_n X 0 rfl rfl dX8_empties_0 ?_
  refine j_iconst X (v := 0) (by decide) dX8_empties_1 ?_
  refine nm_elim h (fun σ1 eσ1 h => ?_)
  refine j_puti X cf6 pk_68 pl_68 1 rfl ⟨rfl, rfl⟩ (.inl rfl) rfl rfl eσ1 bw_755 dX8_empties_2 ?_
  refine j_aload_n X 0 rfl rfl dX8_empties_5 ?_
  refine j_iconst X (v := 0) (by decide) dX8_empties_6 ?_
  refine nm_elim h (fun σ2 eσ2 h => ?_)
  refine j_puti X cf6 pk_68 pl_68 5 rfl ⟨rfl, rfl⟩ (.inl rfl) rfl rfl eσ2 bw_759 dX8_empties_7 ?_
  refine j_iconst X (v := 0) (by decide) dX8_empties_10 ?_
  refine nm_elim h (fun x3 ex3 h => ?_)
  refine j_istore_n X (L' := [(1, .int x3), (0, .ref (ad 68))]) ex3 rfl (by decide) rfl dX8_empties_11 ?_
  refine J.sub [0, 1] rfl ?_
  refine jl_X8_empties_L12 X  (fun σ6 h => ?_) 1000 x3 σ2 h
  refine j_iconst X (v := 0) (by decide) dX8_empties_31 ?_
  refine nm_elim h (fun x7 ex7 h => ?_)
  refine j_istore_n X (L' := [(1, .int x7), (0, .ref (ad 68))]) ex7 rfl (by decide) rfl dX8_empties_32 ?_
  refine J.sub [0, 1] rfl ?_
  refine jl_X8_empties_L33 X  (fun σ10 h => ?_) 1000 x7 σ6 h
  refine j_aload_n X 0 rfl rfl dX8_empties_53 ?_
  refine j_iconst X (v := 0) (by decide) dX8_empties_54 ?_
  refine nm_elim h (fun σ11 eσ11 h => ?_)
  refine j_puti X cf6 pk_68 pl_68 16 rfl ⟨rfl, rfl⟩ (.inl rfl) rfl rfl eσ11 bw_770 dX8_empties_55 ?_
  refine j_aload_n X 0 rfl rfl dX8_empties_58 ?_
  refine j_iconst X (v := 0) (by decide) dX8_empties_59 ?_
  refine nm_elim h (fun σ12 eσ12 h => ?_)
  refine j_puti X cf6 pk_68 pl_68 18 rfl ⟨rfl, rfl⟩ (.inl rfl) rfl rfl eσ12 bw_772 dX8_empties_60 ?_
  refine j_aload_n X 0 rfl rfl dX8_empties_63 ?_
  refine j_iconst X (v := 0) (by decide) dX8_empties_64 ?_
  refine nm_elim h (fun σ13 eσ13 h => ?_)
  refine j_puti X cf6 pk_68 pl_68 20 rfl ⟨rfl, rfl⟩ (.inl rfl) rfl rfl eσ13 bw_774 dX8_empties_65 ?_
  refine j_aload_n X 0 rfl rfl dX8_empties_68 ?_
  refine j_iconst X (v := 0) (by decide) dX8_empties_69 ?_
  refine nm_elim h (fun σ14 eσ14 h => ?_)
  refine j_puti X cf6 pk_68 pl_68 14 rfl ⟨rfl, rfl⟩ (.inl rfl) rfl rfl eσ14 bw_768 dX8_empties_70 ?_
  exact j_vret X Y (ret_wv h) dX8_empties_73

abbrev rm_X8_house : Room := { frames := 1, cells := 0, slots := 0, locals := 21 }
set_option maxHeartbeats 4000000 in
set_option maxRecDepth 100000 in
theorem c_X8_house (l : Launch) (E : Ev) (ad : Nat → Nat)    {σ : Sg} {r : Int32 × Sg} (h : m_X8_house  σ = some r) : Met l yX8_house (wY yX8_house cX8_house 2 (some .int)) rm_X8_house (va_Pc [.ref (ad 68)] (PreU E ad RF 85 σ)) (QcN E ad (some (.int r.1), r.2)) 0 0 (EA E) := by
  refine met_of (L0 := [(0, .ref (ad 68))]) rfl (Nat.le_of_ble_eq_true rfl) rfl (fun Γ X Y => ?_)
  have X : XC Γ E rm_X8_house cX8_house 2 RX8 := X
  unfold m_X8_house at h
  refine j_aload_n X 0 rfl rfl dX8_house_0 ?_
  refine j_geti X cf6 pk_68 pl_68 1 rfl ⟨rfl, rfl⟩ bw_755 dX8_house_1 ?_
  refine nm_elim h (fun x1 ex1 h => ?_)
  refine j_istore_n X (L' := [(1, .int x1), (0, .ref (ad 68))]) ex1 rfl (by decide) rfl dX8_house_4 ?_
  refine j_aload_n X 1 rfl rfl dX8_house_5 ?_
  refine bd1_elim h (fun σ2 hc3 h => ?_)
  refine j_callVv X (As := []) (rest := []) mf_X8_empties bw_750 bw_752 bs_19 ⟨rfl, rfl⟩ ⟨Nat.le_of_ble_eq_true rfl, Nat.le_of_ble_eq_true rfl⟩ cf6 pk_68 pl_68 (c_X8_empties Γ.2.1 E ad  hc3) rfl rfl (Nat.le_of_ble_eq_true rfl) dX8_house_6 ?_
  refine j_iload_n X 0 rfl rfl dX8_house_9 ?_
  exact j_iret X Y rfl (ret_wi h) dX8_house_10

abbrev rm_X8_sayingComes : Room := { frames := 0, cells := 0, slots := 0, locals := 0 }
set_option maxHeartbeats 4000000 in
set_option maxRecDepth 100000 in
theorem c_X8_sayingComes (l : Launch) (E : Ev) (ad : Nat → Nat)   {a1 : Int32} {a2 : Int32} {a3 : Int32} {σ : Sg} {r : Sg} (h : m_X8_sayingComes a1 a2 a3 σ = some r) : Met l yX8_sayingComes (wY yX8_sayingComes cX8_sayingComes 4 none) rm_X8_sayingComes (va_Pc [.ref (ad 68), .int a1, .int a2, .int a3] (PreU E ad RF 85 σ)) (QcN E ad (none, r)) 0 0 (EA E) := by
  refine met_of (L0 := [(0, .ref (ad 68)), (1, .int a1), (2, .int a2), (3, .int a3)]) rfl (Nat.le_of_ble_eq_true rfl) rfl (fun Γ X Y => ?_)
  have X : XC Γ E rm_X8_sayingComes cX8_sayingComes 4 RX8 := X
  unfold m_X8_sayingComes at h
  refine j_aload_n X 0 rfl rfl dX8_sayingComes_0 ?_
  refine j_getr X cf6 pk_68 pl_68 2 rfl ⟨rfl, rfl⟩ 70 rfl bw_756 dX8_sayingComes_1 ?_
  refine j_aload_n X 0 rfl rfl dX8_sayingComes_4 ?_
  refine j_geti X cf6 pk_68 pl_68 1 rfl ⟨rfl, rfl⟩ bw_755 dX8_sayingComes_5 ?_
  refine j_iload_n X 1 rfl rfl dX8_sayingComes_8 ?_
  refine gd_elim h (fun g h => ?_)
  refine nm_elim h (fun σ1 eσ1 h => ?_)
  refine j_iast X pk_70 pl_70 g eσ1 dX8_sayingComes_9 ?_
  refine j_aload_n X 0 rfl rfl dX8_sayingComes_10 ?_
  refine j_getr X cf6 pk_68 pl_68 3 rfl ⟨rfl, rfl⟩ 71 rfl bw_757 dX8_sayingComes_11 ?_
  refine j_aload_n X 0 rfl rfl dX8_sayingComes_14 ?_
  refine j_geti X cf6 pk_68 pl_68 1 rfl ⟨rfl, rfl⟩ bw_755 dX8_sayingComes_15 ?_
  refine j_iload_n X 2 rfl rfl dX8_sayingComes_18 ?_
  refine gd_elim h (fun g h => ?_)
  refine nm_elim h (fun σ2 eσ2 h => ?_)
  refine j_iast X pk_71 pl_71 g eσ2 dX8_sayingComes_19 ?_
  refine j_aload_n X 0 rfl rfl dX8_sayingComes_20 ?_
  refine j_getr X cf6 pk_68 pl_68 4 rfl ⟨rfl, rfl⟩ 72 rfl bw_758 dX8_sayingComes_21 ?_
  refine j_aload_n X 0 rfl rfl dX8_sayingComes_24 ?_
  refine j_geti X cf6 pk_68 pl_68 1 rfl ⟨rfl, rfl⟩ bw_755 dX8_sayingComes_25 ?_
  refine j_iload_n X 3 rfl rfl dX8_sayingComes_28 ?_
  refine gd_elim h (fun g h => ?_)
  refine nm_elim h (fun σ3 eσ3 h => ?_)
  refine j_iast X pk_72 pl_72 g eσ3 dX8_sayingComes_29 ?_
  refine j_aload_n X 0 rfl rfl dX8_sayingComes_30 ?_
  refine j_dup X rfl dX8_sayingComes_31 ?_
  refine j_geti X cf6 pk_68 pl_68 1 rfl ⟨rfl, rfl⟩ bw_755 dX8_sayingComes_32 ?_
  refine j_iconst X (v := 1) (by decide) dX8_sayingComes_35 ?_
  refine j_iadd X dX8_sayingComes_36 ?_
  refine nm_elim h (fun σ4 eσ4 h => ?_)
  refine j_puti X cf6 pk_68 pl_68 1 rfl ⟨rfl, rfl⟩ (.inl rfl) rfl rfl eσ4 bw_755 dX8_sayingComes_37 ?_
  refine j_aload_n X 0 rfl rfl dX8_sayingComes_40 ?_
  refine j_iconst X (v := 0) (by decide) dX8_sayingComes_41 ?_
  refine nm_elim h (fun σ5 eσ5 h => ?_)
  refine j_puti X cf6 pk_68 pl_68 14 rfl ⟨rfl, rfl⟩ (.inl rfl) rfl rfl eσ5 bw_768 dX8_sayingComes_42 ?_
  exact j_vret X Y (ret_wv h) dX8_sayingComes_45

abbrev rm_X8_earComes : Room := { frames := 0, cells := 0, slots := 0, locals := 0 }
set_option maxHeartbeats 4000000 in
set_option maxRecDepth 100000 in
theorem c_X8_earComes (l : Launch) (E : Ev) (ad : Nat → Nat)   {a1 : Int32} {a2 : Int32} {σ : Sg} {r : Sg} (h : m_X8_earComes a1 a2 σ = some r) : Met l yX8_earComes (wY yX8_earComes cX8_earComes 3 none) rm_X8_earComes (va_Pc [.ref (ad 68), .int a1, .int a2] (PreU E ad RF 85 σ)) (QcN E ad (none, r)) 0 0 (EA E) := by
  refine met_of (L0 := [(0, .ref (ad 68)), (1, .int a1), (2, .int a2)]) rfl (Nat.le_of_ble_eq_true rfl) rfl (fun Γ X Y => ?_)
  have X : XC Γ E rm_X8_earComes cX8_earComes 3 RX8 := X
  unfold m_X8_earComes at h
  refine j_aload_n X 0 rfl rfl dX8_earComes_0 ?_
  refine j_getr X cf6 pk_68 pl_68 6 rfl ⟨rfl, rfl⟩ 73 rfl bw_760 dX8_earComes_1 ?_
  refine j_aload_n X 0 rfl rfl dX8_earComes_4 ?_
  refine j_geti X cf6 pk_68 pl_68 5 rfl ⟨rfl, rfl⟩ bw_759 dX8_earComes_5 ?_
  refine j_iload_n X 1 rfl rfl dX8_earComes_8 ?_
  refine gd_elim h (fun g h => ?_)
  refine nm_elim h (fun σ1 eσ1 h => ?_)
  refine j_iast X pk_73 pl_73 g eσ1 dX8_earComes_9 ?_
  refine j_aload_n X 0 rfl rfl dX8_earComes_10 ?_
  refine j_getr X cf6 pk_68 pl_68 7 rfl ⟨rfl, rfl⟩ 74 rfl bw_761 dX8_earComes_11 ?_
  refine j_iconst X (v := 5) (by decide) dX8_earComes_14 ?_
  refine j_aload_n X 0 rfl rfl dX8_earComes_15 ?_
  refine j_geti X cf6 pk_68 pl_68 5 rfl ⟨rfl, rfl⟩ bw_759 dX8_earComes_16 ?_
  refine j_iadd X dX8_earComes_19 ?_
  refine j_iload_n X 2 rfl rfl dX8_earComes_20 ?_
  refine gd_elim h (fun g h => ?_)
  refine nm_elim h (fun σ2 eσ2 h => ?_)
  refine j_iast X pk_74 pl_74 g eσ2 dX8_earComes_21 ?_
  refine j_aload_n X 0 rfl rfl dX8_earComes_22 ?_
  refine j_getr X cf6 pk_68 pl_68 7 rfl ⟨rfl, rfl⟩ 74 rfl bw_761 dX8_earComes_23 ?_
  refine j_bipush X (v := 8) (by decide) dX8_earComes_26 ?_
  refine j_aload_n X 0 rfl rfl dX8_earComes_28 ?_
  refine j_geti X cf6 pk_68 pl_68 5 rfl ⟨rfl, rfl⟩ bw_759 dX8_earComes_29 ?_
  refine j_iadd X dX8_earComes_32 ?_
  refine j_iconst X (v := 0) (by decide) dX8_earComes_33 ?_
  refine gd_elim h (fun g h => ?_)
  refine nm_elim h (fun σ3 eσ3 h => ?_)
  refine j_iast X pk_74 pl_74 g eσ3 dX8_earComes_34 ?_
  refine j_aload_n X 0 rfl rfl dX8_earComes_35 ?_
  refine j_dup X rfl dX8_earComes_36 ?_
  refine j_geti X cf6 pk_68 pl_68 5 rfl ⟨rfl, rfl⟩ bw_759 dX8_earComes_37 ?_
  refine j_iconst X (v := 1) (by decide) dX8_earComes_40 ?_
  refine j_iadd X dX8_earComes_41 ?_
  refine nm_elim h (fun σ4 eσ4 h => ?_)
  refine j_puti X cf6 pk_68 pl_68 5 rfl ⟨rfl, rfl⟩ (.inl rfl) rfl rfl eσ4 bw_759 dX8_earComes_42 ?_
  refine j_aload_n X 0 rfl rfl dX8_earComes_45 ?_
  refine j_iconst X (v := 0) (by decide) dX8_earComes_46 ?_
  refine nm_elim h (fun σ5 eσ5 h => ?_)
  refine j_puti X cf6 pk_68 pl_68 14 rfl ⟨rfl, rfl⟩ (.inl rfl) rfl rfl eσ5 bw_768 dX8_earComes_47 ?_
  exact j_vret X Y (ret_wv h) dX8_earComes_50

abbrev rm_X8_say : Room := { frames := 2, cells := 0, slots := 0, locals := 45 }
set_option maxHeartbeats 4000000 in
set_option maxRecDepth 100000 in
theorem c_X8_say (l : Launch) (E : Ev) (ad : Nat → Nat)   {a1 : Int32} {a2 : Int32} {a3 : Int32} {σ : Sg} {r : Int32 × Sg} (h : m_X8_say a1 a2 a3 σ = some r) : Met l yX8_say (wY yX8_say cX8_say 4 (some .int)) rm_X8_say (va_Pc [.ref (ad 68), .int a1, .int a2, .int a3] (PreU E ad RF 85 σ)) (QcN E ad (some (.int r.1), r.2)) 0 0 (EA E) := by
  refine met_of (L0 := [(0, .ref (ad 68)), (1, .int a1), (2, .int a2), (3, .int a3)]) rfl (Nat.le_of_ble_eq_true rfl) rfl (fun Γ X Y => ?_)
  have X : XC Γ E rm_X8_say cX8_say 4 RX8 := X
  unfold m_X8_say at h
  refine j_iload_n X 1 rfl rfl dX8_say_0 ?_
  refine j_i2l X dX8_say_1 ?_
  refine j_lconst X (v := 0) (by decide) dX8_say_2 ?_
  refine j_ldc2 X (v := 5) bw_853 dX8_say_3 ?_
  refine bd1_elim h (fun r1 hc2 h => ?_)
  refine j_callSi X (As := [.long (Int32.toInt64 a1), .long (0 : Int64), .long (5 : Int64)]) (rest := []) mf_X8_in bw_842 bw_843 ⟨rfl, rfl⟩ ⟨Nat.le_of_ble_eq_true rfl, Nat.le_of_ble_eq_true rfl⟩ (c_X8_in Γ.2.1 E ad  hc2) rfl rfl (Nat.le_of_ble_eq_true rfl) dX8_say_6 ?_
  refine j_if_eq X (tgt := 31) (by decide) dX8_say_9 (fun c => ?_) (fun c => ?_)
  · have h := (if_pos c).symm.trans h
    refine j_aload_n X 0 rfl rfl dX8_say_31 ?_
    refine bd2_elim h (fun r3 σ4 hc5 h => ?_)
    refine j_callVi X (As := []) (rest := []) mf_X8_bad bw_859 bw_861 bs_20 ⟨rfl, rfl⟩ ⟨Nat.le_of_ble_eq_true rfl, Nat.le_of_ble_eq_true rfl⟩ cf6 pk_68 pl_68 (c_X8_bad Γ.2.1 E ad  hc5) rfl rfl (Nat.le_of_ble_eq_true rfl) dX8_say_32 ?_
    exact j_iret X Y rfl (ret_wi h) dX8_say_35
  · have h := (if_neg c).symm.trans h
    refine j_iload_n X 2 rfl rfl dX8_say_12 ?_
    refine bd1_elim h (fun r6 hc7 h => ?_)
    refine j_callSi X (As := [.int a2]) (rest := []) mf_X8_isRoom bw_854 bw_855 ⟨rfl, rfl⟩ ⟨Nat.le_of_ble_eq_true rfl, Nat.le_of_ble_eq_true rfl⟩ (c_X8_isRoom Γ.2.1 E ad  hc7) rfl rfl (Nat.le_of_ble_eq_true rfl) dX8_say_13 ?_
    refine j_if_eq X (tgt := 31) (by decide) dX8_say_16 (fun c => ?_) (fun c => ?_)
    · have h := (if_pos c).symm.trans h
      refine j_aload_n X 0 rfl rfl dX8_say_31 ?_
      refine bd2_elim h (fun r8 σ9 hc10 h => ?_)
      refine j_callVi X (As := []) (rest := []) mf_X8_bad bw_859 bw_861 bs_20 ⟨rfl, rfl⟩ ⟨Nat.le_of_ble_eq_true rfl, Nat.le_of_ble_eq_true rfl⟩ cf6 pk_68 pl_68 (c_X8_bad Γ.2.1 E ad  hc10) rfl rfl (Nat.le_of_ble_eq_true rfl) dX8_say_32 ?_
      exact j_iret X Y rfl (ret_wi h) dX8_say_35
    · have h := (if_neg c).symm.trans h
      refine j_iload_n X 3 rfl rfl dX8_say_19 ?_
      refine j_i2l X dX8_say_20 ?_
      refine j_lconst X (v := 1) (by decide) dX8_say_21 ?_
      refine j_ldc2 X (v := 9) bw_858 dX8_say_22 ?_
      refine bd1_elim h (fun r11 hc12 h => ?_)
      refine j_callSi X (As := [.long (Int32.toInt64 a3), .long (1 : Int64), .long (9 : Int64)]) (rest := []) mf_X8_in bw_842 bw_843 ⟨rfl, rfl⟩ ⟨Nat.le_of_ble_eq_true rfl, Nat.le_of_ble_eq_true rfl⟩ (c_X8_in Γ.2.1 E ad  hc12) rfl rfl (Nat.le_of_ble_eq_true rfl) dX8_say_25 ?_
      refine j_if_ne X (tgt := 36) (by decide) dX8_say_28 (fun c => ?_) (fun c => ?_)
      · have h := (if_neg c).symm.trans h
        refine j_aload_n X 0 rfl rfl dX8_say_36 ?_
        refine j_geti X cf6 pk_68 pl_68 1 rfl ⟨rfl, rfl⟩ bw_755 dX8_say_37 ?_
        refine j_bipush X (v := 8) (by decide) dX8_say_40 ?_
        refine j_icmp_ne X (tgt := 50) (by decide) dX8_say_42 (fun c => ?_) (fun c => ?_)
        · have h := (if_neg c).symm.trans h
          refine j_aload_n X 0 rfl rfl dX8_say_50 ?_
          refine j_iload_n X 1 rfl rfl dX8_say_51 ?_
          refine j_iload_n X 2 rfl rfl dX8_say_52 ?_
          refine j_iload_n X 3 rfl rfl dX8_say_53 ?_
          refine bd1_elim h (fun σ13 hc14 h => ?_)
          refine j_callVv X (As := [.int a1, .int a2, .int a3]) (rest := []) mf_X8_sayingComes bw_867 bw_869 bs_22 ⟨rfl, rfl⟩ ⟨Nat.le_of_ble_eq_true rfl, Nat.le_of_ble_eq_true rfl⟩ cf6 pk_68 pl_68 (c_X8_sayingComes Γ.2.1 E ad  hc14) rfl rfl (Nat.le_of_ble_eq_true rfl) dX8_say_54 ?_
          refine j_aload_n X 0 rfl rfl dX8_say_57 ?_
          refine j_geti X cf6 pk_68 pl_68 1 rfl ⟨rfl, rfl⟩ bw_755 dX8_say_58 ?_
          refine j_iconst X (v := 1) (by decide) dX8_say_61 ?_
          refine j_isub X dX8_say_62 ?_
          exact j_iret X Y rfl (ret_wi h) dX8_say_63
        · have h := (if_pos c).symm.trans h
          refine j_aload_n X 0 rfl rfl dX8_say_45 ?_
          refine bd2_elim h (fun r15 σ16 hc17 h => ?_)
          refine j_callVi X (As := []) (rest := []) mf_X8_full bw_863 bw_865 bs_21 ⟨rfl, rfl⟩ ⟨Nat.le_of_ble_eq_true rfl, Nat.le_of_ble_eq_true rfl⟩ cf6 pk_68 pl_68 (c_X8_full Γ.2.1 E ad  hc17) rfl rfl (Nat.le_of_ble_eq_true rfl) dX8_say_46 ?_
          exact j_iret X Y rfl (ret_wi h) dX8_say_49
      · have h := (if_pos c).symm.trans h
        refine j_aload_n X 0 rfl rfl dX8_say_31 ?_
        refine bd2_elim h (fun r18 σ19 hc20 h => ?_)
        refine j_callVi X (As := []) (rest := []) mf_X8_bad bw_859 bw_861 bs_20 ⟨rfl, rfl⟩ ⟨Nat.le_of_ble_eq_true rfl, Nat.le_of_ble_eq_true rfl⟩ cf6 pk_68 pl_68 (c_X8_bad Γ.2.1 E ad  hc20) rfl rfl (Nat.le_of_ble_eq_true rfl) dX8_say_32 ?_
        exact j_iret X Y rfl (ret_wi h) dX8_say_35

abbrev rm_X8_ear : Room := { frames := 1, cells := 0, slots := 0, locals := 25 }
set_option maxHeartbeats 4000000 in
set_option maxRecDepth 100000 in
theorem c_X8_ear (l : Launch) (E : Ev) (ad : Nat → Nat)   {a1 : Int32} {σ : Sg} {r : Int32 × Sg} (h : m_X8_ear a1 σ = some r) : Met l yX8_ear (wY yX8_ear cX8_ear 2 (some .int)) rm_X8_ear (va_Pc [.ref (ad 68), .int a1] (PreU E ad RF 85 σ)) (QcN E ad (some (.int r.1), r.2)) 0 0 (EA E) := by
  refine met_of (L0 := [(0, .ref (ad 68)), (1, .int a1)]) rfl (Nat.le_of_ble_eq_true rfl) rfl (fun Γ X Y => ?_)
  have X : XC Γ E rm_X8_ear cX8_ear 2 RX8 := X
  unfold m_X8_ear at h
  refine j_iload_n X 1 rfl rfl dX8_ear_0 ?_
  refine j_i2l X dX8_ear_1 ?_
  refine j_lconst X (v := 0) (by decide) dX8_ear_2 ?_
  refine j_ldc2 X (v := 5) bw_853 dX8_ear_3 ?_
  refine bd1_elim h (fun r1 hc2 h => ?_)
  refine j_callSi X (As := [.long (Int32.toInt64 a1), .long (0 : Int64), .long (5 : Int64)]) (rest := []) mf_X8_in bw_842 bw_843 ⟨rfl, rfl⟩ ⟨Nat.le_of_ble_eq_true rfl, Nat.le_of_ble_eq_true rfl⟩ (c_X8_in Γ.2.1 E ad  hc2) rfl rfl (Nat.le_of_ble_eq_true rfl) dX8_ear_6 ?_
  refine j_if_ne X (tgt := 17) (by decide) dX8_ear_9 (fun c => ?_) (fun c => ?_)
  · have h := (if_neg c).symm.trans h
    refine j_aload_n X 0 rfl rfl dX8_ear_17 ?_
    refine j_geti X cf6 pk_68 pl_68 5 rfl ⟨rfl, rfl⟩ bw_759 dX8_ear_18 ?_
    refine j_iconst X (v := 3) (by decide) dX8_ear_21 ?_
    refine j_icmp_ne X (tgt := 30) (by decide) dX8_ear_22 (fun c => ?_) (fun c => ?_)
    · have h := (if_neg c).symm.trans h
      refine j_aload_n X 0 rfl rfl dX8_ear_30 ?_
      refine j_iload_n X 1 rfl rfl dX8_ear_31 ?_
      refine j_iconst X (v := 0) (by decide) dX8_ear_32 ?_
      refine bd1_elim h (fun σ3 hc4 h => ?_)
      refine j_callVv X (As := [.int a1, .int (0 : Int32)]) (rest := []) mf_X8_earComes bw_875 bw_877 bs_23 ⟨rfl, rfl⟩ ⟨Nat.le_of_ble_eq_true rfl, Nat.le_of_ble_eq_true rfl⟩ cf6 pk_68 pl_68 (c_X8_earComes Γ.2.1 E ad  hc4) rfl rfl (Nat.le_of_ble_eq_true rfl) dX8_ear_33 ?_
      refine j_aload_n X 0 rfl rfl dX8_ear_36 ?_
      refine j_geti X cf6 pk_68 pl_68 5 rfl ⟨rfl, rfl⟩ bw_759 dX8_ear_37 ?_
      refine j_iconst X (v := 1) (by decide) dX8_ear_40 ?_
      refine j_isub X dX8_ear_41 ?_
      exact j_iret X Y rfl (ret_wi h) dX8_ear_42
    · have h := (if_pos c).symm.trans h
      refine j_aload_n X 0 rfl rfl dX8_ear_25 ?_
      refine bd2_elim h (fun r5 σ6 hc7 h => ?_)
      refine j_callVi X (As := []) (rest := []) mf_X8_full bw_863 bw_865 bs_21 ⟨rfl, rfl⟩ ⟨Nat.le_of_ble_eq_true rfl, Nat.le_of_ble_eq_true rfl⟩ cf6 pk_68 pl_68 (c_X8_full Γ.2.1 E ad  hc7) rfl rfl (Nat.le_of_ble_eq_true rfl) dX8_ear_26 ?_
      exact j_iret X Y rfl (ret_wi h) dX8_ear_29
  · have h := (if_pos c).symm.trans h
    refine j_aload_n X 0 rfl rfl dX8_ear_12 ?_
    refine bd2_elim h (fun r8 σ9 hc10 h => ?_)
    refine j_callVi X (As := []) (rest := []) mf_X8_bad bw_859 bw_861 bs_20 ⟨rfl, rfl⟩ ⟨Nat.le_of_ble_eq_true rfl, Nat.le_of_ble_eq_true rfl⟩ cf6 pk_68 pl_68 (c_X8_bad Γ.2.1 E ad  hc10) rfl rfl (Nat.le_of_ble_eq_true rfl) dX8_ear_13 ?_
    exact j_iret X Y rfl (ret_wi h) dX8_ear_16

abbrev rm_X8_loudBy : Room := { frames := 0, cells := 0, slots := 0, locals := 0 }
set_option maxHeartbeats 4000000 in
set_option maxRecDepth 100000 in
theorem c_X8_loudBy (l : Launch) (E : Ev) (ad : Nat → Nat)   {a0 : Int32} {a1 : Int32} {a2 : Int32} {σ : Sg} {r : Int32} (h : m_X8_loudBy a0 a1 a2 σ = some r) : Met l yX8_loudBy (wY yX8_loudBy cX8_loudBy 6 (some .int)) rm_X8_loudBy (va_Pc [.int a0, .int a1, .int a2] (PreU E ad RF 85 σ)) (QcN E ad (some (.int r), σ)) 0 0 (EA E) := by
  refine met_of (L0 := [(0, .int a0), (1, .int a1), (2, .int a2)]) rfl (Nat.le_of_ble_eq_true rfl) rfl (fun Γ X Y => ?_)
  have X : XC Γ E rm_X8_loudBy cX8_loudBy 6 RX8 := X
  unfold m_X8_loudBy at h
  refine j_iload_n X 1 rfl rfl dX8_loudBy_0 ?_
  refine j_iload_n X 2 rfl rfl dX8_loudBy_1 ?_
  refine j_iconst X (v := 4) (by decide) dX8_loudBy_2 ?_
  refine j_idiv X (by decide) dX8_loudBy_3 ?_
  refine j_isub X dX8_loudBy_4 ?_
  refine bd1_elim h (fun o2 hr h => ?_)
  have hJ1 : J Γ E 6 ad RF 85 σ 0 0 17 [(0, .int a0), (2, .int a2)] [.int o2] := by
    refine j_istore_n X (L' := [(3, .int o2), (0, .int a0), (2, .int a2)]) rfl rfl (by decide) rfl dX8_loudBy_17 ?_
    refine j_iload_n X 0 rfl rfl dX8_loudBy_18 ?_
    refine j_iconst X (v := 1) (by decide) dX8_loudBy_19 ?_
    refine j_iadd X dX8_loudBy_20 ?_
    refine j_iconst X (v := 2) (by decide) dX8_loudBy_21 ?_
    refine j_idiv X (by decide) dX8_loudBy_22 ?_
    refine nm_elim h (fun x3 ex3 h => ?_)
    refine j_istore X (L' := [(4, .int x3), (3, .int o2), (0, .int a0), (2, .int a2)]) ex3 (by decide) rfl dX8_loudBy_23 ?_
    refine j_iload_n X 1 rfl rfl dX8_loudBy_25 ?_
    refine j_iload_n X 3 rfl rfl dX8_loudBy_26 ?_
    refine j_iconst X (v := 2) (by decide) dX8_loudBy_27 ?_
    refine bd1_elim h (fun o5 hr h => ?_)
    have hJ4 : J Γ E 6 ad RF 85 σ 0 0 36 [(4, .int x3), (3, .int o2), (0, .int a0), (2, .int a2)] [.int o5, .int o2] := by
      refine j_iadd X dX8_loudBy_36 ?_
      refine nm_elim h (fun x6 ex6 h => ?_)
      refine j_istore X (L' := [(5, .int x6), (4, .int x3), (3, .int o2), (0, .int a0), (2, .int a2)]) ex6 (by decide) rfl dX8_loudBy_37 ?_
      refine j_iload_n X 3 rfl rfl dX8_loudBy_39 ?_
      by_cases c0 : a0 = 0
      · have h := (if_pos c0).symm.trans h
        refine j_tableIn X (tgt := 76) (by rw [c0]; decide) (by rw [c0]; decide) (by rw [c0]; rfl) (by decide) dX8_loudBy_40 ?_
        refine j_iload_n X 2 rfl rfl dX8_loudBy_76 ?_
        exact j_iret X Y rfl (ret_pi h) dX8_loudBy_77
      · have h := (if_neg c0).symm.trans h
        by_cases c1 : a0 = 1
        · have h := (if_pos c1).symm.trans h
          refine j_tableIn X (tgt := 78) (by rw [c1]; decide) (by rw [c1]; decide) (by rw [c1]; rfl) (by decide) dX8_loudBy_40 ?_
          refine j_iload X 1 rfl dX8_loudBy_78 ?_
          exact j_iret X Y rfl (ret_pi h) dX8_loudBy_80
        · have h := (if_neg c1).symm.trans h
          by_cases c2 : a0 = 2
          · have h := (if_pos c2).symm.trans h
            refine j_tableIn X (tgt := 81) (by rw [c2]; decide) (by rw [c2]; decide) (by rw [c2]; rfl) (by decide) dX8_loudBy_40 ?_
            refine j_iload X 0 rfl dX8_loudBy_81 ?_
            exact j_iret X Y rfl (ret_pi h) dX8_loudBy_83
          · have h := (if_neg c2).symm.trans h
            by_cases c3 : a0 = 3
            · have h := (if_pos c3).symm.trans h
              refine j_tableIn X (tgt := 84) (by rw [c3]; decide) (by rw [c3]; decide) (by rw [c3]; rfl) (by decide) dX8_loudBy_40 ?_
              refine j_iload X 1 rfl dX8_loudBy_84 ?_
              refine j_iload_n X 4 rfl rfl dX8_loudBy_86 ?_
              refine j_bipush X (v := 20) (by decide) dX8_loudBy_87 ?_
              refine bd1_elim h (fun o8 hr h => ?_)
              have hJ7 : J Γ E 6 ad RF 85 σ 0 0 97 [] [.int o8, .int x3] := by
                refine j_iadd X dX8_loudBy_97 ?_
                exact j_iret X Y rfl (ret_pi h) dX8_loudBy_98
              clear h
              refine j_icmp_lt X (tgt := 96) (by decide) dX8_loudBy_89 (fun c => ?_) (fun c => ?_)
              · have hr := (if_pos c).symm.trans hr
                refine j_iconst X (v := 0) (by decide) dX8_loudBy_96 ?_
                cases hr
                exact J.sub [] rfl hJ7
              · have hr := (if_neg c).symm.trans hr
                refine j_iconst X (v := 3) (by decide) dX8_loudBy_92 ?_
                refine j_goto X (tgt := 97) (by decide) dX8_loudBy_93 ?_
                cases hr
                exact J.sub [] rfl hJ7
            · have h := (if_neg c3).symm.trans h
              by_cases c4 : a0 = 4
              · have h := (if_pos c4).symm.trans h
                refine j_tableIn X (tgt := 99) (by rw [c4]; decide) (by rw [c4]; decide) (by rw [c4]; rfl) (by decide) dX8_loudBy_40 ?_
                refine j_iload_n X 4 rfl rfl dX8_loudBy_99 ?_
                refine j_iconst X (v := 5) (by decide) dX8_loudBy_100 ?_
                refine j_irem X (by decide) dX8_loudBy_101 ?_
                refine j_if_ne X (tgt := 109) (by decide) dX8_loudBy_102 (fun c => ?_) (fun c => ?_)
                · have h := (if_neg c).symm.trans h
                  refine j_iconst X (v := 0) (by decide) dX8_loudBy_109 ?_
                  exact j_iret X Y rfl (ret_pi h) dX8_loudBy_110
                · have h := (if_pos c).symm.trans h
                  refine j_iload_n X 2 rfl rfl dX8_loudBy_105 ?_
                  refine j_goto X (tgt := 110) (by decide) dX8_loudBy_106 ?_
                  exact j_iret X Y rfl (ret_pi h) dX8_loudBy_110
              · have h := (if_neg c4).symm.trans h
                refine j_tableOut X (tgt := 111) (sw_out (x := a0) (lo := 0) (hi := 4) (fun z h1 h2 => by rcases (by omega : z = 0 ∨ z = 1 ∨ z = 2 ∨ z = 3 ∨ z = 4) with rfl | rfl | rfl | rfl | rfl <;> first | exact c0 | exact c1 | exact c2 | exact c3 | exact c4)) (by decide) dX8_loudBy_40 ?_
                refine j_iload_n X 4 rfl rfl dX8_loudBy_111 ?_
                refine j_iconst X (v := 2) (by decide) dX8_loudBy_112 ?_
                refine j_irem X (by decide) dX8_loudBy_113 ?_
                refine j_if_ne X (tgt := 122) (by decide) dX8_loudBy_114 (fun c => ?_) (fun c => ?_)
                · have h := (if_neg c).symm.trans h
                  refine j_iconst X (v := 0) (by decide) dX8_loudBy_122 ?_
                  exact j_iret X Y rfl (ret_pi h) dX8_loudBy_123
                · have h := (if_pos c).symm.trans h
                  refine j_iload X 0 rfl dX8_loudBy_117 ?_
                  refine j_goto X (tgt := 123) (by decide) dX8_loudBy_119 ?_
                  exact j_iret X Y rfl (ret_pi h) dX8_loudBy_123
    clear h
    refine j_icmp_gt X (tgt := 35) (by decide) dX8_loudBy_28 (fun c => ?_) (fun c => ?_)
    · have hr := (if_pos c).symm.trans hr
      refine j_iconst X (v := 0) (by decide) dX8_loudBy_35 ?_
      cases hr
      exact J.sub [0, 1, 2, 3] rfl hJ4
    · have hr := (if_neg c).symm.trans hr
      refine j_iconst X (v := 4) (by decide) dX8_loudBy_31 ?_
      refine j_goto X (tgt := 36) (by decide) dX8_loudBy_32 ?_
      cases hr
      exact J.sub [0, 1, 2, 3] rfl hJ4
  clear h
  refine j_if_ge X (tgt := 12) (by decide) dX8_loudBy_5 (fun c => ?_) (fun c => ?_)
  · have hr := (if_pos c).symm.trans hr
    refine j_iload_n X 1 rfl rfl dX8_loudBy_12 ?_
    refine j_iload_n X 2 rfl rfl dX8_loudBy_13 ?_
    refine j_iconst X (v := 4) (by decide) dX8_loudBy_14 ?_
    refine j_idiv X (by decide) dX8_loudBy_15 ?_
    refine j_isub X dX8_loudBy_16 ?_
    cases hr
    exact J.sub [0, 2] rfl hJ1
  · have hr := (if_neg c).symm.trans hr
    refine j_iconst X (v := 0) (by decide) dX8_loudBy_8 ?_
    refine j_goto X (tgt := 17) (by decide) dX8_loudBy_9 ?_
    cases hr
    exact J.sub [0, 2] rfl hJ1

abbrev rm_X8_youngBy : Room := { frames := 0, cells := 0, slots := 0, locals := 0 }
set_option maxHeartbeats 4000000 in
set_option maxRecDepth 100000 in
theorem c_X8_youngBy (l : Launch) (E : Ev) (ad : Nat → Nat)   {a0 : Int32} {a1 : Int32} {σ : Sg} {r : Int32} (h : m_X8_youngBy a0 a1 σ = some r) : Met l yX8_youngBy (wY yX8_youngBy cX8_youngBy 2 (some .int)) rm_X8_youngBy (va_Pc [.int a0, .int a1] (PreU E ad RF 85 σ)) (QcN E ad (some (.int r), σ)) 0 0 (EA E) := by
  refine met_of (L0 := [(0, .int a0), (1, .int a1)]) rfl (Nat.le_of_ble_eq_true rfl) rfl (fun Γ X Y => ?_)
  have X : XC Γ E rm_X8_youngBy cX8_youngBy 2 RX8 := X
  unfold m_X8_youngBy at h
  refine j_iload_n X 0 rfl rfl dX8_youngBy_0 ?_
  refine j_iload_n X 1 rfl rfl dX8_youngBy_1 ?_
  refine j_iconst X (v := 4) (by decide) dX8_youngBy_2 ?_
  refine j_idiv X (by decide) dX8_youngBy_3 ?_
  refine j_isub X dX8_youngBy_4 ?_
  refine j_iload_n X 0 rfl rfl dX8_youngBy_5 ?_
  refine j_iconst X (v := 1) (by decide) dX8_youngBy_6 ?_
  refine bd1_elim h (fun o2 hr h => ?_)
  have hJ1 : J Γ E 2 ad RF 85 σ 0 0 15 [] [.int o2, .int (a0 - (a1 / (4 : Int32)))] := by
    refine j_iadd X dX8_youngBy_15 ?_
    exact j_iret X Y rfl (ret_pi h) dX8_youngBy_16
  clear h
  refine j_icmp_lt X (tgt := 14) (by decide) dX8_youngBy_7 (fun c => ?_) (fun c => ?_)
  · have hr := (if_pos c).symm.trans hr
    refine j_iconst X (v := 0) (by decide) dX8_youngBy_14 ?_
    cases hr
    exact J.sub [] rfl hJ1
  · have hr := (if_neg c).symm.trans hr
    refine j_iconst X (v := 2) (by decide) dX8_youngBy_10 ?_
    refine j_goto X (tgt := 15) (by decide) dX8_youngBy_11 ?_
    cases hr
    exact J.sub [] rfl hJ1

abbrev rm_X8_hearsBy : Room := { frames := 1, cells := 0, slots := 0, locals := 21 }
set_option maxHeartbeats 4000000 in
set_option maxRecDepth 100000 in
theorem c_X8_hearsBy (l : Launch) (E : Ev) (ad : Nat → Nat)   {a0 : Int32} {a1 : Int32} {a2 : Int32} {σ : Sg} {r : Int32} (h : m_X8_hearsBy a0 a1 a2 σ = some r) : Met l yX8_hearsBy (wY yX8_hearsBy cX8_hearsBy 5 (some .boolean)) rm_X8_hearsBy (va_Pc [.int a0, .int a1, .int a2] (PreU E ad RF 85 σ)) (QcN E ad (some (.int r), σ)) 0 0 (EA E) := by
  refine met_of (L0 := [(0, .int a0), (1, .int a1), (2, .int a2)]) rfl (Nat.le_of_ble_eq_true rfl) rfl (fun Γ X Y => ?_)
  have X : XC Γ E rm_X8_hearsBy cX8_hearsBy 5 RX8 := X
  unfold m_X8_hearsBy at h
  refine j_iload_n X 1 rfl rfl dX8_hearsBy_0 ?_
  refine j_iload_n X 2 rfl rfl dX8_hearsBy_1 ?_
  refine j_iconst X (v := 4) (by decide) dX8_hearsBy_2 ?_
  refine j_idiv X (by decide) dX8_hearsBy_3 ?_
  refine j_isub X dX8_hearsBy_4 ?_
  refine nm_elim h (fun x1 ex1 h => ?_)
  refine j_istore_n X (L' := [(3, .int x1), (0, .int a0), (1, .int a1), (2, .int a2)]) ex1 rfl (by decide) rfl dX8_hearsBy_5 ?_
  refine j_iload_n X 2 rfl rfl dX8_hearsBy_6 ?_
  refine j_iload_n X 3 rfl rfl dX8_hearsBy_7 ?_
  refine bd1_elim h (fun r2 hc3 h => ?_)
  refine j_callSi X (As := [.int a1, .int a2]) (rest := []) mf_X8_youngBy bw_986 bw_987 ⟨rfl, rfl⟩ ⟨Nat.le_of_ble_eq_true rfl, Nat.le_of_ble_eq_true rfl⟩ (c_X8_youngBy Γ.2.1 E ad  hc3) rfl rfl (Nat.le_of_ble_eq_true rfl) dX8_hearsBy_8 ?_
  refine j_istore X (L' := [(4, .int r2), (3, .int x1), (0, .int a0), (1, .int a1), (2, .int a2)]) rfl (by decide) rfl dX8_hearsBy_11 ?_
  refine j_iload_n X 2 rfl rfl dX8_hearsBy_13 ?_
  by_cases c0 : a0 = 0
  · have h := (if_pos c0).symm.trans h
    refine j_tableIn X (tgt := 48) (by rw [c0]; decide) (by rw [c0]; decide) (by rw [c0]; rfl) (by decide) dX8_hearsBy_14 ?_
    refine j_iload_n X 1 rfl rfl dX8_hearsBy_48 ?_
    refine j_iconst X (v := 1) (by decide) dX8_hearsBy_49 ?_
    refine j_icmp_lt X (tgt := 57) (by decide) dX8_hearsBy_50 (fun c => ?_) (fun c => ?_)
    · have h := (if_pos c).symm.trans h
      refine j_iconst X (v := 0) (by decide) dX8_hearsBy_57 ?_
      exact j_iret X Y rfl (ret_pi h) dX8_hearsBy_58
    · have h := (if_neg c).symm.trans h
      refine j_iconst X (v := 1) (by decide) dX8_hearsBy_53 ?_
      refine j_goto X (tgt := 58) (by decide) dX8_hearsBy_54 ?_
      exact j_iret X Y rfl (ret_pi h) dX8_hearsBy_58
  · have h := (if_neg c0).symm.trans h
    by_cases c1 : a0 = 1
    · have h := (if_pos c1).symm.trans h
      refine j_tableIn X (tgt := 59) (by rw [c1]; decide) (by rw [c1]; decide) (by rw [c1]; rfl) (by decide) dX8_hearsBy_14 ?_
      refine j_iload_n X 1 rfl rfl dX8_hearsBy_59 ?_
      refine j_iconst X (v := 3) (by decide) dX8_hearsBy_60 ?_
      refine j_isub X dX8_hearsBy_61 ?_
      refine j_iconst X (v := 1) (by decide) dX8_hearsBy_62 ?_
      refine j_icmp_lt X (tgt := 70) (by decide) dX8_hearsBy_63 (fun c => ?_) (fun c => ?_)
      · have h := (if_pos c).symm.trans h
        refine j_iconst X (v := 0) (by decide) dX8_hearsBy_70 ?_
        exact j_iret X Y rfl (ret_pi h) dX8_hearsBy_71
      · have h := (if_neg c).symm.trans h
        refine j_iconst X (v := 1) (by decide) dX8_hearsBy_66 ?_
        refine j_goto X (tgt := 71) (by decide) dX8_hearsBy_67 ?_
        exact j_iret X Y rfl (ret_pi h) dX8_hearsBy_71
    · have h := (if_neg c1).symm.trans h
      by_cases c2 : a0 = 2
      · have h := (if_pos c2).symm.trans h
        refine j_tableIn X (tgt := 72) (by rw [c2]; decide) (by rw [c2]; decide) (by rw [c2]; rfl) (by decide) dX8_hearsBy_14 ?_
        refine j_iload X 0 rfl dX8_hearsBy_72 ?_
        refine j_iconst X (v := 1) (by decide) dX8_hearsBy_74 ?_
        refine j_icmp_lt X (tgt := 82) (by decide) dX8_hearsBy_75 (fun c => ?_) (fun c => ?_)
        · have h := (if_pos c).symm.trans h
          refine j_iconst X (v := 0) (by decide) dX8_hearsBy_82 ?_
          exact j_iret X Y rfl (ret_pi h) dX8_hearsBy_83
        · have h := (if_neg c).symm.trans h
          refine j_iconst X (v := 1) (by decide) dX8_hearsBy_78 ?_
          refine j_goto X (tgt := 83) (by decide) dX8_hearsBy_79 ?_
          exact j_iret X Y rfl (ret_pi h) dX8_hearsBy_83
      · have h := (if_neg c2).symm.trans h
        by_cases c3 : a0 = 3
        · have h := (if_pos c3).symm.trans h
          refine j_tableIn X (tgt := 84) (by rw [c3]; decide) (by rw [c3]; decide) (by rw [c3]; rfl) (by decide) dX8_hearsBy_14 ?_
          refine j_iload_n X 1 rfl rfl dX8_hearsBy_84 ?_
          refine j_iconst X (v := 3) (by decide) dX8_hearsBy_85 ?_
          refine j_isub X dX8_hearsBy_86 ?_
          refine j_iload_n X 4 rfl rfl dX8_hearsBy_87 ?_
          refine j_bipush X (v := 12) (by decide) dX8_hearsBy_88 ?_
          refine bd1_elim h (fun o5 hr h => ?_)
          have hJ4 : J Γ E 5 ad RF 85 σ 0 0 98 [] [.int o5, .int (x1 - (3 : Int32))] := by
            refine j_iadd X dX8_hearsBy_98 ?_
            refine j_iconst X (v := 1) (by decide) dX8_hearsBy_99 ?_
            refine j_icmp_lt X (tgt := 107) (by decide) dX8_hearsBy_100 (fun c => ?_) (fun c => ?_)
            · have h := (if_pos c).symm.trans h
              refine j_iconst X (v := 0) (by decide) dX8_hearsBy_107 ?_
              exact j_iret X Y rfl (ret_pi h) dX8_hearsBy_108
            · have h := (if_neg c).symm.trans h
              refine j_iconst X (v := 1) (by decide) dX8_hearsBy_103 ?_
              refine j_goto X (tgt := 108) (by decide) dX8_hearsBy_104 ?_
              exact j_iret X Y rfl (ret_pi h) dX8_hearsBy_108
          clear h
          refine j_icmp_le X (tgt := 97) (by decide) dX8_hearsBy_90 (fun c => ?_) (fun c => ?_)
          · have hr := (if_pos c).symm.trans hr
            refine j_iconst X (v := 0) (by decide) dX8_hearsBy_97 ?_
            cases hr
            exact J.sub [] rfl hJ4
          · have hr := (if_neg c).symm.trans hr
            refine j_iconst X (v := 2) (by decide) dX8_hearsBy_93 ?_
            refine j_goto X (tgt := 98) (by decide) dX8_hearsBy_94 ?_
            cases hr
            exact J.sub [] rfl hJ4
        · have h := (if_neg c3).symm.trans h
          by_cases c4 : a0 = 4
          · have h := (if_pos c4).symm.trans h
            refine j_tableIn X (tgt := 109) (by rw [c4]; decide) (by rw [c4]; decide) (by rw [c4]; rfl) (by decide) dX8_hearsBy_14 ?_
            refine j_iload X 0 rfl dX8_hearsBy_109 ?_
            refine j_iconst X (v := 4) (by decide) dX8_hearsBy_111 ?_
            refine bd1_elim h (fun o7 hr h => ?_)
            have hJ6 : J Γ E 5 ad RF 85 σ 0 0 121 [] [.int o7] := by
              refine j_iconst X (v := 1) (by decide) dX8_hearsBy_121 ?_
              refine j_icmp_lt X (tgt := 129) (by decide) dX8_hearsBy_122 (fun c => ?_) (fun c => ?_)
              · have h := (if_pos c).symm.trans h
                refine j_iconst X (v := 0) (by decide) dX8_hearsBy_129 ?_
                exact j_iret X Y rfl (ret_pi h) dX8_hearsBy_130
              · have h := (if_neg c).symm.trans h
                refine j_iconst X (v := 1) (by decide) dX8_hearsBy_125 ?_
                refine j_goto X (tgt := 130) (by decide) dX8_hearsBy_126 ?_
                exact j_iret X Y rfl (ret_pi h) dX8_hearsBy_130
            clear h
            refine j_icmp_le X (tgt := 119) (by decide) dX8_hearsBy_112 (fun c => ?_) (fun c => ?_)
            · have hr := (if_pos c).symm.trans hr
              refine j_iload X 0 rfl dX8_hearsBy_119 ?_
              cases hr
              exact J.sub [] rfl hJ6
            · have hr := (if_neg c).symm.trans hr
              refine j_iconst X (v := 4) (by decide) dX8_hearsBy_115 ?_
              refine j_goto X (tgt := 121) (by decide) dX8_hearsBy_116 ?_
              cases hr
              exact J.sub [] rfl hJ6
          · have h := (if_neg c4).symm.trans h
            refine j_tableOut X (tgt := 131) (sw_out (x := a0) (lo := 0) (hi := 4) (fun z h1 h2 => by rcases (by omega : z = 0 ∨ z = 1 ∨ z = 2 ∨ z = 3 ∨ z = 4) with rfl | rfl | rfl | rfl | rfl <;> first | exact c0 | exact c1 | exact c2 | exact c3 | exact c4)) (by decide) dX8_hearsBy_14 ?_
            refine j_iload_n X 3 rfl rfl dX8_hearsBy_131 ?_
            refine j_iload_n X 4 rfl rfl dX8_hearsBy_132 ?_
            refine j_iconst X (v := 2) (by decide) dX8_hearsBy_133 ?_
            refine j_idiv X (by decide) dX8_hearsBy_134 ?_
            refine bd1_elim h (fun r8 hc9 h => ?_)
            refine j_callSi X (As := [.int a1, .int (a2 / (2 : Int32))]) (rest := []) mf_X8_youngBy bw_986 bw_987 ⟨rfl, rfl⟩ ⟨Nat.le_of_ble_eq_true rfl, Nat.le_of_ble_eq_true rfl⟩ (c_X8_youngBy Γ.2.1 E ad  hc9) rfl rfl (Nat.le_of_ble_eq_true rfl) dX8_hearsBy_135 ?_
            refine j_iconst X (v := 1) (by decide) dX8_hearsBy_138 ?_
            refine j_icmp_lt X (tgt := 146) (by decide) dX8_hearsBy_139 (fun c => ?_) (fun c => ?_)
            · have h := (if_pos c).symm.trans h
              refine j_iconst X (v := 0) (by decide) dX8_hearsBy_146 ?_
              exact j_iret X Y rfl (ret_pi h) dX8_hearsBy_147
            · have h := (if_neg c).symm.trans h
              refine j_iconst X (v := 1) (by decide) dX8_hearsBy_142 ?_
              refine j_goto X (tgt := 147) (by decide) dX8_hearsBy_143 ?_
              exact j_iret X Y rfl (ret_pi h) dX8_hearsBy_147

abbrev rm_X8_minuteOf : Room := { frames := 0, cells := 0, slots := 0, locals := 0 }
set_option maxHeartbeats 4000000 in
set_option maxRecDepth 100000 in
theorem c_X8_minuteOf (l : Launch) (E : Ev) (ad : Nat → Nat)   {a1 : Int32} {σ : Sg} {r : Int32} (h : m_X8_minuteOf a1 σ = some r) : Met l yX8_minuteOf (wY yX8_minuteOf cX8_minuteOf 3 (some .int)) rm_X8_minuteOf (va_Pc [.ref (ad 68), .int a1] (PreU E ad RF 85 σ)) (QcN E ad (some (.int r), σ)) 0 0 (EA E) := by
  refine met_of (L0 := [(0, .ref (ad 68)), (1, .int a1)]) rfl (Nat.le_of_ble_eq_true rfl) rfl (fun Γ X Y => ?_)
  have X : XC Γ E rm_X8_minuteOf cX8_minuteOf 3 RX8 := X
  unfold m_X8_minuteOf at h
  refine j_aload_n X 0 rfl rfl dX8_minuteOf_0 ?_
  refine j_getr X cf6 pk_68 pl_68 7 rfl ⟨rfl, rfl⟩ 74 rfl bw_761 dX8_minuteOf_1 ?_
  refine j_iconst X (v := 0) (by decide) dX8_minuteOf_4 ?_
  refine gd_elim h (fun g h => ?_)
  refine j_iald X pk_74 pl_74 g dX8_minuteOf_5 ?_
  refine j_aload_n X 0 rfl rfl dX8_minuteOf_6 ?_
  refine j_getr X cf6 pk_68 pl_68 7 rfl ⟨rfl, rfl⟩ 74 rfl bw_761 dX8_minuteOf_7 ?_
  refine j_iconst X (v := 1) (by decide) dX8_minuteOf_10 ?_
  refine j_iload_n X 1 rfl rfl dX8_minuteOf_11 ?_
  refine j_iadd X dX8_minuteOf_12 ?_
  refine gd_elim h (fun g h => ?_)
  refine j_iald X pk_74 pl_74 g dX8_minuteOf_13 ?_
  refine j_isub X dX8_minuteOf_14 ?_
  refine nm_elim h (fun x1 ex1 h => ?_)
  refine j_istore_n X (L' := [(2, .int x1), (0, .ref (ad 68)), (1, .int a1)]) ex1 rfl (by decide) rfl dX8_minuteOf_15 ?_
  refine j_aload_n X 1 rfl rfl dX8_minuteOf_16 ?_
  refine j_getr X cf6 pk_68 pl_68 7 rfl ⟨rfl, rfl⟩ 74 rfl bw_761 dX8_minuteOf_17 ?_
  refine j_iconst X (v := 1) (by decide) dX8_minuteOf_20 ?_
  refine j_iload_n X 2 rfl rfl dX8_minuteOf_21 ?_
  refine j_iadd X dX8_minuteOf_22 ?_
  refine gd_elim h (fun g h => ?_)
  refine j_iald X pk_74 pl_74 g dX8_minuteOf_23 ?_
  refine j_if_lt X (tgt := 37) (by decide) dX8_minuteOf_24 (fun c => ?_) (fun c => ?_)
  · have h := (if_pos c).symm.trans h
    refine j_iconst X (v := -1) (by decide) dX8_minuteOf_37 ?_
    exact j_iret X Y rfl (ret_pi h) dX8_minuteOf_38
  · have h := (if_neg c).symm.trans h
    refine j_iload_n X 0 rfl rfl dX8_minuteOf_27 ?_
    refine j_bipush X (v := 30) (by decide) dX8_minuteOf_28 ?_
    refine j_icmp_ge X (tgt := 37) (by decide) dX8_minuteOf_30 (fun c => ?_) (fun c => ?_)
    · have h := (if_pos c).symm.trans h
      refine j_iconst X (v := -1) (by decide) dX8_minuteOf_37 ?_
      exact j_iret X Y rfl (ret_pi h) dX8_minuteOf_38
    · have h := (if_neg c).symm.trans h
      refine j_iload_n X 0 rfl rfl dX8_minuteOf_33 ?_
      refine j_goto X (tgt := 38) (by decide) dX8_minuteOf_34 ?_
      exact j_iret X Y rfl (ret_pi h) dX8_minuteOf_38

abbrev rm_X8_loudIn : Room := { frames := 1, cells := 0, slots := 0, locals := 25 }
set_option maxHeartbeats 4000000 in
set_option maxRecDepth 100000 in
theorem c_X8_loudIn (l : Launch) (E : Ev) (ad : Nat → Nat)   {a1 : Int32} {a2 : Int32} {σ : Sg} {r : Int32} (h : m_X8_loudIn a1 a2 σ = some r) : Met l yX8_loudIn (wY yX8_loudIn cX8_loudIn 3 (some .int)) rm_X8_loudIn (va_Pc [.ref (ad 68), .int a1, .int a2] (PreU E ad RF 85 σ)) (QcN E ad (some (.int r), σ)) 0 0 (EA E) := by
  refine met_of (L0 := [(0, .ref (ad 68)), (1, .int a1), (2, .int a2)]) rfl (Nat.le_of_ble_eq_true rfl) rfl (fun Γ X Y => ?_)
  have X : XC Γ E rm_X8_loudIn cX8_loudIn 3 RX8 := X
  unfold m_X8_loudIn at h
  refine j_aload_n X 0 rfl rfl dX8_loudIn_0 ?_
  refine j_getr X cf6 pk_68 pl_68 2 rfl ⟨rfl, rfl⟩ 70 rfl bw_756 dX8_loudIn_1 ?_
  refine j_iload_n X 1 rfl rfl dX8_loudIn_4 ?_
  refine gd_elim h (fun g h => ?_)
  refine j_iald X pk_70 pl_70 g dX8_loudIn_5 ?_
  refine j_aload_n X 0 rfl rfl dX8_loudIn_6 ?_
  refine j_getr X cf6 pk_68 pl_68 4 rfl ⟨rfl, rfl⟩ 72 rfl bw_758 dX8_loudIn_7 ?_
  refine j_iload_n X 1 rfl rfl dX8_loudIn_10 ?_
  refine gd_elim h (fun g h => ?_)
  refine j_iald X pk_72 pl_72 g dX8_loudIn_11 ?_
  refine j_iload_n X 2 rfl rfl dX8_loudIn_12 ?_
  refine bd1_elim h (fun r1 hc2 h => ?_)
  refine j_callSi X (As := [.int (σ.1 70 a1.toNatClampNeg), .int (σ.1 72 a1.toNatClampNeg), .int a2]) (rest := []) mf_X8_loudBy bw_980 bw_981 ⟨rfl, rfl⟩ ⟨Nat.le_of_ble_eq_true rfl, Nat.le_of_ble_eq_true rfl⟩ (c_X8_loudBy Γ.2.1 E ad  hc2) rfl rfl (Nat.le_of_ble_eq_true rfl) dX8_loudIn_13 ?_
  exact j_iret X Y rfl (ret_pi h) dX8_loudIn_16

abbrev rm_X8_together : Room := { frames := 2, cells := 0, slots := 0, locals := 47 }
set_option maxHeartbeats 4000000 in
set_option maxRecDepth 100000 in
theorem jl_X8_together_L6 {Γ : Cx} {E : Ev} {ad : Nat → Nat} (X : XC Γ E rm_X8_together cX8_together 6 RX8)   {c1 : Int32} {c2 : Int32} {c3 : Int32} {σ : Sg} {kx : Unit → Option (Int32)} {r : Int32} (Y : XQ Γ E ad (some .int) (some (.int r), σ))  : ∀ n (v5 : Int32) (v4 : Int32), m_X8_together_L6 c1 c2 c3 σ kx n v5 v4 = some r → J Γ E 6 ad RF 85 σ 0 0 6 [(5, .int v5), (4, .int v4), (0, .ref (ad 68)), (1, .int c1), (2, .int c2), (3, .int c3)] [] := by
  intro n
  induction n with
  | zero =>
    intro v5 v4 h
    cases h
  | succ n ih =>
    intro v5 v4 h
    rw [m_X8_together_L6.eq_2] at h
    refine j_iload X 0 rfl dX8_together_6 ?_
    refine j_aload_n X 2 rfl rfl dX8_together_8 ?_
    refine j_geti X cf6 pk_68 pl_68 1 rfl ⟨rfl, rfl⟩ bw_755 dX8_together_9 ?_
    refine j_icmp_ge X (tgt := 62) (by decide) dX8_together_12 (fun c => ?_) (fun c => ?_)
    · have h := (if_pos c).symm.trans h
      refine j_iload X 1 rfl dX8_together_62 ?_
      exact j_iret X Y rfl (ret_pi h) dX8_together_64
    · have h := (if_neg c).symm.trans h
      refine j_iload X 1 rfl dX8_together_15 ?_
      refine j_iload_n X 5 rfl rfl dX8_together_17 ?_
      refine bd1_elim h (fun o4 hr h => ?_)
      have hJ3 : J Γ E 6 ad RF 85 σ 0 0 53 [(5, .int v5), (0, .ref (ad 68)), (1, .int c1), (2, .int c2), (3, .int c3)] [.int o4, .int v4] := by
        refine j_iadd X dX8_together_53 ?_
        refine nm_elim h (fun x5 ex5 h => ?_)
        refine j_istore X (L' := [(4, .int x5), (5, .int v5), (0, .ref (ad 68)), (1, .int c1), (2, .int c2), (3, .int c3)]) ex5 (by decide) rfl dX8_together_54 ?_
        refine nm_elim h (fun x6 ex6 h => ?_)
        refine j_iinc1 X (L' := [(5, .int x6), (4, .int x5), (0, .ref (ad 68)), (1, .int c1), (2, .int c2), (3, .int c3)]) 1 rfl (q := 1) (by decide) ex6 (by decide) rfl dX8_together_56 ?_
        refine j_goto X (tgt := 6) (by decide) dX8_together_59 ?_
        exact J.sub [0, 1, 2, 3, 4, 5] rfl (ih x6 x5 h)
      clear h
      refine j_if_lt X (tgt := 52) (by decide) dX8_together_18 (fun c => ?_) (fun c => ?_)
      · have hr := (if_pos c).symm.trans hr
        refine j_iconst X (v := 0) (by decide) dX8_together_52 ?_
        cases hr
        exact J.sub [0, 2, 3, 4, 5] rfl hJ3
      · have hr := (if_neg c).symm.trans hr
        refine j_aload_n X 2 rfl rfl dX8_together_21 ?_
        refine j_getr X cf6 pk_68 pl_68 3 rfl ⟨rfl, rfl⟩ 71 rfl bw_757 dX8_together_22 ?_
        refine j_iload X 0 rfl dX8_together_25 ?_
        refine gd_elim hr (fun g hr => ?_)
        refine j_iald X pk_71 pl_71 g dX8_together_27 ?_
        refine j_iload_n X 4 rfl rfl dX8_together_28 ?_
        refine j_icmp_ne X (tgt := 52) (by decide) dX8_together_29 (fun c => ?_) (fun c => ?_)
        · have hr := (if_neg c).symm.trans hr
          refine j_iconst X (v := 0) (by decide) dX8_together_52 ?_
          cases hr
          exact J.sub [0, 2, 3, 4, 5] rfl hJ3
        · have hr := (if_pos c).symm.trans hr
          refine j_iload_n X 3 rfl rfl dX8_together_32 ?_
          refine j_iload X 0 rfl dX8_together_33 ?_
          refine j_ishr X dX8_together_35 ?_
          refine j_iconst X (v := 1) (by decide) dX8_together_36 ?_
          refine j_iand X dX8_together_37 ?_
          refine j_iconst X (v := 1) (by decide) dX8_together_38 ?_
          refine j_icmp_ne X (tgt := 52) (by decide) dX8_together_39 (fun c => ?_) (fun c => ?_)
          · have hr := (if_neg c).symm.trans hr
            refine j_iconst X (v := 0) (by decide) dX8_together_52 ?_
            cases hr
            exact J.sub [0, 2, 3, 4, 5] rfl hJ3
          · have hr := (if_pos c).symm.trans hr
            refine j_aload_n X 2 rfl rfl dX8_together_42 ?_
            refine j_iload X 0 rfl dX8_together_43 ?_
            refine j_iload_n X 5 rfl rfl dX8_together_45 ?_
            refine bd1_elim hr (fun r7 hc8 hr => ?_)
            refine j_callVi X (As := [.int v5, .int c3]) (rest := [.int v4]) mf_X8_loudIn bw_976 bw_978 bs_40 ⟨rfl, rfl⟩ ⟨Nat.le_of_ble_eq_true rfl, Nat.le_of_ble_eq_true rfl⟩ cf6 pk_68 pl_68 (c_X8_loudIn Γ.2.1 E ad  hc8) rfl rfl (Nat.le_of_ble_eq_true rfl) dX8_together_46 ?_
            refine j_goto X (tgt := 53) (by decide) dX8_together_49 ?_
            cases hr
            exact J.sub [0, 2, 3, 4, 5] rfl hJ3
set_option maxHeartbeats 4000000 in
set_option maxRecDepth 100000 in
theorem c_X8_together (l : Launch) (E : Ev) (ad : Nat → Nat)   {a1 : Int32} {a2 : Int32} {a3 : Int32} {σ : Sg} {r : Int32} (h : m_X8_together a1 a2 a3 σ = some r) : Met l yX8_together (wY yX8_together cX8_together 6 (some .int)) rm_X8_together (va_Pc [.ref (ad 68), .int a1, .int a2, .int a3] (PreU E ad RF 85 σ)) (QcN E ad (some (.int r), σ)) 0 0 (EA E) := by
  refine met_of (L0 := [(0, .ref (ad 68)), (1, .int a1), (2, .int a2), (3, .int a3)]) rfl (Nat.le_of_ble_eq_true rfl) rfl (fun Γ X Y => ?_)
  have X : XC Γ E rm_X8_together cX8_together 6 RX8 := X
  unfold m_X8_together at h
  refine j_iconst X (v := 0) (by decide) dX8_together_0 ?_
  refine nm_elim h (fun x1 ex1 h => ?_)
  refine j_istore X (L' := [(4, .int x1), (0, .ref (ad 68)), (1, .int a1), (2, .int a2), (3, .int a3)]) ex1 (by decide) rfl dX8_together_1 ?_
  refine j_iconst X (v := 0) (by decide) dX8_together_3 ?_
  refine nm_elim h (fun x2 ex2 h => ?_)
  refine j_istore X (L' := [(5, .int x2), (4, .int x1), (0, .ref (ad 68)), (1, .int a1), (2, .int a2), (3, .int a3)]) ex2 (by decide) rfl dX8_together_4 ?_
  refine J.sub [0, 1, 2, 3, 4, 5] rfl ?_
  exact jl_X8_together_L6 X  Y 1000 x2 x1 h

abbrev rm_X8_heardOf : Room := { frames := 3, cells := 0, slots := 0, locals := 72 }
set_option maxHeartbeats 4000000 in
set_option maxRecDepth 100000 in
theorem jl_X8_heardOf_L16 {Γ : Cx} {E : Ev} {ad : Nat → Nat} (X : XC Γ E rm_X8_heardOf cX8_heardOf 9 RX8)   {c5 : Int32} {c1 : Int32} {c2 : Int32} {c3 : Int32} {c4 : Int32} {σ : Sg} {kx : Unit → Option (Int32)} {r : Int32} (Y : XQ Γ E ad (some .int) (some (.int r), σ))  : ∀ n (v7 : Int32) (v6 : Int32), m_X8_heardOf_L16 c5 c1 c2 c3 c4 σ kx n v7 v6 = some r → J Γ E 9 ad RF 85 σ 0 0 16 [(7, .int v7), (6, .int v6), (5, .int c5), (0, .ref (ad 68)), (1, .int c1), (2, .int c2), (3, .int c3), (4, .int c4)] [] := by
  intro n
  induction n with
  | zero =>
    intro v7 v6 h
    cases h
  | succ n ih =>
    intro v7 v6 h
    rw [m_X8_heardOf_L16.eq_2] at h
    refine j_iload X 0 rfl dX8_heardOf_16 ?_
    refine j_aload_n X 3 rfl rfl dX8_heardOf_18 ?_
    refine j_geti X cf6 pk_68 pl_68 1 rfl ⟨rfl, rfl⟩ bw_755 dX8_heardOf_19 ?_
    refine j_icmp_ge X (tgt := 94) (by decide) dX8_heardOf_22 (fun c => ?_) (fun c => ?_)
    · have h := (if_pos c).symm.trans h
      refine j_iload X 1 rfl dX8_heardOf_94 ?_
      exact j_iret X Y rfl (ret_pi h) dX8_heardOf_96
    · have h := (if_neg c).symm.trans h
      refine j_iload X 7 rfl dX8_heardOf_25 ?_
      refine bd1_elim h (fun o6 hr h => ?_)
      have hJ5 : J Γ E 9 ad RF 85 σ 0 0 88 [(7, .int v7), (5, .int c5), (0, .ref (ad 68)), (1, .int c1), (2, .int c2), (3, .int c3), (4, .int c4), (6, .int o6)] [] := by
        refine nm_elim h (fun x7 ex7 h => ?_)
        refine j_iinc1 X (L' := [(7, .int x7), (5, .int c5), (0, .ref (ad 68)), (1, .int c1), (2, .int c2), (3, .int c3), (4, .int c4), (6, .int o6)]) 0 rfl (q := 1) (by decide) ex7 (by decide) rfl dX8_heardOf_88 ?_
        refine j_goto X (tgt := 16) (by decide) dX8_heardOf_91 ?_
        exact J.sub [0, 7, 1, 2, 3, 4, 5, 6] rfl (ih x7 o6 h)
      clear h
      refine j_if_lt X (tgt := 88) (by decide) dX8_heardOf_27 (fun c => ?_) (fun c => ?_)
      · have hr := (if_pos c).symm.trans hr
        cases hr
        exact J.sub [0, 2, 3, 4, 5, 6, 7, 1] rfl hJ5
      · have hr := (if_neg c).symm.trans hr
        refine j_aload_n X 3 rfl rfl dX8_heardOf_30 ?_
        refine j_getr X cf6 pk_68 pl_68 3 rfl ⟨rfl, rfl⟩ 71 rfl bw_757 dX8_heardOf_31 ?_
        refine j_iload X 0 rfl dX8_heardOf_34 ?_
        refine gd_elim hr (fun g hr => ?_)
        refine j_iald X pk_71 pl_71 g dX8_heardOf_36 ?_
        refine j_iload_n X 6 rfl rfl dX8_heardOf_37 ?_
        refine j_icmp_ne X (tgt := 88) (by decide) dX8_heardOf_38 (fun c => ?_) (fun c => ?_)
        · have hr := (if_neg c).symm.trans hr
          cases hr
          exact J.sub [0, 2, 3, 4, 5, 6, 7, 1] rfl hJ5
        · have hr := (if_pos c).symm.trans hr
          refine j_iload_n X 5 rfl rfl dX8_heardOf_41 ?_
          refine j_iload X 0 rfl dX8_heardOf_42 ?_
          refine j_ishr X dX8_heardOf_44 ?_
          refine j_iconst X (v := 1) (by decide) dX8_heardOf_45 ?_
          refine j_iand X dX8_heardOf_46 ?_
          refine j_iconst X (v := 1) (by decide) dX8_heardOf_47 ?_
          refine j_icmp_ne X (tgt := 88) (by decide) dX8_heardOf_48 (fun c => ?_) (fun c => ?_)
          · have hr := (if_neg c).symm.trans hr
            cases hr
            exact J.sub [0, 2, 3, 4, 5, 6, 7, 1] rfl hJ5
          · have hr := (if_pos c).symm.trans hr
            refine j_aload_n X 3 rfl rfl dX8_heardOf_51 ?_
            refine j_iload X 0 rfl dX8_heardOf_52 ?_
            refine j_iload X 7 rfl dX8_heardOf_54 ?_
            refine bd1_elim hr (fun r8 hc9 hr => ?_)
            refine j_callVi X (As := [.int v7, .int c4]) (rest := []) mf_X8_loudIn bw_976 bw_978 bs_40 ⟨rfl, rfl⟩ ⟨Nat.le_of_ble_eq_true rfl, Nat.le_of_ble_eq_true rfl⟩ cf6 pk_68 pl_68 (c_X8_loudIn Γ.2.1 E ad  hc9) rfl rfl (Nat.le_of_ble_eq_true rfl) dX8_heardOf_56 ?_
            refine j_istore X (L' := [(8, .int r8), (7, .int v7), (6, .int v6), (5, .int c5), (0, .ref (ad 68)), (1, .int c1), (2, .int c2), (3, .int c3), (4, .int c4)]) rfl (by decide) rfl dX8_heardOf_59 ?_
            refine j_iload X 2 rfl dX8_heardOf_61 ?_
            refine j_iload_n X 5 rfl rfl dX8_heardOf_63 ?_
            refine j_iload X 0 rfl dX8_heardOf_64 ?_
            refine j_iload X 3 rfl dX8_heardOf_66 ?_
            refine j_iload X 0 rfl dX8_heardOf_68 ?_
            refine j_isub X dX8_heardOf_70 ?_
            refine bd1_elim hr (fun r10 hc11 hr => ?_)
            refine j_callSi X (As := [.int c1, .int r8, .int (c5 - r8)]) (rest := [.int v6]) mf_X8_hearsBy bw_983 bw_984 ⟨rfl, rfl⟩ ⟨Nat.le_of_ble_eq_true rfl, Nat.le_of_ble_eq_true rfl⟩ (c_X8_hearsBy Γ.2.1 E ad  hc11) rfl rfl (Nat.le_of_ble_eq_true rfl) dX8_heardOf_71 ?_
            refine bd1_elim hr (fun o13 hr hr => ?_)
            have hJ12 : J Γ E 9 ad RF 85 σ 0 0 85 [(7, .int v7), (5, .int c5), (0, .ref (ad 68)), (1, .int c1), (2, .int c2), (3, .int c3), (4, .int c4)] [.int o13, .int v6] := by
              refine j_ior X dX8_heardOf_85 ?_
              refine nm_elim hr (fun x14 ex14 hr => ?_)
              refine j_istore X (L' := [(6, .int x14), (7, .int v7), (5, .int c5), (0, .ref (ad 68)), (1, .int c1), (2, .int c2), (3, .int c3), (4, .int c4)]) ex14 (by decide) rfl dX8_heardOf_86 ?_
              cases hr
              exact J.sub [1, 2, 3, 4, 5, 6, 7, 0] rfl hJ5
            clear hr
            refine j_if_eq X (tgt := 84) (by decide) dX8_heardOf_74 (fun c => ?_) (fun c => ?_)
            · have hr := (if_pos c).symm.trans hr
              refine j_iconst X (v := 0) (by decide) dX8_heardOf_84 ?_
              cases hr
              exact J.sub [1, 3, 4, 5, 6, 7, 8] rfl hJ12
            · have hr := (if_neg c).symm.trans hr
              refine j_iconst X (v := 1) (by decide) dX8_heardOf_77 ?_
              refine j_iload X 1 rfl dX8_heardOf_78 ?_
              refine j_ishl X dX8_heardOf_80 ?_
              refine j_goto X (tgt := 85) (by decide) dX8_heardOf_81 ?_
              cases hr
              exact J.sub [1, 3, 4, 5, 6, 7, 8] rfl hJ12
set_option maxHeartbeats 4000000 in
set_option maxRecDepth 100000 in
theorem c_X8_heardOf (l : Launch) (E : Ev) (ad : Nat → Nat)   {a1 : Int32} {a2 : Int32} {a3 : Int32} {a4 : Int32} {σ : Sg} {r : Int32} (h : m_X8_heardOf a1 a2 a3 a4 σ = some r) : Met l yX8_heardOf (wY yX8_heardOf cX8_heardOf 9 (some .int)) rm_X8_heardOf (va_Pc [.ref (ad 68), .int a1, .int a2, .int a3, .int a4] (PreU E ad RF 85 σ)) (QcN E ad (some (.int r), σ)) 0 0 (EA E) := by
  refine met_of (L0 := [(0, .ref (ad 68)), (1, .int a1), (2, .int a2), (3, .int a3), (4, .int a4)]) rfl (Nat.le_of_ble_eq_true rfl) rfl (fun Γ X Y => ?_)
  have X : XC Γ E rm_X8_heardOf cX8_heardOf 9 RX8 := X
  unfold m_X8_heardOf at h
  refine j_aload_n X 0 rfl rfl dX8_heardOf_0 ?_
  refine j_iload_n X 2 rfl rfl dX8_heardOf_1 ?_
  refine j_iload_n X 3 rfl rfl dX8_heardOf_2 ?_
  refine j_iload X 4 rfl dX8_heardOf_3 ?_
  refine bd1_elim h (fun r1 hc2 h => ?_)
  refine j_callVi X (As := [.int a2, .int a3, .int a4]) (rest := []) mf_X8_together bw_972 bw_974 bs_39 ⟨rfl, rfl⟩ ⟨Nat.le_of_ble_eq_true rfl, Nat.le_of_ble_eq_true rfl⟩ cf6 pk_68 pl_68 (c_X8_together Γ.2.1 E ad  hc2) rfl rfl (Nat.le_of_ble_eq_true rfl) dX8_heardOf_5 ?_
  refine j_istore X (L' := [(5, .int r1), (0, .ref (ad 68)), (1, .int a1), (2, .int a2), (3, .int a3), (4, .int a4)]) rfl (by decide) rfl dX8_heardOf_8 ?_
  refine j_iconst X (v := 0) (by decide) dX8_heardOf_10 ?_
  refine nm_elim h (fun x3 ex3 h => ?_)
  refine j_istore X (L' := [(6, .int x3), (5, .int r1), (0, .ref (ad 68)), (1, .int a1), (2, .int a2), (3, .int a3), (4, .int a4)]) ex3 (by decide) rfl dX8_heardOf_11 ?_
  refine j_iconst X (v := 0) (by decide) dX8_heardOf_13 ?_
  refine nm_elim h (fun x4 ex4 h => ?_)
  refine j_istore X (L' := [(7, .int x4), (6, .int x3), (5, .int r1), (0, .ref (ad 68)), (1, .int a1), (2, .int a2), (3, .int a3), (4, .int a4)]) ex4 (by decide) rfl dX8_heardOf_14 ?_
  refine J.sub [0, 1, 2, 3, 4, 5, 6, 7] rfl ?_
  exact jl_X8_heardOf_L16 X  Y 1000 x4 x3 h

abbrev rm_X8_heardIn : Room := { frames := 4, cells := 0, slots := 0, locals := 100 }
set_option maxHeartbeats 4000000 in
set_option maxRecDepth 100000 in
theorem c_X8_heardIn (l : Launch) (E : Ev) (ad : Nat → Nat)   {a1 : Int32} {a2 : Int32} {a3 : Int32} {σ : Sg} {r : Int32} (h : m_X8_heardIn a1 a2 a3 σ = some r) : Met l yX8_heardIn (wY yX8_heardIn cX8_heardIn 4 (some .int)) rm_X8_heardIn (va_Pc [.ref (ad 68), .int a1, .int a2, .int a3] (PreU E ad RF 85 σ)) (QcN E ad (some (.int r), σ)) 0 0 (EA E) := by
  refine met_of (L0 := [(0, .ref (ad 68)), (1, .int a1), (2, .int a2), (3, .int a3)]) rfl (Nat.le_of_ble_eq_true rfl) rfl (fun Γ X Y => ?_)
  have X : XC Γ E rm_X8_heardIn cX8_heardIn 4 RX8 := X
  unfold m_X8_heardIn at h
  refine j_aload_n X 0 rfl rfl dX8_heardIn_0 ?_
  refine j_aload_n X 0 rfl rfl dX8_heardIn_1 ?_
  refine j_getr X cf6 pk_68 pl_68 6 rfl ⟨rfl, rfl⟩ 73 rfl bw_760 dX8_heardIn_2 ?_
  refine j_iload_n X 1 rfl rfl dX8_heardIn_5 ?_
  refine gd_elim h (fun g h => ?_)
  refine j_iald X pk_73 pl_73 g dX8_heardIn_6 ?_
  refine j_sipush X (v := 255) (by decide) dX8_heardIn_7 ?_
  refine j_iload_n X 2 rfl rfl dX8_heardIn_10 ?_
  refine j_iload_n X 3 rfl rfl dX8_heardIn_11 ?_
  refine bd1_elim h (fun r1 hc2 h => ?_)
  refine j_callVi X (As := [.int (σ.1 73 a1.toNatClampNeg), .int (255 : Int32), .int a2, .int a3]) (rest := []) mf_X8_heardOf bw_968 bw_970 bs_38 ⟨rfl, rfl⟩ ⟨Nat.le_of_ble_eq_true rfl, Nat.le_of_ble_eq_true rfl⟩ cf6 pk_68 pl_68 (c_X8_heardOf Γ.2.1 E ad  hc2) rfl rfl (Nat.le_of_ble_eq_true rfl) dX8_heardIn_12 ?_
  exact j_iret X Y rfl (ret_pi h) dX8_heardIn_15

abbrev rm_X8_heardNow : Room := { frames := 5, cells := 0, slots := 0, locals := 123 }
set_option maxHeartbeats 4000000 in
set_option maxRecDepth 100000 in
theorem c_X8_heardNow (l : Launch) (E : Ev) (ad : Nat → Nat)   {a1 : Int32} {σ : Sg} {r : Int32} (h : m_X8_heardNow a1 σ = some r) : Met l yX8_heardNow (wY yX8_heardNow cX8_heardNow 2 (some .int)) rm_X8_heardNow (va_Pc [.ref (ad 68), .int a1] (PreU E ad RF 85 σ)) (QcN E ad (some (.int r), σ)) 0 0 (EA E) := by
  refine met_of (L0 := [(0, .ref (ad 68)), (1, .int a1)]) rfl (Nat.le_of_ble_eq_true rfl) rfl (fun Γ X Y => ?_)
  have X : XC Γ E rm_X8_heardNow cX8_heardNow 2 RX8 := X
  unfold m_X8_heardNow at h
  refine j_aload_n X 0 rfl rfl dX8_heardNow_0 ?_
  refine j_iload_n X 1 rfl rfl dX8_heardNow_1 ?_
  refine j_aload_n X 0 rfl rfl dX8_heardNow_2 ?_
  refine j_getr X cf6 pk_68 pl_68 7 rfl ⟨rfl, rfl⟩ 74 rfl bw_761 dX8_heardNow_3 ?_
  refine j_iconst X (v := 5) (by decide) dX8_heardNow_6 ?_
  refine j_iload_n X 1 rfl rfl dX8_heardNow_7 ?_
  refine j_iadd X dX8_heardNow_8 ?_
  refine gd_elim h (fun g h => ?_)
  refine j_iald X pk_74 pl_74 g dX8_heardNow_9 ?_
  refine j_aload_n X 0 rfl rfl dX8_heardNow_10 ?_
  refine j_aload_n X 0 rfl rfl dX8_heardNow_11 ?_
  refine j_getr X cf6 pk_68 pl_68 7 rfl ⟨rfl, rfl⟩ 74 rfl bw_761 dX8_heardNow_12 ?_
  refine j_iconst X (v := 5) (by decide) dX8_heardNow_15 ?_
  refine j_iload_n X 1 rfl rfl dX8_heardNow_16 ?_
  refine j_iadd X dX8_heardNow_17 ?_
  refine gd_elim h (fun g h => ?_)
  refine j_iald X pk_74 pl_74 g dX8_heardNow_18 ?_
  refine bd1_elim h (fun r1 hc2 h => ?_)
  refine j_callVi X (As := [.int (σ.1 74 ((5 : Int32) + a1).toNatClampNeg)]) (rest := [.int (σ.1 74 ((5 : Int32) + a1).toNatClampNeg), .int a1, .ref (ad 68)]) mf_X8_minuteOf bw_960 bw_962 bs_36 ⟨rfl, rfl⟩ ⟨Nat.le_of_ble_eq_true rfl, Nat.le_of_ble_eq_true rfl⟩ cf6 pk_68 pl_68 (c_X8_minuteOf Γ.2.1 E ad  hc2) rfl rfl (Nat.le_of_ble_eq_true rfl) dX8_heardNow_19 ?_
  refine bd1_elim h (fun r3 hc4 h => ?_)
  refine j_callVi X (As := [.int a1, .int (σ.1 74 ((5 : Int32) + a1).toNatClampNeg), .int r1]) (rest := []) mf_X8_heardIn bw_964 bw_966 bs_37 ⟨rfl, rfl⟩ ⟨Nat.le_of_ble_eq_true rfl, Nat.le_of_ble_eq_true rfl⟩ cf6 pk_68 pl_68 (c_X8_heardIn Γ.2.1 E ad  hc4) rfl rfl (Nat.le_of_ble_eq_true rfl) dX8_heardNow_22 ?_
  exact j_iret X Y rfl (ret_pi h) dX8_heardNow_25

abbrev rm_X8_many : Room := { frames := 0, cells := 0, slots := 0, locals := 0 }
set_option maxHeartbeats 4000000 in
set_option maxRecDepth 100000 in
theorem jl_X8_many_L4 {Γ : Cx} {E : Ev} {ad : Nat → Nat} (X : XC Γ E rm_X8_many cX8_many 3 RX8)    {σ : Sg} {kx : Unit → Option (Int32)} {r : Int32} (Y : XQ Γ E ad (some .int) (some (.int r), σ))  : ∀ n (v2 : Int32) (v1 : Int32), m_X8_many_L4 σ kx n v2 v1 = some r → J Γ E 3 ad RF 85 σ 0 0 4 [(2, .int v2), (1, .int v1)] [] := by
  intro n
  induction n with
  | zero =>
    intro v2 v1 h
    cases h
  | succ n ih =>
    intro v2 v1 h
    rw [m_X8_many_L4.eq_2] at h
    refine j_iload_n X 0 rfl rfl dX8_many_4 ?_
    refine j_if_eq X (tgt := 20) (by decide) dX8_many_5 (fun c => ?_) (fun c => ?_)
    · have h := (if_pos c).symm.trans h
      refine j_iload_n X 1 rfl rfl dX8_many_20 ?_
      exact j_iret X Y rfl (ret_pi h) dX8_many_21
    · have h := (if_neg c).symm.trans h
      refine nm_elim h (fun x2 ex2 h => ?_)
      refine j_iinc1 X (L' := [(1, .int x2), (2, .int v2)]) 1 rfl (q := 1) (by decide) ex2 (by decide) rfl dX8_many_8 ?_
      refine j_iload_n X 1 rfl rfl dX8_many_11 ?_
      refine j_iload_n X 1 rfl rfl dX8_many_12 ?_
      refine j_iconst X (v := 1) (by decide) dX8_many_13 ?_
      refine j_isub X dX8_many_14 ?_
      refine j_iand X dX8_many_15 ?_
      refine nm_elim h (fun x3 ex3 h => ?_)
      refine j_istore_n X (L' := [(2, .int x3), (1, .int x2)]) ex3 rfl (by decide) rfl dX8_many_16 ?_
      refine j_goto X (tgt := 4) (by decide) dX8_many_17 ?_
      exact J.sub [0, 1] rfl (ih x3 x2 h)
set_option maxHeartbeats 4000000 in
set_option maxRecDepth 100000 in
theorem c_X8_many (l : Launch) (E : Ev) (ad : Nat → Nat)   {a0 : Int32} {σ : Sg} {r : Int32} (h : m_X8_many a0 σ = some r) : Met l yX8_many (wY yX8_many cX8_many 3 (some .int)) rm_X8_many (va_Pc [.int a0] (PreU E ad RF 85 σ)) (QcN E ad (some (.int r), σ)) 0 0 (EA E) := by
  refine met_of (L0 := [(0, .int a0)]) rfl (Nat.le_of_ble_eq_true rfl) rfl (fun Γ X Y => ?_)
  have X : XC Γ E rm_X8_many cX8_many 3 RX8 := X
  unfold m_X8_many at h
  refine j_iconst X (v := 0) (by decide) dX8_many_0 ?_
  refine nm_elim h (fun x1 ex1 h => ?_)
  refine j_istore_n X (L' := [(1, .int x1), (0, .int a0)]) ex1 rfl (by decide) rfl dX8_many_1 ?_
  refine j_iload_n X 1 rfl rfl dX8_many_2 ?_
  refine j_istore_n X (L' := [(2, .int a0), (1, .int x1), (0, .int a0)]) rfl rfl (by decide) rfl dX8_many_3 ?_
  refine J.sub [0, 1] rfl ?_
  exact jl_X8_many_L4 X  Y 1000 a0 x1 h

abbrev rm_X8_knownByAll : Room := { frames := 1, cells := 0, slots := 0, locals := 22 }
set_option maxHeartbeats 4000000 in
set_option maxRecDepth 100000 in
theorem c_X8_knownByAll (l : Launch) (E : Ev) (ad : Nat → Nat)    {σ : Sg} {r : Int32} (h : m_X8_knownByAll  σ = some r) : Met l yX8_knownByAll (wY yX8_knownByAll cX8_knownByAll 1 (some .int)) rm_X8_knownByAll (va_Pc [.ref (ad 68)] (PreU E ad RF 85 σ)) (QcN E ad (some (.int r), σ)) 0 0 (EA E) := by
  refine met_of (L0 := [(0, .ref (ad 68))]) rfl (Nat.le_of_ble_eq_true rfl) rfl (fun Γ X Y => ?_)
  have X : XC Γ E rm_X8_knownByAll cX8_knownByAll 1 RX8 := X
  unfold m_X8_knownByAll at h
  refine j_aload_n X 0 rfl rfl dX8_knownByAll_0 ?_
  refine j_getr X cf6 pk_68 pl_68 7 rfl ⟨rfl, rfl⟩ 74 rfl bw_761 dX8_knownByAll_1 ?_
  refine j_bipush X (v := 8) (by decide) dX8_knownByAll_4 ?_
  refine gd_elim h (fun g h => ?_)
  refine j_iald X pk_74 pl_74 g dX8_knownByAll_6 ?_
  refine j_aload_n X 0 rfl rfl dX8_knownByAll_7 ?_
  refine j_getr X cf6 pk_68 pl_68 7 rfl ⟨rfl, rfl⟩ 74 rfl bw_761 dX8_knownByAll_8 ?_
  refine j_bipush X (v := 9) (by decide) dX8_knownByAll_11 ?_
  refine gd_elim h (fun g h => ?_)
  refine j_iald X pk_74 pl_74 g dX8_knownByAll_13 ?_
  refine j_ior X dX8_knownByAll_14 ?_
  refine j_aload_n X 0 rfl rfl dX8_knownByAll_15 ?_
  refine j_getr X cf6 pk_68 pl_68 7 rfl ⟨rfl, rfl⟩ 74 rfl bw_761 dX8_knownByAll_16 ?_
  refine j_bipush X (v := 10) (by decide) dX8_knownByAll_19 ?_
  refine gd_elim h (fun g h => ?_)
  refine j_iald X pk_74 pl_74 g dX8_knownByAll_21 ?_
  refine j_ior X dX8_knownByAll_22 ?_
  refine bd1_elim h (fun r1 hc2 h => ?_)
  refine j_callSi X (As := [.int (((σ.1 74 (8 : Int32).toNatClampNeg) ||| (σ.1 74 (9 : Int32).toNatClampNeg)) ||| (σ.1 74 (10 : Int32).toNatClampNeg))]) (rest := []) mf_X8_many bw_1026 bw_1027 ⟨rfl, rfl⟩ ⟨Nat.le_of_ble_eq_true rfl, Nat.le_of_ble_eq_true rfl⟩ (c_X8_many Γ.2.1 E ad  hc2) rfl rfl (Nat.le_of_ble_eq_true rfl) dX8_knownByAll_23 ?_
  exact j_iret X Y rfl (ret_pi h) dX8_knownByAll_26
