/-! ===== CONTRACTS: printed by wip/gen ===== -/
abbrev rm_X8_image : Room := { frames := 3, cells := 0, slots := 0, locals := 70 }
set_option maxHeartbeats 4000000 in
set_option maxRecDepth 100000 in
theorem c_X8_image (l : Launch) (E : Ev) (ad : Nat → Nat)   {a1 : Int32} {σ : Sg} {r : Int32 × Sg} (h : m_X8_image a1 σ = some r) : Met l yX8_image (wY yX8_image cX8_image 2 (some .int)) rm_X8_image (va_Pc [.ref (ad 68), .int a1] (PreU E ad RF 85 σ)) (QcN E ad (some (.int r.1), r.2)) 0 0 (EA E) := by
  refine met_of (L0 := [(0, .ref (ad 68)), (1, .int a1)]) rfl (Nat.le_of_ble_eq_true rfl) rfl (fun Γ X Y => ?_)
  have X : XC Γ E rm_X8_image cX8_image 2 RX8 := X
  unfold m_X8_image at h
  refine j_iload_n X 1 rfl rfl dX8_image_0 ?_
  refine j_i2l X dX8_image_1 ?_
  refine j_lconst X (v := 0) (by decide) dX8_image_2 ?_
  refine j_lconst X (v := 1) (by decide) dX8_image_3 ?_
  refine bd1_elim h (fun r1 hc2 h => ?_)
  refine j_callSi X (As := [.long (Int32.toInt64 a1), .long (0 : Int64), .long (1 : Int64)]) (rest := []) mf_X8_in bw_842 bw_843 ⟨rfl, rfl⟩ ⟨Nat.le_of_ble_eq_true rfl, Nat.le_of_ble_eq_true rfl⟩ (c_X8_in Γ.2.1 E ad  hc2) rfl rfl (Nat.le_of_ble_eq_true rfl) dX8_image_4 ?_
  refine j_if_ne X (tgt := 15) (by decide) dX8_image_7 (fun c => ?_) (fun c => ?_)
  · have h := (if_neg c).symm.trans h
    refine j_aload_n X 0 rfl rfl dX8_image_15 ?_
    refine j_iconst X (v := 1) (by decide) dX8_image_16 ?_
    refine j_sipush X (v := 196) (by decide) dX8_image_17 ?_
    refine j_iload_n X 1 rfl rfl dX8_image_20 ?_
    refine j_imul X dX8_image_21 ?_
    refine bd1_elim h (fun σ3 hc4 h => ?_)
    refine j_callVv X (As := [.int (1 : Int32), .int ((196 : Int32) * a1)]) (rest := []) mf_X8_moveAll bw_1165 bw_1167 bs_54 ⟨rfl, rfl⟩ ⟨Nat.le_of_ble_eq_true rfl, Nat.le_of_ble_eq_true rfl⟩ cf6 pk_68 pl_68 (c_X8_moveAll Γ.2.1 E ad  hc4) rfl rfl (Nat.le_of_ble_eq_true rfl) dX8_image_22 ?_
    refine j_aload_n X 0 rfl rfl dX8_image_25 ?_
    refine j_getr X cf6 pk_68 pl_68 26 rfl ⟨rfl, rfl⟩ 84 rfl bw_780 dX8_image_26 ?_
    refine j_iload_n X 1 rfl rfl dX8_image_29 ?_
    refine j_iconst X (v := 1) (by decide) dX8_image_30 ?_
    refine gd_elim h (fun g h => ?_)
    refine nm_elim h (fun σ5 eσ5 h => ?_)
    refine j_zast X pk_84 pl_84 g (by decide) eσ5 dX8_image_31 ?_
    refine j_iconst X (v := 1) (by decide) dX8_image_32 ?_
    exact j_iret X Y rfl (ret_wi h) dX8_image_33
  · have h := (if_pos c).symm.trans h
    refine j_aload_n X 0 rfl rfl dX8_image_10 ?_
    refine bd2_elim h (fun r6 σ7 hc8 h => ?_)
    refine j_callVi X (As := []) (rest := []) mf_X8_bad bw_859 bw_861 bs_20 ⟨rfl, rfl⟩ ⟨Nat.le_of_ble_eq_true rfl, Nat.le_of_ble_eq_true rfl⟩ cf6 pk_68 pl_68 (c_X8_bad Γ.2.1 E ad  hc8) rfl rfl (Nat.le_of_ble_eq_true rfl) dX8_image_11 ?_
    exact j_iret X Y rfl (ret_wi h) dX8_image_14

abbrev rm_X8_from : Room := { frames := 3, cells := 0, slots := 0, locals := 70 }
set_option maxHeartbeats 4000000 in
set_option maxRecDepth 100000 in
theorem c_X8_from (l : Launch) (E : Ev) (ad : Nat → Nat)   {a1 : Int32} {σ : Sg} {r : Int32 × Sg} (h : m_X8_from a1 σ = some r) : Met l yX8_from (wY yX8_from cX8_from 2 (some .int)) rm_X8_from (va_Pc [.ref (ad 68), .int a1] (PreU E ad RF 85 σ)) (QcN E ad (some (.int r.1), r.2)) 0 0 (EA E) := by
  refine met_of (L0 := [(0, .ref (ad 68)), (1, .int a1)]) rfl (Nat.le_of_ble_eq_true rfl) rfl (fun Γ X Y => ?_)
  have X : XC Γ E rm_X8_from cX8_from 2 RX8 := X
  unfold m_X8_from at h
  refine j_iload_n X 1 rfl rfl dX8_from_0 ?_
  refine j_i2l X dX8_from_1 ?_
  refine j_lconst X (v := 0) (by decide) dX8_from_2 ?_
  refine j_lconst X (v := 1) (by decide) dX8_from_3 ?_
  refine bd1_elim h (fun r1 hc2 h => ?_)
  refine j_callSi X (As := [.long (Int32.toInt64 a1), .long (0 : Int64), .long (1 : Int64)]) (rest := []) mf_X8_in bw_842 bw_843 ⟨rfl, rfl⟩ ⟨Nat.le_of_ble_eq_true rfl, Nat.le_of_ble_eq_true rfl⟩ (c_X8_in Γ.2.1 E ad  hc2) rfl rfl (Nat.le_of_ble_eq_true rfl) dX8_from_4 ?_
  refine j_if_ne X (tgt := 15) (by decide) dX8_from_7 (fun c => ?_) (fun c => ?_)
  · have h := (if_neg c).symm.trans h
    refine j_aload_n X 0 rfl rfl dX8_from_15 ?_
    refine j_getr X cf6 pk_68 pl_68 26 rfl ⟨rfl, rfl⟩ 84 rfl bw_780 dX8_from_16 ?_
    refine j_iload_n X 1 rfl rfl dX8_from_19 ?_
    refine gd_elim h (fun g h => ?_)
    refine j_zald X pk_84 pl_84 g dX8_from_20 ?_
    refine j_if_ne X (tgt := 29) (by decide) dX8_from_21 (fun c => ?_) (fun c => ?_)
    · have h := (if_neg c).symm.trans h
      refine j_aload_n X 0 rfl rfl dX8_from_29 ?_
      refine j_iconst X (v := 0) (by decide) dX8_from_30 ?_
      refine j_sipush X (v := 196) (by decide) dX8_from_31 ?_
      refine j_iload_n X 1 rfl rfl dX8_from_34 ?_
      refine j_imul X dX8_from_35 ?_
      refine bd1_elim h (fun σ3 hc4 h => ?_)
      refine j_callVv X (As := [.int (0 : Int32), .int ((196 : Int32) * a1)]) (rest := []) mf_X8_moveAll bw_1165 bw_1167 bs_54 ⟨rfl, rfl⟩ ⟨Nat.le_of_ble_eq_true rfl, Nat.le_of_ble_eq_true rfl⟩ cf6 pk_68 pl_68 (c_X8_moveAll Γ.2.1 E ad  hc4) rfl rfl (Nat.le_of_ble_eq_true rfl) dX8_from_36 ?_
      refine j_iconst X (v := 1) (by decide) dX8_from_39 ?_
      exact j_iret X Y rfl (ret_wi h) dX8_from_40
    · have h := (if_pos c).symm.trans h
      refine j_aload_n X 0 rfl rfl dX8_from_24 ?_
      refine bd2_elim h (fun r5 σ6 hc7 h => ?_)
      refine j_callVi X (As := []) (rest := []) mf_X8_no bw_1005 bw_1007 bs_43 ⟨rfl, rfl⟩ ⟨Nat.le_of_ble_eq_true rfl, Nat.le_of_ble_eq_true rfl⟩ cf6 pk_68 pl_68 (c_X8_no Γ.2.1 E ad  hc7) rfl rfl (Nat.le_of_ble_eq_true rfl) dX8_from_25 ?_
      exact j_iret X Y rfl (ret_wi h) dX8_from_28
  · have h := (if_pos c).symm.trans h
    refine j_aload_n X 0 rfl rfl dX8_from_10 ?_
    refine bd2_elim h (fun r8 σ9 hc10 h => ?_)
    refine j_callVi X (As := []) (rest := []) mf_X8_bad bw_859 bw_861 bs_20 ⟨rfl, rfl⟩ ⟨Nat.le_of_ble_eq_true rfl, Nat.le_of_ble_eq_true rfl⟩ cf6 pk_68 pl_68 (c_X8_bad Γ.2.1 E ad  hc10) rfl rfl (Nat.le_of_ble_eq_true rfl) dX8_from_11 ?_
    exact j_iret X Y rfl (ret_wi h) dX8_from_14

abbrev rm_X8_stripped : Room := { frames := 0, cells := 0, slots := 0, locals := 0 }
set_option maxHeartbeats 4000000 in
set_option maxRecDepth 100000 in
theorem jl_X8_stripped_L4 {Γ : Cx} {E : Ev} {ad : Nat → Nat} (X : XC Γ E rm_X8_stripped cX8_stripped 3 RX8)    {σ : Sg} {kx : Unit → Option (Int32)} {r : Int32} (Y : XQ Γ E ad (some .int) (some (.int r), σ))  : ∀ n (v2 : Int32) (v1 : Int32), m_X8_stripped_L4 σ kx n v2 v1 = some r → J Γ E 3 ad RF 85 σ 0 0 4 [(2, .int v2), (1, .int v1), (0, .ref (ad 68))] [] := by
  intro n
  induction n with
  | zero =>
    intro v2 v1 h
    cases h
  | succ n ih =>
    intro v2 v1 h
    rw [m_X8_stripped_L4.eq_2] at h
    refine j_iload_n X 0 rfl rfl dX8_stripped_4 ?_
    refine j_iconst X (v := 4) (by decide) dX8_stripped_5 ?_
    refine j_icmp_ge X (tgt := 34) (by decide) dX8_stripped_6 (fun c => ?_) (fun c => ?_)
    · have h := (if_pos c).symm.trans h
      refine j_iload_n X 1 rfl rfl dX8_stripped_34 ?_
      exact j_iret X Y rfl (ret_pi h) dX8_stripped_35
    · have h := (if_neg c).symm.trans h
      refine j_iload_n X 1 rfl rfl dX8_stripped_9 ?_
      refine j_aload_n X 2 rfl rfl dX8_stripped_10 ?_
      refine j_getr X cf6 pk_68 pl_68 7 rfl ⟨rfl, rfl⟩ 74 rfl bw_761 dX8_stripped_11 ?_
      refine j_iconst X (v := 1) (by decide) dX8_stripped_14 ?_
      refine j_iload_n X 0 rfl rfl dX8_stripped_15 ?_
      refine j_iadd X dX8_stripped_16 ?_
      refine gd_elim h (fun g h => ?_)
      refine j_iald X pk_74 pl_74 g dX8_stripped_17 ?_
      refine bd1_elim h (fun o4 hr h => ?_)
      have hJ3 : J Γ E 3 ad RF 85 σ 0 0 26 [(2, .int v2), (0, .ref (ad 68))] [.int o4, .int v1] := by
        refine j_iadd X dX8_stripped_26 ?_
        refine nm_elim h (fun x5 ex5 h => ?_)
        refine j_istore_n X (L' := [(1, .int x5), (2, .int v2), (0, .ref (ad 68))]) ex5 rfl (by decide) rfl dX8_stripped_27 ?_
        refine nm_elim h (fun x6 ex6 h => ?_)
        refine j_iinc1 X (L' := [(2, .int x6), (1, .int x5), (0, .ref (ad 68))]) 1 rfl (q := 1) (by decide) ex6 (by decide) rfl dX8_stripped_28 ?_
        refine j_goto X (tgt := 4) (by decide) dX8_stripped_31 ?_
        exact J.sub [0, 1, 2] rfl (ih x6 x5 h)
      clear h
      refine j_if_lt X (tgt := 25) (by decide) dX8_stripped_18 (fun c => ?_) (fun c => ?_)
      · have hr := (if_pos c).symm.trans hr
        refine j_iconst X (v := 0) (by decide) dX8_stripped_25 ?_
        cases hr
        exact J.sub [0, 2] rfl hJ3
      · have hr := (if_neg c).symm.trans hr
        refine j_iconst X (v := 1) (by decide) dX8_stripped_21 ?_
        refine j_goto X (tgt := 26) (by decide) dX8_stripped_22 ?_
        cases hr
        exact J.sub [0, 2] rfl hJ3
set_option maxHeartbeats 4000000 in
set_option maxRecDepth 100000 in
theorem c_X8_stripped (l : Launch) (E : Ev) (ad : Nat → Nat)    {σ : Sg} {r : Int32} (h : m_X8_stripped  σ = some r) : Met l yX8_stripped (wY yX8_stripped cX8_stripped 3 (some .int)) rm_X8_stripped (va_Pc [.ref (ad 68)] (PreU E ad RF 85 σ)) (QcN E ad (some (.int r), σ)) 0 0 (EA E) := by
  refine met_of (L0 := [(0, .ref (ad 68))]) rfl (Nat.le_of_ble_eq_true rfl) rfl (fun Γ X Y => ?_)
  have X : XC Γ E rm_X8_stripped cX8_stripped 3 RX8 := X
  unfold m_X8_stripped at h
  refine j_iconst X (v := 0) (by decide) dX8_stripped_0 ?_
  refine nm_elim h (fun x1 ex1 h => ?_)
  refine j_istore_n X (L' := [(1, .int x1), (0, .ref (ad 68))]) ex1 rfl (by decide) rfl dX8_stripped_1 ?_
  refine j_iconst X (v := 0) (by decide) dX8_stripped_2 ?_
  refine nm_elim h (fun x2 ex2 h => ?_)
  refine j_istore_n X (L' := [(2, .int x2), (1, .int x1), (0, .ref (ad 68))]) ex2 rfl (by decide) rfl dX8_stripped_3 ?_
  refine J.sub [0, 1, 2] rfl ?_
  exact jl_X8_stripped_L4 X  Y 1000 x2 x1 h

abbrev rm_X8_counted : Room := { frames := 2, cells := 0, slots := 0, locals := 42 }
set_option maxHeartbeats 4000000 in
set_option maxRecDepth 100000 in
theorem c_X8_counted (l : Launch) (E : Ev) (ad : Nat → Nat)   {a1 : Int32} {σ : Sg} {r : Int32} (h : m_X8_counted a1 σ = some r) : Met l yX8_counted (wY yX8_counted cX8_counted 2 (some .int)) rm_X8_counted (va_Pc [.ref (ad 68), .int a1] (PreU E ad RF 85 σ)) (QcN E ad (some (.int r), σ)) 0 0 (EA E) := by
  refine met_of (L0 := [(0, .ref (ad 68)), (1, .int a1)]) rfl (Nat.le_of_ble_eq_true rfl) rfl (fun Γ X Y => ?_)
  have X : XC Γ E rm_X8_counted cX8_counted 2 RX8 := X
  unfold m_X8_counted at h
  refine j_iload_n X 1 rfl rfl dX8_counted_0 ?_
  by_cases c0 : a1 = 0
  · have h := (if_pos c0).symm.trans h
    refine j_tableIn X (tgt := 52) (by rw [c0]; decide) (by rw [c0]; decide) (by rw [c0]; rfl) (by decide) dX8_counted_1 ?_
    refine j_aload_n X 0 rfl rfl dX8_counted_52 ?_
    refine j_geti X cf6 pk_68 pl_68 1 rfl ⟨rfl, rfl⟩ bw_755 dX8_counted_53 ?_
    exact j_iret X Y rfl (ret_pi h) dX8_counted_56
  · have h := (if_neg c0).symm.trans h
    by_cases c1 : a1 = 1
    · have h := (if_pos c1).symm.trans h
      refine j_tableIn X (tgt := 57) (by rw [c1]; decide) (by rw [c1]; decide) (by rw [c1]; rfl) (by decide) dX8_counted_1 ?_
      refine j_aload_n X 0 rfl rfl dX8_counted_57 ?_
      refine j_geti X cf6 pk_68 pl_68 5 rfl ⟨rfl, rfl⟩ bw_759 dX8_counted_58 ?_
      exact j_iret X Y rfl (ret_pi h) dX8_counted_61
    · have h := (if_neg c1).symm.trans h
      by_cases c2 : a1 = 2
      · have h := (if_pos c2).symm.trans h
        refine j_tableIn X (tgt := 62) (by rw [c2]; decide) (by rw [c2]; decide) (by rw [c2]; rfl) (by decide) dX8_counted_1 ?_
        refine j_aload_n X 0 rfl rfl dX8_counted_62 ?_
        refine j_getr X cf6 pk_68 pl_68 7 rfl ⟨rfl, rfl⟩ 74 rfl bw_761 dX8_counted_63 ?_
        refine j_iconst X (v := 0) (by decide) dX8_counted_66 ?_
        refine gd_elim h (fun g h => ?_)
        refine j_iald X pk_74 pl_74 g dX8_counted_67 ?_
        exact j_iret X Y rfl (ret_pi h) dX8_counted_68
      · have h := (if_neg c2).symm.trans h
        by_cases c3 : a1 = 3
        · have h := (if_pos c3).symm.trans h
          refine j_tableIn X (tgt := 69) (by rw [c3]; decide) (by rw [c3]; decide) (by rw [c3]; rfl) (by decide) dX8_counted_1 ?_
          refine j_aload_n X 0 rfl rfl dX8_counted_69 ?_
          refine bd1_elim h (fun r1 hc2 h => ?_)
          refine j_callVi X (As := []) (rest := []) mf_X8_stripped bw_1189 bw_1191 bs_58 ⟨rfl, rfl⟩ ⟨Nat.le_of_ble_eq_true rfl, Nat.le_of_ble_eq_true rfl⟩ cf6 pk_68 pl_68 (c_X8_stripped Γ.2.1 E ad  hc2) rfl rfl (Nat.le_of_ble_eq_true rfl) dX8_counted_70 ?_
          exact j_iret X Y rfl (ret_pi h) dX8_counted_73
        · have h := (if_neg c3).symm.trans h
          by_cases c4 : a1 = 4
          · have h := (if_pos c4).symm.trans h
            refine j_tableIn X (tgt := 74) (by rw [c4]; decide) (by rw [c4]; decide) (by rw [c4]; rfl) (by decide) dX8_counted_1 ?_
            refine j_aload_n X 0 rfl rfl dX8_counted_74 ?_
            refine bd1_elim h (fun r3 hc4 h => ?_)
            refine j_callVi X (As := []) (rest := []) mf_X8_knownByAll bw_1022 bw_1024 bs_45 ⟨rfl, rfl⟩ ⟨Nat.le_of_ble_eq_true rfl, Nat.le_of_ble_eq_true rfl⟩ cf6 pk_68 pl_68 (c_X8_knownByAll Γ.2.1 E ad  hc4) rfl rfl (Nat.le_of_ble_eq_true rfl) dX8_counted_75 ?_
            exact j_iret X Y rfl (ret_pi h) dX8_counted_78
          · have h := (if_neg c4).symm.trans h
            by_cases c5 : a1 = 5
            · have h := (if_pos c5).symm.trans h
              refine j_tableIn X (tgt := 79) (by rw [c5]; decide) (by rw [c5]; decide) (by rw [c5]; rfl) (by decide) dX8_counted_1 ?_
              refine j_aload_n X 0 rfl rfl dX8_counted_79 ?_
              refine j_geti X cf6 pk_68 pl_68 16 rfl ⟨rfl, rfl⟩ bw_770 dX8_counted_80 ?_
              exact j_iret X Y rfl (ret_pi h) dX8_counted_83
            · have h := (if_neg c5).symm.trans h
              by_cases c6 : a1 = 6
              · have h := (if_pos c6).symm.trans h
                refine j_tableIn X (tgt := 84) (by rw [c6]; decide) (by rw [c6]; decide) (by rw [c6]; rfl) (by decide) dX8_counted_1 ?_
                refine j_aload_n X 0 rfl rfl dX8_counted_84 ?_
                refine j_geti X cf6 pk_68 pl_68 18 rfl ⟨rfl, rfl⟩ bw_772 dX8_counted_85 ?_
                exact j_iret X Y rfl (ret_pi h) dX8_counted_88
              · have h := (if_neg c6).symm.trans h
                by_cases c7 : a1 = 7
                · have h := (if_pos c7).symm.trans h
                  refine j_tableIn X (tgt := 89) (by rw [c7]; decide) (by rw [c7]; decide) (by rw [c7]; rfl) (by decide) dX8_counted_1 ?_
                  refine j_aload_n X 0 rfl rfl dX8_counted_89 ?_
                  refine j_geti X cf6 pk_68 pl_68 20 rfl ⟨rfl, rfl⟩ bw_774 dX8_counted_90 ?_
                  exact j_iret X Y rfl (ret_pi h) dX8_counted_93
                · have h := (if_neg c7).symm.trans h
                  by_cases c8 : a1 = 8
                  · have h := (if_pos c8).symm.trans h
                    refine j_tableIn X (tgt := 94) (by rw [c8]; decide) (by rw [c8]; decide) (by rw [c8]; rfl) (by decide) dX8_counted_1 ?_
                    refine j_aload_n X 0 rfl rfl dX8_counted_94 ?_
                    refine j_geti X cf6 pk_68 pl_68 14 rfl ⟨rfl, rfl⟩ bw_768 dX8_counted_95 ?_
                    exact j_iret X Y rfl (ret_pi h) dX8_counted_98
                  · have h := (if_neg c8).symm.trans h
                    refine j_tableOut X (tgt := 99) (sw_out (x := a1) (lo := 0) (hi := 8) (fun z h1 h2 => by rcases (by omega : z = 0 ∨ z = 1 ∨ z = 2 ∨ z = 3 ∨ z = 4 ∨ z = 5 ∨ z = 6 ∨ z = 7 ∨ z = 8) with rfl | rfl | rfl | rfl | rfl | rfl | rfl | rfl | rfl <;> first | exact c0 | exact c1 | exact c2 | exact c3 | exact c4 | exact c5 | exact c6 | exact c7 | exact c8)) (by decide) dX8_counted_1 ?_
                    refine j_aload_n X 0 rfl rfl dX8_counted_99 ?_
                    refine j_geti X cf6 pk_68 pl_68 9 rfl ⟨rfl, rfl⟩ bw_763 dX8_counted_100 ?_
                    exact j_iret X Y rfl (ret_pi h) dX8_counted_103

abbrev rm_X8_count : Room := { frames := 3, cells := 0, slots := 0, locals := 63 }
set_option maxHeartbeats 4000000 in
set_option maxRecDepth 100000 in
theorem c_X8_count (l : Launch) (E : Ev) (ad : Nat → Nat)   {a1 : Int32} {σ : Sg} {r : Int32 × Sg} (h : m_X8_count a1 σ = some r) : Met l yX8_count (wY yX8_count cX8_count 2 (some .int)) rm_X8_count (va_Pc [.ref (ad 68), .int a1] (PreU E ad RF 85 σ)) (QcN E ad (some (.int r.1), r.2)) 0 0 (EA E) := by
  refine met_of (L0 := [(0, .ref (ad 68)), (1, .int a1)]) rfl (Nat.le_of_ble_eq_true rfl) rfl (fun Γ X Y => ?_)
  have X : XC Γ E rm_X8_count cX8_count 2 RX8 := X
  unfold m_X8_count at h
  refine j_iload_n X 1 rfl rfl dX8_count_0 ?_
  refine j_i2l X dX8_count_1 ?_
  refine j_lconst X (v := 0) (by decide) dX8_count_2 ?_
  refine j_ldc2 X (v := 9) bw_858 dX8_count_3 ?_
  refine bd1_elim h (fun r1 hc2 h => ?_)
  refine j_callSi X (As := [.long (Int32.toInt64 a1), .long (0 : Int64), .long (9 : Int64)]) (rest := []) mf_X8_in bw_842 bw_843 ⟨rfl, rfl⟩ ⟨Nat.le_of_ble_eq_true rfl, Nat.le_of_ble_eq_true rfl⟩ (c_X8_in Γ.2.1 E ad  hc2) rfl rfl (Nat.le_of_ble_eq_true rfl) dX8_count_6 ?_
  refine j_if_eq X (tgt := 20) (by decide) dX8_count_9 (fun c => ?_) (fun c => ?_)
  · have h := (if_pos c).symm.trans h
    refine j_aload_n X 0 rfl rfl dX8_count_20 ?_
    refine bd2_elim h (fun r3 σ4 hc5 h => ?_)
    refine j_callVi X (As := []) (rest := []) mf_X8_bad bw_859 bw_861 bs_20 ⟨rfl, rfl⟩ ⟨Nat.le_of_ble_eq_true rfl, Nat.le_of_ble_eq_true rfl⟩ cf6 pk_68 pl_68 (c_X8_bad Γ.2.1 E ad  hc5) rfl rfl (Nat.le_of_ble_eq_true rfl) dX8_count_21 ?_
    exact j_iret X Y rfl (ret_wi h) dX8_count_24
  · have h := (if_neg c).symm.trans h
    refine j_aload_n X 0 rfl rfl dX8_count_12 ?_
    refine j_iload_n X 1 rfl rfl dX8_count_13 ?_
    refine bd1_elim h (fun r6 hc7 h => ?_)
    refine j_callVi X (As := [.int a1]) (rest := []) mf_X8_counted bw_1185 bw_1187 bs_57 ⟨rfl, rfl⟩ ⟨Nat.le_of_ble_eq_true rfl, Nat.le_of_ble_eq_true rfl⟩ cf6 pk_68 pl_68 (c_X8_counted Γ.2.1 E ad  hc7) rfl rfl (Nat.le_of_ble_eq_true rfl) dX8_count_14 ?_
    refine j_goto X (tgt := 24) (by decide) dX8_count_17 ?_
    exact j_iret X Y rfl (ret_wi h) dX8_count_24

abbrev rm_X8_adds : Room := { frames := 0, cells := 0, slots := 0, locals := 0 }
set_option maxHeartbeats 4000000 in
set_option maxRecDepth 100000 in
theorem jl_X8_adds_L6 {Γ : Cx} {E : Ev} {ad : Nat → Nat} (X : XC Γ E rm_X8_adds cX8_adds 7 RX8) {k2 : Nat} (hl2 : lay k2 = 7) {c3 : Int32} {σ : Sg} {kx : Unit → Option (Int64)} {r : Int64} (Y : XQ Γ E ad (some .long) (some (.long r), σ))  : ∀ n (v6 : Int32) (v4 : Int64), m_X8_adds_L6 k2 c3 σ kx n v6 v4 = some r → J Γ E 7 ad RF 85 σ 0 0 6 [(6, .int v6), (4, .long v4), (2, .ref (ad k2)), (3, .int c3)] [] := by
  intro n
  induction n with
  | zero =>
    intro v6 v4 h
    cases h
  | succ n ih =>
    intro v6 v4 h
    rw [m_X8_adds_L6.eq_2] at h
    refine j_iload X 0 rfl dX8_adds_6 ?_
    refine j_iload_n X 3 rfl rfl dX8_adds_8 ?_
    refine j_icmp_ge X (tgt := 32) (by decide) dX8_adds_9 (fun c => ?_) (fun c => ?_)
    · have h := (if_pos c).symm.trans h
      refine j_lload X 1 rfl dX8_adds_32 ?_
      exact j_lret X Y (ret_pl h) dX8_adds_34
    · have h := (if_neg c).symm.trans h
      refine j_ldc2 X (v := 31) bw_1198 dX8_adds_12 ?_
      refine j_lload X 1 rfl dX8_adds_15 ?_
      refine j_lmul X dX8_adds_17 ?_
      refine j_aload_n X 2 rfl rfl dX8_adds_18 ?_
      refine j_iload X 0 rfl dX8_adds_19 ?_
      refine gd_elim h (fun g h => ?_)
      refine j_iald X (lay_lt hl2 (by decide)) hl2 g dX8_adds_21 ?_
      refine j_i2l X dX8_adds_22 ?_
      refine j_ladd X dX8_adds_23 ?_
      refine nm_elim h (fun x2 ex2 h => ?_)
      refine j_lstore X (L' := [(4, .long x2), (6, .int v6), (2, .ref (ad k2)), (3, .int c3)]) ex2 (by decide) rfl dX8_adds_24 ?_
      refine nm_elim h (fun x3 ex3 h => ?_)
      refine j_iinc1 X (L' := [(6, .int x3), (4, .long x2), (2, .ref (ad k2)), (3, .int c3)]) 1 rfl (q := 1) (by decide) ex3 (by decide) rfl dX8_adds_26 ?_
      refine j_goto X (tgt := 6) (by decide) dX8_adds_29 ?_
      exact J.sub [0, 1, 2, 3] rfl (ih x3 x2 h)
set_option maxHeartbeats 4000000 in
set_option maxRecDepth 100000 in
theorem c_X8_adds (l : Launch) (E : Ev) (ad : Nat → Nat) {k2 : Nat} (hl2 : lay k2 = 7) {a0 : Int64} {a3 : Int32} {σ : Sg} {r : Int64} (h : m_X8_adds a0 k2 a3 σ = some r) : Met l yX8_adds (wY yX8_adds cX8_adds 7 (some .long)) rm_X8_adds (va_Pc [.long a0, .ref (ad k2), .int a3] (PreU E ad RF 85 σ)) (QcN E ad (some (.long r), σ)) 0 0 (EA E) := by
  refine met_of (L0 := [(0, .long a0), (2, .ref (ad k2)), (3, .int a3)]) rfl (Nat.le_of_ble_eq_true rfl) rfl (fun Γ X Y => ?_)
  have X : XC Γ E rm_X8_adds cX8_adds 7 RX8 := X
  unfold m_X8_adds at h
  refine j_lload_n X 0 rfl rfl dX8_adds_0 ?_
  refine j_lstore X (L' := [(4, .long a0), (0, .long a0), (2, .ref (ad k2)), (3, .int a3)]) rfl (by decide) rfl dX8_adds_1 ?_
  refine j_iconst X (v := 0) (by decide) dX8_adds_3 ?_
  refine nm_elim h (fun x1 ex1 h => ?_)
  refine j_istore X (L' := [(6, .int x1), (4, .long a0), (0, .long a0), (2, .ref (ad k2)), (3, .int a3)]) ex1 (by decide) rfl dX8_adds_4 ?_
  refine J.sub [0, 1, 3, 4] rfl ?_
  exact jl_X8_adds_L6 X hl2 Y 1000 x1 a0 h

abbrev rm_X8_digest : Room := { frames := 3, cells := 0, slots := 0, locals := 63 }
set_option maxHeartbeats 4000000 in
set_option maxRecDepth 100000 in
theorem jl_X8_digest_L6 {β : Type} {Γ : Cx} {E : Ev} {ad : Nat → Nat} (X : XC Γ E rm_X8_digest cX8_digest 4 RX8)    {σ : Sg} {kx : Int64 → Option (β)} {r : β}  (hkx : ∀ (v1 : Int64), kx v1 = some r → J Γ E 4 ad RF 85 σ 0 0 31 [(1, .long v1), (0, .ref (ad 68))] []) : ∀ n (v3 : Int32) (v1 : Int64), m_X8_digest_L6 σ kx n v3 v1 = some r → J Γ E 4 ad RF 85 σ 0 0 6 [(3, .int v3), (1, .long v1), (0, .ref (ad 68))] [] := by
  intro n
  induction n with
  | zero =>
    intro v3 v1 h
    cases h
  | succ n ih =>
    intro v3 v1 h
    rw [m_X8_digest_L6.eq_2] at h
    refine j_iload_n X 0 rfl rfl dX8_digest_6 ?_
    refine j_bipush X (v := 10) (by decide) dX8_digest_7 ?_
    refine j_icmp_ge X (tgt := 31) (by decide) dX8_digest_9 (fun c => ?_) (fun c => ?_)
    · have h := (if_pos c).symm.trans h
      exact J.sub [1, 2] rfl (hkx v1 h)
    · have h := (if_neg c).symm.trans h
      refine j_ldc2 X (v := 31) bw_1198 dX8_digest_12 ?_
      refine j_lload_n X 1 rfl rfl dX8_digest_15 ?_
      refine j_lmul X dX8_digest_16 ?_
      refine j_aload_n X 2 rfl rfl dX8_digest_17 ?_
      refine j_iload_n X 0 rfl rfl dX8_digest_18 ?_
      refine bd1_elim h (fun r3 hc4 h => ?_)
      refine j_callVi X (As := [.int v3]) (rest := [.long ((31 : Int64) * v1)]) mf_X8_counted bw_1185 bw_1187 bs_57 ⟨rfl, rfl⟩ ⟨Nat.le_of_ble_eq_true rfl, Nat.le_of_ble_eq_true rfl⟩ cf6 pk_68 pl_68 (c_X8_counted Γ.2.1 E ad  hc4) rfl rfl (Nat.le_of_ble_eq_true rfl) dX8_digest_19 ?_
      refine j_i2l X dX8_digest_22 ?_
      refine j_ladd X dX8_digest_23 ?_
      refine nm_elim h (fun x5 ex5 h => ?_)
      refine j_lstore_n X (L' := [(1, .long x5), (3, .int v3), (0, .ref (ad 68))]) ex5 rfl (by decide) rfl dX8_digest_24 ?_
      refine nm_elim h (fun x6 ex6 h => ?_)
      refine j_iinc1 X (L' := [(3, .int x6), (1, .long x5), (0, .ref (ad 68))]) 1 rfl (q := 1) (by decide) ex6 (by decide) rfl dX8_digest_25 ?_
      refine j_goto X (tgt := 6) (by decide) dX8_digest_28 ?_
      exact J.sub [0, 1, 2] rfl (ih x6 x5 h)
set_option maxHeartbeats 4000000 in
set_option maxRecDepth 100000 in
theorem jl_X8_digest_L33 {β : Type} {Γ : Cx} {E : Ev} {ad : Nat → Nat} (X : XC Γ E rm_X8_digest cX8_digest 4 RX8)    {σ : Sg} {kx : Int64 → Option (β)} {r : β}  (hkx : ∀ (v1 : Int64), kx v1 = some r → J Γ E 4 ad RF 85 σ 0 0 57 [(1, .long v1), (0, .ref (ad 68))] []) : ∀ n (v3 : Int32) (v1 : Int64), m_X8_digest_L33 σ kx n v3 v1 = some r → J Γ E 4 ad RF 85 σ 0 0 33 [(3, .int v3), (1, .long v1), (0, .ref (ad 68))] [] := by
  intro n
  induction n with
  | zero =>
    intro v3 v1 h
    cases h
  | succ n ih =>
    intro v3 v1 h
    rw [m_X8_digest_L33.eq_2] at h
    refine j_iload_n X 0 rfl rfl dX8_digest_33 ?_
    refine j_iconst X (v := 4) (by decide) dX8_digest_34 ?_
    refine j_icmp_ge X (tgt := 57) (by decide) dX8_digest_35 (fun c => ?_) (fun c => ?_)
    · have h := (if_pos c).symm.trans h
      exact J.sub [1, 2] rfl (hkx v1 h)
    · have h := (if_neg c).symm.trans h
      refine j_ldc2 X (v := 31) bw_1198 dX8_digest_38 ?_
      refine j_lload_n X 1 rfl rfl dX8_digest_41 ?_
      refine j_lmul X dX8_digest_42 ?_
      refine j_aload_n X 2 rfl rfl dX8_digest_43 ?_
      refine j_iload_n X 0 rfl rfl dX8_digest_44 ?_
      refine bd1_elim h (fun r9 hc10 h => ?_)
      refine j_callVi X (As := [.int v3]) (rest := [.long ((31 : Int64) * v1)]) mf_X8_minuteOf bw_960 bw_962 bs_36 ⟨rfl, rfl⟩ ⟨Nat.le_of_ble_eq_true rfl, Nat.le_of_ble_eq_true rfl⟩ cf6 pk_68 pl_68 (c_X8_minuteOf Γ.2.1 E ad  hc10) rfl rfl (Nat.le_of_ble_eq_true rfl) dX8_digest_45 ?_
      refine j_i2l X dX8_digest_48 ?_
      refine j_ladd X dX8_digest_49 ?_
      refine nm_elim h (fun x11 ex11 h => ?_)
      refine j_lstore_n X (L' := [(1, .long x11), (3, .int v3), (0, .ref (ad 68))]) ex11 rfl (by decide) rfl dX8_digest_50 ?_
      refine nm_elim h (fun x12 ex12 h => ?_)
      refine j_iinc1 X (L' := [(3, .int x12), (1, .long x11), (0, .ref (ad 68))]) 1 rfl (q := 1) (by decide) ex12 (by decide) rfl dX8_digest_51 ?_
      refine j_goto X (tgt := 33) (by decide) dX8_digest_54 ?_
      exact J.sub [0, 1, 2] rfl (ih x12 x11 h)
set_option maxHeartbeats 4000000 in
set_option maxRecDepth 100000 in
theorem jl_X8_digest_L59 {β : Type} {Γ : Cx} {E : Ev} {ad : Nat → Nat} (X : XC Γ E rm_X8_digest cX8_digest 4 RX8)    {σ : Sg} {kx : Int64 → Option (β)} {r : β}  (hkx : ∀ (v1 : Int64), kx v1 = some r → J Γ E 4 ad RF 85 σ 0 0 111 [(1, .long v1), (0, .ref (ad 68))] []) : ∀ n (v3 : Int32) (v1 : Int64), m_X8_digest_L59 σ kx n v3 v1 = some r → J Γ E 4 ad RF 85 σ 0 0 59 [(3, .int v3), (1, .long v1), (0, .ref (ad 68))] [] := by
  intro n
  induction n with
  | zero =>
    intro v3 v1 h
    cases h
  | succ n ih =>
    intro v3 v1 h
    rw [m_X8_digest_L59.eq_2] at h
    refine j_iload_n X 0 rfl rfl dX8_digest_59 ?_
    refine j_aload_n X 2 rfl rfl dX8_digest_60 ?_
    refine j_geti X cf6 pk_68 pl_68 1 rfl ⟨rfl, rfl⟩ bw_755 dX8_digest_61 ?_
    refine j_icmp_ge X (tgt := 111) (by decide) dX8_digest_64 (fun c => ?_) (fun c => ?_)
    · have h := (if_pos c).symm.trans h
      exact J.sub [1, 2] rfl (hkx v1 h)
    · have h := (if_neg c).symm.trans h
      refine j_ldc2 X (v := 31) bw_1198 dX8_digest_67 ?_
      refine j_ldc2 X (v := 31) bw_1198 dX8_digest_70 ?_
      refine j_ldc2 X (v := 31) bw_1198 dX8_digest_73 ?_
      refine j_lload_n X 1 rfl rfl dX8_digest_76 ?_
      refine j_lmul X dX8_digest_77 ?_
      refine j_aload_n X 2 rfl rfl dX8_digest_78 ?_
      refine j_getr X cf6 pk_68 pl_68 2 rfl ⟨rfl, rfl⟩ 70 rfl bw_756 dX8_digest_79 ?_
      refine j_iload_n X 0 rfl rfl dX8_digest_82 ?_
      refine gd_elim h (fun g h => ?_)
      refine j_iald X pk_70 pl_70 g dX8_digest_83 ?_
      refine j_i2l X dX8_digest_84 ?_
      refine j_ladd X dX8_digest_85 ?_
      refine j_lmul X dX8_digest_86 ?_
      refine j_aload_n X 2 rfl rfl dX8_digest_87 ?_
      refine j_getr X cf6 pk_68 pl_68 3 rfl ⟨rfl, rfl⟩ 71 rfl bw_757 dX8_digest_88 ?_
      refine j_iload_n X 0 rfl rfl dX8_digest_91 ?_
      refine gd_elim h (fun g h => ?_)
      refine j_iald X pk_71 pl_71 g dX8_digest_92 ?_
      refine j_i2l X dX8_digest_93 ?_
      refine j_ladd X dX8_digest_94 ?_
      refine j_lmul X dX8_digest_95 ?_
      refine j_aload_n X 2 rfl rfl dX8_digest_96 ?_
      refine j_getr X cf6 pk_68 pl_68 4 rfl ⟨rfl, rfl⟩ 72 rfl bw_758 dX8_digest_97 ?_
      refine j_iload_n X 0 rfl rfl dX8_digest_100 ?_
      refine gd_elim h (fun g h => ?_)
      refine j_iald X pk_72 pl_72 g dX8_digest_101 ?_
      refine j_i2l X dX8_digest_102 ?_
      refine j_ladd X dX8_digest_103 ?_
      refine nm_elim h (fun x15 ex15 h => ?_)
      refine j_lstore_n X (L' := [(1, .long x15), (3, .int v3), (0, .ref (ad 68))]) ex15 rfl (by decide) rfl dX8_digest_104 ?_
      refine nm_elim h (fun x16 ex16 h => ?_)
      refine j_iinc1 X (L' := [(3, .int x16), (1, .long x15), (0, .ref (ad 68))]) 1 rfl (q := 1) (by decide) ex16 (by decide) rfl dX8_digest_105 ?_
      refine j_goto X (tgt := 59) (by decide) dX8_digest_108 ?_
      exact J.sub [0, 1, 2] rfl (ih x16 x15 h)
set_option maxHeartbeats 4000000 in
set_option maxRecDepth 100000 in
theorem jl_X8_digest_L113 {β : Type} {Γ : Cx} {E : Ev} {ad : Nat → Nat} (X : XC Γ E rm_X8_digest cX8_digest 4 RX8)    {σ : Sg} {kx : Int64 → Option (β)} {r : β}  (hkx : ∀ (v1 : Int64), kx v1 = some r → J Γ E 4 ad RF 85 σ 0 0 170 [(1, .long v1), (0, .ref (ad 68))] []) : ∀ n (v3 : Int32) (v1 : Int64), m_X8_digest_L113 σ kx n v3 v1 = some r → J Γ E 4 ad RF 85 σ 0 0 113 [(3, .int v3), (1, .long v1), (0, .ref (ad 68))] [] := by
  intro n
  induction n with
  | zero =>
    intro v3 v1 h
    cases h
  | succ n ih =>
    intro v3 v1 h
    rw [m_X8_digest_L113.eq_2] at h
    refine j_iload_n X 0 rfl rfl dX8_digest_113 ?_
    refine j_aload_n X 2 rfl rfl dX8_digest_114 ?_
    refine j_geti X cf6 pk_68 pl_68 5 rfl ⟨rfl, rfl⟩ bw_759 dX8_digest_115 ?_
    refine j_icmp_ge X (tgt := 170) (by decide) dX8_digest_118 (fun c => ?_) (fun c => ?_)
    · have h := (if_pos c).symm.trans h
      exact J.sub [1, 2] rfl (hkx v1 h)
    · have h := (if_neg c).symm.trans h
      refine j_ldc2 X (v := 31) bw_1198 dX8_digest_121 ?_
      refine j_ldc2 X (v := 31) bw_1198 dX8_digest_124 ?_
      refine j_ldc2 X (v := 31) bw_1198 dX8_digest_127 ?_
      refine j_lload_n X 1 rfl rfl dX8_digest_130 ?_
      refine j_lmul X dX8_digest_131 ?_
      refine j_aload_n X 2 rfl rfl dX8_digest_132 ?_
      refine j_getr X cf6 pk_68 pl_68 6 rfl ⟨rfl, rfl⟩ 73 rfl bw_760 dX8_digest_133 ?_
      refine j_iload_n X 0 rfl rfl dX8_digest_136 ?_
      refine gd_elim h (fun g h => ?_)
      refine j_iald X pk_73 pl_73 g dX8_digest_137 ?_
      refine j_i2l X dX8_digest_138 ?_
      refine j_ladd X dX8_digest_139 ?_
      refine j_lmul X dX8_digest_140 ?_
      refine j_aload_n X 2 rfl rfl dX8_digest_141 ?_
      refine j_getr X cf6 pk_68 pl_68 7 rfl ⟨rfl, rfl⟩ 74 rfl bw_761 dX8_digest_142 ?_
      refine j_iconst X (v := 5) (by decide) dX8_digest_145 ?_
      refine j_iload_n X 0 rfl rfl dX8_digest_146 ?_
      refine j_iadd X dX8_digest_147 ?_
      refine gd_elim h (fun g h => ?_)
      refine j_iald X pk_74 pl_74 g dX8_digest_148 ?_
      refine j_i2l X dX8_digest_149 ?_
      refine j_ladd X dX8_digest_150 ?_
      refine j_lmul X dX8_digest_151 ?_
      refine j_aload_n X 2 rfl rfl dX8_digest_152 ?_
      refine j_getr X cf6 pk_68 pl_68 7 rfl ⟨rfl, rfl⟩ 74 rfl bw_761 dX8_digest_153 ?_
      refine j_bipush X (v := 8) (by decide) dX8_digest_156 ?_
      refine j_iload_n X 0 rfl rfl dX8_digest_158 ?_
      refine j_iadd X dX8_digest_159 ?_
      refine gd_elim h (fun g h => ?_)
      refine j_iald X pk_74 pl_74 g dX8_digest_160 ?_
      refine j_i2l X dX8_digest_161 ?_
      refine j_ladd X dX8_digest_162 ?_
      refine nm_elim h (fun x19 ex19 h => ?_)
      refine j_lstore_n X (L' := [(1, .long x19), (3, .int v3), (0, .ref (ad 68))]) ex19 rfl (by decide) rfl dX8_digest_163 ?_
      refine nm_elim h (fun x20 ex20 h => ?_)
      refine j_iinc1 X (L' := [(3, .int x20), (1, .long x19), (0, .ref (ad 68))]) 1 rfl (q := 1) (by decide) ex20 (by decide) rfl dX8_digest_164 ?_
      refine j_goto X (tgt := 113) (by decide) dX8_digest_167 ?_
      exact J.sub [0, 1, 2] rfl (ih x20 x19 h)
set_option maxHeartbeats 4000000 in
set_option maxRecDepth 100000 in
theorem c_X8_digest (l : Launch) (E : Ev) (ad : Nat → Nat)    {σ : Sg} {r : Int64} (h : m_X8_digest  σ = some r) : Met l yX8_digest (wY yX8_digest cX8_digest 4 (some .long)) rm_X8_digest (va_Pc [.ref (ad 68)] (PreU E ad RF 85 σ)) (QcN E ad (some (.long r), σ)) 0 0 (EA E) := by
  refine met_of (L0 := [(0, .ref (ad 68))]) rfl (Nat.le_of_ble_eq_true rfl) rfl (fun Γ X Y => ?_)
  have X : XC Γ E rm_X8_digest cX8_digest 4 RX8 := X
  unfold m_X8_digest at h
  refine j_ldc2 X (v := 1583) bw_1197 dX8_digest_0 ?_
  refine nm_elim h (fun x1 ex1 h => ?_)
  refine j_lstore_n X (L' := [(1, .long x1), (0, .ref (ad 68))]) ex1 rfl (by decide) rfl dX8_digest_3 ?_
  refine j_iconst X (v := 0) (by decide) dX8_digest_4 ?_
  refine nm_elim h (fun x2 ex2 h => ?_)
  refine j_istore_n X (L' := [(3, .int x2), (1, .long x1), (0, .ref (ad 68))]) ex2 rfl (by decide) rfl dX8_digest_5 ?_
  refine J.sub [0, 1, 2] rfl ?_
  refine jl_X8_digest_L6 X  (fun x7 h => ?_) 1000 x2 x1 h
  refine j_iconst X (v := 0) (by decide) dX8_digest_31 ?_
  refine nm_elim h (fun x8 ex8 h => ?_)
  refine j_istore_n X (L' := [(3, .int x8), (1, .long x7), (0, .ref (ad 68))]) ex8 rfl (by decide) rfl dX8_digest_32 ?_
  refine J.sub [0, 1, 2] rfl ?_
  refine jl_X8_digest_L33 X  (fun x13 h => ?_) 1000 x8 x7 h
  refine j_iconst X (v := 0) (by decide) dX8_digest_57 ?_
  refine nm_elim h (fun x14 ex14 h => ?_)
  refine j_istore_n X (L' := [(3, .int x14), (1, .long x13), (0, .ref (ad 68))]) ex14 rfl (by decide) rfl dX8_digest_58 ?_
  refine J.sub [0, 1, 2] rfl ?_
  refine jl_X8_digest_L59 X  (fun x17 h => ?_) 1000 x14 x13 h
  refine j_iconst X (v := 0) (by decide) dX8_digest_111 ?_
  refine nm_elim h (fun x18 ex18 h => ?_)
  refine j_istore_n X (L' := [(3, .int x18), (1, .long x17), (0, .ref (ad 68))]) ex18 rfl (by decide) rfl dX8_digest_112 ?_
  refine J.sub [0, 1, 2] rfl ?_
  refine jl_X8_digest_L113 X  (fun x21 h => ?_) 1000 x18 x17 h
  refine j_lload_n X 0 rfl rfl dX8_digest_170 ?_
  refine j_aload_n X 1 rfl rfl dX8_digest_171 ?_
  refine j_getr X cf6 pk_68 pl_68 15 rfl ⟨rfl, rfl⟩ 78 rfl bw_769 dX8_digest_172 ?_
  refine j_iconst X (v := 3) (by decide) dX8_digest_175 ?_
  refine j_aload_n X 1 rfl rfl dX8_digest_176 ?_
  refine j_geti X cf6 pk_68 pl_68 16 rfl ⟨rfl, rfl⟩ bw_770 dX8_digest_177 ?_
  refine j_imul X dX8_digest_180 ?_
  refine bd1_elim h (fun r22 hc23 h => ?_)
  refine j_callSl X (As := [.long x21, .ref (ad 78), .int ((3 : Int32) * (σ.1 68 16))]) (rest := []) mf_X8_adds bw_1199 bw_1200 ⟨rfl, rfl⟩ ⟨Nat.le_of_ble_eq_true rfl, Nat.le_of_ble_eq_true rfl⟩ (c_X8_adds Γ.2.1 E ad pl_78 hc23) rfl rfl (Nat.le_of_ble_eq_true rfl) dX8_digest_181 ?_
  refine j_lstore_n X (L' := [(1, .long r22), (0, .ref (ad 68))]) rfl rfl (by decide) rfl dX8_digest_184 ?_
  refine j_lload_n X 0 rfl rfl dX8_digest_185 ?_
  refine j_aload_n X 1 rfl rfl dX8_digest_186 ?_
  refine j_getr X cf6 pk_68 pl_68 17 rfl ⟨rfl, rfl⟩ 79 rfl bw_771 dX8_digest_187 ?_
  refine j_iconst X (v := 4) (by decide) dX8_digest_190 ?_
  refine j_aload_n X 1 rfl rfl dX8_digest_191 ?_
  refine j_geti X cf6 pk_68 pl_68 18 rfl ⟨rfl, rfl⟩ bw_772 dX8_digest_192 ?_
  refine j_imul X dX8_digest_195 ?_
  refine bd1_elim h (fun r24 hc25 h => ?_)
  refine j_callSl X (As := [.long r22, .ref (ad 79), .int ((4 : Int32) * (σ.1 68 18))]) (rest := []) mf_X8_adds bw_1199 bw_1200 ⟨rfl, rfl⟩ ⟨Nat.le_of_ble_eq_true rfl, Nat.le_of_ble_eq_true rfl⟩ (c_X8_adds Γ.2.1 E ad pl_79 hc25) rfl rfl (Nat.le_of_ble_eq_true rfl) dX8_digest_196 ?_
  refine j_lstore_n X (L' := [(1, .long r24), (0, .ref (ad 68))]) rfl rfl (by decide) rfl dX8_digest_199 ?_
  refine j_lload_n X 0 rfl rfl dX8_digest_200 ?_
  refine j_aload_n X 1 rfl rfl dX8_digest_201 ?_
  refine j_getr X cf6 pk_68 pl_68 19 rfl ⟨rfl, rfl⟩ 80 rfl bw_773 dX8_digest_202 ?_
  refine j_iconst X (v := 4) (by decide) dX8_digest_205 ?_
  refine j_aload_n X 1 rfl rfl dX8_digest_206 ?_
  refine j_geti X cf6 pk_68 pl_68 20 rfl ⟨rfl, rfl⟩ bw_774 dX8_digest_207 ?_
  refine j_imul X dX8_digest_210 ?_
  refine bd1_elim h (fun r26 hc27 h => ?_)
  refine j_callSl X (As := [.long r24, .ref (ad 80), .int ((4 : Int32) * (σ.1 68 20))]) (rest := []) mf_X8_adds bw_1199 bw_1200 ⟨rfl, rfl⟩ ⟨Nat.le_of_ble_eq_true rfl, Nat.le_of_ble_eq_true rfl⟩ (c_X8_adds Γ.2.1 E ad pl_80 hc27) rfl rfl (Nat.le_of_ble_eq_true rfl) dX8_digest_211 ?_
  refine j_lstore_n X (L' := [(1, .long r26), (0, .ref (ad 68))]) rfl rfl (by decide) rfl dX8_digest_214 ?_
  refine j_ldc2 X (v := 31) bw_1198 dX8_digest_215 ?_
  refine j_ldc2 X (v := 31) bw_1198 dX8_digest_218 ?_
  refine j_lload_n X 0 rfl rfl dX8_digest_221 ?_
  refine j_lmul X dX8_digest_222 ?_
  refine j_aload_n X 1 rfl rfl dX8_digest_223 ?_
  refine j_getl X cf6 pk_68 pl_68 22 rfl ⟨rfl, rfl⟩ bw_776 dX8_digest_224 ?_
  refine j_ladd X dX8_digest_227 ?_
  refine j_lmul X dX8_digest_228 ?_
  refine j_aload_n X 1 rfl rfl dX8_digest_229 ?_
  refine j_getl X cf6 pk_68 pl_68 23 rfl ⟨rfl, rfl⟩ bw_777 dX8_digest_230 ?_
  refine j_ladd X dX8_digest_233 ?_
  exact j_lret X Y (ret_pl h) dX8_digest_234
