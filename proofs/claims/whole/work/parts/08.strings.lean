/-! ===== STRINGS: the literals, and the JDK's own methods on them; printed by wip/gen/mkstr.py ===== -/
section STR
variable {Γ : Cx} {E : Ev} {rm rm' : Room} {cc cc' : ByteArray} {nL nL' na : Nat} {own : String} {ad : Nat → Nat} {ρ : Nat → Nat → Nat} {N : Nat} {σ σ' : Sg} {cs sz pc : Nat} {L : List (Nat × Value)} {st rest As : List Value} {ret : Option FieldType} {y : MethodName} {index i : Nat}
theorem j_ldcS (X : XC Γ E rm cc nL RX5) (hi : i < 6) (hx : litK i = index) (hd : decode cc pc = .ok (.ldc index, 2)) (kk : J Γ E nL ad ρ N σ cs sz (pc + 2) L (.ref (E.2.2.1 i) :: st)) : J Γ E nL ad ρ N σ cs sz pc L st := by
  subst hx
  exact fun H locs ls hl hP hA hS => va_ldcS X.1 X.2.1 X.2.2.2.1 (X.2.2.2.2.2.1.2.2.1 i hi) hd (kk H locs ls hl hP hA hS)
theorem j_compact (X : XC Γ E rm cc nL RJ0) (hw : Cond.fieldLink RJ0 index RJ0 "COMPACT_STRINGS" "Z" ∈ BG) (hd : decode cc pc = .ok (.getstatic index, 3)) (kk : J Γ E nL ad ρ N σ cs sz (pc + 3) L (.int 1 :: st)) : J Γ E nL ad ρ N σ cs sz pc L st :=
  fun H locs ls hl hP hA hS => va_gets X.1 X.2.1 X.2.2.2.2.2.1.2.2.2.2.1 hS X.2.2.2.1 (X.2.2.2.2.1 _ hw) (fun _ h => h) hd (kk H locs ls hl hP hA hS)
theorem j_form (X : XC Γ E rm cc nL RJ0) (hw : Cond.fieldLink RJ0 index RJ3 "SIOOBE_FORMATTER" "Ljava/util/function/BiFunction;" ∈ BG) (hd : decode cc pc = .ok (.getstatic index, 3)) (kk : ∀ v : Value, (v = .null ∨ ∃ t, v = .ref t) → J Γ E nL ad ρ N σ cs sz (pc + 3) L (v :: st)) : J Γ E nL ad ρ N σ cs sz pc L st := by
  intro H locs ls hl hP hA hS
  rcases X.2.2.2.2.2.1.2.2.2.2.2.2 with hZ | ⟨t, hZ⟩
  · exact va_gets X.1 X.2.1 hZ hS X.2.2.2.1 (X.2.2.2.2.1 _ hw) (fun _ h => h) hd (kk _ (.inl rfl) H locs ls hl hP hA hS)
  · exact va_gets X.1 X.2.1 hZ hS X.2.2.2.1 (X.2.2.2.2.1 _ hw) (fun _ h => h) hd (kk _ (.inr ⟨t, rfl⟩) H locs ls hl hP hA hS)
theorem str_get {o n d ref : String} {v : Value} {a : Nat} (X : XC Γ E rm cc nL own) (hF : va_OF o n d v a (EA E) Γ.s Γ.s.heap) (hw : Cond.fieldLink own index ref n d ∈ BG) (hro : ref = o) (hd : decode cc pc = .ok (.getfield index, 3)) (kk : J Γ E nL ad ρ N σ cs sz (pc + 3) L (v :: st)) : J Γ E nL ad ρ N σ cs sz pc L (.ref a :: st) := by
  subst hro
  intro H locs ls hl hP hA hS
  obtain ⟨cf, k, fi, f, cell, h1, h2, h3, h4, h5, h6⟩ := hF.kept hS.2.1
  exact W.getf X.1 X.2.1 X.2.2.2.1 (X.2.2.2.2.1 _ hw) h1 h2 h3 h4 (v := v) h5 rfl rfl hd (kk H locs ls hl hP hA hS)
theorem j_value (X : XC Γ E rm cc nL own) (hi : i < 6) (hw : Cond.fieldLink own index RJ0 "value" "[B" ∈ BG) (hd : decode cc pc = .ok (.getfield index, 3)) (kk : J Γ E nL ad ρ N σ cs sz (pc + 3) L (.ref (E.2.2.2.1 i) :: st)) : J Γ E nL ad ρ N σ cs sz pc L (.ref (E.2.2.1 i) :: st) :=
  str_get X (X.2.2.2.2.2.1.2.2.2.1.1 i hi).2.2.1 hw rfl hd kk
theorem j_coder (X : XC Γ E rm cc nL own) (hi : i < 6) (hw : Cond.fieldLink own index RJ0 "coder" "B" ∈ BG) (hd : decode cc pc = .ok (.getfield index, 3)) (kk : J Γ E nL ad ρ N σ cs sz (pc + 3) L (.int 0 :: st)) : J Γ E nL ad ρ N σ cs sz pc L (.ref (E.2.2.1 i) :: st) :=
  str_get X (X.2.2.2.2.2.1.2.2.2.1.1 i hi).2.1 hw rfl hd kk
theorem j_blen (X : XC Γ E rm cc nL own) (hi : i < 6) (hd : decode cc pc = .ok (.arraylength, 1)) (kk : J Γ E nL ad ρ N σ cs sz (pc + 1) L (.int (nI (litN.getD i 0)) :: st)) : J Γ E nL ad ρ N σ cs sz pc L (.ref (E.2.2.2.1 i) :: st) :=
  fun H locs ls hl hP hA hS => va_tlen X.1 X.2.1 (X.2.2.2.2.2.1.2.2.2.1.1 i hi).2.2.2 hS rfl hd (kk H locs ls hl hP hA hS)
theorem j_bald {k : Int32} (X : XC Γ E rm cc nL own) (hi : i < 6) (hin : ¬ (k < 0 ∨ litN.getD i 0 ≤ k.toNatClampNeg)) (hd : decode cc pc = .ok (.baload, 1)) (kk : J Γ E nL ad ρ N σ cs sz (pc + 1) L (.int ((litB.getD i []).getD k.toNatClampNeg 0) :: st)) : J Γ E nL ad ρ N σ cs sz pc L (.int k :: .ref (E.2.2.2.1 i) :: st) :=
  fun H locs ls hl hP hA hS => va_tb X.1 X.2.1 (X.2.2.2.2.2.1.2.2.2.1.1 i hi).2.2.2 hS hin rfl hd (kk H locs ls hl hP hA hS)
theorem j_callK0 {res : Option Value × Sg} (X : XC Γ E rm cc nL own) (hi6 : i < 6) (mf : MFact y cc' nL' ret na) (hw : Cond.methodLink own index y ∈ BG) (hi : Cond.instanceMethod y ∈ BG) (hse : Cond.selects RJ0 y y ∈ BG) (hr0 : rm'.cells = 0 ∧ rm'.slots = 0) (hR : rm'.frames + 1 ≤ rm.frames ∧ 8 + (nL' + 11) + rm'.locals ≤ rm.locals)
    (hM : Met Γ.2.1 y (wY y cc' nL' ret) rm' (va_Pc (.ref (E.2.2.1 i) :: As) (PreU E ad RF 85 σ)) (QcN E ad res) 0 0 (EA E)) (hn : As.length = na) (hst : st = As.reverse ++ .ref (E.2.2.1 i) :: rest) (hsm : (rest.map fun v => v.category).sum ≤ 8) (hd : decode cc pc = .ok (.invokevirtual index, 3))
    (kk : J Γ E nL ad RF 85 res.2 0 0 (pc + 3) L (res.1.toList ++ rest)) : J Γ E nL ad RF 85 σ 0 0 pc L st := by
  refine j_ofrun (a := (Value.ref (E.2.2.1 i) :: As).toArray) (fun H locs ls hlv hP hA hS => ?_) kk
  subst hst
  have hrc : ∃ cell : Cell, H[E.2.2.1 i]? = some cell ∧ cell.vm.isStatics = false ∧ Γ.s.vm.findClass RJ0 = some cell.cls := by
    obtain ⟨cell, h1, h2, h3, h4⟩ := ((X.2.2.2.2.2.1.2.2.2.1.1 i hi6).1).kept hS.2.1
    exact ⟨cell, h1, h2, h3⟩
  exact va_runV ⟨X.1, X.2.1, X.2.2.1, X.2.2.2.1, X.2.2.2.2.1⟩ hM ⟨call_b X mf hr0 hR hw, X.2.2.2.2.1 _ hi, X.2.2.2.2.1 _ hse⟩ ⟨blindU, hrc, fun U hU hW => ⟨rfl, vm_next X hP hA hS hU hW⟩⟩ rfl hn hlv.1 rfl (lv_room hsm) hd ⟨Nat.zero_le _, Nat.zero_le _⟩
theorem j_callKi {r : Int32} (X : XC Γ E rm cc nL own) (hi6 : i < 6) (mf : MFact y cc' nL' ret na) (hw : Cond.methodLink own index y ∈ BG) (hi : Cond.instanceMethod y ∈ BG) (hse : Cond.selects RJ0 y y ∈ BG) (hr0 : rm'.cells = 0 ∧ rm'.slots = 0) (hR : rm'.frames + 1 ≤ rm.frames ∧ 8 + (nL' + 11) + rm'.locals ≤ rm.locals)
    (hM : Met Γ.2.1 y (wY y cc' nL' ret) rm' (va_Pc (.ref (E.2.2.1 i) :: As) (PreU E ad RF 85 σ)) (QcN E ad (some (.int r), σ)) 0 0 (EA E)) (hn : As.length = na) (hst : st = As.reverse ++ .ref (E.2.2.1 i) :: rest) (hsm : (rest.map fun v => v.category).sum ≤ 8) (hd : decode cc pc = .ok (.invokevirtual index, 3))
    (kk : J Γ E nL ad RF 85 σ 0 0 (pc + 3) L (.int r :: rest)) : J Γ E nL ad RF 85 σ 0 0 pc L st := j_callK0 X hi6 mf hw hi hse hr0 hR hM hn hst hsm hd kk
end STR
theorem str_in {i : Nat} (hi : i < 6) : litN.getD i 0 < 8 := by
  have : ∀ i, i < 6 → litN.getD i 0 < 8 := by decide +kernel
  exact this i hi
abbrev rmS0 : Room := { frames := 0, cells := 0, slots := 0, locals := 0 }
abbrev rmS1 : Room := { frames := 1, cells := 0, slots := 0, locals := 22 }
abbrev rmS2 : Room := { frames := 2, cells := 0, slots := 0, locals := 43 }
abbrev rmS3 : Room := { frames := 3, cells := 0, slots := 0, locals := 64 }
abbrev rmSL : Room := { frames := 1, cells := 0, slots := 0, locals := 20 }
set_option maxHeartbeats 4000000 in
set_option maxRecDepth 100000 in
theorem c_coder (l : Launch) (E : Ev) (ad : Nat → Nat) {i : Nat} (hi : i < 6) {σ : Sg} : Met l yJ0_coder_7d493 (wY yJ0_coder_7d493 cJ0_coder_7d493 1 (some .byte)) rmS0 (va_Pc [.ref (E.2.2.1 i)] (PreU E ad RF 85 σ)) (QcN E ad (some (.int 0), σ)) 0 0 (EA E) := by
  refine met_of (L0 := [(0, .ref (E.2.2.1 i))]) rfl (Nat.le_of_ble_eq_true rfl) rfl (fun Γ X Y => ?_)
  have X : XC Γ E rmS0 cJ0_coder_7d493 1 RJ0 := X
  refine j_compact X bw_301 dJ0_coder_7d493_0 ?_
  refine j_if_eq X (tgt := 13) (by decide) dJ0_coder_7d493_3 (fun c => absurd c (by decide)) (fun c => ?_)
  refine j_aload_n X 0 rfl rfl dJ0_coder_7d493_6 ?_
  refine j_coder X hi bw_1203 dJ0_coder_7d493_7 ?_
  refine j_goto X (tgt := 14) (by decide) dJ0_coder_7d493_10 ?_
  exact j_iret X Y rfl rfl dJ0_coder_7d493_14
set_option maxHeartbeats 4000000 in
set_option maxRecDepth 100000 in
theorem c_latin (l : Launch) (E : Ev) (ad : Nat → Nat) {i : Nat} (hi : i < 6) {σ : Sg} : Met l yJ0_isLatin1_aae02 (wY yJ0_isLatin1_aae02 cJ0_isLatin1_aae02 1 (some .boolean)) rmS0 (va_Pc [.ref (E.2.2.1 i)] (PreU E ad RF 85 σ)) (QcN E ad (some (.int 1), σ)) 0 0 (EA E) := by
  refine met_of (L0 := [(0, .ref (E.2.2.1 i))]) rfl (Nat.le_of_ble_eq_true rfl) rfl (fun Γ X Y => ?_)
  have X : XC Γ E rmS0 cJ0_isLatin1_aae02 1 RJ0 := X
  refine j_compact X bw_301 dJ0_isLatin1_aae02_0 ?_
  refine j_if_eq X (tgt := 17) (by decide) dJ0_isLatin1_aae02_3 (fun c => absurd c (by decide)) (fun c => ?_)
  refine j_aload_n X 0 rfl rfl dJ0_isLatin1_aae02_6 ?_
  refine j_coder X hi bw_1203 dJ0_isLatin1_aae02_7 ?_
  refine j_if_ne X (tgt := 17) (by decide) dJ0_isLatin1_aae02_10 (fun c => absurd rfl c) (fun c => ?_)
  refine j_iconst X (v := 1) (by decide) dJ0_isLatin1_aae02_13 ?_
  refine j_goto X (tgt := 18) (by decide) dJ0_isLatin1_aae02_14 ?_
  exact j_iret X Y rfl rfl dJ0_isLatin1_aae02_18
set_option maxHeartbeats 4000000 in
set_option maxRecDepth 100000 in
theorem c_len (l : Launch) (E : Ev) (ad : Nat → Nat) {i : Nat} (hi : i < 6) {σ : Sg} : Met l yJ0_length_8abf5 (wY yJ0_length_8abf5 cJ0_length_8abf5 1 (some .int)) rmSL (va_Pc [.ref (E.2.2.1 i)] (PreU E ad RF 85 σ)) (QcN E ad (some (.int (nI (litN.getD i 0))), σ)) 0 0 (EA E) := by
  refine met_of (L0 := [(0, .ref (E.2.2.1 i))]) rfl (Nat.le_of_ble_eq_true rfl) rfl (fun Γ X Y => ?_)
  have X : XC Γ E rmSL cJ0_length_8abf5 1 RJ0 := X
  refine j_aload_n X 0 rfl rfl dJ0_length_8abf5_0 ?_
  refine j_value X hi bw_1202 dJ0_length_8abf5_1 ?_
  refine j_blen X hi dJ0_length_8abf5_4 ?_
  refine j_aload_n X 0 rfl rfl dJ0_length_8abf5_5 ?_
  refine j_callKi X hi (As := []) (rest := [.int (nI (litN.getD i 0))]) mf_J0_coder_7d493 bw_297 bw_298 bs_358 ⟨rfl, rfl⟩ ⟨Nat.le_of_ble_eq_true rfl, Nat.le_of_ble_eq_true rfl⟩ (c_coder Γ.2.1 E ad hi) rfl rfl (Nat.le_of_ble_eq_true rfl) dJ0_length_8abf5_6 ?_
  refine j_ishr X dJ0_length_8abf5_9 ?_
  refine j_topi (sc_shr0 (by have := str_in hi; omega)).symm ?_
  exact j_iret X Y rfl rfl dJ0_length_8abf5_10
set_option maxHeartbeats 4000000 in
set_option maxRecDepth 100000 in
theorem c_pci (l : Launch) (E : Ev) (ad : Nat → Nat) {a b : Int32} (h0 : ¬ a < 0) (h1 : a < b) {v : Value} (hv : v = .null ∨ ∃ t, v = .ref t) {σ : Sg} : Met l yJ3_checkIndex_8e157 (wY yJ3_checkIndex_8e157 cJ3_checkIndex_8e157 3 (some .int)) rmS0 (va_Pc [.int a, .int b, v] (PreU E ad RF 85 σ)) (QcN E ad (some (.int a), σ)) 0 0 (EA E) := by
  rcases hv with rfl | ⟨t, rfl⟩
  · refine met_of (L0 := [(0, .int a), (1, .int b), (2, .null)]) rfl (Nat.le_of_ble_eq_true rfl) rfl (fun Γ X Y => ?_)
    have X : XC Γ E rmS0 cJ3_checkIndex_8e157 3 RJ3 := X
    refine j_iload_n X 0 rfl rfl dJ3_checkIndex_8e157_0 ?_
    refine j_if_lt X (tgt := 9) (by decide) dJ3_checkIndex_8e157_1 (fun c => absurd c h0) (fun c => ?_)
    refine j_iload_n X 0 rfl rfl dJ3_checkIndex_8e157_4 ?_
    refine j_iload_n X 1 rfl rfl dJ3_checkIndex_8e157_5 ?_
    refine j_icmp_lt X (tgt := 16) (by decide) dJ3_checkIndex_8e157_6 (fun c => ?_) (fun c => absurd h1 c)
    refine j_iload_n X 0 rfl rfl dJ3_checkIndex_8e157_16 ?_
    exact j_iret X Y rfl rfl dJ3_checkIndex_8e157_17
  · refine met_of (L0 := [(0, .int a), (1, .int b), (2, .ref t)]) rfl (Nat.le_of_ble_eq_true rfl) rfl (fun Γ X Y => ?_)
    have X : XC Γ E rmS0 cJ3_checkIndex_8e157 3 RJ3 := X
    refine j_iload_n X 0 rfl rfl dJ3_checkIndex_8e157_0 ?_
    refine j_if_lt X (tgt := 9) (by decide) dJ3_checkIndex_8e157_1 (fun c => absurd c h0) (fun c => ?_)
    refine j_iload_n X 0 rfl rfl dJ3_checkIndex_8e157_4 ?_
    refine j_iload_n X 1 rfl rfl dJ3_checkIndex_8e157_5 ?_
    refine j_icmp_lt X (tgt := 16) (by decide) dJ3_checkIndex_8e157_6 (fun c => ?_) (fun c => absurd h1 c)
    refine j_iload_n X 0 rfl rfl dJ3_checkIndex_8e157_16 ?_
    exact j_iret X Y rfl rfl dJ3_checkIndex_8e157_17
set_option maxHeartbeats 4000000 in
set_option maxRecDepth 100000 in
theorem c_sci (l : Launch) (E : Ev) (ad : Nat → Nat) {a b : Int32} (h0 : ¬ a < 0) (h1 : a < b) {σ : Sg} : Met l yJ0_checkIndex_df160 (wY yJ0_checkIndex_df160 cJ0_checkIndex_df160 2 none) rmS1 (va_Pc [.int a, .int b] (PreU E ad RF 85 σ)) (QcN E ad (none, σ)) 0 0 (EA E) := by
  refine met_of (L0 := [(0, .int a), (1, .int b)]) rfl (Nat.le_of_ble_eq_true rfl) rfl (fun Γ X Y => ?_)
  have X : XC Γ E rmS1 cJ0_checkIndex_df160 2 RJ0 := X
  refine j_iload_n X 0 rfl rfl dJ0_checkIndex_df160_0 ?_
  refine j_iload_n X 1 rfl rfl dJ0_checkIndex_df160_1 ?_
  refine j_form X bw_317 dJ0_checkIndex_df160_2 (fun v hv => ?_)
  refine j_callSi X (As := [.int a, .int b, v]) (rest := []) mf_J3_checkIndex_8e157 bw_319 bw_320 ⟨rfl, rfl⟩ ⟨Nat.le_of_ble_eq_true rfl, Nat.le_of_ble_eq_true rfl⟩ (c_pci Γ.2.1 E ad h0 h1 hv) rfl rfl (Nat.le_of_ble_eq_true rfl) dJ0_checkIndex_df160_5 ?_
  refine j_pop X rfl dJ0_checkIndex_df160_8 ?_
  exact j_vret X Y rfl dJ0_checkIndex_df160_9
set_option maxHeartbeats 4000000 in
set_option maxRecDepth 100000 in
theorem c_l1c (l : Launch) (E : Ev) (ad : Nat → Nat) {i : Nat} (hi : i < 6) {k : Int32} (hk : ¬ (k < 0 ∨ litN.getD i 0 ≤ k.toNatClampNeg)) {σ : Sg} : Met l yJ1_charAt_3b067 (wY yJ1_charAt_3b067 cJ1_charAt_3b067 2 (some .char)) rmS2 (va_Pc [.ref (E.2.2.2.1 i), .int k] (PreU E ad RF 85 σ)) (QcN E ad (some (.int (chS i k)), σ)) 0 0 (EA E) := by
  refine met_of (L0 := [(0, .ref (E.2.2.2.1 i)), (1, .int k)]) rfl (Nat.le_of_ble_eq_true rfl) rfl (fun Γ X Y => ?_)
  have X : XC Γ E rmS2 cJ1_charAt_3b067 2 RJ1 := X
  have hlt : k < nI (litN.getD i 0) := by
    have hN := str_in hi
    obtain ⟨j, hj, rfl⟩ := vp_in_of (show vp_in k (litN.getD i 0) from hk) (by omega)
    exact nI_lt hj (by omega)
  refine j_iload_n X 1 rfl rfl dJ1_charAt_3b067_0 ?_
  refine j_aload_n X 0 rfl rfl dJ1_charAt_3b067_1 ?_
  refine j_blen X hi dJ1_charAt_3b067_2 ?_
  refine j_callSv X (As := [.int k, .int (nI (litN.getD i 0))]) (rest := []) mf_J0_checkIndex_df160 bw_314 bw_315 ⟨rfl, rfl⟩ ⟨Nat.le_of_ble_eq_true rfl, Nat.le_of_ble_eq_true rfl⟩ (c_sci Γ.2.1 E ad (fun q => hk (.inl q)) hlt) rfl rfl (Nat.le_of_ble_eq_true rfl) dJ1_charAt_3b067_3 ?_
  refine j_aload_n X 0 rfl rfl dJ1_charAt_3b067_6 ?_
  refine j_iload_n X 1 rfl rfl dJ1_charAt_3b067_7 ?_
  refine j_bald X hi hk dJ1_charAt_3b067_8 ?_
  refine j_sipush X (v := 255) (by decide) dJ1_charAt_3b067_9 ?_
  refine j_iand X dJ1_charAt_3b067_12 ?_
  refine j_i2c X dJ1_charAt_3b067_13 ?_
  refine j_topi (x := chS i k) (sc_c2 _).symm ?_
  exact j_iret X Y (sc_nar _) rfl dJ1_charAt_3b067_14
set_option maxHeartbeats 4000000 in
set_option maxRecDepth 100000 in
theorem c_char (l : Launch) (E : Ev) (ad : Nat → Nat) {i : Nat} (hi : i < 6) {k : Int32} (hk : ¬ (k < 0 ∨ litN.getD i 0 ≤ k.toNatClampNeg)) {σ : Sg} : Met l yJ0_charAt_5068e (wY yJ0_charAt_5068e cJ0_charAt_5068e 2 (some .char)) rmS3 (va_Pc [.ref (E.2.2.1 i), .int k] (PreU E ad RF 85 σ)) (QcN E ad (some (.int (chS i k)), σ)) 0 0 (EA E) := by
  refine met_of (L0 := [(0, .ref (E.2.2.1 i)), (1, .int k)]) rfl (Nat.le_of_ble_eq_true rfl) rfl (fun Γ X Y => ?_)
  have X : XC Γ E rmS3 cJ0_charAt_5068e 2 RJ0 := X
  refine j_aload_n X 0 rfl rfl dJ0_charAt_5068e_0 ?_
  refine j_callKi X hi (As := []) (rest := []) mf_J0_isLatin1_aae02 bw_307 bw_308 bs_368 ⟨rfl, rfl⟩ ⟨Nat.le_of_ble_eq_true rfl, Nat.le_of_ble_eq_true rfl⟩ (c_latin Γ.2.1 E ad hi) rfl rfl (Nat.le_of_ble_eq_true rfl) dJ0_charAt_5068e_1 ?_
  refine j_if_eq X (tgt := 16) (by decide) dJ0_charAt_5068e_4 (fun c => absurd c (by decide)) (fun c => ?_)
  refine j_aload_n X 0 rfl rfl dJ0_charAt_5068e_7 ?_
  refine j_value X hi bw_1202 dJ0_charAt_5068e_8 ?_
  refine j_iload_n X 1 rfl rfl dJ0_charAt_5068e_11 ?_
  refine j_callSi X (As := [.ref (E.2.2.2.1 i), .int k]) (rest := []) mf_J1_charAt_3b067 bw_311 bw_312 ⟨rfl, rfl⟩ ⟨Nat.le_of_ble_eq_true rfl, Nat.le_of_ble_eq_true rfl⟩ (c_l1c Γ.2.1 E ad hi hk) rfl rfl (Nat.le_of_ble_eq_true rfl) dJ0_charAt_5068e_12 ?_
  exact j_iret X Y (sc_nar _) rfl dJ0_charAt_5068e_15
section STR2
variable {Γ : Cx} {E : Ev} {rm : Room} {cc : ByteArray} {nL : Nat} {own : String} {ad : Nat → Nat} {σ : Sg} {pc : Nat} {L : List (Nat × Value)} {st : List Value} {index i : Nat}
theorem j_strlen (X : XC Γ E rm cc nL own) (hi : i < 6) (hR : rmSL.frames + 1 ≤ rm.frames ∧ 8 + (1 + 11) + rmSL.locals ≤ rm.locals) (hw : Cond.methodLink own index yJ0_length_8abf5 ∈ BG) (hsm : (st.map fun v => v.category).sum ≤ 8) (hd : decode cc pc = .ok (.invokevirtual index, 3)) (kk : J Γ E nL ad RF 85 σ 0 0 (pc + 3) L (.int (nI (litN.getD i 0)) :: st)) : J Γ E nL ad RF 85 σ 0 0 pc L (.ref (E.2.2.1 i) :: st) :=
  j_callKi X hi (As := []) (rest := st) mf_J0_length_8abf5 hw bw_294 bs_354 ⟨rfl, rfl⟩ hR (c_len Γ.2.1 E ad hi) rfl rfl hsm hd kk
theorem j_charAt {k : Int32} (X : XC Γ E rm cc nL own) (hi : i < 6) (hk : ¬ (k < 0 ∨ litN.getD i 0 ≤ k.toNatClampNeg)) (hR : rmS3.frames + 1 ≤ rm.frames ∧ 8 + (2 + 11) + rmS3.locals ≤ rm.locals) (hw : Cond.methodLink own index yJ0_charAt_5068e ∈ BG) (hsm : (st.map fun v => v.category).sum ≤ 8) (hd : decode cc pc = .ok (.invokevirtual index, 3)) (kk : J Γ E nL ad RF 85 σ 0 0 (pc + 3) L (.int (chS i k) :: st)) : J Γ E nL ad RF 85 σ 0 0 pc L (.int k :: .ref (E.2.2.1 i) :: st) :=
  j_callKi X hi (As := [.int k]) (rest := st) mf_J0_charAt_5068e hw bw_304 bs_364 ⟨rfl, rfl⟩ hR (c_char Γ.2.1 E ad hi hk) rfl rfl hsm hd kk
end STR2
