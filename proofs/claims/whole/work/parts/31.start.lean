/-! ===== THE LAW'S START: printed by wip/gen/mkstart.py ===== -/
def sg0 : Sg := (fun _ _ => 0, fun _ _ => 0)
theorem bg_tbl {w : Cond} (h : w ∈ BG) : w ∈ lw_tbl := (List.mem_filter.mp h).1
theorem st_arr {s : State} {args : Array Value} {ty : FieldType} (h : (Cond.arrayClass ty).before args s = true) (hra : ∀ cA, va_RA s cA ty = (s.vm.findClass ("[" ++ ty.toString) = some cA)) : ∃ cA, ArrOfT s cA ty ∧ va_RA s cA ty := by
  obtain ⟨c, k, comp, h1, h2, h3⟩ := Cond.arrayClass_spec (args := args) (first := s) (o := none) (s := s) (idx := []) h
  exact ⟨c, fun n z => ⟨fun k h => (by cases h), k, h2, comp, h3⟩, by rw [hra]; exact h1⟩
abbrev tmS (i : Nat) : Term := .string RX5 (litK i)
abbrev gv1 : Cond := Jvm.Cond.and given_1 narrow_1
theorem st_ex : ∀ i, i < 6 → Cond.exactly (tmS i) "java/lang/String" ∈ flatC gv1 := by decide +kernel
theorem st_co : ∀ i, i < 6 → Cond.eq (.field (tmS i) "java/lang/String" "coder" "B") (.int 0) ∈ flatC gv1 := by decide +kernel
theorem st_ar : ∀ i, i < 6 → Cond.arrayOf (.field (tmS i) "java/lang/String" "value" "[B") .byte ∈ flatC gv1 := by decide +kernel
theorem st_le : ∀ i, i < 6 → Cond.eq (.length (.field (tmS i) "java/lang/String" "value" "[B")) (.int (Int32.ofNat (litN.getD i 0))) ∈ flatC gv1 := by decide +kernel
theorem st_el : ∀ i, i < 6 → ∀ j, j < litN.getD i 0 → Cond.eq (.elem (.field (tmS i) "java/lang/String" "value" "[B") (.int (Int32.ofNat j))) (.int ((litB.getD i []).getD j 0)) ∈ flatC gv1 := by decide +kernel
theorem st_ne : ∀ i, i < 6 → ∀ j, j < 6 → i ≠ j → Cond.not (Cond.eq (tmS i) (tmS j)) ∈ flatC gv1 ∨ Cond.not (Cond.eq (tmS j) (tmS i)) ∈ flatC gv1 := by decide +kernel
theorem st_cs : Cond.eq (.static "java/lang/String" "COMPACT_STRINGS" "Z") (.int 1) ∈ flatC gv1 := by decide +kernel
theorem st_fo : Cond.isRef (.static "jdk/internal/util/Preconditions" "SIOOBE_FORMATTER" "Ljava/util/function/BiFunction;") ∈ flatC gv1 := by decide +kernel
theorem st_sr : ∀ i, i < 6 → Cond.stringRef RX5 (litK i) (litT i) ∈ lw_tbl := by decide +kernel
theorem st_nl : ∀ w ∈ nestL, w ∈ lw_tbl := by decide +kernel
theorem st_l1 : Cond.laysStatic "java/lang/String" "COMPACT_STRINGS" "Z" ∈ lw_tbl := by decide +kernel
theorem st_l2 : Cond.laysStatic "jdk/internal/util/Preconditions" "SIOOBE_FORMATTER" "Ljava/util/function/BiFunction;" ∈ lw_tbl := by decide +kernel
theorem st_i1 : Cond.initialized "java/lang/String" ∈ lw_tbl := by decide +kernel
theorem st_i2 : Cond.initialized "jdk/internal/util/Preconditions" ∈ lw_tbl := by decide +kernel
theorem st_k {C : String} {T : u_T} {F ci : Nat} {ty0 : Nat → FieldType} {s : State} {args : Array Value} (hC : CFact ci C T F ty0) (hts : ∀ w ∈ lw_tbl, w.before args s = true) {n : Nat} (hi : Cond.instantiable C n ∈ BG) : ∃ (cC : ClassId) (iS : Nat → Nat), u_Kn s C T F cC iS :=
  u_known (n := n) hts (fun w h => bg_tbl (hC.2.1 w h)) (hts _ (bg_tbl hi))
theorem st_vm {s : State} {b : Nat} (hts : ∀ w ∈ lw_tbl, w.before #[Value.ref b] s = true) (hgv : gv1.before #[Value.ref b] s = true) : ∃ E : Ev, VmOK E s ∧ E.2.2.2.2 = s.heap.size := by
  have hs := flat_of_before _ hgv
  obtain ⟨c0, i0, k0⟩ := st_k cf0 hts bw_143
  obtain ⟨c1, i1, k1⟩ := st_k cf1 hts bw_25
  obtain ⟨c2, i2, k2⟩ := st_k cf2 hts bw_131
  obtain ⟨c3, i3, k3⟩ := st_k cf3 hts bw_100
  obtain ⟨c4, i4, k4⟩ := st_k cf4 hts bw_31
  obtain ⟨c5, i5, k5⟩ := st_k cf5 hts bw_17
  obtain ⟨c6, i6, k6⟩ := st_k cf6 hts bw_745
  obtain ⟨tA, a1, a2⟩ := st_arr (hts _ (bg_tbl bw_57)) (fun _ => rfl)
  obtain ⟨tZ, z1, z2⟩ := st_arr (hts _ (bg_tbl bw_836)) (fun _ => rfl)
  have hA : ∀ a : Nat, a < s.heap.size → ¬ (fun q : Nat => s.heap.size ≤ q) a := fun a h => Nat.not_le.mpr h
  obtain ⟨adK, adV, hS, hE⟩ := vk_Sof (args := #[Value.ref b]) (s := s) (N := 6) (tm := tmS) (len := litN) (byt := litB) (A := fun q : Nat => s.heap.size ≤ q) (fun i hi => by have := str_in hi; omega) (fun i hi => hs _ (st_ex i hi)) (fun i hi => hs _ (st_co i hi)) (fun i hi => hs _ (st_ar i hi)) (fun i hi => hs _ (st_le i hi)) (fun i hi j hj => hs _ (st_el i hi j hj)) (fun i j hi hj h => (st_ne i hi j hj h).elim (fun q => .inl (hs _ q)) (fun q => .inr (hs _ q))) hA
  refine ⟨((fun k => [c0, c1, c2, c3, c4, c5, c6].getD k c0, fun k => [i0, i1, i2, i3, i4, i5, i6].getD k i0), (tA, tZ), adK, adV, s.heap.size), ⟨⟨?_, ?_⟩, fun w hw => va_Nw.of ?_ (hts w (st_nl w hw)), fun i hi => vk_R.of (hts _ (st_sr i hi)) (hE i hi), hS, va_Zof (hts _ st_l1) (hts _ st_i1) (va_eqi (hs _ st_cs)) hA, Nat.le_refl _, va_Zqof (hts _ st_l2) (hts _ st_i2) (hs _ st_fo) hA⟩, rfl⟩
  · intro k q hq
    match k, hq with
    | 0, hq => cases hq; exact k0
    | 1, hq => cases hq; exact k1
    | 2, hq => cases hq; exact k2
    | 3, hq => cases hq; exact k3
    | 4, hq => cases hq; exact k4
    | 5, hq => cases hq; exact k5
    | 6, hq => cases hq; exact k6
    | k + 7, hq => simp [vwCl] at hq
  · intro k q hq
    match k, hq with
    | 0, hq => cases hq; exact ⟨a1, a2⟩
    | 1, hq => cases hq; exact ⟨z1, z2⟩
    | k + 2, hq => simp at hq
  · simp only [nestL, List.mem_cons, List.not_mem_nil, or_false] at hw
    rcases hw with rfl | rfl | rfl | rfl | rfl | rfl <;> rfl
set_option maxHeartbeats 4000000 in
set_option maxRecDepth 100000 in
theorem law_start {p : Program} {e : Env} {s : State} {m : MethodId} {below : List Frame} {meth : Method} {c : Code} (l : Launch) {b M : Nat} {xs : Nat → Int32} (hM : M ≤ 320) (C0 : lw_At p s m meth c b M xs) {Rel : Sg → Prop} (hSp : Sp Rel) {σe : Sg} (he : m_X8_empties (kX8 (zi (kX7 (zi sg0 0)) 68)) = some σe) (hR : Rel (sl σe 68 23 1)) : W p l e room_1 s m #[Value.ref b] below meth c s.heap [] 0 0 (lw_Z below #[Value.ref b] s) (entryFrame m ([Value.ref b] : List Value).toArray 4) := by
  obtain ⟨hx, hb, hr, hml, hown, hts, hX, hbl, hlocks, hgv⟩ := C0
  obtain ⟨E, hVM, hB0⟩ := st_vm hts hgv
  rw [lg_entry_eq]
  have hl := lv_entry ([.ref b]) (n := 4) (Nat.le_of_ble_eq_true rfl)
  have hl : lv_has ((lg_sl [Value.ref b] ++ List.replicate (4 - (lg_sl [Value.ref b]).length) Slot.unset).toArray) 4 [(0, .ref b)] := hl
  have X : XC (p, l, e, room_1, s, m, #[Value.ref b], below, meth, c, lw_Z below #[Value.ref b] s) E room_1 code 4 RL := ⟨hx, hb, hml, hown, fun w h => hts w (bg_tbl h), hVM, rfl⟩
  have Z : XL (p, l, e, room_1, s, m, #[Value.ref b], below, meth, c, lw_Z below #[Value.ref b] s) E b M xs := ⟨hX, hbl, rfl, hB0, hr, hlocks, rfl⟩
  have hJ : J (p, l, e, room_1, s, m, #[Value.ref b], below, meth, c, lw_Z below #[Value.ref b] s) E 4 (fun _ => 0) rho0 0 sg0 0 0 0 [(0, .ref b)] [] := by
    generalize (p, l, e, room_1, s, m, #[Value.ref b], below, meth, c, lw_Z below #[Value.ref b] s) = Γ at X Z ⊢
    refine j_new X cf5 cd5 pl_0 rho0_RB bw_16 bw_17 bw_1 ⟨Nat.le_of_ble_eq_true rfl, Nat.le_of_ble_eq_true rfl⟩ dL_law_0 (fun ad1 hag1 => ?_)
    refine j_dup X rfl dL_law_3 ?_
    have hr1 := rho0_RB.up (Nat.le_succ 0)
    refine j_callI X (As := []) (rest := [.ref (ad1 0)]) mf_X7_init rfl bw_18 bw_19 ⟨rfl, rfl⟩ ⟨Nat.le_of_ble_eq_true rfl, Nat.le_of_ble_eq_true rfl⟩ ⟨Nat.le_of_ble_eq_true rfl, Nat.le_of_ble_eq_true rfl⟩ (c_X7_init Γ.2.1 E ad1 rho0 (zi sg0 0) hr1) rfl rfl (Nat.le_of_ble_eq_true rfl) dL_law_4 (fun ad2 hag2 => ?_)
    rw [← hag2 0 (by omega)]
    have hr2 := rX7_RB hr1
    refine j_astore_n X (L' := [(1, .ref (ad2 0)), (0, .ref b)]) rfl rfl (by decide) rfl dL_law_7 ?_
    refine j_new X cf6 cd6 pl_68 hr2 bw_744 bw_745 bw_8 ⟨Nat.le_of_ble_eq_true rfl, Nat.le_of_ble_eq_true rfl⟩ dL_law_8 (fun ad3 hag3 => ?_)
    rw [← hag3 0 (by omega)]
    have hr3 := hr2.up (Nat.le_succ 68)
    refine j_dup X rfl dL_law_11 ?_
    refine j_callI X (As := []) (rest := [.ref (ad3 68)]) mf_X8_init rfl bw_746 bw_747 ⟨rfl, rfl⟩ ⟨Nat.le_of_ble_eq_true rfl, Nat.le_of_ble_eq_true rfl⟩ ⟨Nat.le_of_ble_eq_true rfl, Nat.le_of_ble_eq_true rfl⟩ (c_X8_init Γ.2.1 E ad3 he hr3) rfl rfl (Nat.le_of_ble_eq_true rfl) dL_law_12 (fun ad4 hag4 => ?_)
    rw [← hag4 68 (by omega), ← hag4 0 (by omega)]
    refine j_astore_n X (L' := [(2, .ref (ad4 68)), (1, .ref (ad4 0)), (0, .ref b)]) rfl rfl (by decide) rfl dL_law_15 ?_
    refine j_iconst X (v := nI 0) (by decide) dL_law_16 ?_
    refine j_istore_n X (L' := [(3, .int (nI 0)), (2, .ref (ad4 68)), (1, .ref (ad4 0)), (0, .ref b)]) rfl rfl (by decide) rfl dL_law_17 ?_
    exact law_loop hM X Z ⟨Nat.le_of_ble_eq_true rfl, Nat.le_of_ble_eq_true rfl⟩ hSp (M + 5) 0 _ (by omega) (by omega) hR
  exact hJ s.heap [] _ hl (fun k q h => by simp [wl] at h) ⟨fun i j h => absurd h (Nat.not_lt_zero i), fun k h => absurd h (Nat.not_lt_zero k)⟩ va_S.rf
