/-! ===== ENDS, STARTS, CALLS ===== -/
section ENDS
variable {Γ : Cx} {E : Ev} {rm : Room} {cc : ByteArray} {nL : Nat} {own : String} {ad : Nat → Nat} {ρ : Nat → Nat → Nat} {N : Nat} {σ : Sg} {cs sz pc : Nat} {L : List (Nat × Value)} {st : List Value} {ret : Option FieldType} {res : Option Value × Sg}
theorem j_iret {v : Int32} {ty : FieldType} (X : XC Γ E rm cc nL own) (Y : XQ Γ E ad (some ty) res) (hn : narrow ty (.int v) = .int v) (hr : (some (.int v), σ) = res) (hd : decode cc pc = .ok (.ireturn, 1)) : J Γ E nL ad RF 85 σ 0 0 pc L [.int v] := by
  subst hr
  intro H locs ls hl hP hA hS
  unfold CW
  rw [Y.2.2]
  exact W.zret (hlocks := Y.2.1) X.1 X.2.1 Y.1 hn (fun t ht hW => ⟨rfl, by rw [ht]; exact hP, hS.F ht⟩) hS.2.2 hd
theorem j_lret {v : Int64} (X : XC Γ E rm cc nL own) (Y : XQ Γ E ad (some .long) res) (hr : (some (.long v), σ) = res) (hd : decode cc pc = .ok (.lreturn, 1)) : J Γ E nL ad RF 85 σ 0 0 pc L [.long v] := by
  subst hr
  intro H locs ls hl hP hA hS
  unfold CW
  rw [Y.2.2]
  exact W.lret (hlocks := Y.2.1) X.1 X.2.1 Y.1 (fun t ht hW => ⟨rfl, by rw [ht]; exact hP, hS.F ht⟩) hS.2.2 hd
theorem j_vret (X : XC Γ E rm cc nL own) (Y : XQ Γ E ad none res) (hr : (none, σ) = res) (hd : decode cc pc = .ok (.return_, 1)) : J Γ E nL ad RF 85 σ 0 0 pc L [] := by
  subst hr
  intro H locs ls hl hP hA hS
  unfold CW
  rw [Y.2.2]
  exact W.vret (hlocks := Y.2.1) X.1 X.2.1 Y.1 (fun t ht hW => ⟨rfl, by rw [ht]; exact hP, hS.F ht⟩) hS.2.2 hd
theorem met_gen {l : Launch} {y : MethodName} {av : List Value} {L0 : List (Nat × Value)} {Qc : Array Value → State → Outcome → State → Prop} {mc ms : Nat} (hy : plainName y.cls = true) (hL : (lg_sl av).length ≤ nL) (hA : lv_args 0 av = L0)
    (body : ∀ Γ : Cx, XC Γ E rm cc nL y.cls → Γ.2.2.2.2.2.2.2.2.1.sig.returnType = ret → Γ.2.2.2.2.2.2.2.2.1.locks = false → Γ.2.2.2.2.2.2.2.2.1.name = y.name → Γ.2.2.2.2.2.2.2.2.2.2 = MQ Γ.2.2.2.2.2.2.2.1 Qc Γ.args Γ.s mc ms (EA E) → J Γ E nL ad ρ N σ 0 0 0 L0 []) :
    Met l y (wY y cc nL ret) rm (va_Pc av (PreU E ad ρ N σ)) Qc mc ms (EA E) := by
  refine Met.ofW (cc := cc) (maxL := nL) (ret := ret) hy rfl ?_
  intro p e s m args below meth c s₁ B hml hv
  obtain ⟨rfl, hP, hAD, hVM⟩ := hv
  have hts := atoms_spec (ws := wY y cc nL ret) B.pre
  have hown : s.vm.findClass y.cls = some m.cls := findClass_of_methodNamed B.named
  rw [lg_entry_eq]
  have hl := lv_entry av (n := nL) hL
  rw [hA] at hl
  exact body (p, l, e, rm, s, m, av.toArray, below, meth, c, MQ below Qc av.toArray s mc ms (EA E)) ⟨B.exec, B.bytes, hml, hown, fun w hw => hts w (List.mem_cons_of_mem _ hw), hVM, rfl⟩ B.returns B.notSynchronized (name_of_methodNamed B.named B.method).1 rfl s.heap [] _ hl hP hAD va_S.rf
theorem met_of {l : Launch} {y : MethodName} {av : List Value} {L0 : List (Nat × Value)} (hy : plainName y.cls = true) (hL : (lg_sl av).length ≤ nL) (hA : lv_args 0 av = L0)
    (body : ∀ Γ : Cx, XC Γ E rm cc nL y.cls → XQ Γ E ad ret res → J Γ E nL ad RF 85 σ 0 0 0 L0 []) : Met l y (wY y cc nL ret) rm (va_Pc av (PreU E ad RF 85 σ)) (QcN E ad res) 0 0 (EA E) :=
  met_gen hy hL hA (fun Γ X h1 h2 _ h4 => body Γ X ⟨h1, h2, h4⟩)
end ENDS
/-- what the tables say of a method: its code, its class, its arguments -/
def MFact (y : MethodName) (cc : ByteArray) (n : Nat) (ret : Option FieldType) (na : Nat) : Prop :=
  Cond.code y cc n ret ∈ BG ∧ Cond.initialized y.cls ∈ BG ∧ (y.cls ≠ "java/lang/invoke/MethodHandle" ∧ y.cls ≠ "java/lang/invoke/VarHandle" ∧ (parseMethodDescriptor y.desc).map (fun d => d.parameters.length) = some na) ∧ plainName y.cls = true
section CALLS
variable {Γ : Cx} {E : Ev} {rm rm' : Room} {cc cc' : ByteArray} {nL nL' na : Nat} {own : String} {ad : Nat → Nat} {σ : Sg} {pc : Nat} {L : List (Nat × Value)} {st rest As : List Value} {ret : Option FieldType} {res : Option Value × Sg} {y : MethodName} {index k ci : Nat} {C : String} {T : u_T} {F : Nat} {ty0 : Nat → FieldType}
theorem j_ofrun {a : Array Value} (hr : ∀ (H : Heap) (locs : List Loc) (ls : Array Slot), lv_has ls nL L → va_P E.1 vwCl (wl E ad RF 85 σ) H → AD ad 85 E.2.2.2.2 → va_S (EA E) Γ.s.heap H locs → va_Run Γ.1 Γ.2.1 Γ.2.2.1 Γ.2.2.2.1 Γ.2.2.2.2.1 Γ.2.2.2.2.2.1 Γ.2.2.2.2.2.2.1 Γ.2.2.2.2.2.2.2.1 Γ.2.2.2.2.2.2.2.2.1 Γ.2.2.2.2.2.2.2.2.2.1 H locs 0 0 0 0 (F0 Γ.m pc ls st) rest (QcN E ad res a) (EA E))
    (kk : J Γ E nL ad RF 85 res.2 0 0 (pc + 3) L (res.1.toList ++ rest)) : J Γ E nL ad RF 85 σ 0 0 pc L st := by
  intro H locs ls hl hP hA hS T hT X
  obtain ⟨v, st₀, t, T', L', h0, X', hL, e1, e2, ⟨hv, hP1, hF⟩, hst⟩ := hr H locs ls hl hP hA hS T hT X
  cases hv
  have hz : H.size ≤ T'.heap.size := by rw [e1, ← h0]; exact hF.1
  have hk : ∀ q : Nat, q < H.size → ¬ EA E q → T'.heap[q]? = H[q]? := fun q h1 h2 => by rw [e1, ← h0]; exact hF.2 q (by rw [h0]; exact h1) h2
  obtain ⟨t2, a1, b1⟩ := kk T'.heap (locs ++ L') ls hl (by rw [e1]; exact hP1) hA ⟨Nat.le_trans hS.1 hz, fun q h1 h2 => (hk q (Nat.lt_of_lt_of_le h1 hS.1) h2).trans (hS.2.1 q h1 h2), fun q hq => (List.mem_append.mp hq).elim (hS.2.2 q) (hL q)⟩ T' rfl X'
  exact ⟨t2, hst t2 a1, b1⟩
theorem vm_next {ρ : Nat → Nat → Nat} {N : Nat} {H : Heap} {locs : List Loc} {U : State} (X : XC Γ E rm cc nL own) (hP : va_P E.1 vwCl (wl E ad ρ N σ) H) (hA : AD ad N E.2.2.2.2) (hS : va_S (EA E) Γ.s.heap H locs) (hU : U.heap = H) (hW : Γ.s.WarmedH U.vm) : PreU E ad ρ N σ U :=
  ⟨by rw [hU]; exact hP, hA, VmOK.next X.2.2.2.2.2.1 hW (fun q h1 h2 => by rw [hU]; exact hS.2.1 q h1 h2) (by rw [hU]; exact hS.1)⟩
theorem call_b (X : XC Γ E rm cc nL own) (mf : MFact y cc' nL' ret na) (hr0 : rm'.cells = 0 ∧ rm'.slots = 0) (hR : rm'.frames + 1 ≤ rm.frames ∧ 8 + (nL' + 11) + rm'.locals ≤ rm.locals) (hw : Cond.methodLink own index y ∈ BG) : CallB Γ.2.2.2.1 Γ.s Γ.args own index y cc' nL' ret (wY y cc' nL' ret) rm' 0 0 na := by
  rw [X.2.2.2.2.2.2]
  exact callB_of na X.2.2.2.2.1 (good_wY mf.1) rfl hr0.1 hr0.2 (X.2.2.2.2.1 _ mf.2.1) (X.2.2.2.2.1 _ hw) mf.2.2.1 hR
theorem j_callV0 (X : XC Γ E rm cc nL own) (mf : MFact y cc' nL' ret na) (hw : Cond.methodLink own index y ∈ BG) (hi : Cond.instanceMethod y ∈ BG) (hse : Cond.selects C y y ∈ BG) (hr0 : rm'.cells = 0 ∧ rm'.slots = 0) (hR : rm'.frames + 1 ≤ rm.frames ∧ 8 + (nL' + 11) + rm'.locals ≤ rm.locals)
    (hC : CFact ci C T F ty0) (hk : k < 85) (hl : lay k = ci) (hM : Met Γ.2.1 y (wY y cc' nL' ret) rm' (va_Pc (.ref (ad k) :: As) (PreU E ad RF 85 σ)) (QcN E ad res) 0 0 (EA E)) (hn : As.length = na) (hst : st = As.reverse ++ .ref (ad k) :: rest) (hsm : (rest.map fun v => v.category).sum ≤ 8) (hd : decode cc pc = .ok (.invokevirtual index, 3))
    (kk : J Γ E nL ad RF 85 res.2 0 0 (pc + 3) L (res.1.toList ++ rest)) : J Γ E nL ad RF 85 σ 0 0 pc L st := by
  refine j_ofrun (a := (Value.ref (ad k) :: As).toArray) (fun H locs ls hlv hP hA hS => ?_) kk
  subst hst
  have hrc := va_recv X.2.2.2.2.2.1.1 hP hC.1 (wl_obj hk hl hC.2.2.2.2.2.2)
  exact va_runV ⟨X.1, X.2.1, X.2.2.1, X.2.2.2.1, X.2.2.2.2.1⟩ hM ⟨call_b X mf hr0 hR hw, X.2.2.2.2.1 _ hi, X.2.2.2.2.1 _ hse⟩ ⟨blindU, hrc, fun U hU hW => ⟨rfl, vm_next X hP hA hS hU hW⟩⟩ rfl hn hlv.1 rfl (lv_room hsm) hd ⟨Nat.zero_le _, Nat.zero_le _⟩
theorem j_callS0 (X : XC Γ E rm cc nL own) (mf : MFact y cc' nL' ret na) (hw : Cond.methodLink own index y ∈ BG) (hi : Cond.static y ∈ BG) (hr0 : rm'.cells = 0 ∧ rm'.slots = 0) (hR : rm'.frames + 1 ≤ rm.frames ∧ 8 + (nL' + 11) + rm'.locals ≤ rm.locals)
    (hM : Met Γ.2.1 y (wY y cc' nL' ret) rm' (va_Pc As (PreU E ad RF 85 σ)) (QcN E ad res) 0 0 (EA E)) (hn : As.length = na) (hst : st = As.reverse ++ rest) (hsm : (rest.map fun v => v.category).sum ≤ 8) (hd : decode cc pc = .ok (.invokestatic index, 3))
    (kk : J Γ E nL ad RF 85 res.2 0 0 (pc + 3) L (res.1.toList ++ rest)) : J Γ E nL ad RF 85 σ 0 0 pc L st := by
  refine j_ofrun (a := As.toArray) (fun H locs ls hlv hP hA hS => ?_) kk
  subst hst
  exact va_runS ⟨X.1, X.2.1, X.2.2.1, X.2.2.2.1, X.2.2.2.2.1⟩ hM ⟨call_b X mf hr0 hR hw, X.2.2.2.2.1 _ hi⟩ ⟨blindU, fun U hU hW => ⟨rfl, vm_next X hP hA hS hU hW⟩⟩ rfl hn hlv.1 rfl (lv_room hsm) hd ⟨Nat.zero_le _, Nat.zero_le _⟩
theorem j_callSN0 (X : XC Γ E rm cc nL own) (mf : MFact y cc' nL' ret na) (hw : Cond.methodLinkNest own index y RX7 ∈ nestL) (hi : Cond.static y ∈ BG) (hr0 : rm'.cells = 0 ∧ rm'.slots = 0) (hR : rm'.frames + 1 ≤ rm.frames ∧ 8 + (nL' + 11) + rm'.locals ≤ rm.locals)
    (hM : Met Γ.2.1 y (wY y cc' nL' ret) rm' (va_Pc As (PreU E ad RF 85 σ)) (QcN E ad res) 0 0 (EA E)) (hn : As.length = na) (hst : st = As.reverse ++ rest) (hsm : (rest.map fun v => v.category).sum ≤ 8) (hd : decode cc pc = .ok (.invokestatic index, 3))
    (kk : J Γ E nL ad RF 85 res.2 0 0 (pc + 3) L (res.1.toList ++ rest)) : J Γ E nL ad RF 85 σ 0 0 pc L st := by
  refine j_ofrun (a := As.toArray) (fun H locs ls hlv hP hA hS => ?_) kk
  subst hst
  have cb : va_CN Γ.2.2.2.1 Γ.s Γ.args own index y RX7 cc' nL' ret (wY y cc' nL' ret) rm' 0 0 na := by
    rw [X.2.2.2.2.2.2]
    exact va_cnB na X.2.2.2.2.1 (good_wY mf.1) rfl hr0.1 hr0.2 (X.2.2.2.2.2.1.2.1 _ hw) (X.2.2.2.2.1 _ mf.2.1) mf.2.2.1 hR
  exact va_runSN ⟨X.1, X.2.1, X.2.2.1, X.2.2.2.1, X.2.2.2.2.1⟩ hM ⟨cb, X.2.2.2.2.1 _ hi, trivial⟩ ⟨blindU, fun U hU hW => ⟨rfl, vm_next X hP hA hS hU hW⟩⟩ rfl hn hlv.1 rfl (lv_room hsm) hd ⟨Nat.zero_le _, Nat.zero_le _⟩
theorem j_mmax {a b : Int32} (X : XC Γ E rm cc nL own) (hw : Cond.methodLink own index Lib.Math.max.name ∈ BG) (h2 : Cond.static Lib.Math.max.name ∈ BG) (h3 : Cond.initialized "java/lang/Math" ∈ BG) (h4 : Cond.code Lib.Math.max.name Lib.Math.max.code 2 (some .int) ∈ BG) (hR : 1 ≤ rm.frames ∧ (rest.map fun v => v.category).sum + 13 ≤ rm.locals) (hd : decode cc pc = .ok (.invokestatic index, 3))
    (kk : J Γ E nL ad RF 85 σ 0 0 (pc + 3) L (.int (if a < b then b else a) :: rest)) : J Γ E nL ad RF 85 σ 0 0 pc L (.int b :: .int a :: rest) := by
  intro H locs ls hl hP hA hS
  have hR' : 1 ≤ Γ.2.2.2.1.frames ∧ (rest.map fun v => v.category).sum + 13 ≤ Γ.2.2.2.1.locals := by rw [X.2.2.2.2.2.2]; exact hR
  exact va_mmax X.1 X.2.1 (X.2.2.1.trans hl.1.symm) X.2.2.2.1 (X.2.2.2.2.1 _ hw) (X.2.2.2.2.1 _ h2) (X.2.2.2.2.1 _ h3) (X.2.2.2.2.1 _ h4) hR'.1 hR'.2 (Nat.zero_le _) (Nat.zero_le _) hd (kk H locs ls hl hP hA hS)
theorem j_mmin {a b : Int32} (X : XC Γ E rm cc nL own) (hw : Cond.methodLink own index Lib.Math.min.name ∈ BG) (h2 : Cond.static Lib.Math.min.name ∈ BG) (h3 : Cond.initialized "java/lang/Math" ∈ BG) (h4 : Cond.code Lib.Math.min.name Lib.Math.min.code 2 (some .int) ∈ BG) (hR : 1 ≤ rm.frames ∧ (rest.map fun v => v.category).sum + 13 ≤ rm.locals) (hd : decode cc pc = .ok (.invokestatic index, 3))
    (kk : J Γ E nL ad RF 85 σ 0 0 (pc + 3) L (.int (if b < a then b else a) :: rest)) : J Γ E nL ad RF 85 σ 0 0 pc L (.int b :: .int a :: rest) := by
  intro H locs ls hl hP hA hS
  have hR' : 1 ≤ Γ.2.2.2.1.frames ∧ (rest.map fun v => v.category).sum + 13 ≤ Γ.2.2.2.1.locals := by rw [X.2.2.2.2.2.2]; exact hR
  exact va_mmin X.1 X.2.1 (X.2.2.1.trans hl.1.symm) X.2.2.2.1 (X.2.2.2.2.1 _ hw) (X.2.2.2.2.1 _ h2) (X.2.2.2.2.1 _ h3) (X.2.2.2.2.1 _ h4) hR'.1 hR'.2 (Nat.zero_le _) (Nat.zero_le _) hd (kk H locs ls hl hP hA hS)
end CALLS
