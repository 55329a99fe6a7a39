/-! ===== HELP: the words that the mirrors are made of, and how a walk takes them apart ===== -/
def nm {α β : Type} (a : α) (f : α → β) : β := f a
def bd1 {α β : Type} (o : Option α) (f : α → Option β) : Option β := match o with
  | none => none
  | some a => f a
def bd2 {α₁ α₂ β : Type} (o : Option (α₁ × α₂)) (f : α₁ → α₂ → Option β) : Option β := match o with
  | none => none
  | some (a, b) => f a b
def bd3 {α₁ α₂ α₃ β : Type} (o : Option (α₁ × α₂ × α₃)) (f : α₁ → α₂ → α₃ → Option β) : Option β := match o with
  | none => none
  | some (a, b, c) => f a b c
def bd4 {α₁ α₂ α₃ α₄ β : Type} (o : Option (α₁ × α₂ × α₃ × α₄)) (f : α₁ → α₂ → α₃ → α₄ → Option β) : Option β := match o with
  | none => none
  | some (a, b, c, d) => f a b c d
theorem nm_elim {α β : Type} {a : α} {f : α → Option β} {b : β} {P : Prop} (h : nm a f = some b) (k : ∀ x, x = a → f x = some b → P) : P := k a rfl h
theorem gd_elim {β : Type} {c : Prop} [Decidable c] {a : Option β} {b : β} {P : Prop} (h : (if c then none else a) = some b) (k : ¬ c → a = some b → P) : P := by
  by_cases q : c
  · rw [if_pos q] at h
    cases h
  · rw [if_neg q] at h
    exact k q h
theorem bd1_elim {α β : Type} {o : Option α} {f : α → Option β} {b : β} {P : Prop} (h : bd1 o f = some b) (k : ∀ x, o = some x → f x = some b → P) : P := by
  cases o with
  | none => cases h
  | some x => exact k x rfl h
theorem bd2_elim {α₁ α₂ β : Type} {o : Option (α₁ × α₂)} {f : α₁ → α₂ → Option β} {b : β} {P : Prop} (h : bd2 o f = some b) (k : ∀ x y, o = some (x, y) → f x y = some b → P) : P := by
  cases o with
  | none => cases h
  | some x => exact k x.1 x.2 rfl h
theorem bd3_elim {α₁ α₂ α₃ β : Type} {o : Option (α₁ × α₂ × α₃)} {f : α₁ → α₂ → α₃ → Option β} {b : β} {P : Prop} (h : bd3 o f = some b) (k : ∀ x y z, o = some (x, y, z) → f x y z = some b → P) : P := by
  cases o with
  | none => cases h
  | some x => exact k x.1 x.2.1 x.2.2 rfl h
theorem bd4_elim {α₁ α₂ α₃ α₄ β : Type} {o : Option (α₁ × α₂ × α₃ × α₄)} {f : α₁ → α₂ → α₃ → α₄ → Option β} {b : β} {P : Prop} (h : bd4 o f = some b) (k : ∀ x y z w, o = some (x, y, z, w) → f x y z w = some b → P) : P := by
  cases o with
  | none => cases h
  | some x => exact k x.1 x.2.1 x.2.2.1 x.2.2.2 rfl h
theorem ret_pi {v r : Int32} {σ : Sg} (h : some v = some r) : ((some (.int v), σ) : Option Value × Sg) = (some (.int r), σ) := by cases h; rfl
theorem ret_pl {v r : Int64} {σ : Sg} (h : some v = some r) : ((some (.long v), σ) : Option Value × Sg) = (some (.long r), σ) := by cases h; rfl
theorem ret_wi {v : Int32} {σ : Sg} {r : Int32 × Sg} (h : some (v, σ) = some r) : ((some (.int v), σ) : Option Value × Sg) = (some (.int r.1), r.2) := by cases h; rfl
theorem ret_wl {v : Int64} {σ : Sg} {r : Int64 × Sg} (h : some (v, σ) = some r) : ((some (.long v), σ) : Option Value × Sg) = (some (.long r.1), r.2) := by cases h; rfl
theorem ret_wv {σ r : Sg} (h : some σ = some r) : ((none, σ) : Option Value × Sg) = (none, r) := by cases h; rfl
theorem gb_nar {v : Int32} (g : ¬ ¬ (v = 0 ∨ v = 1)) : narrow .boolean (.int v) = .int v := by
  rcases Decidable.not_not.mp g with rfl | rfl <;> rfl
theorem sw_out {x : Int32} {lo hi : Int} (h : ∀ z : Int, lo ≤ z → z ≤ hi → ¬ x = Int32.ofInt z) : x.toInt < lo ∨ hi < x.toInt := by
  rcases Int.lt_or_le x.toInt lo with q | q
  · exact .inl q
  · rcases Int.lt_or_le hi x.toInt with q2 | q2
    · exact .inr q2
    · exact absurd (Int32.ofInt_toInt x).symm (h x.toInt q q2)
section HELP
variable {Γ : Cx} {E : Ev} {rm rm' : Room} {cc cc' : ByteArray} {nL nL' na : Nat} {own : String} {ad : Nat → Nat} {ρ : Nat → Nat → Nat} {N : Nat} {σ σ' : Sg} {cs sz pc : Nat} {L : List (Nat × Value)} {st rest As : List Value} {ret : Option FieldType} {y : MethodName} {index k ci : Nat} {C : String} {T : u_T} {F : Nat} {ty0 : Nat → FieldType}
theorem j_topi {x e : Int32} (hx : x = e) (kk : J Γ E nL ad ρ N σ cs sz pc L (.int x :: st)) : J Γ E nL ad ρ N σ cs sz pc L (.int e :: st) := hx ▸ kk
theorem j_iinc1 (X : XC Γ E rm cc nL own) {i : Nat} {n : Int} {x v q : Int32} {L' : List (Nat × Value)} (j : Nat) (hj : L[j]? = some (i, .int x)) (hq : Int32.ofInt n = q) (hv : v = x + q) (hn : i < nL) (hL : (i, Value.int v) :: L.filter (fun q => !(q.1 == i) && !(q.1 + 1 == i && q.2.category == 2)) = L') (hd : decode cc pc = .ok (.iinc i n, 3)) (kk : J Γ E nL ad ρ N σ cs sz (pc + 3) L' st) : J Γ E nL ad ρ N σ cs sz pc L st :=
  j_iinc X j hj (by rw [hv, hq]) hn hL hd kk
theorem j_lookup (X : XC Γ E rm cc nL own) {dflt : Int} {ps : Array (Int × Int)} {len : Nat} {x : Int32} {off : Int} {tgt : Nat} (hp : (ps.toList.zip (ps.toList.drop 1)).all (fun (a, next) => a.1 < next.1) = true) (ho : Op.lookupswitch.offset ps.toList dflt x.toInt = off) (ht : (pc : Int) + off = (tgt : Int)) (hd : decode cc pc = .ok (.lookupswitch dflt ps, len)) (kk : J Γ E nL ad ρ N σ cs sz tgt L st) : J Γ E nL ad ρ N σ cs sz pc L (.int x :: st) :=
  fun H locs ls hl hP hA hS => lv_lookup X.1 X.2.1 hd hp ho ht (kk H locs ls hl hP hA hS)
theorem j_callVi {r : Int32} (X : XC Γ E rm cc nL own) (mf : MFact y cc' nL' ret na) (hw : Cond.methodLink own index y ∈ BG) (hi : Cond.instanceMethod y ∈ BG) (hse : Cond.selects C y y ∈ BG) (hr0 : rm'.cells = 0 ∧ rm'.slots = 0) (hR : rm'.frames + 1 ≤ rm.frames ∧ 8 + (nL' + 11) + rm'.locals ≤ rm.locals) (hC : CFact ci C T F ty0) (hk : k < 85) (hl : lay k = ci) (hM : Met Γ.2.1 y (wY y cc' nL' ret) rm' (va_Pc (.ref (ad k) :: As) (PreU E ad RF 85 σ)) (QcN E ad (some (.int r), σ')) 0 0 (EA E)) (hn : As.length = na) (hst : st = As.reverse ++ .ref (ad k) :: rest) (hsm : (rest.map fun v => v.category).sum ≤ 8) (hd : decode cc pc = .ok (.invokevirtual index, 3)) (kk : J Γ E nL ad RF 85 σ' 0 0 (pc + 3) L (.int r :: rest)) : J Γ E nL ad RF 85 σ 0 0 pc L st := j_callV0 X mf hw hi hse hr0 hR hC hk hl hM hn hst hsm hd kk
theorem j_callVl {r : Int64} (X : XC Γ E rm cc nL own) (mf : MFact y cc' nL' ret na) (hw : Cond.methodLink own index y ∈ BG) (hi : Cond.instanceMethod y ∈ BG) (hse : Cond.selects C y y ∈ BG) (hr0 : rm'.cells = 0 ∧ rm'.slots = 0) (hR : rm'.frames + 1 ≤ rm.frames ∧ 8 + (nL' + 11) + rm'.locals ≤ rm.locals) (hC : CFact ci C T F ty0) (hk : k < 85) (hl : lay k = ci) (hM : Met Γ.2.1 y (wY y cc' nL' ret) rm' (va_Pc (.ref (ad k) :: As) (PreU E ad RF 85 σ)) (QcN E ad (some (.long r), σ')) 0 0 (EA E)) (hn : As.length = na) (hst : st = As.reverse ++ .ref (ad k) :: rest) (hsm : (rest.map fun v => v.category).sum ≤ 8) (hd : decode cc pc = .ok (.invokevirtual index, 3)) (kk : J Γ E nL ad RF 85 σ' 0 0 (pc + 3) L (.long r :: rest)) : J Γ E nL ad RF 85 σ 0 0 pc L st := j_callV0 X mf hw hi hse hr0 hR hC hk hl hM hn hst hsm hd kk
theorem j_callVv (X : XC Γ E rm cc nL own) (mf : MFact y cc' nL' ret na) (hw : Cond.methodLink own index y ∈ BG) (hi : Cond.instanceMethod y ∈ BG) (hse : Cond.selects C y y ∈ BG) (hr0 : rm'.cells = 0 ∧ rm'.slots = 0) (hR : rm'.frames + 1 ≤ rm.frames ∧ 8 + (nL' + 11) + rm'.locals ≤ rm.locals) (hC : CFact ci C T F ty0) (hk : k < 85) (hl : lay k = ci) (hM : Met Γ.2.1 y (wY y cc' nL' ret) rm' (va_Pc (.ref (ad k) :: As) (PreU E ad RF 85 σ)) (QcN E ad (none, σ')) 0 0 (EA E)) (hn : As.length = na) (hst : st = As.reverse ++ .ref (ad k) :: rest) (hsm : (rest.map fun v => v.category).sum ≤ 8) (hd : decode cc pc = .ok (.invokevirtual index, 3)) (kk : J Γ E nL ad RF 85 σ' 0 0 (pc + 3) L rest) : J Γ E nL ad RF 85 σ 0 0 pc L st := j_callV0 X mf hw hi hse hr0 hR hC hk hl hM hn hst hsm hd kk
theorem j_callSi {r : Int32} (X : XC Γ E rm cc nL own) (mf : MFact y cc' nL' ret na) (hw : Cond.methodLink own index y ∈ BG) (hi : Cond.static y ∈ BG) (hr0 : rm'.cells = 0 ∧ rm'.slots = 0) (hR : rm'.frames + 1 ≤ rm.frames ∧ 8 + (nL' + 11) + rm'.locals ≤ rm.locals) (hM : Met Γ.2.1 y (wY y cc' nL' ret) rm' (va_Pc As (PreU E ad RF 85 σ)) (QcN E ad (some (.int r), σ')) 0 0 (EA E)) (hn : As.length = na) (hst : st = As.reverse ++ rest) (hsm : (rest.map fun v => v.category).sum ≤ 8) (hd : decode cc pc = .ok (.invokestatic index, 3)) (kk : J Γ E nL ad RF 85 σ' 0 0 (pc + 3) L (.int r :: rest)) : J Γ E nL ad RF 85 σ 0 0 pc L st := j_callS0 X mf hw hi hr0 hR hM hn hst hsm hd kk
theorem j_callSl {r : Int64} (X : XC Γ E rm cc nL own) (mf : MFact y cc' nL' ret na) (hw : Cond.methodLink own index y ∈ BG) (hi : Cond.static y ∈ BG) (hr0 : rm'.cells = 0 ∧ rm'.slots = 0) (hR : rm'.frames + 1 ≤ rm.frames ∧ 8 + (nL' + 11) + rm'.locals ≤ rm.locals) (hM : Met Γ.2.1 y (wY y cc' nL' ret) rm' (va_Pc As (PreU E ad RF 85 σ)) (QcN E ad (some (.long r), σ')) 0 0 (EA E)) (hn : As.length = na) (hst : st = As.reverse ++ rest) (hsm : (rest.map fun v => v.category).sum ≤ 8) (hd : decode cc pc = .ok (.invokestatic index, 3)) (kk : J Γ E nL ad RF 85 σ' 0 0 (pc + 3) L (.long r :: rest)) : J Γ E nL ad RF 85 σ 0 0 pc L st := j_callS0 X mf hw hi hr0 hR hM hn hst hsm hd kk
theorem j_callSv (X : XC Γ E rm cc nL own) (mf : MFact y cc' nL' ret na) (hw : Cond.methodLink own index y ∈ BG) (hi : Cond.static y ∈ BG) (hr0 : rm'.cells = 0 ∧ rm'.slots = 0) (hR : rm'.frames + 1 ≤ rm.frames ∧ 8 + (nL' + 11) + rm'.locals ≤ rm.locals) (hM : Met Γ.2.1 y (wY y cc' nL' ret) rm' (va_Pc As (PreU E ad RF 85 σ)) (QcN E ad (none, σ')) 0 0 (EA E)) (hn : As.length = na) (hst : st = As.reverse ++ rest) (hsm : (rest.map fun v => v.category).sum ≤ 8) (hd : decode cc pc = .ok (.invokestatic index, 3)) (kk : J Γ E nL ad RF 85 σ' 0 0 (pc + 3) L rest) : J Γ E nL ad RF 85 σ 0 0 pc L st := j_callS0 X mf hw hi hr0 hR hM hn hst hsm hd kk
theorem j_callSNi {r : Int32} (X : XC Γ E rm cc nL own) (mf : MFact y cc' nL' ret na) (hw : Cond.methodLinkNest own index y RX7 ∈ nestL) (hi : Cond.static y ∈ BG) (hr0 : rm'.cells = 0 ∧ rm'.slots = 0) (hR : rm'.frames + 1 ≤ rm.frames ∧ 8 + (nL' + 11) + rm'.locals ≤ rm.locals) (hM : Met Γ.2.1 y (wY y cc' nL' ret) rm' (va_Pc As (PreU E ad RF 85 σ)) (QcN E ad (some (.int r), σ')) 0 0 (EA E)) (hn : As.length = na) (hst : st = As.reverse ++ rest) (hsm : (rest.map fun v => v.category).sum ≤ 8) (hd : decode cc pc = .ok (.invokestatic index, 3)) (kk : J Γ E nL ad RF 85 σ' 0 0 (pc + 3) L (.int r :: rest)) : J Γ E nL ad RF 85 σ 0 0 pc L st := j_callSN0 X mf hw hi hr0 hR hM hn hst hsm hd kk
end HELP
def chS (i : Nat) (k : Int32) : Int32 := ((litB.getD i []).getD k.toNatClampNeg 0) &&& 255
