/-! ===== ROWS OF CONSTRUCTORS: cells come ===== -/
def zi (σ : Sg) (k : Nat) : Sg := (fun a b => if a = k then 0 else σ.1 a b, fun a b => if a = k then 0 else σ.2 a b)
def RB (ρ : Nat → Nat → Nat) (N : Nat) : Prop := (∀ i j, ρ i j ≤ N) ∧ ∀ i, N ≤ i → ∀ j, ρ i j = 0
theorem RB.put {ρ : Nat → Nat → Nat} {N k j p : Nat} (h : RB ρ N) (hk : k < N) (hp : p < N) : RB (rput ρ k j (p + 1)) N := by
  refine ⟨fun a b => ?_, fun a ha b => ?_⟩
  · unfold rput
    split
    · omega
    · exact h.1 a b
  · unfold rput
    rw [if_neg (by omega)]
    exact h.2 a ha b
theorem RB.up {ρ : Nat → Nat → Nat} {N M : Nat} (h : RB ρ N) (hm : N ≤ M) : RB ρ M := ⟨fun a b => Nat.le_trans (h.1 a b) hm, fun a ha b => h.2 a (Nat.le_trans hm ha) b⟩
theorem rv_agree {ad ad' : Nat → Nat} {N p : Nat} (hag : ∀ i, i < N → ad' i = ad i) (hp : p ≤ N) : rv ad' p = rv ad p := by
  cases p with
  | zero => rfl
  | succ q => exact congrArg Value.ref (hag q (by omega))
theorem ent_agree {E : Ev} {ad ad' : Nat → Nat} {ρ : Nat → Nat → Nat} {N : Nat} {σ σ' : Sg} {k : Nat} (hag : ∀ i, i < N → ad' i = ad i) (hr : RB ρ N) (h1 : σ'.1 k = σ.1 k) (h2 : σ'.2 k = σ.2 k) : ent E ad' ρ σ' k = ent E ad ρ σ k := by
  have hf : ∀ j t, fv ad' ρ σ' k j t = fv ad ρ σ k j t := fun j t => by
    unfold fv
    rw [h1, h2, rv_agree hag (hr.1 k j)]
  unfold ent fs
  simp only [hf, h1]
theorem wl_push {E : Ev} {ad ad' : Nat → Nat} {ρ : Nat → Nat → Nat} {N : Nat} {σ σ' : Sg} (hag : ∀ i, i < N → ad' i = ad i) (hr : RB ρ N) (hs : ∀ i, i < N → σ'.1 i = σ.1 i ∧ σ'.2 i = σ.2 i) : wl E ad' ρ (N + 1) σ' = wl E ad ρ N σ ++ [(ad' N, ent E ad' ρ σ' N)] := by
  unfold wl
  rw [List.range_succ, List.map_append]
  congr 1
  refine List.map_congr_left (fun k hk => ?_)
  have hk : k < N := List.mem_range.mp hk
  rw [hag k hk, ent_agree hag hr (hs k hk).1 (hs k hk).2]
theorem wl_agree {E : Ev} {ad ad' : Nat → Nat} {ρ : Nat → Nat → Nat} {N : Nat} {σ : Sg} (hag : ∀ i, i < N → ad' i = ad i) (hr : RB ρ N) : wl E ad' ρ N σ = wl E ad ρ N σ := by
  unfold wl
  refine List.map_congr_left (fun k hk => ?_)
  have hk : k < N := List.mem_range.mp hk
  rw [hag k hk, ent_agree hag hr rfl rfl]
def snoc (ad : Nat → Nat) (N q : Nat) : Nat → Nat := fun i => if i = N then q else ad i
theorem snoc_old {ad : Nat → Nat} {N q : Nat} : ∀ i, i < N → snoc ad N q i = ad i := fun i h => by
  unfold snoc
  rw [if_neg (by omega)]
theorem snoc_new {ad : Nat → Nat} {N q : Nat} : snoc ad N q N = q := by simp [snoc]
theorem AD.snoc {E : Ev} {ad : Nat → Nat} {ρ : Nat → Nat → Nat} {N q : Nat} {σ : Sg} {e : va_E} (h : AD ad N E.2.2.2.2) (hD : va_D (EA E) (wl E ad ρ N σ ++ [(q, e)])) : AD (snoc ad N q) (N + 1) E.2.2.2.2 := by
  have hlast : (wl E ad ρ N σ ++ [(q, e)])[N]? = some (q, e) := by
    rw [List.getElem?_append_right (by rw [wl_len]; exact Nat.le_refl _), wl_len, Nat.sub_self]
    rfl
  have hold : ∀ i, i < N → (wl E ad ρ N σ ++ [(q, e)])[i]? = some (ad i, ent E ad ρ σ i) := fun i hi => by
    rw [List.getElem?_append_left (by rw [wl_len]; exact hi), wl_at hi]
  refine ⟨fun i j hi hj hij => ?_, fun k hk => ?_⟩
  · rcases Nat.lt_or_ge i N with h1 | h1
    · rw [snoc_old i h1] at hij
      rcases Nat.lt_or_ge j N with h2 | h2
      · rw [snoc_old j h2] at hij
        exact h.1 i j h1 h2 hij
      · have : j = N := by omega
        subst this
        rw [snoc_new] at hij
        exact hD.1 i j _ _ (hold i h1) hlast hij
    · have : i = N := by omega
      subst this
      rcases Nat.lt_or_ge j i with h2 | h2
      · rw [snoc_old j h2, snoc_new] at hij
        exact (hD.1 j i _ _ (hold j h2) hlast hij.symm).symm
      · omega
  · rcases Nat.lt_or_ge k N with h1 | h1
    · rw [snoc_old k h1]
      exact h.2 k h1
    · have : k = N := by omega
      subst this
      rw [snoc_new]
      exact hD.2 k _ hlast
def dval : Nat → Value
  | 0 => .int 0
  | 1 => .long 0
  | _ => .null
def CDef (ci F : Nat) (ty0 : Nat → FieldType) : Prop := ∀ j, j < F → defaultValue (ty0 j) = dval ((fcl ci).getD j 0)
theorem cd0 : CDef 0 2 tyX1 := by unfold CDef; decide +kernel
theorem cd1 : CDef 1 8 tyX2 := by unfold CDef; decide +kernel
theorem cd2 : CDef 2 1 tyX4 := by unfold CDef; decide +kernel
theorem cd3 : CDef 3 7 tyX5 := by unfold CDef; decide +kernel
theorem cd4 : CDef 4 4 tyX6 := by unfold CDef; decide +kernel
theorem cd5 : CDef 5 12 tyX7 := by unfold CDef; decide +kernel
theorem cd6 : CDef 6 27 tyX8 := by unfold CDef; decide +kernel
section CROWS
variable {Γ : Cx} {E : Ev} {rm rm' : Room} {cc cc' : ByteArray} {nL nL' na : Nat} {own : String} {ad : Nat → Nat} {ρ ρ' : Nat → Nat → Nat} {N N' : Nat} {σ σ' : Sg} {cs sz mc ms pc : Nat} {L : List (Nat × Value)} {st rest As : List Value} {ci : Nat} {C : String} {T : u_T} {F : Nat} {ty0 : Nat → FieldType} {k index : Nat} {y : MethodName}
theorem j_objInit {v : Nat} (X : XC Γ E rm cc nL own) (hw : Cond.methodLink own index Lib.objectInit ∈ BG) (h2 : Cond.instanceMethod Lib.objectInit ∈ BG) (h3 : Cond.code Lib.objectInit ⟨#[0xb1]⟩ 1 none ∈ BG) (hR : 1 ≤ rm.frames ∧ (st.map fun v => v.category).sum + 12 ≤ rm.locals) (hd : decode cc pc = .ok (.invokespecial index, 3)) (kk : J Γ E nL ad ρ N σ cs sz (pc + 3) L st) : J Γ E nL ad ρ N σ cs sz pc L (.ref v :: st) := by
  intro H locs ls hl hP hA hS
  have hR' : 1 ≤ Γ.2.2.2.1.frames ∧ (st.map fun v => v.category).sum + 12 ≤ Γ.2.2.2.1.locals := by rw [X.2.2.2.2.2.2]; exact hR
  refine W.objInit X.1 X.2.1 X.2.2.2.1 (X.2.2.2.2.1 _ hw) (X.2.2.2.2.1 _ h2) (X.2.2.2.2.1 _ h3) rfl (by rw [X.2.2.1]; exact hl.1) rfl hd hR'.1 (by show 2 * 0 + _ + 12 ≤ _; omega) ?_
  exact kk H locs ls hl hP hA hS
theorem j_mmaxG {a b : Int32} (X : XC Γ E rm cc nL own) (hw : Cond.methodLink own index Lib.Math.max.name ∈ BG) (h2 : Cond.static Lib.Math.max.name ∈ BG) (h3 : Cond.initialized "java/lang/Math" ∈ BG) (h4 : Cond.code Lib.Math.max.name Lib.Math.max.code 2 (some .int) ∈ BG) (hR : 1 ≤ rm.frames ∧ (rest.map fun v => v.category).sum + 13 ≤ rm.locals) (hc : cs ≤ rm.cells ∧ sz ≤ rm.slots) (hd : decode cc pc = .ok (.invokestatic index, 3))
    (kk : J Γ E nL ad ρ N σ cs sz (pc + 3) L (.int (if a < b then b else a) :: rest)) : J Γ E nL ad ρ N σ cs sz pc L (.int b :: .int a :: rest) := by
  intro H locs ls hl hP hA hS
  have hR' : (1 ≤ Γ.2.2.2.1.frames ∧ (rest.map fun v => v.category).sum + 13 ≤ Γ.2.2.2.1.locals) ∧ cs ≤ Γ.2.2.2.1.cells ∧ sz ≤ Γ.2.2.2.1.slots := by rw [X.2.2.2.2.2.2]; exact ⟨hR, hc⟩
  exact va_mmax X.1 X.2.1 (X.2.2.1.trans hl.1.symm) X.2.2.2.1 (X.2.2.2.2.1 _ hw) (X.2.2.2.2.1 _ h2) (X.2.2.2.2.1 _ h3) (X.2.2.2.2.1 _ h4) hR'.1.1 hR'.1.2 hR'.2.1 hR'.2.2 hd (kk H locs ls hl hP hA hS)
theorem j_new (X : XC Γ E rm cc nL own) (hC : CFact ci C T F ty0) (hdf : CDef ci F ty0) (hl : lay N = ci) (hr : RB ρ N) (h1 : Cond.classLink own index C ∈ BG) (h2 : Cond.instantiable C F ∈ BG) (h3 : Cond.initialized C ∈ BG) (hR : cs + 1 ≤ rm.cells ∧ sz + F ≤ rm.slots) (hd : decode cc pc = .ok (.new index, 3))
    (kk : ∀ ad', (∀ i, i < N → ad' i = ad i) → J Γ E nL ad' ρ (N + 1) (zi σ N) (cs + 1) (sz + F) (pc + 3) L (.ref (ad' N) :: st)) : J Γ E nL ad ρ N σ cs sz pc L st := by
  intro H locs ls hlv hP hA hS
  have hR' : cs + 1 ≤ Γ.2.2.2.1.cells ∧ sz + F ≤ Γ.2.2.2.1.slots := by rw [X.2.2.2.2.2.2]; exact hR
  have hB : E.2.2.2.2 ≤ Γ.s.heap.size := X.2.2.2.2.2.1.2.2.2.2.2.1
  refine va_new (D := E.1) (own := own) (C := C) (T := T) (N := F) (ci := ci) (fs := fs ad ρ (zi σ N) N ci) X.1 X.2.1 X.2.2.2.2.1 hC.2.1 ty0 hC.2.2.1 X.2.2.2.1 (X.2.2.2.2.1 _ h1) (X.2.2.2.2.1 _ h2) (X.2.2.2.2.1 _ h3) X.2.2.2.2.2.1.1 hP hA.D hS (fun q h => Nat.le_trans hB h) hC.1 (fun j hj => ?_) hR'.1 hR'.2 hd (fun q H1 hP1 hD1 hS1 => ?_)
  · have hj' : (fcl ci)[j]? = some ((fcl ci).getD j 0) := by
      rw [← hC.2.2.2.2.2.1] at hj
      simp [List.getD, List.getElem?_eq_getElem hj]
    have e1 : vp_V (fs ad ρ (zi σ N) N ci) j = fv ad ρ (zi σ N) N j ((fcl ci).getD j 0) := by
      unfold vp_V
      rw [List.getD, fs_get hj']
      rfl
    rw [e1, hdf j hj]
    generalize (fcl ci).getD j 0 = t
    rcases t with _ | _ | t
    · simp [zi, fv, dval]
    · simp [zi, fv, dval]
    · unfold fv dval
      rw [hr.2 N (Nat.le_refl _) j]
      rfl
  · have hw : wl E (snoc ad N q) ρ (N + 1) (zi σ N) = wl E ad ρ N σ ++ [(q, .inr (ci, fs ad ρ (zi σ N) N ci))] := by
      rw [wl_push (E := E) (snoc_old (q := q)) hr (σ := σ) (fun i hi => ⟨by funext b; simp [zi, show i ≠ N by omega], by funext b; simp [zi, show i ≠ N by omega]⟩), snoc_new, ent_agree (ad := ad) (σ := zi σ N) (snoc_old (q := q)) hr rfl rfl, ent_obj hl hC.2.2.2.2.2.2]
    rw [← hw] at hP1
    have h := kk (snoc ad N q) snoc_old H1 locs ls hlv hP1 (hA.snoc hD1) hS1
    rw [snoc_new] at h
    exact h
theorem arr_same {s : State} {E : Ev} {cA : ClassId} {ty : FieldType} (i : Nat) (hty : va_RA s cA ty = (s.vm.findClass ("[" ++ ty.toString) = some cA)) {tA : ClassId} (hK : va_K E.1 vwCl [(E.2.1.1, .int), (E.2.1.2, .boolean)] s) (hi : ([(E.2.1.1, FieldType.int), (E.2.1.2, FieldType.boolean)] : List (ClassId × FieldType))[i]? = some (tA, ty)) (hty2 : va_RA s tA ty = (s.vm.findClass ("[" ++ ty.toString) = some tA)) (h : va_K E.1 vwCl ([(E.2.1.1, .int), (E.2.1.2, .boolean)] ++ [(cA, ty)]) s) : cA = tA := by
  have h1 := (hK.2 i _ hi).2
  have h2 := (h.2 2 (cA, ty) rfl).2
  rw [hty2] at h1
  rw [hty] at h2
  exact Option.some.inj (h2.symm.trans h1)
theorem j_newa {n : Int32} (X : XC Γ E rm cc nL own) (hl : lay N = 7) (hr : RB ρ N) (h1 : Cond.arrayClass .int ∈ BG) (hn : ¬ n < 0) (hN : n.toNatClampNeg = len N) (hbytes : len N ≤ 1000) (hR : cs + 1 ≤ rm.cells ∧ sz + len N ≤ rm.slots) (hd : decode cc pc = .ok (.newarray .int, 2))
    (kk : ∀ ad', (∀ i, i < N → ad' i = ad i) → J Γ E nL ad' ρ (N + 1) (zi σ N) (cs + 1) (sz + len N) (pc + 2) L (.ref (ad' N) :: st)) : J Γ E nL ad ρ N σ cs sz pc L (.int n :: st) := by
  intro H locs ls hlv hP hA hS
  have hR' : cs + 1 ≤ Γ.2.2.2.1.cells ∧ sz + len N ≤ Γ.2.2.2.1.slots := by rw [X.2.2.2.2.2.2]; exact hR
  have hB : E.2.2.2.2 ≤ Γ.s.heap.size := X.2.2.2.2.2.1.2.2.2.2.2.1
  refine va_newa (atype := .int) (D := E.1) (ty := .int) (a0 := (len N, .inl (fun _ => 0))) X.1 X.2.1 (X.2.2.2.2.1 _ h1) rfl X.2.2.2.2.2.1.1 hP hA.D hS (fun q h => Nat.le_trans hB h) (fun cA => rfl) hn hN (by show len N * 4 ≤ 536870912; omega) hR'.1 hR'.2 hd (fun q cA H1 hK1 hP1 hD1 hS1 => ?_)
  have hc : cA = E.2.1.1 := arr_same (s := Γ.s) (ty := .int) 0 rfl X.2.2.2.2.2.1.1 rfl rfl hK1
  subst hc
  have hz : (zi σ N).1 N = fun _ => 0 := by funext b; simp [zi]
  have hw : wl E (snoc ad N q) ρ (N + 1) (zi σ N) = wl E ad ρ N σ ++ [(q, .inl (E.2.1.1, (len N, .inl (fun _ => 0))))] := by
    rw [wl_push (E := E) (snoc_old (q := q)) hr (σ := σ) (fun i hi => ⟨by funext b; simp [zi, show i ≠ N by omega], by funext b; simp [zi, show i ≠ N by omega]⟩), snoc_new, ent_int hl, hz]
  rw [← hw] at hP1
  have h := kk (snoc ad N q) snoc_old H1 locs ls hlv hP1 (hA.snoc hD1) hS1
  rw [snoc_new] at h
  exact h
theorem j_newz {n : Int32} (X : XC Γ E rm cc nL own) (hl : lay N = 8) (hr : RB ρ N) (h1 : Cond.arrayClass .boolean ∈ BG) (hn : ¬ n < 0) (hN : n.toNatClampNeg = len N) (hbytes : len N ≤ 1000) (hR : cs + 1 ≤ rm.cells ∧ sz + len N ≤ rm.slots) (hd : decode cc pc = .ok (.newarray .boolean, 2))
    (kk : ∀ ad', (∀ i, i < N → ad' i = ad i) → J Γ E nL ad' ρ (N + 1) (zi σ N) (cs + 1) (sz + len N) (pc + 2) L (.ref (ad' N) :: st)) : J Γ E nL ad ρ N σ cs sz pc L (.int n :: st) := by
  intro H locs ls hlv hP hA hS
  have hR' : cs + 1 ≤ Γ.2.2.2.1.cells ∧ sz + len N ≤ Γ.2.2.2.1.slots := by rw [X.2.2.2.2.2.2]; exact hR
  have hB : E.2.2.2.2 ≤ Γ.s.heap.size := X.2.2.2.2.2.1.2.2.2.2.2.1
  refine va_newa (atype := .boolean) (D := E.1) (ty := .boolean) (a0 := (len N, .inl (fun _ => 0))) X.1 X.2.1 (X.2.2.2.2.1 _ h1) rfl X.2.2.2.2.2.1.1 hP hA.D hS (fun q h => Nat.le_trans hB h) (fun cA => rfl) hn hN (by show len N * 1 ≤ 536870912; omega) hR'.1 hR'.2 hd (fun q cA H1 hK1 hP1 hD1 hS1 => ?_)
  have hc : cA = E.2.1.2 := arr_same (s := Γ.s) (ty := .boolean) 1 rfl X.2.2.2.2.2.1.1 rfl rfl hK1
  subst hc
  have hz : (zi σ N).1 N = fun _ => 0 := by funext b; simp [zi]
  have hw : wl E (snoc ad N q) ρ (N + 1) (zi σ N) = wl E ad ρ N σ ++ [(q, .inl (E.2.1.2, (len N, .inl (fun _ => 0))))] := by
    rw [wl_push (E := E) (snoc_old (q := q)) hr (σ := σ) (fun i hi => ⟨by funext b; simp [zi, show i ≠ N by omega], by funext b; simp [zi, show i ≠ N by omega]⟩), snoc_new, ent_bool hl, hz]
  rw [← hw] at hP1
  have h := kk (snoc ad N q) snoc_old H1 locs ls hlv hP1 (hA.snoc hD1) hS1
  rw [snoc_new] at h
  exact h
theorem j_callI (X : XC Γ E rm cc nL own) (mf : MFact y cc' nL' none na) (hy1 : y.name = "<init>") (hw : Cond.methodLink own index y ∈ BG) (hi : Cond.instanceMethod y ∈ BG) (hr0 : rm'.cells = mc ∧ rm'.slots = ms) (hR : rm'.frames + 1 ≤ rm.frames ∧ 8 + (nL' + 11) + rm'.locals ≤ rm.locals) (hR2 : cs + mc ≤ rm.cells ∧ sz + ms ≤ rm.slots)
    (hM : Met Γ.2.1 y (wY y cc' nL' none) rm' (va_Pc (.ref (ad k) :: As) (PreU E ad ρ N σ)) (QcC E ad N N' ρ' σ') mc ms (EA E)) (hn : As.length = na) (hst : st = As.reverse ++ .ref (ad k) :: rest) (hsm : (rest.map fun v => v.category).sum ≤ 8) (hd : decode cc pc = .ok (.invokespecial index, 3))
    (kk : ∀ ad', (∀ i, i < N → ad' i = ad i) → J Γ E nL ad' ρ' N' σ' (cs + mc) (sz + ms) (pc + 3) L rest) : J Γ E nL ad ρ N σ cs sz pc L st := by
  subst hst
  intro H locs ls hl hP hA hS T hT Z
  have hR2' : cs + mc ≤ Γ.2.2.2.1.cells ∧ sz + ms ≤ Γ.2.2.2.1.slots := by rw [X.2.2.2.2.2.2]; exact hR2
  have cb : CallB Γ.2.2.2.1 Γ.s Γ.args own index y cc' nL' none (wY y cc' nL' none) rm' mc ms na ∧ y.name = "<init>" ∧ (Cond.instanceMethod y).before Γ.args Γ.s = true := by
    refine ⟨?_, hy1, X.2.2.2.2.1 _ hi⟩
    rw [X.2.2.2.2.2.2]
    exact callB_of na X.2.2.2.2.1 (good_wY mf.1) rfl hr0.1 hr0.2 (X.2.2.2.2.1 _ mf.2.1) (X.2.2.2.2.1 _ hw) mf.2.2.1 hR
  obtain ⟨v, st₀, t, T', L', h0, X', hL, e1, e2, ⟨hv, ⟨ad', hag, hAD, hP1⟩, hF⟩, hst⟩ := va_runI (g := F0 Γ.m pc ls (As.reverse ++ .ref (ad k) :: rest)) ⟨X.1, X.2.1, X.2.2.1, X.2.2.2.1, X.2.2.2.2.1⟩ hM cb ⟨blindU, fun U hU hW => ⟨rfl, vm_next X hP hA hS hU hW⟩⟩ rfl hn hl.1 rfl (lv_room hsm) hd hR2' T hT Z
  cases hv
  have hz : H.size ≤ T'.heap.size := by rw [e1, ← h0]; exact hF.1
  have hk : ∀ q : Nat, q < H.size → ¬ EA E q → T'.heap[q]? = H[q]? := fun q h1 h2 => by rw [e1, ← h0]; exact hF.2 q (by rw [h0]; exact h1) h2
  obtain ⟨t2, a1, b1⟩ := kk ad' hag T'.heap (locs ++ L') ls hl (by rw [e1]; exact hP1) hAD ⟨Nat.le_trans hS.1 hz, fun q h1 h2 => (hk q (Nat.lt_of_lt_of_le h1 hS.1) h2).trans (hS.2.1 q h1 h2), fun q hq => (List.mem_append.mp hq).elim (hS.2.2 q) (hL q)⟩ T' rfl X'
  exact ⟨t2, hst t2 a1, b1⟩
/-- how a constructor ends -/
def XI (Γ : Cx) (E : Ev) (ad0 : Nat → Nat) (N0 N' : Nat) (ρ' : Nat → Nat → Nat) (σ' : Sg) (mc ms : Nat) : Prop :=
  Γ.2.2.2.2.2.2.2.2.1.sig.returnType = none ∧ Γ.2.2.2.2.2.2.2.2.1.locks = false ∧ Γ.2.2.2.2.2.2.2.2.1.name = "<init>" ∧ Γ.2.2.2.2.2.2.2.2.2.2 = MQ Γ.2.2.2.2.2.2.2.1 (QcC E ad0 N0 N' ρ' σ') Γ.args Γ.s mc ms (EA E)
theorem j_vretC {ad0 : Nat → Nat} {N0 : Nat} (X : XC Γ E rm cc nL own) (Y : XI Γ E ad0 N0 N' ρ' σ' cs sz) (hag : ∀ i, i < N0 → ad i = ad0 i) (hd : decode cc pc = .ok (.return_, 1)) : J Γ E nL ad ρ' N' σ' cs sz pc L [] := by
  intro H locs ls hl hP hA hS
  unfold CW
  rw [Y.2.2.2]
  exact W.vret (hlocks := Y.2.1) X.1 X.2.1 Y.1 (fun t ht hW => ⟨rfl, ⟨ad, hag, hA, by rw [ht]; exact hP⟩, hS.F ht⟩) hS.2.2 hd
theorem met_ofC {l : Launch} {av : List Value} {L0 : List (Nat × Value)} (hy : plainName y.cls = true) (hy1 : y.name = "<init>") (hL : (lg_sl av).length ≤ nL) (hA : lv_args 0 av = L0)
    (body : ∀ Γ : Cx, XC Γ E rm cc nL y.cls → XI Γ E ad N N' ρ' σ' mc ms → J Γ E nL ad ρ N σ 0 0 0 L0 []) : Met l y (wY y cc nL none) rm (va_Pc av (PreU E ad ρ N σ)) (QcC E ad N N' ρ' σ') mc ms (EA E) :=
  met_gen hy hL hA (fun Γ X h1 h2 h3 h4 => body Γ X ⟨h1, h2, h3.trans hy1, h4⟩)
theorem J.rho (h : ∀ i j, i < N → 2 ≤ (fcl (lay i)).getD j 0 → ρ i j = ρ' i j) (kk : J Γ E nL ad ρ' N σ cs sz pc L st) : J Γ E nL ad ρ N σ cs sz pc L st := by
  have e : wl E ad ρ N σ = wl E ad ρ' N σ := by
    unfold wl
    refine List.map_congr_left (fun k hk => ?_)
    have hk : k < N := List.mem_range.mp hk
    have hf : fs ad ρ σ k (lay k) = fs ad ρ' σ k (lay k) := by
      unfold fs
      refine List.map_congr_left (fun j hj => ?_)
      have h2 := h k j hk
      revert h2
      generalize (fcl (lay k)).getD j 0 = t
      intro h2
      rcases t with _ | _ | t
      · rfl
      · rfl
      · unfold fv
        rw [h2 (by omega)]
    unfold ent
    rw [hf]
  intro H locs ls hl hP hA hS
  rw [e] at hP
  exact kk H locs ls hl hP hA hS
theorem j_ofrunG {a : Array Value} {res : Option Value × Sg} (hr : ∀ (H : Heap) (locs : List Loc) (ls : Array Slot), lv_has ls nL L → va_P E.1 vwCl (wl E ad RF 85 σ) H → AD ad 85 E.2.2.2.2 → va_S (EA E) Γ.s.heap H locs → va_Run Γ.1 Γ.2.1 Γ.2.2.1 Γ.2.2.2.1 Γ.2.2.2.2.1 Γ.2.2.2.2.2.1 Γ.2.2.2.2.2.2.1 Γ.2.2.2.2.2.2.2.1 Γ.2.2.2.2.2.2.2.2.1 Γ.2.2.2.2.2.2.2.2.2.1 H locs cs sz 0 0 (F0 Γ.m pc ls st) rest (QcN E ad res a) (EA E))
    (kk : J Γ E nL ad RF 85 res.2 cs sz (pc + 3) L (res.1.toList ++ rest)) : J Γ E nL ad RF 85 σ cs sz pc L st := by
  intro H locs ls hl hP hA hS T hT X
  obtain ⟨v, st₀, t, T', L', h0, X', hL, e1, e2, ⟨hv, hP1, hF⟩, hst⟩ := hr H locs ls hl hP hA hS T hT X
  cases hv
  have hz : H.size ≤ T'.heap.size := by rw [e1, ← h0]; exact hF.1
  have hk : ∀ q : Nat, q < H.size → ¬ EA E q → T'.heap[q]? = H[q]? := fun q h1 h2 => by rw [e1, ← h0]; exact hF.2 q (by rw [h0]; exact h1) h2
  obtain ⟨t2, a1, b1⟩ := kk T'.heap (locs ++ L') ls hl (by rw [e1]; exact hP1) hA ⟨Nat.le_trans hS.1 hz, fun q h1 h2 => (hk q (Nat.lt_of_lt_of_le h1 hS.1) h2).trans (hS.2.1 q h1 h2), fun q hq => (List.mem_append.mp hq).elim (hS.2.2 q) (hL q)⟩ T' rfl X'
  exact ⟨t2, hst t2 a1, b1⟩
theorem j_callVG {ret : Option FieldType} {res : Option Value × Sg} (X : XC Γ E rm cc nL own) (mf : MFact y cc' nL' ret na) (hw : Cond.methodLink own index y ∈ BG) (hi : Cond.instanceMethod y ∈ BG) (hse : Cond.selects C y y ∈ BG) (hr0 : rm'.cells = 0 ∧ rm'.slots = 0) (hR : rm'.frames + 1 ≤ rm.frames ∧ 8 + (nL' + 11) + rm'.locals ≤ rm.locals) (hR2 : cs ≤ rm.cells ∧ sz ≤ rm.slots)
    (hC : CFact ci C T F ty0) (hk : k < 85) (hl : lay k = ci) (hM : Met Γ.2.1 y (wY y cc' nL' ret) rm' (va_Pc (.ref (ad k) :: As) (PreU E ad RF 85 σ)) (QcN E ad res) 0 0 (EA E)) (hn : As.length = na) (hst : st = As.reverse ++ .ref (ad k) :: rest) (hsm : (rest.map fun v => v.category).sum ≤ 8) (hd : decode cc pc = .ok (.invokevirtual index, 3))
    (kk : J Γ E nL ad RF 85 res.2 cs sz (pc + 3) L (res.1.toList ++ rest)) : J Γ E nL ad RF 85 σ cs sz pc L st := by
  refine j_ofrunG (a := (Value.ref (ad k) :: As).toArray) (fun H locs ls hlv hP hA hS => ?_) kk
  subst hst
  have hrc := va_recv X.2.2.2.2.2.1.1 hP hC.1 (wl_obj hk hl hC.2.2.2.2.2.2)
  have hR2' : cs + 0 ≤ Γ.2.2.2.1.cells ∧ sz + 0 ≤ Γ.2.2.2.1.slots := by rw [X.2.2.2.2.2.2]; exact hR2
  exact va_runV ⟨X.1, X.2.1, X.2.2.1, X.2.2.2.1, X.2.2.2.2.1⟩ hM ⟨call_b X mf hr0 hR hw, X.2.2.2.2.1 _ hi, X.2.2.2.2.1 _ hse⟩ ⟨blindU, hrc, fun U hU hW => ⟨rfl, vm_next X hP hA hS hU hW⟩⟩ rfl hn hlv.1 rfl (lv_room hsm) hd hR2'
theorem j_callV1 {ret : Option FieldType} {σ' : Sg} (X : XC Γ E rm cc nL own) (mf : MFact y cc' nL' ret na) (hw : Cond.methodLink own index y ∈ BG) (hi : Cond.instanceMethod y ∈ BG) (hse : Cond.selects C y y ∈ BG) (hr0 : rm'.cells = 0 ∧ rm'.slots = 0) (hR : rm'.frames + 1 ≤ rm.frames ∧ 8 + (nL' + 11) + rm'.locals ≤ rm.locals)  (hR2 : cs ≤ rm.cells ∧ sz ≤ rm.slots)
    (hC : CFact ci C T F ty0) (hk : k < 85) (hl : lay k = ci) (hM : Met Γ.2.1 y (wY y cc' nL' ret) rm' (va_Pc (.ref (ad k) :: As) (PreU E ad RF 85 σ)) (QcN E ad (none, σ')) 0 0 (EA E)) (hn : As.length = na) (hst : st = As.reverse ++ .ref (ad k) :: rest) (hsm : (rest.map fun v => v.category).sum ≤ 8) (hd : decode cc pc = .ok (.invokevirtual index, 3))
    (kk : J Γ E nL ad RF 85 σ' cs sz (pc + 3) L rest) : J Γ E nL ad RF 85 σ cs sz pc L st := j_callVG X mf hw hi hse hr0 hR hR2 hC hk hl hM hn hst hsm hd kk
theorem j_callW {ret : Option FieldType} {v : Value} {σ' : Sg} (X : XC Γ E rm cc nL own) (mf : MFact y cc' nL' ret na) (hw : Cond.methodLink own index y ∈ BG) (hi : Cond.instanceMethod y ∈ BG) (hse : Cond.selects C y y ∈ BG) (hr0 : rm'.cells = 0 ∧ rm'.slots = 0) (hR : rm'.frames + 1 ≤ rm.frames ∧ 8 + (nL' + 11) + rm'.locals ≤ rm.locals)  (hR2 : cs ≤ rm.cells ∧ sz ≤ rm.slots)
    (hC : CFact ci C T F ty0) (hk : k < 85) (hl : lay k = ci) (hM : Met Γ.2.1 y (wY y cc' nL' ret) rm' (va_Pc (.ref (ad k) :: As) (PreU E ad RF 85 σ)) (QcN E ad (some v, σ')) 0 0 (EA E)) (hn : As.length = na) (hst : st = As.reverse ++ .ref (ad k) :: rest) (hsm : (rest.map fun v => v.category).sum ≤ 8) (hd : decode cc pc = .ok (.invokevirtual index, 3))
    (kk : J Γ E nL ad RF 85 σ' cs sz (pc + 3) L (v :: rest)) : J Γ E nL ad RF 85 σ cs sz pc L st := j_callVG X mf hw hi hse hr0 hR hR2 hC hk hl hM hn hst hsm hd kk
end CROWS
