/-! ===== CORE: a static world of cells by their places, a judgement J over W, a row an instruction ===== -/
-- words
def BG : List Cond := lw_tbl.filter goodWord
theorem bg_of (k : Nat) {w : Cond} (h : lw_tbl[k]? = some w) (hg : goodWord w = true) : w ∈ BG := List.mem_filter.mpr ⟨List.mem_of_getElem? h, hg⟩
def wY (y : MethodName) (cc : ByteArray) (n : Nat) (ret : Option FieldType) : List Cond := .code y cc n ret :: BG
theorem good_BG {w : Cond} (h : w ∈ BG) : (w.onTables && w.keeps) = true ∨ ∃ ty, w = .arrayClass ty := good_of_word (List.mem_filter.mp h).2
theorem good_wY {y : MethodName} {cc : ByteArray} {n : Nat} {ret : Option FieldType} (h : Cond.code y cc n ret ∈ BG) : GoodIn BG (wY y cc n ret) := by
  intro w hw
  rcases List.mem_cons.mp hw with rfl | hw
  · exact ⟨h, good_BG h⟩
  · exact ⟨hw, good_BG hw⟩
def nestL : List Cond := [.methodLinkNest RX5 112 yX7_within RX7, .methodLinkNest RX2 70 yX7_isSpeakingMinute RX7, .methodLinkNest RX2 82 yX7_isIn RX7, .methodLinkNest RX4 36 yX7_isIn RX7, .methodLinkNest RX0 60 yX7_isIn RX7, .methodLinkNest RX1 52 yX7_isIn RX7]
-- numbers: a state is the ints and the longs of all places
abbrev Sg : Type := (Nat → Nat → Int32) × (Nat → Nat → Int64)
def si (σ : Sg) (k j : Nat) (x : Int32) : Sg := (fun a b => if a = k ∧ b = j then x else σ.1 a b, σ.2)
def sl (σ : Sg) (k j : Nat) (x : Int64) : Sg := (σ.1, fun a b => if a = k ∧ b = j then x else σ.2 a b)
-- the classes' fields: 0 an int, 1 a long, 2 a reference
def ftab : List (List Nat) := [[1, 1], [0, 2, 2, 2, 2, 2, 2, 2], [2], [2, 0, 0, 0, 0, 0, 0], [0, 0, 2, 0], [2, 2, 2, 2, 0, 0, 2, 2, 2, 0, 0, 0], [2, 0, 2, 2, 2, 0, 2, 2, 2, 0, 0, 0, 2, 2, 0, 2, 0, 2, 0, 2, 0, 2, 1, 1, 2, 2, 2]]
def fcl (ci : Nat) : List Nat := ftab.getD ci []
-- the places: which class (7 an int array, 8 a boolean array), how long
def layL : List Nat := [5] ++ (List.replicate 4 [1, 4, 7, 4, 7, 4, 7, 4, 7, 4, 7, 4, 7, 4, 7]).flatten ++ [3, 4, 7, 2, 4, 7, 0, 6, 7, 7, 7, 7, 7, 7, 7, 7, 7, 7, 7, 7, 7, 7, 7, 8]
def lenL : List Nat := [0] ++ (List.replicate 4 [0, 0, 24, 0, 9, 0, 4, 0, 15, 0, 24, 0, 24, 0, 88]).flatten ++ [0, 0, 150, 0, 0, 8, 0, 0, 3, 8, 8, 8, 3, 11, 150, 152, 88, 15, 24, 24, 8, 11, 392, 2]
def lay (k : Nat) : Nat := layL.getD k 9
def len (k : Nat) : Nat := lenL.getD k 0
/-- the finished references: of the field j of the place k, 1 more than the place that it names -/
def refs5 : List Nat := [2, 17, 32, 47, 0, 0, 62, 65, 68, 0, 0, 0]
def refs6 : List Nat := [70, 0, 71, 72, 73, 0, 74, 75, 76, 0, 0, 0, 77, 78, 0, 79, 0, 80, 0, 81, 0, 82, 0, 0, 83, 84, 85]
def RF (k j : Nat) : Nat := match lay k with
  | 1 => k + 2 * j
  | 2 => k + 2
  | 3 => k + 2
  | 4 => k + 2
  | 5 => refs5.getD j 0
  | 6 => refs6.getD j 0
  | _ => 0
def rv (ad : Nat → Nat) : Nat → Value
  | 0 => .null
  | p + 1 => .ref (ad p)
def fv (ad : Nat → Nat) (ρ : Nat → Nat → Nat) (σ : Sg) (k j : Nat) : Nat → Value
  | 0 => .int (σ.1 k j)
  | 1 => .long (σ.2 k j)
  | _ => rv ad (ρ k j)
def fs (ad : Nat → Nat) (ρ : Nat → Nat → Nat) (σ : Sg) (k ci : Nat) : List Value := (List.range (fcl ci).length).map (fun j => fv ad ρ σ k j ((fcl ci).getD j 0))
abbrev Ev : Type := va_G × (ClassId × ClassId) × (Nat → Nat) × (Nat → Nat) × Nat
def ent (E : Ev) (ad : Nat → Nat) (ρ : Nat → Nat → Nat) (σ : Sg) (k : Nat) : va_E := if lay k < 7 then .inr (lay k, fs ad ρ σ k (lay k)) else .inl (if lay k = 7 then E.2.1.1 else E.2.1.2, (len k, .inl (σ.1 k)))
def wl (E : Ev) (ad : Nat → Nat) (ρ : Nat → Nat → Nat) (N : Nat) (σ : Sg) : va_W := (List.range N).map (fun k => (ad k, ent E ad ρ σ k))
theorem wl_at {E : Ev} {ad : Nat → Nat} {ρ : Nat → Nat → Nat} {N : Nat} {σ : Sg} {k : Nat} (h : k < N) : (wl E ad ρ N σ)[k]? = some (ad k, ent E ad ρ σ k) := by
  simp [wl, List.getElem?_map, List.getElem?_range h]
theorem wl_len {E : Ev} {ad : Nat → Nat} {ρ : Nat → Nat → Nat} {N : Nat} {σ : Sg} : (wl E ad ρ N σ).length = N := by simp [wl]
theorem wl_inv {E : Ev} {ad : Nat → Nat} {ρ : Nat → Nat → Nat} {N : Nat} {σ : Sg} {k : Nat} {q : Nat × va_E} (h : (wl E ad ρ N σ)[k]? = some q) : k < N ∧ q = (ad k, ent E ad ρ σ k) := by
  have hk : k < N := by
    have := (List.getElem?_eq_some_iff.mp h).1
    rwa [wl_len] at this
  exact ⟨hk, (Option.some.inj (h.symm.trans (wl_at hk)))⟩
theorem wl_set {E : Ev} {ad : Nat → Nat} {ρ ρ' : Nat → Nat → Nat} {N : Nat} {σ σ' : Sg} {k : Nat} {e : va_E} (h0 : e = ent E ad ρ' σ' k) (h : ∀ i, i ≠ k → ent E ad ρ' σ' i = ent E ad ρ σ i) : (wl E ad ρ N σ).set k (ad k, e) = wl E ad ρ' N σ' := by
  apply List.ext_getElem?
  intro i
  rw [List.getElem?_set]
  by_cases hi : i < N
  · by_cases hk : k = i
    · subst hk
      rw [if_pos rfl, if_pos (by rw [wl_len]; exact hi), wl_at hi, h0]
    · rw [if_neg hk, wl_at hi, wl_at hi, h i (fun q => hk q.symm)]
  · have n1 : (wl E ad ρ N σ)[i]? = none := by rw [List.getElem?_eq_none_iff, wl_len]; omega
    have n2 : (wl E ad ρ' N σ')[i]? = none := by rw [List.getElem?_eq_none_iff, wl_len]; omega
    by_cases hk : k = i
    · subst hk
      simp [wl_len, hi, n2]
    · rw [if_neg hk, n1, n2]
def AD (ad : Nat → Nat) (N B0 : Nat) : Prop := (∀ i j, i < N → j < N → ad i = ad j → i = j) ∧ ∀ k, k < N → B0 ≤ ad k
theorem AD.D {ad : Nat → Nat} {N : Nat} {E : Ev} {ρ : Nat → Nat → Nat} {σ : Sg} (h : AD ad N E.2.2.2.2) : va_D (fun q => E.2.2.2.2 ≤ q) (wl E ad ρ N σ) := by
  refine ⟨fun i j p q hi hj e => ?_, fun k q hk => ?_⟩
  · obtain ⟨h1, rfl⟩ := wl_inv hi
    obtain ⟨h2, rfl⟩ := wl_inv hj
    exact h.1 i j h1 h2 e
  · obtain ⟨h1, rfl⟩ := wl_inv hk
    exact h.2 k h1
theorem fs_get {ad : Nat → Nat} {ρ : Nat → Nat → Nat} {σ : Sg} {k ci j t : Nat} (h : (fcl ci)[j]? = some t) : (fs ad ρ σ k ci)[j]? = some (fv ad ρ σ k j t) := by
  have hj : j < (fcl ci).length := (List.getElem?_eq_some_iff.mp h).1
  have hd : (fcl ci).getD j 0 = t := by simp [List.getD, h]
  simp only [fs, List.getElem?_map, List.getElem?_range hj, Option.map_some, hd]
theorem fs_len {ad : Nat → Nat} {ρ : Nat → Nat → Nat} {σ : Sg} {k ci : Nat} : (fs ad ρ σ k ci).length = (fcl ci).length := by simp [fs]
theorem fs_set {ad : Nat → Nat} {ρ ρ' : Nat → Nat → Nat} {σ σ' : Sg} {k ci j t : Nat} {v : Value} (h : (fcl ci)[j]? = some t) (hv : v = fv ad ρ' σ' k j t) (ho : ∀ i t', i ≠ j → fv ad ρ' σ' k i t' = fv ad ρ σ k i t') : (fs ad ρ σ k ci).set j v = fs ad ρ' σ' k ci := by
  have hj : j < (fcl ci).length := (List.getElem?_eq_some_iff.mp h).1
  apply List.ext_getElem?
  intro i
  rw [List.getElem?_set]
  by_cases hi : i < (fcl ci).length
  · obtain ⟨t', ht'⟩ : ∃ t', (fcl ci)[i]? = some t' := ⟨_, List.getElem?_eq_getElem hi⟩
    by_cases hk : j = i
    · subst hk
      rw [h] at ht'
      cases ht'
      rw [if_pos rfl, if_pos (by rw [fs_len]; exact hi), fs_get h, hv]
    · rw [if_neg hk, fs_get ht', fs_get ht', ho i t' (fun q => hk q.symm)]
  · have n1 : (fs ad ρ σ k ci)[i]? = none := by rw [List.getElem?_eq_none_iff, fs_len]; omega
    have n2 : (fs ad ρ' σ' k ci)[i]? = none := by rw [List.getElem?_eq_none_iff, fs_len]; omega
    by_cases hk : j = i
    · subst hk
      exact absurd hj hi
    · rw [if_neg hk, n1, n2]
theorem ent_obj {E : Ev} {ad : Nat → Nat} {ρ : Nat → Nat → Nat} {σ : Sg} {k ci : Nat} (h : lay k = ci) (h7 : ci < 7) : ent E ad ρ σ k = .inr (ci, fs ad ρ σ k ci) := by
  subst h
  simp [ent, h7]
theorem ent_int {E : Ev} {ad : Nat → Nat} {ρ : Nat → Nat → Nat} {σ : Sg} {k : Nat} (h : lay k = 7) : ent E ad ρ σ k = .inl (E.2.1.1, (len k, .inl (σ.1 k))) := by
  simp [ent, h]
theorem ent_bool {E : Ev} {ad : Nat → Nat} {ρ : Nat → Nat → Nat} {σ : Sg} {k : Nat} (h : lay k = 8) : ent E ad ρ σ k = .inl (E.2.1.2, (len k, .inl (σ.1 k))) := by
  simp [ent, h]
theorem ent_same {E : Ev} {ad : Nat → Nat} {ρ ρ' : Nat → Nat → Nat} {σ σ' : Sg} {k : Nat} (h1 : σ'.1 k = σ.1 k) (h2 : σ'.2 k = σ.2 k) (h3 : ρ' k = ρ k) : ent E ad ρ' σ' k = ent E ad ρ σ k := by
  have hf : ∀ j t, fv ad ρ' σ' k j t = fv ad ρ σ k j t := fun j t => by
    unfold fv
    rw [h1, h2, h3]
  unfold ent fs
  simp only [hf, h1]
-- what a state's machine and its old cells hold: the classes, the nest's words, the literals, a static
def litT (i : Nat) : String := ["house", "say", "ear", "strip", "paper", "minutes"].getD i ""
def litK (i : Nat) : Nat := [32, 64, 66, 68, 70, 72].getD i 0
def litN : List Nat := [5, 3, 3, 5, 5, 7]
def litB : List (List Int32) := [[104, 111, 117, 115, 101], [115, 97, 121], [101, 97, 114], [115, 116, 114, 105, 112], [112, 97, 112, 101, 114], [109, 105, 110, 117, 116, 101, 115]]
abbrev EA (E : Ev) : Nat → Prop := fun q => E.2.2.2.2 ≤ q
def VmOK (E : Ev) (U : State) : Prop :=
  va_K E.1 vwCl [(E.2.1.1, .int), (E.2.1.2, .boolean)] U ∧ (∀ w ∈ nestL, va_Nw w U) ∧ (∀ i, i < 6 → vk_R RX5 (litK i) (litT i) (E.2.2.1 i) U) ∧
  vk_S 6 litN litB E.2.2.1 E.2.2.2.1 (EA E) U U.heap ∧ va_Z "java/lang/String" "COMPACT_STRINGS" "Z" (.int 1) (EA E) U U.heap ∧ E.2.2.2.2 ≤ U.heap.size ∧ va_Zq "jdk/internal/util/Preconditions" "SIOOBE_FORMATTER" "Ljava/util/function/BiFunction;" (EA E) U U.heap
theorem VmOK.next {E : Ev} {s U : State} (h : VmOK E s) (hW : s.WarmedH U.vm) (hk : ∀ q : Nat, q < s.heap.size → ¬ EA E q → U.heap[q]? = s.heap[q]?) (hz : s.heap.size ≤ U.heap.size) : VmOK E U := by
  obtain ⟨h1, h2, h3, h4, h5, h6, h7⟩ := h
  refine ⟨va_K.moved hW.alike h1, fun w hw => ?_, fun i hi => (h3 i hi).warm hW, (vk_S.moved hW.alike h4).kept hk, (va_Z.moved hW.alike h5).kept hk, Nat.le_trans h6 hz, (va_Zq.moved hW.alike h7).kept hk⟩
  have h := h2 w hw
  simp only [nestL, List.mem_cons, List.not_mem_nil, or_false] at hw
  rcases hw with rfl | rfl | rfl | rfl | rfl | rfl <;> exact h.warmM hW
theorem VmOK.same {E : Ev} {s U : State} (h : VmOK E s) (hv : U.vm = s.vm) (hh : U.heap = s.heap) : VmOK E U := by
  obtain ⟨h1, h2, h3, h4, h5, h6, h7⟩ := h
  have ha : s.vm.Alike U.vm := by rw [hv]; exact Vm.Alike.refl _
  refine ⟨va_K.moved ha h1, fun w hw => ?_, fun i hi => (h3 i hi).same hv, (vk_S.moved ha h4).kept (fun q _ _ => by rw [hh]), (va_Z.moved ha h5).kept (fun q _ _ => by rw [hh]), by rw [hh]; exact h6, (va_Zq.moved ha h7).kept (fun q _ _ => by rw [hh])⟩
  have h := h2 w hw
  simp only [nestL, List.mem_cons, List.not_mem_nil, or_false] at hw
  rcases hw with rfl | rfl | rfl | rfl | rfl | rfl <;> exact va_Nw.same rfl hv.symm h
-- a method's start and end
def PreU (E : Ev) (ad : Nat → Nat) (ρ : Nat → Nat → Nat) (N : Nat) (σ : Sg) (U : State) : Prop := va_P E.1 vwCl (wl E ad ρ N σ) U.heap ∧ AD ad N E.2.2.2.2 ∧ VmOK E U
def QcN (E : Ev) (ad : Nat → Nat) (res : Option Value × Sg) : Array Value → State → Outcome → State → Prop := fun _ st oc t => oc = .returned res.1 ∧ va_P E.1 vwCl (wl E ad RF 85 res.2) t.heap ∧ va_F (EA E) st t
def QcC (E : Ev) (ad : Nat → Nat) (N N' : Nat) (ρ' : Nat → Nat → Nat) (σ' : Sg) : Array Value → State → Outcome → State → Prop := fun _ st oc t => oc = .returned none ∧ (∃ ad', (∀ k, k < N → ad' k = ad k) ∧ AD ad' N' E.2.2.2.2 ∧ va_P E.1 vwCl (wl E ad' ρ' N' σ') t.heap) ∧ va_F (EA E) st t
theorem blindU {E : Ev} {ad : Nat → Nat} {ρ : Nat → Nat → Nat} {N : Nat} {σ : Sg} {av : List Value} : FrameBlind (va_Pc av (PreU E ad ρ N σ)) := by
  intro a U g mk h
  obtain ⟨h1, h2, h3, h4⟩ := h
  exact ⟨h1, h2, h3, h4.same (s := U) rfl rfl⟩
-- the judgement
abbrev Cx : Type := Program × Launch × Env × Room × State × MethodId × Array Value × List Frame × Method × Code × (State → Prop)
abbrev Cx.p (Γ : Cx) := Γ.1
abbrev Cx.s (Γ : Cx) := Γ.2.2.2.2.1
abbrev Cx.m (Γ : Cx) := Γ.2.2.2.2.2.1
abbrev Cx.args (Γ : Cx) := Γ.2.2.2.2.2.2.1
abbrev Cx.c (Γ : Cx) := Γ.2.2.2.2.2.2.2.2.2.1
def CW (Γ : Cx) (H : Heap) (locs : List Loc) (cells slots : Nat) (g : JFrame) : Prop :=
  W Γ.1 Γ.2.1 Γ.2.2.1 Γ.2.2.2.1 Γ.2.2.2.2.1 Γ.2.2.2.2.2.1 Γ.2.2.2.2.2.2.1 Γ.2.2.2.2.2.2.2.1 Γ.2.2.2.2.2.2.2.2.1 Γ.2.2.2.2.2.2.2.2.2.1 H locs cells slots Γ.2.2.2.2.2.2.2.2.2.2 g
/-- what holds all through a method: the machine, its code, its class, its words, the old cells -/
def XC (Γ : Cx) (E : Ev) (rm : Room) (cc : ByteArray) (nL : Nat) (own : String) : Prop :=
  Γ.p.tables.exec = Jvm.exec ∧ Γ.c.code = cc ∧ Γ.c.maxLocals = nL ∧ Γ.s.vm.findClass own = some Γ.m.cls ∧ (∀ w ∈ BG, w.before Γ.args Γ.s = true) ∧ VmOK E Γ.s ∧ Γ.2.2.2.1 = rm
/-- how a method that answers ends -/
def XQ (Γ : Cx) (E : Ev) (ad : Nat → Nat) (ret : Option FieldType) (res : Option Value × Sg) : Prop :=
  Γ.2.2.2.2.2.2.2.2.1.sig.returnType = ret ∧ Γ.2.2.2.2.2.2.2.2.1.locks = false ∧ Γ.2.2.2.2.2.2.2.2.2.2 = MQ Γ.2.2.2.2.2.2.2.1 (QcN E ad res) Γ.args Γ.s 0 0 (EA E)
def J (Γ : Cx) (E : Ev) (nL : Nat) (ad : Nat → Nat) (ρ : Nat → Nat → Nat) (N : Nat) (σ : Sg) (cs sz : Nat) (pc : Nat) (L : List (Nat × Value)) (st : List Value) : Prop :=
  ∀ (H : Heap) (locs : List Loc) (ls : Array Slot), lv_has ls nL L → va_P E.1 vwCl (wl E ad ρ N σ) H → AD ad N E.2.2.2.2 → va_S (EA E) Γ.s.heap H locs → CW Γ H locs cs sz (F0 Γ.m pc ls st)
theorem J.sub {Γ : Cx} {E : Ev} {nL : Nat} {ad : Nat → Nat} {ρ : Nat → Nat → Nat} {N : Nat} {σ : Sg} {cs sz pc : Nat} {L L' : List (Nat × Value)} {st : List Value} (ks : List Nat) (hl : lv_pick L ks = L') (h : J Γ E nL ad ρ N σ cs sz pc L' st) : J Γ E nL ad ρ N σ cs sz pc L st :=
  fun H locs ls h1 h2 h3 h4 => h H locs ls (lv_sub h1 ks hl) h2 h3 h4
