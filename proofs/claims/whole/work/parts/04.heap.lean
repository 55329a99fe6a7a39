/-! ===== HEAP ROWS: fields, arrays ===== -/
theorem bg_lay {C : String} {T : u_T} {F : Nat} (h : (u_ws C T F).all (fun w => decide (w ∈ lw_tbl) && goodWord w) = true) : ∀ w ∈ u_ws C T F, w ∈ BG := by
  intro w hw
  have h1 := List.all_eq_true.mp h w hw
  rw [Bool.and_eq_true] at h1
  exact List.mem_filter.mpr ⟨of_decide_eq_true h1.1, h1.2⟩
def CFact (ci : Nat) (C : String) (T : u_T) (F : Nat) (ty0 : Nat → FieldType) : Prop :=
  vwCl[ci]? = some (C, T, F) ∧ (∀ w ∈ u_ws C T F, w ∈ BG) ∧ (∀ k, k < F → parseFieldDescriptor (T k).2.2.1 = some (ty0 k)) ∧ (∀ a, a < F → ∀ b, b < F → a ≠ b → (T a).2.1 ≠ (T b).2.1) ∧ (∀ j, j < F → (T j).1 = C) ∧ (fcl ci).length = F ∧ ci < 7
theorem cf0 : CFact 0 RX1 TX1 2 tyX1 := ⟨rfl, bg_lay (by decide +kernel), tyX1_ok, nmX1, by decide +kernel, rfl, by decide⟩
theorem cf1 : CFact 1 RX2 TX2 8 tyX2 := ⟨rfl, bg_lay (by decide +kernel), tyX2_ok, nmX2, by decide +kernel, rfl, by decide⟩
theorem cf2 : CFact 2 RX4 TX4 1 tyX4 := ⟨rfl, bg_lay (by decide +kernel), tyX4_ok, nmX4, by decide +kernel, rfl, by decide⟩
theorem cf3 : CFact 3 RX5 TX5 7 tyX5 := ⟨rfl, bg_lay (by decide +kernel), tyX5_ok, nmX5, by decide +kernel, rfl, by decide⟩
theorem cf4 : CFact 4 RX6 TX6 4 tyX6 := ⟨rfl, bg_lay (by decide +kernel), tyX6_ok, nmX6, by decide +kernel, rfl, by decide⟩
theorem cf5 : CFact 5 RX7 TX7 12 tyX7 := ⟨rfl, bg_lay (by decide +kernel), tyX7_ok, nmX7, by decide +kernel, rfl, by decide⟩
theorem cf6 : CFact 6 RX8 TX8 27 tyX8 := ⟨rfl, bg_lay (by decide +kernel), tyX8_ok, nmX8, by decide +kernel, rfl, by decide⟩
section HEAP
variable {Γ : Cx} {E : Ev} {rm : Room} {cc : ByteArray} {nL : Nat} {own : String} {ad : Nat → Nat} {ρ : Nat → Nat → Nat} {N : Nat} {σ : Sg} {cs sz pc : Nat} {L : List (Nat × Value)} {st : List Value} {ci : Nat} {C : String} {T : u_T} {F : Nat} {ty0 : Nat → FieldType} {k j t index : Nat} {nm dd : String}
theorem wl_obj (hk : k < N) (hl : lay k = ci) (h7 : ci < 7) : (wl E ad ρ N σ)[k]? = some (ad k, .inr (ci, fs ad ρ σ k ci)) := by
  rw [wl_at hk, ent_obj hl h7]
theorem wl_int (hk : k < N) (hl : lay k = 7) : (wl E ad ρ N σ)[k]? = some (ad k, .inl (E.2.1.1, (len k, .inl (σ.1 k)))) := by
  rw [wl_at hk, ent_int hl]
theorem wl_bool (hk : k < N) (hl : lay k = 8) : (wl E ad ρ N σ)[k]? = some (ad k, .inl (E.2.1.2, (len k, .inl (σ.1 k)))) := by
  rw [wl_at hk, ent_bool hl]
theorem fcl_lt (hC : CFact ci C T F ty0) (h : (fcl ci)[j]? = some t) : j < F := by
  rw [← hC.2.2.2.2.2.1]
  exact (List.getElem?_eq_some_iff.mp h).1
theorem j_get0 (X : XC Γ E rm cc nL own) (hC : CFact ci C T F ty0) (hk : k < N) (hl : lay k = ci) (hf : (fcl ci)[j]? = some t) (hn : (T j).2.1 = nm ∧ (T j).2.2.1 = dd) (hw : Cond.fieldLink own index C nm dd ∈ BG) (hd : decode cc pc = .ok (.getfield index, 3)) (kk : J Γ E nL ad ρ N σ cs sz (pc + 3) L (fv ad ρ σ k j t :: st)) : J Γ E nL ad ρ N σ cs sz pc L (.ref (ad k) :: st) := by
  have hj := fcl_lt hC hf
  obtain ⟨h1, h2, h3, h4, h5, h6, h7⟩ := hC
  obtain ⟨rfl, rfl⟩ := hn
  exact fun H locs ls hl' hP hA hS => va_get (D := E.1) (own := own) (ref := C) (C := C) (T := T) (N := F) (ci := ci) X.1 X.2.1 X.2.2.2.2.1 h2 X.2.2.2.1 X.2.2.2.2.2.1.1 hP k (wl_obj hk hl h7) h1 j hj (X.2.2.2.2.1 _ hw) (fun x hx => by rw [h5 j hj] at hx; exact hx) (fs_get hf) hd (kk H locs ls hl' hP hA hS)
theorem j_geti (X : XC Γ E rm cc nL own) (hC : CFact ci C T F ty0) (hk : k < N) (hl : lay k = ci) (j : Nat) (hf : (fcl ci)[j]? = some 0) (hn : (T j).2.1 = nm ∧ (T j).2.2.1 = dd) (hw : Cond.fieldLink own index C nm dd ∈ BG) (hd : decode cc pc = .ok (.getfield index, 3)) (kk : J Γ E nL ad ρ N σ cs sz (pc + 3) L (.int (σ.1 k j) :: st)) : J Γ E nL ad ρ N σ cs sz pc L (.ref (ad k) :: st) := j_get0 X hC hk hl hf hn hw hd kk
theorem j_getl (X : XC Γ E rm cc nL own) (hC : CFact ci C T F ty0) (hk : k < N) (hl : lay k = ci) (j : Nat) (hf : (fcl ci)[j]? = some 1) (hn : (T j).2.1 = nm ∧ (T j).2.2.1 = dd) (hw : Cond.fieldLink own index C nm dd ∈ BG) (hd : decode cc pc = .ok (.getfield index, 3)) (kk : J Γ E nL ad ρ N σ cs sz (pc + 3) L (.long (σ.2 k j) :: st)) : J Γ E nL ad ρ N σ cs sz pc L (.ref (ad k) :: st) := j_get0 X hC hk hl hf hn hw hd kk
theorem j_getr (X : XC Γ E rm cc nL own) (hC : CFact ci C T F ty0) (hk : k < N) (hl : lay k = ci) (j : Nat) (hf : (fcl ci)[j]? = some 2) (hn : (T j).2.1 = nm ∧ (T j).2.2.1 = dd) (p : Nat) (hp : ρ k j = p + 1) (hw : Cond.fieldLink own index C nm dd ∈ BG) (hd : decode cc pc = .ok (.getfield index, 3)) (kk : J Γ E nL ad ρ N σ cs sz (pc + 3) L (.ref (ad p) :: st)) : J Γ E nL ad ρ N σ cs sz pc L (.ref (ad k) :: st) := by
  refine j_get0 X hC hk hl hf hn hw hd ?_
  show J Γ E nL ad ρ N σ cs sz (pc + 3) L (rv ad (ρ k j) :: st)
  rw [hp]
  exact kk
theorem j_put0 {v : Value} {σ' : Sg} {ρ' : Nat → Nat → Nat} (X : XC Γ E rm cc nL own) (hC : CFact ci C T F ty0) (hk : k < N) (hl : lay k = ci) (hf : (fcl ci)[j]? = some t) (hn : (T j).2.1 = nm ∧ (T j).2.2.1 = dd) (hfin : (T j).2.2.2 = false ∨ ((T j).2.2.2 = true ∧ Γ.2.2.2.2.2.2.2.2.1.name = "<init>" ∧ C = own))
    (hnr : narrow (ty0 j) v = v) (hfi : fits (ty0 j) v = true) (hv : v = fv ad ρ' σ' k j t) (ho : ∀ i t', i ≠ j → fv ad ρ' σ' k i t' = fv ad ρ σ k i t') (hs : ∀ i, i ≠ k → σ'.1 i = σ.1 i ∧ σ'.2 i = σ.2 i ∧ ρ' i = ρ i)
    (hw : Cond.fieldLink own index C nm dd ∈ BG) (hd : decode cc pc = .ok (.putfield index, 3)) (kk : J Γ E nL ad ρ' N σ' cs sz (pc + 3) L st) : J Γ E nL ad ρ N σ cs sz pc L (v :: .ref (ad k) :: st) := by
  have hj := fcl_lt hC hf
  obtain ⟨h1, h2, h3, h4, h5, h6, h7⟩ := hC
  obtain ⟨rfl, rfl⟩ := hn
  have e1 : (wl E ad ρ N σ).set k (ad k, .inr (ci, (fs ad ρ σ k ci).set j v)) = wl E ad ρ' N σ' :=
    wl_set (by rw [fs_set hf hv ho, ent_obj hl h7]) (fun i hi => ent_same (hs i hi).1 (hs i hi).2.1 (hs i hi).2.2)
  intro H locs ls hl' hP hA hS
  rcases hfin with hfin | ⟨hfin, hin, rfl⟩
  · refine va_put (D := E.1) (own := own) (ref := C) (C := C) (T := T) (N := F) (ci := ci) X.1 X.2.1 X.2.2.2.2.1 h2 ty0 h3 h4 X.2.2.2.1 X.2.2.2.2.2.1.1 hP hA.D hS k (wl_obj hk hl h7) h1 j hj (X.2.2.2.2.1 _ hw) (fun x hx => by rw [h5 j hj] at hx; exact hx) hfin (h3 j hj) hnr hfi (by rw [fs_len, h6]; exact hj) hd (fun H1 locs1 hP1 hD1 hS1 => ?_)
    rw [e1] at hP1
    exact kk H1 locs1 ls hl' hP1 hA hS1
  · refine va_putF (D := E.1) (own := C) (ref := C) (C := C) (T := T) (N := F) (ci := ci) X.1 X.2.1 X.2.2.2.2.1 h2 ty0 h3 h4 X.2.2.2.1 X.2.2.2.2.2.1.1 hP hA.D hS k (wl_obj hk hl h7) h1 j hj (X.2.2.2.2.1 _ hw) (fun x hx => by rw [h5 j hj] at hx; exact hx) hfin hin (h5 j hj) (h3 j hj) hnr hfi (by rw [fs_len, h6]; exact hj) hd (fun H1 locs1 hP1 hD1 hS1 => ?_)
    rw [e1] at hP1
    exact kk H1 locs1 ls hl' hP1 hA hS1
theorem si_fv {x : Int32} : ∀ i t', i ≠ j → fv ad ρ (si σ k j x) k i t' = fv ad ρ σ k i t' := by
  intro i t' h
  unfold fv si
  split <;> simp [h]
theorem si_off {x : Int32} : ∀ i, i ≠ k → (si σ k j x).1 i = σ.1 i ∧ (si σ k j x).2 i = σ.2 i ∧ ρ i = ρ i := by
  intro i h
  refine ⟨?_, rfl, rfl⟩
  funext b
  simp [si, h]
theorem sl_fv {x : Int64} : ∀ i t', i ≠ j → fv ad ρ (sl σ k j x) k i t' = fv ad ρ σ k i t' := by
  intro i t' h
  unfold fv sl
  split <;> simp [h]
theorem sl_off {x : Int64} : ∀ i, i ≠ k → (sl σ k j x).1 i = σ.1 i ∧ (sl σ k j x).2 i = σ.2 i ∧ ρ i = ρ i := by
  intro i h
  refine ⟨rfl, ?_, rfl⟩
  funext b
  simp [sl, h]
theorem j_puti {x : Int32} {σ' : Sg} (X : XC Γ E rm cc nL own) (hC : CFact ci C T F ty0) (hk : k < N) (hl : lay k = ci) (j : Nat) (hf : (fcl ci)[j]? = some 0) (hn : (T j).2.1 = nm ∧ (T j).2.2.1 = dd) (hfin : (T j).2.2.2 = false ∨ ((T j).2.2.2 = true ∧ Γ.2.2.2.2.2.2.2.2.1.name = "<init>" ∧ C = own)) (hnr : narrow (ty0 j) (.int x) = .int x) (hfi : fits (ty0 j) (.int x) = true) (hσ : σ' = si σ k j x)
    (hw : Cond.fieldLink own index C nm dd ∈ BG) (hd : decode cc pc = .ok (.putfield index, 3)) (kk : J Γ E nL ad ρ N σ' cs sz (pc + 3) L st) : J Γ E nL ad ρ N σ cs sz pc L (.int x :: .ref (ad k) :: st) := by
  subst hσ
  exact j_put0 X hC hk hl hf hn hfin hnr hfi (by simp [fv, si]) si_fv si_off hw hd kk
theorem j_putl {x : Int64} {σ' : Sg} (X : XC Γ E rm cc nL own) (hC : CFact ci C T F ty0) (hk : k < N) (hl : lay k = ci) (j : Nat) (hf : (fcl ci)[j]? = some 1) (hn : (T j).2.1 = nm ∧ (T j).2.2.1 = dd) (hfin : (T j).2.2.2 = false) (hnr : narrow (ty0 j) (.long x) = .long x) (hfi : fits (ty0 j) (.long x) = true) (hσ : σ' = sl σ k j x)
    (hw : Cond.fieldLink own index C nm dd ∈ BG) (hd : decode cc pc = .ok (.putfield index, 3)) (kk : J Γ E nL ad ρ N σ' cs sz (pc + 3) L st) : J Γ E nL ad ρ N σ cs sz pc L (.long x :: .ref (ad k) :: st) := by
  subst hσ
  exact j_put0 X hC hk hl hf hn (.inl hfin) hnr hfi (by simp [fv, sl]) sl_fv sl_off hw hd kk
def rput (ρ : Nat → Nat → Nat) (k j p : Nat) : Nat → Nat → Nat := fun a b => if a = k ∧ b = j then p else ρ a b
theorem j_putr {p : Nat} (X : XC Γ E rm cc nL own) (hC : CFact ci C T F ty0) (hk : k < N) (hl : lay k = ci) (j : Nat) (hf : (fcl ci)[j]? = some 2) (hn : (T j).2.1 = nm ∧ (T j).2.2.1 = dd) (hfin : (T j).2.2.2 = true ∧ Γ.2.2.2.2.2.2.2.2.1.name = "<init>" ∧ C = own) (hnr : narrow (ty0 j) (.ref (ad p)) = .ref (ad p)) (hfi : fits (ty0 j) (.ref (ad p)) = true)
    (hw : Cond.fieldLink own index C nm dd ∈ BG) (hd : decode cc pc = .ok (.putfield index, 3)) (kk : J Γ E nL ad (rput ρ k j (p + 1)) N σ cs sz (pc + 3) L st) : J Γ E nL ad ρ N σ cs sz pc L (.ref (ad p) :: .ref (ad k) :: st) := by
  refine j_put0 X hC hk hl hf hn (.inr hfin) hnr hfi (by simp [fv, rv, rput]) (fun i t' h => ?_) (fun i h => ⟨rfl, rfl, ?_⟩) hw hd kk
  · unfold fv
    split <;> simp [rput, h]
  · funext b
    simp [rput, h]
theorem j_iald {i : Int32} (X : XC Γ E rm cc nL own) (hk : k < N) (hl : lay k = 7) (hin : ¬ (i < 0 ∨ len k ≤ i.toNatClampNeg)) (hd : decode cc pc = .ok (.iaload, 1)) (kk : J Γ E nL ad ρ N σ cs sz (pc + 1) L (.int (σ.1 k i.toNatClampNeg) :: st)) : J Γ E nL ad ρ N σ cs sz pc L (.int i :: .ref (ad k) :: st) :=
  fun H locs ls hl' hP hA hS => va_iald (D := E.1) X.1 X.2.1 X.2.2.2.2.2.1.1 hP k 0 (wl_int hk hl) rfl hin hd (kk H locs ls hl' hP hA hS)
theorem j_zald {i : Int32} (X : XC Γ E rm cc nL own) (hk : k < N) (hl : lay k = 8) (hin : ¬ (i < 0 ∨ len k ≤ i.toNatClampNeg)) (hd : decode cc pc = .ok (.baload, 1)) (kk : J Γ E nL ad ρ N σ cs sz (pc + 1) L (.int (σ.1 k i.toNatClampNeg) :: st)) : J Γ E nL ad ρ N σ cs sz pc L (.int i :: .ref (ad k) :: st) :=
  fun H locs ls hl' hP hA hS => va_zald (D := E.1) X.1 X.2.1 X.2.2.2.2.2.1.1 hP k 1 (wl_bool hk hl) rfl hin hd (kk H locs ls hl' hP hA hS)
theorem arr_set7 {i : Nat} {x : Int32} (hl : lay k = 7) : (wl E ad ρ N σ).set k (ad k, .inl (E.2.1.1, (len k, .inl (upd (σ.1 k) i x)))) = wl E ad ρ N (si σ k i x) := by
  refine wl_set ?_ (fun a ha => ent_same (si_off (ρ := ρ) a ha).1 rfl rfl)
  rw [ent_int hl]
  have : upd (σ.1 k) i x = (si σ k i x).1 k := by
    funext b
    simp [upd, si]
  rw [this]
theorem arr_set8 {i : Nat} {x : Int32} (hl : lay k = 8) : (wl E ad ρ N σ).set k (ad k, .inl (E.2.1.2, (len k, .inl (upd (σ.1 k) i x)))) = wl E ad ρ N (si σ k i x) := by
  refine wl_set ?_ (fun a ha => ent_same (si_off (ρ := ρ) a ha).1 rfl rfl)
  rw [ent_bool hl]
  have : upd (σ.1 k) i x = (si σ k i x).1 k := by
    funext b
    simp [upd, si]
  rw [this]
theorem j_iast {i x : Int32} {σ' : Sg} (X : XC Γ E rm cc nL own) (hk : k < N) (hl : lay k = 7) (hin : ¬ (i < 0 ∨ len k ≤ i.toNatClampNeg)) (hσ : σ' = si σ k i.toNatClampNeg x) (hd : decode cc pc = .ok (.iastore, 1)) (kk : J Γ E nL ad ρ N σ' cs sz (pc + 1) L st) : J Γ E nL ad ρ N σ cs sz pc L (.int x :: .int i :: .ref (ad k) :: st) := by
  subst hσ
  intro H locs ls hl' hP hA hS
  refine va_iast (D := E.1) X.1 X.2.1 X.2.2.2.2.2.1.1 hP hA.D hS k 0 (wl_int hk hl) rfl hin hd (fun H1 locs1 hP1 hD1 hS1 => ?_)
  rw [arr_set7 hl] at hP1
  exact kk H1 locs1 ls hl' hP1 hA hS1
theorem j_zast {i x : Int32} {σ' : Sg} (X : XC Γ E rm cc nL own) (hk : k < N) (hl : lay k = 8) (hin : ¬ (i < 0 ∨ len k ≤ i.toNatClampNeg)) (hx : vp_nar .boolean x = x) (hσ : σ' = si σ k i.toNatClampNeg x) (hd : decode cc pc = .ok (.bastore, 1)) (kk : J Γ E nL ad ρ N σ' cs sz (pc + 1) L st) : J Γ E nL ad ρ N σ cs sz pc L (.int x :: .int i :: .ref (ad k) :: st) := by
  subst hσ
  intro H locs ls hl' hP hA hS
  refine va_zast (D := E.1) X.1 X.2.1 X.2.2.2.2.2.1.1 hP hA.D hS k 1 (wl_bool hk hl) rfl hin hd (fun H1 locs1 hP1 hD1 hS1 => ?_)
  rw [hx, arr_set8 hl] at hP1
  exact kk H1 locs1 ls hl' hP1 hA hS1
theorem j_alen (X : XC Γ E rm cc nL own) (hk : k < N) (hl : lay k = 7) (hd : decode cc pc = .ok (.arraylength, 1)) (kk : J Γ E nL ad ρ N σ cs sz (pc + 1) L (.int (nI (len k)) :: st)) : J Γ E nL ad ρ N σ cs sz pc L (.ref (ad k) :: st) :=
  fun H locs ls hl' hP hA hS => va_alen (D := E.1) X.1 X.2.1 X.2.2.2.2.2.1.1 hP k 0 (wl_int hk hl) rfl rfl hd (kk H locs ls hl' hP hA hS)
end HEAP
