/-! ===== THE LAW: printed by wip/gen/mklaw.py ===== -/
def Sp_house (Rel : Sg → Prop) : Prop := ∀ σ, Rel σ → ∃ (r : Int32) (σ1 : Sg) (σ2 : Sg), m_X7_house σ = some (r, σ1) ∧ m_X8_house σ1 = some (r, σ2) ∧ Rel σ2
def Sp_say (Rel : Sg → Prop) : Prop := ∀ σ, Rel σ → ∀ a1 a2 a3 : Int32, ∃ (r : Int32) (σ1 : Sg) (σ2 : Sg), m_X7_say a1 a2 a3 σ = some (r, σ1) ∧ m_X8_say a1 a2 a3 σ1 = some (r, σ2) ∧ Rel σ2
def Sp_ear (Rel : Sg → Prop) : Prop := ∀ σ, Rel σ → ∀ a1 : Int32, ∃ (r : Int32) (σ1 : Sg) (σ2 : Sg), m_X7_ear a1 σ = some (r, σ1) ∧ m_X8_ear a1 σ1 = some (r, σ2) ∧ Rel σ2
def Sp_type (Rel : Sg → Prop) : Prop := ∀ σ, Rel σ → ∀ a1 : Int32, ∃ (r : Int32) (σ1 : Sg) (σ2 : Sg), m_X7_type a1 σ = some (r, σ1) ∧ m_X8_type a1 σ1 = some (r, σ2) ∧ Rel σ2
def Sp_clear (Rel : Sg → Prop) : Prop := ∀ σ, Rel σ → ∃ (r : Int32) (σ1 : Sg) (σ2 : Sg), m_X7_clear σ = some (r, σ1) ∧ m_X8_clear σ1 = some (r, σ2) ∧ Rel σ2
def Sp_read (Rel : Sg → Prop) : Prop := ∀ σ, Rel σ → ∃ (r : Int32) (σ1 : Sg) (σ2 : Sg), m_X7_read σ = some (r, σ1) ∧ m_X8_read σ1 = some (r, σ2) ∧ Rel σ2
def Sp_strips (Rel : Sg → Prop) : Prop := ∀ σ, Rel σ → ∀ a1 : Int32, ∃ (r : Int32) (σ1 : Sg) (σ2 : Sg), m_X7_strips a1 σ = some (r, σ1) ∧ m_X8_strips a1 σ1 = some (r, σ2) ∧ Rel σ2
def Sp_papers (Rel : Sg → Prop) : Prop := ∀ σ, Rel σ → ∀ a1 : Int32, ∃ (r : Int32) (σ1 : Sg) (σ2 : Sg), m_X7_papers a1 σ = some (r, σ1) ∧ m_X8_papers a1 σ1 = some (r, σ2) ∧ Rel σ2
def Sp_goes (Rel : Sg → Prop) : Prop := ∀ σ, Rel σ → ∀ a1 a2 : Int32, ∃ (r : Int32) (σ1 : Sg) (σ2 : Sg), m_X7_goes a1 a2 σ = some (r, σ1) ∧ m_X8_goes a1 a2 σ1 = some (r, σ2) ∧ Rel σ2
def Sp_minutes (Rel : Sg → Prop) : Prop := ∀ σ, Rel σ → ∀ a1 : Int32, ∃ (r : Int32) (σ1 : Sg) (σ2 : Sg), m_X7_minutes a1 σ = some (r, σ1) ∧ m_X8_minutes a1 σ1 = some (r, σ2) ∧ Rel σ2
def Sp_undo (Rel : Sg → Prop) : Prop := ∀ σ, Rel σ → ∃ (r : Int32) (σ1 : Sg) (σ2 : Sg), m_X7_undo σ = some (r, σ1) ∧ m_X8_undo σ1 = some (r, σ2) ∧ Rel σ2
def Sp_of (Rel : Sg → Prop) : Prop := ∀ σ, Rel σ → ∀ a1 a2 : Int32, ∃ (r : Int32) (σ1 : Sg) (σ2 : Sg), m_X7_of a1 a2 σ = some (r, σ1) ∧ m_X8_of a1 a2 σ1 = some (r, σ2) ∧ Rel σ2
def Sp_about (Rel : Sg → Prop) : Prop := ∀ σ, Rel σ → ∀ a1 a2 : Int32, ∃ (r : Int32) (σ1 : Sg) (σ2 : Sg), m_X7_about a1 a2 σ = some (r, σ1) ∧ m_X8_about a1 a2 σ1 = some (r, σ2) ∧ Rel σ2
def Sp_room (Rel : Sg → Prop) : Prop := ∀ σ, Rel σ → ∀ a1 a2 : Int32, ∃ (r : Int32) (σ1 : Sg) (σ2 : Sg), m_X7_room a1 a2 σ = some (r, σ1) ∧ m_X8_room a1 a2 σ1 = some (r, σ2) ∧ Rel σ2
def Sp_loud (Rel : Sg → Prop) : Prop := ∀ σ, Rel σ → ∀ a1 a2 : Int32, ∃ (r : Int32) (σ1 : Sg) (σ2 : Sg), m_X7_loud a1 a2 σ = some (r, σ1) ∧ m_X8_loud a1 a2 σ1 = some (r, σ2) ∧ Rel σ2
def Sp_first (Rel : Sg → Prop) : Prop := ∀ σ, Rel σ → ∀ a1 a2 : Int32, ∃ (r : Int32) (σ1 : Sg) (σ2 : Sg), m_X7_first a1 a2 σ = some (r, σ1) ∧ m_X8_first a1 a2 σ1 = some (r, σ2) ∧ Rel σ2
def Sp_stay (Rel : Sg → Prop) : Prop := ∀ σ, Rel σ → ∀ a1 a2 a3 a4 : Int32, ∃ (r : Int32) (σ1 : Sg) (σ2 : Sg), m_X7_stay a1 a2 a3 a4 σ = some (r, σ1) ∧ m_X8_stay a1 a2 a3 a4 σ1 = some (r, σ2) ∧ Rel σ2
def Sp_stand (Rel : Sg → Prop) : Prop := ∀ σ, Rel σ → ∀ a1 a2 : Int32, ∃ (r : Int32) (σ1 : Sg) (σ2 : Sg), m_X7_stand a1 a2 σ = some (r, σ1) ∧ m_X8_stand a1 a2 σ1 = some (r, σ2) ∧ Rel σ2
def Sp_told (Rel : Sg → Prop) : Prop := ∀ σ, Rel σ → ∀ a1 a2 a3 : Int32, ∃ (r : Int32) (σ1 : Sg) (σ2 : Sg), m_X7_told a1 a2 a3 σ = some (r, σ1) ∧ m_X8_told a1 a2 a3 σ1 = some (r, σ2) ∧ Rel σ2
def Sp_said (Rel : Sg → Prop) : Prop := ∀ σ, Rel σ → ∀ a1 a2 : Int32, ∃ (r : Int32) (σ1 : Sg) (σ2 : Sg), m_X7_said a1 a2 σ = some (r, σ1) ∧ m_X8_said a1 a2 σ1 = some (r, σ2) ∧ Rel σ2
def Sp_note (Rel : Sg → Prop) : Prop := ∀ σ, Rel σ → ∀ a1 a2 a3 a4 : Int32, ∃ (r : Int32) (σ1 : Sg) (σ2 : Sg), m_X7_note a1 a2 a3 a4 σ = some (r, σ1) ∧ m_X8_note a1 a2 a3 a4 σ1 = some (r, σ2) ∧ Rel σ2
def Sp_mark (Rel : Sg → Prop) : Prop := ∀ σ, Rel σ → ∀ a1 a2 a3 a4 : Int32, ∃ (r : Int32) (σ1 : Sg) (σ2 : Sg), m_X7_mark a1 a2 a3 a4 σ = some (r, σ1) ∧ m_X8_mark a1 a2 a3 a4 σ1 = some (r, σ2) ∧ Rel σ2
def Sp_forget (Rel : Sg → Prop) : Prop := ∀ σ, Rel σ → ∀ a1 : Int32, ∃ (r : Int32) (σ1 : Sg) (σ2 : Sg), m_X7_forget a1 σ = some (r, σ1) ∧ m_X8_forget a1 σ1 = some (r, σ2) ∧ Rel σ2
def Sp_is (Rel : Sg → Prop) : Prop := ∀ σ, Rel σ → ∀ a1 : Int32, ∃ (r : Int32) (σ1 : Sg) (σ2 : Sg), m_X7_is a1 σ = some (r, σ1) ∧ m_X8_is a1 σ1 = some (r, σ2) ∧ Rel σ2
def Sp_look (Rel : Sg → Prop) : Prop := ∀ σ, Rel σ → ∀ a1 : Int32, ∃ (r : Int32) (σ1 : Sg) (σ2 : Sg), m_X7_look a1 σ = some (r, σ1) ∧ m_X8_look a1 σ1 = some (r, σ2) ∧ Rel σ2
def Sp_kinds (Rel : Sg → Prop) : Prop := ∀ σ, Rel σ → ∀ a1 : Int32, ∃ (r : Int32) (σ1 : Sg) (σ2 : Sg), m_X7_kinds a1 σ = some (r, σ1) ∧ m_X8_kinds a1 σ1 = some (r, σ2) ∧ Rel σ2
def Sp_ask (Rel : Sg → Prop) : Prop := ∀ σ, Rel σ → ∀ a1 : Int32, ∃ (r : Int32) (σ1 : Sg) (σ2 : Sg), m_X7_ask a1 σ = some (r, σ1) ∧ m_X8_ask a1 σ1 = some (r, σ2) ∧ Rel σ2
def Sp_brothers (Rel : Sg → Prop) : Prop := ∀ σ, Rel σ → ∀ a1 : Int32, ∃ (r : Int32) (σ1 : Sg) (σ2 : Sg), m_X7_brothers a1 σ = some (r, σ1) ∧ m_X8_brothers a1 σ1 = some (r, σ2) ∧ Rel σ2
def Sp_holds (Rel : Sg → Prop) : Prop := ∀ σ, Rel σ → ∀ a1 a2 a3 : Int32, ∃ (r : Int32) (σ1 : Sg) (σ2 : Sg), m_X7_holds a1 a2 a3 σ = some (r, σ1) ∧ m_X8_holds a1 a2 a3 σ1 = some (r, σ2) ∧ Rel σ2
def Sp_jobs (Rel : Sg → Prop) : Prop := ∀ σ, Rel σ → ∀ a1 a2 : Int32, ∃ (r : Int32) (σ1 : Sg) (σ2 : Sg), m_X7_jobs a1 a2 σ = some (r, σ1) ∧ m_X8_jobs a1 a2 σ1 = some (r, σ2) ∧ Rel σ2
def Sp_part (Rel : Sg → Prop) : Prop := ∀ σ, Rel σ → ∀ a1 : Int32, ∃ (r : Int64) (σ1 : Sg) (σ2 : Sg), m_X7_part a1 σ = some (r, σ1) ∧ m_X8_part a1 σ1 = some (r, σ2) ∧ Rel σ2
def Sp_image (Rel : Sg → Prop) : Prop := ∀ σ, Rel σ → ∀ a1 : Int32, ∃ (r : Int32) (σ1 : Sg) (σ2 : Sg), m_X7_image a1 σ = some (r, σ1) ∧ m_X8_image a1 σ1 = some (r, σ2) ∧ Rel σ2
def Sp_from (Rel : Sg → Prop) : Prop := ∀ σ, Rel σ → ∀ a1 : Int32, ∃ (r : Int32) (σ1 : Sg) (σ2 : Sg), m_X7_from a1 σ = some (r, σ1) ∧ m_X8_from a1 σ1 = some (r, σ2) ∧ Rel σ2
def Sp_status (Rel : Sg → Prop) : Prop := ∀ σ, Rel σ → ∀ a1 : Int32, ∃ (r : Int32) (σ1 : Sg) (σ2 : Sg), m_X7_status a1 σ = some (r, σ1) ∧ m_X8_status a1 σ1 = some (r, σ2) ∧ Rel σ2
def Sp_count (Rel : Sg → Prop) : Prop := ∀ σ, Rel σ → ∀ a1 : Int32, ∃ (r : Int32) (σ1 : Sg) (σ2 : Sg), m_X7_count a1 σ = some (r, σ1) ∧ m_X8_count a1 σ1 = some (r, σ2) ∧ Rel σ2
def Sp_digest (Rel : Sg → Prop) : Prop := ∀ σ, Rel σ → ∃ (r : Int64), m_X7_digest σ = some r ∧ m_X8_digest σ = some r ∧ Rel σ
def Sp (Rel : Sg → Prop) : Prop := Sp_house Rel ∧ Sp_say Rel ∧ Sp_ear Rel ∧ Sp_type Rel ∧ Sp_clear Rel ∧ Sp_read Rel ∧ Sp_strips Rel ∧ Sp_papers Rel ∧ Sp_goes Rel ∧ Sp_minutes Rel ∧ Sp_undo Rel ∧ Sp_of Rel ∧ Sp_about Rel ∧ Sp_room Rel ∧ Sp_loud Rel ∧ Sp_first Rel ∧ Sp_stay Rel ∧ Sp_stand Rel ∧ Sp_told Rel ∧ Sp_said Rel ∧ Sp_note Rel ∧ Sp_mark Rel ∧ Sp_forget Rel ∧ Sp_is Rel ∧ Sp_look Rel ∧ Sp_kinds Rel ∧ Sp_ask Rel ∧ Sp_brothers Rel ∧ Sp_holds Rel ∧ Sp_jobs Rel ∧ Sp_part Rel ∧ Sp_image Rel ∧ Sp_from Rel ∧ Sp_status Rel ∧ Sp_count Rel ∧ Sp_digest Rel
section LAW
variable {Γ : Cx} {E : Ev} {rm : Room} {cc : ByteArray} {nL : Nat} {own : String} {ad : Nat → Nat} {ρ : Nat → Nat → Nat} {N : Nat} {σ : Sg} {cs sz pc : Nat} {L : List (Nat × Value)} {st : List Value} {b M : Nat} {xs : Nat → Int32}
def XL (Γ : Cx) (E : Ev) (b M : Nat) (xs : Nat → Int32) : Prop := va_X b M xs Γ.s Γ.s.heap ∧ b < Γ.s.heap.size ∧ Γ.args = #[Value.ref b] ∧ E.2.2.2.2 = Γ.s.heap.size ∧ Γ.2.2.2.2.2.2.2.2.1.sig.returnType = ret ∧ Γ.2.2.2.2.2.2.2.2.1.locks = false ∧ Γ.2.2.2.2.2.2.2.2.2.2 = lw_Z Γ.2.2.2.2.2.2.2.1 #[Value.ref b] Γ.s
theorem XL.out (Z : XL Γ E b M xs) : ¬ EA E b := by
  intro h
  have h1 : E.2.2.2.2 ≤ b := h
  rw [Z.2.2.2.1] at h1
  exact absurd Z.2.1 (Nat.not_lt.mpr h1)
theorem j_sld {i : Int32} (X : XC Γ E rm cc nL own) (Z : XL Γ E b M xs) (hin : vp_in i M) (hd : decode cc pc = .ok (.iaload, 1)) (kk : J Γ E nL ad ρ N σ cs sz (pc + 1) L (.int (xs i.toNatClampNeg) :: st)) : J Γ E nL ad ρ N σ cs sz pc L (.int i :: .ref b :: st) :=
  fun H locs ls hl hP hA hS => va_sld X.1 X.2.1 Z.1 Z.2.1 Z.out hS hin hd (kk H locs ls hl hP hA hS)
theorem j_slen (X : XC Γ E rm cc nL own) (Z : XL Γ E b M xs) (hd : decode cc pc = .ok (.arraylength, 1)) (kk : J Γ E nL ad ρ N σ cs sz (pc + 1) L (.int (nI M) :: st)) : J Γ E nL ad ρ N σ cs sz pc L (.ref b :: st) :=
  fun H locs ls hl hP hA hS => va_slen X.1 X.2.1 Z.1 Z.2.1 Z.out hS hd (kk H locs ls hl hP hA hS)
theorem j_lawret (X : XC Γ E room_1 code nL own) (Z : XL Γ E b M xs) (hc : cs ≤ 600000 ∧ sz ≤ 7302249) (hd : decode code pc = .ok (.ireturn, 1)) : J Γ E nL ad ρ N σ cs sz pc L [.int 1] := by
  obtain ⟨p, l, e, R, s, m, args, below, meth, c, Q⟩ := Γ
  obtain ⟨z1, z2, z3, z4, z5, z6, z7⟩ := Z
  obtain ⟨x1, x2, x3, x4, x5, x6, x7⟩ := X
  intro H locs ls hl hP hA hS
  have z3 : args = #[Value.ref b] := z3
  subst z3
  have z7 : Q = lw_Z below #[Value.ref b] s := z7
  subst z7
  have x7 : R = room_1 := x7
  subst x7
  refine va_forget (fun q hq => ?_) ?_
  · have h := hS.2.2 q hq
    have h1 : E.2.2.2.2 ≤ q.base := h
    rw [z4] at h1
    exact h1
  · refine W.widen (k := 600000) (n := 7302249) hc.1 hc.2 ?_
    exact lw_ret x1 x2 z5 z6 hd
end LAW
theorem law_in {j k M : Nat} (h : j + 5 ≤ M) (hk : k < 5) (hM : M ≤ 320) : vp_in (nI j + nI k) M := by
  rw [nI_add]
  exact vp_in_nI (by omega) (by omega)
theorem law_go {j M : Nat} (hM : M ≤ 320) (hj : j ≤ M + 4) (h : ¬ nI M - 5 < nI j) : j + 5 ≤ M := by
  have h1 : ¬ (nI M - nI 5).toInt < (nI j).toInt := fun q => h (Int32.lt_iff_toInt_lt.mpr q)
  rw [pk_sub_toInt (by omega) (by omega), nI_toInt (by omega)] at h1
  omega
set_option maxHeartbeats 8000000 in
set_option maxRecDepth 100000 in
theorem law_loop {Γ : Cx} {E : Ev} {ad : Nat → Nat} {cs sz b M : Nat} {xs : Nat → Int32} (hM : M ≤ 320) (X : XC Γ E room_1 code 4 RL) (Z : XL Γ E b M xs) (hc : cs ≤ 600000 ∧ sz ≤ 7302249) {Rel : Sg → Prop} (hSp : Sp Rel) : ∀ n j σ, M + 5 - j ≤ n → j ≤ M + 4 → Rel σ → J Γ E 4 ad RF 85 σ cs sz 18 [(3, .int (nI j)), (2, .ref (ad 68)), (1, .ref (ad 0)), (0, .ref b)] [] := by
  obtain ⟨h_house, h_say, h_ear, h_type, h_clear, h_read, h_strips, h_papers, h_goes, h_minutes, h_undo, h_of, h_about, h_room, h_loud, h_first, h_stay, h_stand, h_told, h_said, h_note, h_mark, h_forget, h_is, h_look, h_kinds, h_ask, h_brothers, h_holds, h_jobs, h_part, h_image, h_from, h_status, h_count, h_digest⟩ := hSp
  intro n
  induction n with
  | zero =>
    intro j σ h1 h2
    exact absurd h1 (by omega)
  | succ n ih =>
    intro j σ hn hj hRel
    refine j_iload_n X 0 rfl rfl dL_law_18 ?_
    refine j_aload_n X 3 rfl rfl dL_law_19 ?_
    refine j_slen X Z dL_law_20 ?_
    refine j_iconst X (v := 5) (by decide) dL_law_21 ?_
    refine j_isub X dL_law_22 ?_
    refine j_icmp_gt X (tgt := 1218) (by decide) dL_law_23 (fun c => ?_) (fun c => ?_)
    · refine j_iconst X (v := 1) (by decide) dL_law_1218 ?_
      exact j_lawret X Z hc dL_law_1219
    · have hgo : j + 5 ≤ M := law_go hM hj c
      have hin : ∀ k, k < 5 → vp_in (nI j + nI k) M := fun k hk => law_in hgo hk hM
      have hi0 : vp_in (nI j) M := vp_in_nI (by omega) (by omega)
      have hlat : ∀ σ', Rel σ' → J Γ E 4 ad RF 85 σ' cs sz 1212 [(3, .int (nI j)), (2, .ref (ad 68)), (1, .ref (ad 0)), (0, .ref b)] [] := by
        intro σ' hR'
        refine j_iinc1 X (L' := [(3, .int (nI (j + 5))), (2, .ref (ad 68)), (1, .ref (ad 0)), (0, .ref b)]) 0 rfl (q := nI 5) (by decide) (nI_add j 5).symm (by decide) rfl dL_law_1212 ?_
        refine j_goto X (tgt := 18) (by decide) dL_law_1215 ?_
        exact ih (j + 5) σ' (by omega) (by omega) hR'
      refine j_aload_n X 3 rfl rfl dL_law_26 ?_
      refine j_iload_n X 0 rfl rfl dL_law_27 ?_
      refine j_sld X Z hi0 dL_law_28 ?_
      refine j_bipush X (v := 63) (by decide) dL_law_29 ?_
      refine j_iand X dL_law_31 ?_
      obtain ⟨x, ex⟩ : ∃ x, x = xs (nI j).toNatClampNeg &&& 63 := ⟨_, rfl⟩
      refine j_topi ex ?_
      by_cases c0 : x = 0
      · refine j_tableIn X (tgt := 192) (by rw [c0]; decide) (by rw [c0]; decide) (by rw [c0]; rfl) (by decide) dL_law_32 ?_
        obtain ⟨r, σ1, σ2, e1, e2, hR⟩ := h_house σ hRel 
        refine j_aload_n X 2 rfl rfl dL_law_192 ?_
        refine j_callW X (As := []) (rest := []) (v := .int r) (σ' := σ1) mf_X7_house bw_194 bw_195 bs_255 ⟨rfl, rfl⟩ ⟨Nat.le_of_ble_eq_true rfl, Nat.le_of_ble_eq_true rfl⟩ hc cf5 pk_0 pl_0 (c_X7_house Γ.2.1 E ad e1) rfl rfl (Nat.le_of_ble_eq_true rfl) dL_law_193 ?_
        refine j_aload_n X 1 rfl rfl dL_law_196 ?_
        refine j_callW X (As := []) (rest := [.int r]) (v := .int r) (σ' := σ2) mf_X8_house bw_845 bw_846 bs_906 ⟨rfl, rfl⟩ ⟨Nat.le_of_ble_eq_true rfl, Nat.le_of_ble_eq_true rfl⟩ hc cf6 pk_68 pl_68 (c_X8_house Γ.2.1 E ad e2) rfl rfl (Nat.le_of_ble_eq_true rfl) dL_law_197 ?_
        refine j_icmp_eq X (tgt := 1212) (by decide) dL_law_200 (fun _ => ?_) (fun c => absurd rfl c)
        exact hlat _ hR
      · by_cases c1 : x = 1
        · refine j_tableIn X (tgt := 205) (by rw [c1]; decide) (by rw [c1]; decide) (by rw [c1]; rfl) (by decide) dL_law_32 ?_
          obtain ⟨r, σ1, σ2, e1, e2, hR⟩ := h_say σ hRel (xs (nI j + nI 1).toNatClampNeg) (xs (nI j + nI 2).toNatClampNeg) (xs (nI j + nI 3).toNatClampNeg)
          refine j_aload_n X 2 rfl rfl dL_law_205 ?_
          refine j_aload_n X 3 rfl rfl dL_law_206 ?_
          refine j_iload_n X 0 rfl rfl dL_law_207 ?_
          refine j_iconst X (v := nI 1) (by decide) dL_law_208 ?_
          refine j_iadd X dL_law_209 ?_
          refine j_sld X Z (hin 1 (by decide)) dL_law_210 ?_
          refine j_aload_n X 3 rfl rfl dL_law_211 ?_
          refine j_iload_n X 0 rfl rfl dL_law_212 ?_
          refine j_iconst X (v := nI 2) (by decide) dL_law_213 ?_
          refine j_iadd X dL_law_214 ?_
          refine j_sld X Z (hin 2 (by decide)) dL_law_215 ?_
          refine j_aload_n X 3 rfl rfl dL_law_216 ?_
          refine j_iload_n X 0 rfl rfl dL_law_217 ?_
          refine j_iconst X (v := nI 3) (by decide) dL_law_218 ?_
          refine j_iadd X dL_law_219 ?_
          refine j_sld X Z (hin 3 (by decide)) dL_law_220 ?_
          refine j_callW X (As := [.int (xs (nI j + nI 1).toNatClampNeg), .int (xs (nI j + nI 2).toNatClampNeg), .int (xs (nI j + nI 3).toNatClampNeg)]) (rest := []) (v := .int r) (σ' := σ1) mf_X7_say bw_214 bw_215 bs_275 ⟨rfl, rfl⟩ ⟨Nat.le_of_ble_eq_true rfl, Nat.le_of_ble_eq_true rfl⟩ hc cf5 pk_0 pl_0 (c_X7_say Γ.2.1 E ad e1) rfl rfl (Nat.le_of_ble_eq_true rfl) dL_law_221 ?_
          refine j_aload_n X 1 rfl rfl dL_law_224 ?_
          refine j_aload_n X 3 rfl rfl dL_law_225 ?_
          refine j_iload_n X 0 rfl rfl dL_law_226 ?_
          refine j_iconst X (v := nI 1) (by decide) dL_law_227 ?_
          refine j_iadd X dL_law_228 ?_
          refine j_sld X Z (hin 1 (by decide)) dL_law_229 ?_
          refine j_aload_n X 3 rfl rfl dL_law_230 ?_
          refine j_iload_n X 0 rfl rfl dL_law_231 ?_
          refine j_iconst X (v := nI 2) (by decide) dL_law_232 ?_
          refine j_iadd X dL_law_233 ?_
          refine j_sld X Z (hin 2 (by decide)) dL_law_234 ?_
          refine j_aload_n X 3 rfl rfl dL_law_235 ?_
          refine j_iload_n X 0 rfl rfl dL_law_236 ?_
          refine j_iconst X (v := nI 3) (by decide) dL_law_237 ?_
          refine j_iadd X dL_law_238 ?_
          refine j_sld X Z (hin 3 (by decide)) dL_law_239 ?_
          refine j_callW X (As := [.int (xs (nI j + nI 1).toNatClampNeg), .int (xs (nI j + nI 2).toNatClampNeg), .int (xs (nI j + nI 3).toNatClampNeg)]) (rest := [.int r]) (v := .int r) (σ' := σ2) mf_X8_say bw_849 bw_850 bs_910 ⟨rfl, rfl⟩ ⟨Nat.le_of_ble_eq_true rfl, Nat.le_of_ble_eq_true rfl⟩ hc cf6 pk_68 pl_68 (c_X8_say Γ.2.1 E ad e2) rfl rfl (Nat.le_of_ble_eq_true rfl) dL_law_240 ?_
          refine j_icmp_eq X (tgt := 1212) (by decide) dL_law_243 (fun _ => ?_) (fun c => absurd rfl c)
          exact hlat _ hR
        · by_cases c2 : x = 2
          · refine j_tableIn X (tgt := 248) (by rw [c2]; decide) (by rw [c2]; decide) (by rw [c2]; rfl) (by decide) dL_law_32 ?_
            obtain ⟨r, σ1, σ2, e1, e2, hR⟩ := h_ear σ hRel (xs (nI j + nI 1).toNatClampNeg)
            refine j_aload_n X 2 rfl rfl dL_law_248 ?_
            refine j_aload_n X 3 rfl rfl dL_law_249 ?_
            refine j_iload_n X 0 rfl rfl dL_law_250 ?_
            refine j_iconst X (v := nI 1) (by decide) dL_law_251 ?_
            refine j_iadd X dL_law_252 ?_
            refine j_sld X Z (hin 1 (by decide)) dL_law_253 ?_
            refine j_callW X (As := [.int (xs (nI j + nI 1).toNatClampNeg)]) (rest := []) (v := .int r) (σ' := σ1) mf_X7_ear bw_249 bw_250 bs_310 ⟨rfl, rfl⟩ ⟨Nat.le_of_ble_eq_true rfl, Nat.le_of_ble_eq_true rfl⟩ hc cf5 pk_0 pl_0 (c_X7_ear Γ.2.1 E ad e1) rfl rfl (Nat.le_of_ble_eq_true rfl) dL_law_254 ?_
            refine j_aload_n X 1 rfl rfl dL_law_257 ?_
            refine j_aload_n X 3 rfl rfl dL_law_258 ?_
            refine j_iload_n X 0 rfl rfl dL_law_259 ?_
            refine j_iconst X (v := nI 1) (by decide) dL_law_260 ?_
            refine j_iadd X dL_law_261 ?_
            refine j_sld X Z (hin 1 (by decide)) dL_law_262 ?_
            refine j_callW X (As := [.int (xs (nI j + nI 1).toNatClampNeg)]) (rest := [.int r]) (v := .int r) (σ' := σ2) mf_X8_ear bw_871 bw_872 bs_932 ⟨rfl, rfl⟩ ⟨Nat.le_of_ble_eq_true rfl, Nat.le_of_ble_eq_true rfl⟩ hc cf6 pk_68 pl_68 (c_X8_ear Γ.2.1 E ad e2) rfl rfl (Nat.le_of_ble_eq_true rfl) dL_law_263 ?_
            refine j_icmp_eq X (tgt := 1212) (by decide) dL_law_266 (fun _ => ?_) (fun c => absurd rfl c)
            exact hlat _ hR
          · by_cases c3 : x = 3
            · refine j_tableIn X (tgt := 271) (by rw [c3]; decide) (by rw [c3]; decide) (by rw [c3]; rfl) (by decide) dL_law_32 ?_
              obtain ⟨r, σ1, σ2, e1, e2, hR⟩ := h_type σ hRel (xs (nI j + nI 1).toNatClampNeg)
              refine j_aload_n X 2 rfl rfl dL_law_271 ?_
              refine j_aload_n X 3 rfl rfl dL_law_272 ?_
              refine j_iload_n X 0 rfl rfl dL_law_273 ?_
              refine j_iconst X (v := nI 1) (by decide) dL_law_274 ?_
              refine j_iadd X dL_law_275 ?_
              refine j_sld X Z (hin 1 (by decide)) dL_law_276 ?_
              refine j_callW X (As := [.int (xs (nI j + nI 1).toNatClampNeg)]) (rest := []) (v := .int r) (σ' := σ1) mf_X7_type bw_257 bw_258 bs_318 ⟨rfl, rfl⟩ ⟨Nat.le_of_ble_eq_true rfl, Nat.le_of_ble_eq_true rfl⟩ hc cf5 pk_0 pl_0 (c_X7_type Γ.2.1 E ad e1) rfl rfl (Nat.le_of_ble_eq_true rfl) dL_law_277 ?_
              refine j_aload_n X 1 rfl rfl dL_law_280 ?_
              refine j_aload_n X 3 rfl rfl dL_law_281 ?_
              refine j_iload_n X 0 rfl rfl dL_law_282 ?_
              refine j_iconst X (v := nI 1) (by decide) dL_law_283 ?_
              refine j_iadd X dL_law_284 ?_
              refine j_sld X Z (hin 1 (by decide)) dL_law_285 ?_
              refine j_callW X (As := [.int (xs (nI j + nI 1).toNatClampNeg)]) (rest := [.int r]) (v := .int r) (σ' := σ2) mf_X8_type bw_879 bw_880 bs_940 ⟨rfl, rfl⟩ ⟨Nat.le_of_ble_eq_true rfl, Nat.le_of_ble_eq_true rfl⟩ hc cf6 pk_68 pl_68 (c_X8_type Γ.2.1 E ad e2) rfl rfl (Nat.le_of_ble_eq_true rfl) dL_law_286 ?_
              refine j_icmp_eq X (tgt := 1212) (by decide) dL_law_289 (fun _ => ?_) (fun c => absurd rfl c)
              exact hlat _ hR
            · by_cases c4 : x = 4
              · refine j_tableIn X (tgt := 294) (by rw [c4]; decide) (by rw [c4]; decide) (by rw [c4]; rfl) (by decide) dL_law_32 ?_
                obtain ⟨r, σ1, σ2, e1, e2, hR⟩ := h_clear σ hRel 
                refine j_aload_n X 2 rfl rfl dL_law_294 ?_
                refine j_callW X (As := []) (rest := []) (v := .int r) (σ' := σ1) mf_X7_clear bw_262 bw_263 bs_323 ⟨rfl, rfl⟩ ⟨Nat.le_of_ble_eq_true rfl, Nat.le_of_ble_eq_true rfl⟩ hc cf5 pk_0 pl_0 (c_X7_clear Γ.2.1 E ad e1) rfl rfl (Nat.le_of_ble_eq_true rfl) dL_law_295 ?_
                refine j_aload_n X 1 rfl rfl dL_law_298 ?_
                refine j_callW X (As := []) (rest := [.int r]) (v := .int r) (σ' := σ2) mf_X8_clear bw_884 bw_885 bs_945 ⟨rfl, rfl⟩ ⟨Nat.le_of_ble_eq_true rfl, Nat.le_of_ble_eq_true rfl⟩ hc cf6 pk_68 pl_68 (c_X8_clear Γ.2.1 E ad e2) rfl rfl (Nat.le_of_ble_eq_true rfl) dL_law_299 ?_
                refine j_icmp_eq X (tgt := 1212) (by decide) dL_law_302 (fun _ => ?_) (fun c => absurd rfl c)
                exact hlat _ hR
              · by_cases c5 : x = 5
                · refine j_tableIn X (tgt := 307) (by rw [c5]; decide) (by rw [c5]; decide) (by rw [c5]; rfl) (by decide) dL_law_32 ?_
                  obtain ⟨r, σ1, σ2, e1, e2, hR⟩ := h_read σ hRel 
                  refine j_aload_n X 2 rfl rfl dL_law_307 ?_
                  refine j_callW X (As := []) (rest := []) (v := .int r) (σ' := σ1) mf_X7_read bw_267 bw_268 bs_328 ⟨rfl, rfl⟩ ⟨Nat.le_of_ble_eq_true rfl, Nat.le_of_ble_eq_true rfl⟩ hc cf5 pk_0 pl_0 (c_X7_read Γ.2.1 E ad e1) rfl rfl (Nat.le_of_ble_eq_true rfl) dL_law_308 ?_
                  refine j_aload_n X 1 rfl rfl dL_law_311 ?_
                  refine j_callW X (As := []) (rest := [.int r]) (v := .int r) (σ' := σ2) mf_X8_read bw_888 bw_889 bs_949 ⟨rfl, rfl⟩ ⟨Nat.le_of_ble_eq_true rfl, Nat.le_of_ble_eq_true rfl⟩ hc cf6 pk_68 pl_68 (c_X8_read Γ.2.1 E ad e2) rfl rfl (Nat.le_of_ble_eq_true rfl) dL_law_312 ?_
                  refine j_icmp_eq X (tgt := 1212) (by decide) dL_law_315 (fun _ => ?_) (fun c => absurd rfl c)
                  exact hlat _ hR
                · by_cases c6 : x = 6
                  · refine j_tableIn X (tgt := 320) (by rw [c6]; decide) (by rw [c6]; decide) (by rw [c6]; rfl) (by decide) dL_law_32 ?_
                    obtain ⟨r, σ1, σ2, e1, e2, hR⟩ := h_strips σ hRel (xs (nI j + nI 1).toNatClampNeg)
                    refine j_aload_n X 2 rfl rfl dL_law_320 ?_
                    refine j_aload_n X 3 rfl rfl dL_law_321 ?_
                    refine j_iload_n X 0 rfl rfl dL_law_322 ?_
                    refine j_iconst X (v := nI 1) (by decide) dL_law_323 ?_
                    refine j_iadd X dL_law_324 ?_
                    refine j_sld X Z (hin 1 (by decide)) dL_law_325 ?_
                    refine j_callW X (As := [.int (xs (nI j + nI 1).toNatClampNeg)]) (rest := []) (v := .int r) (σ' := σ1) mf_X7_strips bw_434 bw_435 bs_495 ⟨rfl, rfl⟩ ⟨Nat.le_of_ble_eq_true rfl, Nat.le_of_ble_eq_true rfl⟩ hc cf5 pk_0 pl_0 (c_X7_strips Γ.2.1 E ad e1) rfl rfl (Nat.le_of_ble_eq_true rfl) dL_law_326 ?_
                    refine j_aload_n X 1 rfl rfl dL_law_329 ?_
                    refine j_aload_n X 3 rfl rfl dL_law_330 ?_
                    refine j_iload_n X 0 rfl rfl dL_law_331 ?_
                    refine j_iconst X (v := nI 1) (by decide) dL_law_332 ?_
                    refine j_iadd X dL_law_333 ?_
                    refine j_sld X Z (hin 1 (by decide)) dL_law_334 ?_
                    refine j_callW X (As := [.int (xs (nI j + nI 1).toNatClampNeg)]) (rest := [.int r]) (v := .int r) (σ' := σ2) mf_X8_strips bw_989 bw_990 bs_1050 ⟨rfl, rfl⟩ ⟨Nat.le_of_ble_eq_true rfl, Nat.le_of_ble_eq_true rfl⟩ hc cf6 pk_68 pl_68 (c_X8_strips Γ.2.1 E ad e2) rfl rfl (Nat.le_of_ble_eq_true rfl) dL_law_335 ?_
                    refine j_icmp_eq X (tgt := 1212) (by decide) dL_law_338 (fun _ => ?_) (fun c => absurd rfl c)
                    exact hlat _ hR
                  · by_cases c7 : x = 7
                    · refine j_tableIn X (tgt := 343) (by rw [c7]; decide) (by rw [c7]; decide) (by rw [c7]; rfl) (by decide) dL_law_32 ?_
                      obtain ⟨r, σ1, σ2, e1, e2, hR⟩ := h_papers σ hRel (xs (nI j + nI 1).toNatClampNeg)
                      refine j_aload_n X 2 rfl rfl dL_law_343 ?_
                      refine j_aload_n X 3 rfl rfl dL_law_344 ?_
                      refine j_iload_n X 0 rfl rfl dL_law_345 ?_
                      refine j_iconst X (v := nI 1) (by decide) dL_law_346 ?_
                      refine j_iadd X dL_law_347 ?_
                      refine j_sld X Z (hin 1 (by decide)) dL_law_348 ?_
                      refine j_callW X (As := [.int (xs (nI j + nI 1).toNatClampNeg)]) (rest := []) (v := .int r) (σ' := σ1) mf_X7_papers bw_452 bw_453 bs_513 ⟨rfl, rfl⟩ ⟨Nat.le_of_ble_eq_true rfl, Nat.le_of_ble_eq_true rfl⟩ hc cf5 pk_0 pl_0 (c_X7_papers Γ.2.1 E ad e1) rfl rfl (Nat.le_of_ble_eq_true rfl) dL_law_349 ?_
                      refine j_aload_n X 1 rfl rfl dL_law_352 ?_
                      refine j_aload_n X 3 rfl rfl dL_law_353 ?_
                      refine j_iload_n X 0 rfl rfl dL_law_354 ?_
                      refine j_iconst X (v := nI 1) (by decide) dL_law_355 ?_
                      refine j_iadd X dL_law_356 ?_
                      refine j_sld X Z (hin 1 (by decide)) dL_law_357 ?_
                      refine j_callW X (As := [.int (xs (nI j + nI 1).toNatClampNeg)]) (rest := [.int r]) (v := .int r) (σ' := σ2) mf_X8_papers bw_1001 bw_1002 bs_1062 ⟨rfl, rfl⟩ ⟨Nat.le_of_ble_eq_true rfl, Nat.le_of_ble_eq_true rfl⟩ hc cf6 pk_68 pl_68 (c_X8_papers Γ.2.1 E ad e2) rfl rfl (Nat.le_of_ble_eq_true rfl) dL_law_358 ?_
                      refine j_icmp_eq X (tgt := 1212) (by decide) dL_law_361 (fun _ => ?_) (fun c => absurd rfl c)
                      exact hlat _ hR
                    · by_cases c8 : x = 8
                      · refine j_tableIn X (tgt := 366) (by rw [c8]; decide) (by rw [c8]; decide) (by rw [c8]; rfl) (by decide) dL_law_32 ?_
                        obtain ⟨r, σ1, σ2, e1, e2, hR⟩ := h_goes σ hRel (xs (nI j + nI 1).toNatClampNeg) (xs (nI j + nI 2).toNatClampNeg)
                        refine j_aload_n X 2 rfl rfl dL_law_366 ?_
                        refine j_aload_n X 3 rfl rfl dL_law_367 ?_
                        refine j_iload_n X 0 rfl rfl dL_law_368 ?_
                        refine j_iconst X (v := nI 1) (by decide) dL_law_369 ?_
                        refine j_iadd X dL_law_370 ?_
                        refine j_sld X Z (hin 1 (by decide)) dL_law_371 ?_
                        refine j_aload_n X 3 rfl rfl dL_law_372 ?_
                        refine j_iload_n X 0 rfl rfl dL_law_373 ?_
                        refine j_iconst X (v := nI 2) (by decide) dL_law_374 ?_
                        refine j_iadd X dL_law_375 ?_
                        refine j_sld X Z (hin 2 (by decide)) dL_law_376 ?_
                        refine j_callW X (As := [.int (xs (nI j + nI 1).toNatClampNeg), .int (xs (nI j + nI 2).toNatClampNeg)]) (rest := []) (v := .int r) (σ' := σ1) mf_X7_goes bw_462 bw_463 bs_523 ⟨rfl, rfl⟩ ⟨Nat.le_of_ble_eq_true rfl, Nat.le_of_ble_eq_true rfl⟩ hc cf5 pk_0 pl_0 (c_X7_goes Γ.2.1 E ad e1) rfl rfl (Nat.le_of_ble_eq_true rfl) dL_law_377 ?_
                        refine j_aload_n X 1 rfl rfl dL_law_380 ?_
                        refine j_aload_n X 3 rfl rfl dL_law_381 ?_
                        refine j_iload_n X 0 rfl rfl dL_law_382 ?_
                        refine j_iconst X (v := nI 1) (by decide) dL_law_383 ?_
                        refine j_iadd X dL_law_384 ?_
                        refine j_sld X Z (hin 1 (by decide)) dL_law_385 ?_
                        refine j_aload_n X 3 rfl rfl dL_law_386 ?_
                        refine j_iload_n X 0 rfl rfl dL_law_387 ?_
                        refine j_iconst X (v := nI 2) (by decide) dL_law_388 ?_
                        refine j_iadd X dL_law_389 ?_
                        refine j_sld X Z (hin 2 (by decide)) dL_law_390 ?_
                        refine j_callW X (As := [.int (xs (nI j + nI 1).toNatClampNeg), .int (xs (nI j + nI 2).toNatClampNeg)]) (rest := [.int r]) (v := .int r) (σ' := σ2) mf_X8_goes bw_1009 bw_1010 bs_1070 ⟨rfl, rfl⟩ ⟨Nat.le_of_ble_eq_true rfl, Nat.le_of_ble_eq_true rfl⟩ hc cf6 pk_68 pl_68 (c_X8_goes Γ.2.1 E ad e2) rfl rfl (Nat.le_of_ble_eq_true rfl) dL_law_391 ?_
                        refine j_icmp_eq X (tgt := 1212) (by decide) dL_law_394 (fun _ => ?_) (fun c => absurd rfl c)
                        exact hlat _ hR
                      · by_cases c9 : x = 9
                        · refine j_tableIn X (tgt := 399) (by rw [c9]; decide) (by rw [c9]; decide) (by rw [c9]; rfl) (by decide) dL_law_32 ?_
                          obtain ⟨r, σ1, σ2, e1, e2, hR⟩ := h_minutes σ hRel (xs (nI j + nI 1).toNatClampNeg)
                          refine j_aload_n X 2 rfl rfl dL_law_399 ?_
                          refine j_aload_n X 3 rfl rfl dL_law_400 ?_
                          refine j_iload_n X 0 rfl rfl dL_law_401 ?_
                          refine j_iconst X (v := nI 1) (by decide) dL_law_402 ?_
                          refine j_iadd X dL_law_403 ?_
                          refine j_sld X Z (hin 1 (by decide)) dL_law_404 ?_
                          refine j_callW X (As := [.int (xs (nI j + nI 1).toNatClampNeg)]) (rest := []) (v := .int r) (σ' := σ1) mf_X7_minutes bw_472 bw_473 bs_533 ⟨rfl, rfl⟩ ⟨Nat.le_of_ble_eq_true rfl, Nat.le_of_ble_eq_true rfl⟩ hc cf5 pk_0 pl_0 (c_X7_minutes Γ.2.1 E ad e1) rfl rfl (Nat.le_of_ble_eq_true rfl) dL_law_405 ?_
                          refine j_aload_n X 1 rfl rfl dL_law_408 ?_
                          refine j_aload_n X 3 rfl rfl dL_law_409 ?_
                          refine j_iload_n X 0 rfl rfl dL_law_410 ?_
                          refine j_iconst X (v := nI 1) (by decide) dL_law_411 ?_
                          refine j_iadd X dL_law_412 ?_
                          refine j_sld X Z (hin 1 (by decide)) dL_law_413 ?_
                          refine j_callW X (As := [.int (xs (nI j + nI 1).toNatClampNeg)]) (rest := [.int r]) (v := .int r) (σ' := σ2) mf_X8_minutes bw_1017 bw_1018 bs_1078 ⟨rfl, rfl⟩ ⟨Nat.le_of_ble_eq_true rfl, Nat.le_of_ble_eq_true rfl⟩ hc cf6 pk_68 pl_68 (c_X8_minutes Γ.2.1 E ad e2) rfl rfl (Nat.le_of_ble_eq_true rfl) dL_law_414 ?_
                          refine j_icmp_eq X (tgt := 1212) (by decide) dL_law_417 (fun _ => ?_) (fun c => absurd rfl c)
                          exact hlat _ hR
                        · by_cases c10 : x = 10
                          · refine j_tableIn X (tgt := 422) (by rw [c10]; decide) (by rw [c10]; decide) (by rw [c10]; rfl) (by decide) dL_law_32 ?_
                            obtain ⟨r, σ1, σ2, e1, e2, hR⟩ := h_undo σ hRel 
                            refine j_aload_n X 2 rfl rfl dL_law_422 ?_
                            refine j_callW X (As := []) (rest := []) (v := .int r) (σ' := σ1) mf_X7_undo bw_487 bw_488 bs_548 ⟨rfl, rfl⟩ ⟨Nat.le_of_ble_eq_true rfl, Nat.le_of_ble_eq_true rfl⟩ hc cf5 pk_0 pl_0 (c_X7_undo Γ.2.1 E ad e1) rfl rfl (Nat.le_of_ble_eq_true rfl) dL_law_423 ?_
                            refine j_aload_n X 1 rfl rfl dL_law_426 ?_
                            refine j_callW X (As := []) (rest := [.int r]) (v := .int r) (σ' := σ2) mf_X8_undo bw_1029 bw_1030 bs_1090 ⟨rfl, rfl⟩ ⟨Nat.le_of_ble_eq_true rfl, Nat.le_of_ble_eq_true rfl⟩ hc cf6 pk_68 pl_68 (c_X8_undo Γ.2.1 E ad e2) rfl rfl (Nat.le_of_ble_eq_true rfl) dL_law_427 ?_
                            refine j_icmp_eq X (tgt := 1212) (by decide) dL_law_430 (fun _ => ?_) (fun c => absurd rfl c)
                            exact hlat _ hR
                          · by_cases c11 : x = 11
                            · refine j_tableIn X (tgt := 435) (by rw [c11]; decide) (by rw [c11]; decide) (by rw [c11]; rfl) (by decide) dL_law_32 ?_
                              obtain ⟨r, σ1, σ2, e1, e2, hR⟩ := h_of σ hRel (xs (nI j + nI 1).toNatClampNeg) (xs (nI j + nI 2).toNatClampNeg)
                              refine j_aload_n X 2 rfl rfl dL_law_435 ?_
                              refine j_aload_n X 3 rfl rfl dL_law_436 ?_
                              refine j_iload_n X 0 rfl rfl dL_law_437 ?_
                              refine j_iconst X (v := nI 1) (by decide) dL_law_438 ?_
                              refine j_iadd X dL_law_439 ?_
                              refine j_sld X Z (hin 1 (by decide)) dL_law_440 ?_
                              refine j_aload_n X 3 rfl rfl dL_law_441 ?_
                              refine j_iload_n X 0 rfl rfl dL_law_442 ?_
                              refine j_iconst X (v := nI 2) (by decide) dL_law_443 ?_
                              refine j_iadd X dL_law_444 ?_
                              refine j_sld X Z (hin 2 (by decide)) dL_law_445 ?_
                              refine j_callW X (As := [.int (xs (nI j + nI 1).toNatClampNeg), .int (xs (nI j + nI 2).toNatClampNeg)]) (rest := []) (v := .int r) (σ' := σ1) mf_X7_of bw_495 bw_496 bs_556 ⟨rfl, rfl⟩ ⟨Nat.le_of_ble_eq_true rfl, Nat.le_of_ble_eq_true rfl⟩ hc cf5 pk_0 pl_0 (c_X7_of Γ.2.1 E ad e1) rfl rfl (Nat.le_of_ble_eq_true rfl) dL_law_446 ?_
                              refine j_aload_n X 1 rfl rfl dL_law_449 ?_
                              refine j_aload_n X 3 rfl rfl dL_law_450 ?_
                              refine j_iload_n X 0 rfl rfl dL_law_451 ?_
                              refine j_iconst X (v := nI 1) (by decide) dL_law_452 ?_
                              refine j_iadd X dL_law_453 ?_
                              refine j_sld X Z (hin 1 (by decide)) dL_law_454 ?_
                              refine j_aload_n X 3 rfl rfl dL_law_455 ?_
                              refine j_iload_n X 0 rfl rfl dL_law_456 ?_
                              refine j_iconst X (v := nI 2) (by decide) dL_law_457 ?_
                              refine j_iadd X dL_law_458 ?_
                              refine j_sld X Z (hin 2 (by decide)) dL_law_459 ?_
                              refine j_callW X (As := [.int (xs (nI j + nI 1).toNatClampNeg), .int (xs (nI j + nI 2).toNatClampNeg)]) (rest := [.int r]) (v := .int r) (σ' := σ2) mf_X8_of bw_1033 bw_1034 bs_1094 ⟨rfl, rfl⟩ ⟨Nat.le_of_ble_eq_true rfl, Nat.le_of_ble_eq_true rfl⟩ hc cf6 pk_68 pl_68 (c_X8_of Γ.2.1 E ad e2) rfl rfl (Nat.le_of_ble_eq_true rfl) dL_law_460 ?_
                              refine j_icmp_eq X (tgt := 1212) (by decide) dL_law_463 (fun _ => ?_) (fun c => absurd rfl c)
                              exact hlat _ hR
                            · by_cases c12 : x = 12
                              · refine j_tableIn X (tgt := 468) (by rw [c12]; decide) (by rw [c12]; decide) (by rw [c12]; rfl) (by decide) dL_law_32 ?_
                                obtain ⟨r, σ1, σ2, e1, e2, hR⟩ := h_about σ hRel (xs (nI j + nI 1).toNatClampNeg) (xs (nI j + nI 2).toNatClampNeg)
                                refine j_aload_n X 2 rfl rfl dL_law_468 ?_
                                refine j_aload_n X 3 rfl rfl dL_law_469 ?_
                                refine j_iload_n X 0 rfl rfl dL_law_470 ?_
                                refine j_iconst X (v := nI 1) (by decide) dL_law_471 ?_
                                refine j_iadd X dL_law_472 ?_
                                refine j_sld X Z (hin 1 (by decide)) dL_law_473 ?_
                                refine j_aload_n X 3 rfl rfl dL_law_474 ?_
                                refine j_iload_n X 0 rfl rfl dL_law_475 ?_
                                refine j_iconst X (v := nI 2) (by decide) dL_law_476 ?_
                                refine j_iadd X dL_law_477 ?_
                                refine j_sld X Z (hin 2 (by decide)) dL_law_478 ?_
                                refine j_callW X (As := [.int (xs (nI j + nI 1).toNatClampNeg), .int (xs (nI j + nI 2).toNatClampNeg)]) (rest := []) (v := .int r) (σ' := σ1) mf_X7_about bw_503 bw_504 bs_564 ⟨rfl, rfl⟩ ⟨Nat.le_of_ble_eq_true rfl, Nat.le_of_ble_eq_true rfl⟩ hc cf5 pk_0 pl_0 (c_X7_about Γ.2.1 E ad e1) rfl rfl (Nat.le_of_ble_eq_true rfl) dL_law_479 ?_
                                refine j_aload_n X 1 rfl rfl dL_law_482 ?_
                                refine j_aload_n X 3 rfl rfl dL_law_483 ?_
                                refine j_iload_n X 0 rfl rfl dL_law_484 ?_
                                refine j_iconst X (v := nI 1) (by decide) dL_law_485 ?_
                                refine j_iadd X dL_law_486 ?_
                                refine j_sld X Z (hin 1 (by decide)) dL_law_487 ?_
                                refine j_aload_n X 3 rfl rfl dL_law_488 ?_
                                refine j_iload_n X 0 rfl rfl dL_law_489 ?_
                                refine j_iconst X (v := nI 2) (by decide) dL_law_490 ?_
                                refine j_iadd X dL_law_491 ?_
                                refine j_sld X Z (hin 2 (by decide)) dL_law_492 ?_
                                refine j_callW X (As := [.int (xs (nI j + nI 1).toNatClampNeg), .int (xs (nI j + nI 2).toNatClampNeg)]) (rest := [.int r]) (v := .int r) (σ' := σ2) mf_X8_about bw_1041 bw_1042 bs_1102 ⟨rfl, rfl⟩ ⟨Nat.le_of_ble_eq_true rfl, Nat.le_of_ble_eq_true rfl⟩ hc cf6 pk_68 pl_68 (c_X8_about Γ.2.1 E ad e2) rfl rfl (Nat.le_of_ble_eq_true rfl) dL_law_493 ?_
                                refine j_icmp_eq X (tgt := 1212) (by decide) dL_law_496 (fun _ => ?_) (fun c => absurd rfl c)
                                exact hlat _ hR
                              · by_cases c13 : x = 13
                                · refine j_tableIn X (tgt := 501) (by rw [c13]; decide) (by rw [c13]; decide) (by rw [c13]; rfl) (by decide) dL_law_32 ?_
                                  obtain ⟨r, σ1, σ2, e1, e2, hR⟩ := h_room σ hRel (xs (nI j + nI 1).toNatClampNeg) (xs (nI j + nI 2).toNatClampNeg)
                                  refine j_aload_n X 2 rfl rfl dL_law_501 ?_
                                  refine j_aload_n X 3 rfl rfl dL_law_502 ?_
                                  refine j_iload_n X 0 rfl rfl dL_law_503 ?_
                                  refine j_iconst X (v := nI 1) (by decide) dL_law_504 ?_
                                  refine j_iadd X dL_law_505 ?_
                                  refine j_sld X Z (hin 1 (by decide)) dL_law_506 ?_
                                  refine j_aload_n X 3 rfl rfl dL_law_507 ?_
                                  refine j_iload_n X 0 rfl rfl dL_law_508 ?_
                                  refine j_iconst X (v := nI 2) (by decide) dL_law_509 ?_
                                  refine j_iadd X dL_law_510 ?_
                                  refine j_sld X Z (hin 2 (by decide)) dL_law_511 ?_
                                  refine j_callW X (As := [.int (xs (nI j + nI 1).toNatClampNeg), .int (xs (nI j + nI 2).toNatClampNeg)]) (rest := []) (v := .int r) (σ' := σ1) mf_X7_room bw_511 bw_512 bs_572 ⟨rfl, rfl⟩ ⟨Nat.le_of_ble_eq_true rfl, Nat.le_of_ble_eq_true rfl⟩ hc cf5 pk_0 pl_0 (c_X7_room Γ.2.1 E ad e1) rfl rfl (Nat.le_of_ble_eq_true rfl) dL_law_512 ?_
                                  refine j_aload_n X 1 rfl rfl dL_law_515 ?_
                                  refine j_aload_n X 3 rfl rfl dL_law_516 ?_
                                  refine j_iload_n X 0 rfl rfl dL_law_517 ?_
                                  refine j_iconst X (v := nI 1) (by decide) dL_law_518 ?_
                                  refine j_iadd X dL_law_519 ?_
                                  refine j_sld X Z (hin 1 (by decide)) dL_law_520 ?_
                                  refine j_aload_n X 3 rfl rfl dL_law_521 ?_
                                  refine j_iload_n X 0 rfl rfl dL_law_522 ?_
                                  refine j_iconst X (v := nI 2) (by decide) dL_law_523 ?_
                                  refine j_iadd X dL_law_524 ?_
                                  refine j_sld X Z (hin 2 (by decide)) dL_law_525 ?_
                                  refine j_callW X (As := [.int (xs (nI j + nI 1).toNatClampNeg), .int (xs (nI j + nI 2).toNatClampNeg)]) (rest := [.int r]) (v := .int r) (σ' := σ2) mf_X8_room bw_1045 bw_1046 bs_1106 ⟨rfl, rfl⟩ ⟨Nat.le_of_ble_eq_true rfl, Nat.le_of_ble_eq_true rfl⟩ hc cf6 pk_68 pl_68 (c_X8_room Γ.2.1 E ad e2) rfl rfl (Nat.le_of_ble_eq_true rfl) dL_law_526 ?_
                                  refine j_icmp_eq X (tgt := 1212) (by decide) dL_law_529 (fun _ => ?_) (fun c => absurd rfl c)
                                  exact hlat _ hR
                                · by_cases c14 : x = 14
                                  · refine j_tableIn X (tgt := 534) (by rw [c14]; decide) (by rw [c14]; decide) (by rw [c14]; rfl) (by decide) dL_law_32 ?_
                                    obtain ⟨r, σ1, σ2, e1, e2, hR⟩ := h_loud σ hRel (xs (nI j + nI 1).toNatClampNeg) (xs (nI j + nI 2).toNatClampNeg)
                                    refine j_aload_n X 2 rfl rfl dL_law_534 ?_
                                    refine j_aload_n X 3 rfl rfl dL_law_535 ?_
                                    refine j_iload_n X 0 rfl rfl dL_law_536 ?_
                                    refine j_iconst X (v := nI 1) (by decide) dL_law_537 ?_
                                    refine j_iadd X dL_law_538 ?_
                                    refine j_sld X Z (hin 1 (by decide)) dL_law_539 ?_
                                    refine j_aload_n X 3 rfl rfl dL_law_540 ?_
                                    refine j_iload_n X 0 rfl rfl dL_law_541 ?_
                                    refine j_iconst X (v := nI 2) (by decide) dL_law_542 ?_
                                    refine j_iadd X dL_law_543 ?_
                                    refine j_sld X Z (hin 2 (by decide)) dL_law_544 ?_
                                    refine j_callW X (As := [.int (xs (nI j + nI 1).toNatClampNeg), .int (xs (nI j + nI 2).toNatClampNeg)]) (rest := []) (v := .int r) (σ' := σ1) mf_X7_loud bw_516 bw_517 bs_577 ⟨rfl, rfl⟩ ⟨Nat.le_of_ble_eq_true rfl, Nat.le_of_ble_eq_true rfl⟩ hc cf5 pk_0 pl_0 (c_X7_loud Γ.2.1 E ad e1) rfl rfl (Nat.le_of_ble_eq_true rfl) dL_law_545 ?_
                                    refine j_aload_n X 1 rfl rfl dL_law_548 ?_
                                    refine j_aload_n X 3 rfl rfl dL_law_549 ?_
                                    refine j_iload_n X 0 rfl rfl dL_law_550 ?_
                                    refine j_iconst X (v := nI 1) (by decide) dL_law_551 ?_
                                    refine j_iadd X dL_law_552 ?_
                                    refine j_sld X Z (hin 1 (by decide)) dL_law_553 ?_
                                    refine j_aload_n X 3 rfl rfl dL_law_554 ?_
                                    refine j_iload_n X 0 rfl rfl dL_law_555 ?_
                                    refine j_iconst X (v := nI 2) (by decide) dL_law_556 ?_
                                    refine j_iadd X dL_law_557 ?_
                                    refine j_sld X Z (hin 2 (by decide)) dL_law_558 ?_
                                    refine j_callW X (As := [.int (xs (nI j + nI 1).toNatClampNeg), .int (xs (nI j + nI 2).toNatClampNeg)]) (rest := [.int r]) (v := .int r) (σ' := σ2) mf_X8_loud bw_1049 bw_1050 bs_1110 ⟨rfl, rfl⟩ ⟨Nat.le_of_ble_eq_true rfl, Nat.le_of_ble_eq_true rfl⟩ hc cf6 pk_68 pl_68 (c_X8_loud Γ.2.1 E ad e2) rfl rfl (Nat.le_of_ble_eq_true rfl) dL_law_559 ?_
                                    refine j_icmp_eq X (tgt := 1212) (by decide) dL_law_562 (fun _ => ?_) (fun c => absurd rfl c)
                                    exact hlat _ hR
                                  · by_cases c15 : x = 15
                                    · refine j_tableIn X (tgt := 567) (by rw [c15]; decide) (by rw [c15]; decide) (by rw [c15]; rfl) (by decide) dL_law_32 ?_
                                      obtain ⟨r, σ1, σ2, e1, e2, hR⟩ := h_first σ hRel (xs (nI j + nI 1).toNatClampNeg) (xs (nI j + nI 2).toNatClampNeg)
                                      refine j_aload_n X 2 rfl rfl dL_law_567 ?_
                                      refine j_aload_n X 3 rfl rfl dL_law_568 ?_
                                      refine j_iload_n X 0 rfl rfl dL_law_569 ?_
                                      refine j_iconst X (v := nI 1) (by decide) dL_law_570 ?_
                                      refine j_iadd X dL_law_571 ?_
                                      refine j_sld X Z (hin 1 (by decide)) dL_law_572 ?_
                                      refine j_aload_n X 3 rfl rfl dL_law_573 ?_
                                      refine j_iload_n X 0 rfl rfl dL_law_574 ?_
                                      refine j_iconst X (v := nI 2) (by decide) dL_law_575 ?_
                                      refine j_iadd X dL_law_576 ?_
                                      refine j_sld X Z (hin 2 (by decide)) dL_law_577 ?_
                                      refine j_callW X (As := [.int (xs (nI j + nI 1).toNatClampNeg), .int (xs (nI j + nI 2).toNatClampNeg)]) (rest := []) (v := .int r) (σ' := σ1) mf_X7_first bw_522 bw_523 bs_583 ⟨rfl, rfl⟩ ⟨Nat.le_of_ble_eq_true rfl, Nat.le_of_ble_eq_true rfl⟩ hc cf5 pk_0 pl_0 (c_X7_first Γ.2.1 E ad e1) rfl rfl (Nat.le_of_ble_eq_true rfl) dL_law_578 ?_
                                      refine j_aload_n X 1 rfl rfl dL_law_581 ?_
                                      refine j_aload_n X 3 rfl rfl dL_law_582 ?_
                                      refine j_iload_n X 0 rfl rfl dL_law_583 ?_
                                      refine j_iconst X (v := nI 1) (by decide) dL_law_584 ?_
                                      refine j_iadd X dL_law_585 ?_
                                      refine j_sld X Z (hin 1 (by decide)) dL_law_586 ?_
                                      refine j_aload_n X 3 rfl rfl dL_law_587 ?_
                                      refine j_iload_n X 0 rfl rfl dL_law_588 ?_
                                      refine j_iconst X (v := nI 2) (by decide) dL_law_589 ?_
                                      refine j_iadd X dL_law_590 ?_
                                      refine j_sld X Z (hin 2 (by decide)) dL_law_591 ?_
                                      refine j_callW X (As := [.int (xs (nI j + nI 1).toNatClampNeg), .int (xs (nI j + nI 2).toNatClampNeg)]) (rest := [.int r]) (v := .int r) (σ' := σ2) mf_X8_first bw_1054 bw_1055 bs_1115 ⟨rfl, rfl⟩ ⟨Nat.le_of_ble_eq_true rfl, Nat.le_of_ble_eq_true rfl⟩ hc cf6 pk_68 pl_68 (c_X8_first Γ.2.1 E ad e2) rfl rfl (Nat.le_of_ble_eq_true rfl) dL_law_592 ?_
                                      refine j_icmp_eq X (tgt := 1212) (by decide) dL_law_595 (fun _ => ?_) (fun c => absurd rfl c)
                                      exact hlat _ hR
                                    · by_cases c16 : x = 16
                                      · refine j_tableIn X (tgt := 600) (by rw [c16]; decide) (by rw [c16]; decide) (by rw [c16]; rfl) (by decide) dL_law_32 ?_
                                        obtain ⟨r, σ1, σ2, e1, e2, hR⟩ := h_stay σ hRel (xs (nI j + nI 1).toNatClampNeg) (xs (nI j + nI 2).toNatClampNeg) (xs (nI j + nI 3).toNatClampNeg) (xs (nI j + nI 4).toNatClampNeg)
                                        refine j_aload_n X 2 rfl rfl dL_law_600 ?_
                                        refine j_aload_n X 3 rfl rfl dL_law_601 ?_
                                        refine j_iload_n X 0 rfl rfl dL_law_602 ?_
                                        refine j_iconst X (v := nI 1) (by decide) dL_law_603 ?_
                                        refine j_iadd X dL_law_604 ?_
                                        refine j_sld X Z (hin 1 (by decide)) dL_law_605 ?_
                                        refine j_aload_n X 3 rfl rfl dL_law_606 ?_
                                        refine j_iload_n X 0 rfl rfl dL_law_607 ?_
                                        refine j_iconst X (v := nI 2) (by decide) dL_law_608 ?_
                                        refine j_iadd X dL_law_609 ?_
                                        refine j_sld X Z (hin 2 (by decide)) dL_law_610 ?_
                                        refine j_aload_n X 3 rfl rfl dL_law_611 ?_
                                        refine j_iload_n X 0 rfl rfl dL_law_612 ?_
                                        refine j_iconst X (v := nI 3) (by decide) dL_law_613 ?_
                                        refine j_iadd X dL_law_614 ?_
                                        refine j_sld X Z (hin 3 (by decide)) dL_law_615 ?_
                                        refine j_aload_n X 3 rfl rfl dL_law_616 ?_
                                        refine j_iload_n X 0 rfl rfl dL_law_617 ?_
                                        refine j_iconst X (v := nI 4) (by decide) dL_law_618 ?_
                                        refine j_iadd X dL_law_619 ?_
                                        refine j_sld X Z (hin 4 (by decide)) dL_law_620 ?_
                                        refine j_callW X (As := [.int (xs (nI j + nI 1).toNatClampNeg), .int (xs (nI j + nI 2).toNatClampNeg), .int (xs (nI j + nI 3).toNatClampNeg), .int (xs (nI j + nI 4).toNatClampNeg)]) (rest := []) (v := .int r) (σ' := σ1) mf_X7_stay bw_533 bw_534 bs_594 ⟨rfl, rfl⟩ ⟨Nat.le_of_ble_eq_true rfl, Nat.le_of_ble_eq_true rfl⟩ hc cf5 pk_0 pl_0 (c_X7_stay Γ.2.1 E ad e1) rfl rfl (Nat.le_of_ble_eq_true rfl) dL_law_621 ?_
                                        refine j_aload_n X 1 rfl rfl dL_law_624 ?_
                                        refine j_aload_n X 3 rfl rfl dL_law_625 ?_
                                        refine j_iload_n X 0 rfl rfl dL_law_626 ?_
                                        refine j_iconst X (v := nI 1) (by decide) dL_law_627 ?_
                                        refine j_iadd X dL_law_628 ?_
                                        refine j_sld X Z (hin 1 (by decide)) dL_law_629 ?_
                                        refine j_aload_n X 3 rfl rfl dL_law_630 ?_
                                        refine j_iload_n X 0 rfl rfl dL_law_631 ?_
                                        refine j_iconst X (v := nI 2) (by decide) dL_law_632 ?_
                                        refine j_iadd X dL_law_633 ?_
                                        refine j_sld X Z (hin 2 (by decide)) dL_law_634 ?_
                                        refine j_aload_n X 3 rfl rfl dL_law_635 ?_
                                        refine j_iload_n X 0 rfl rfl dL_law_636 ?_
                                        refine j_iconst X (v := nI 3) (by decide) dL_law_637 ?_
                                        refine j_iadd X dL_law_638 ?_
                                        refine j_sld X Z (hin 3 (by decide)) dL_law_639 ?_
                                        refine j_aload_n X 3 rfl rfl dL_law_640 ?_
                                        refine j_iload_n X 0 rfl rfl dL_law_641 ?_
                                        refine j_iconst X (v := nI 4) (by decide) dL_law_642 ?_
                                        refine j_iadd X dL_law_643 ?_
                                        refine j_sld X Z (hin 4 (by decide)) dL_law_644 ?_
                                        refine j_callW X (As := [.int (xs (nI j + nI 1).toNatClampNeg), .int (xs (nI j + nI 2).toNatClampNeg), .int (xs (nI j + nI 3).toNatClampNeg), .int (xs (nI j + nI 4).toNatClampNeg)]) (rest := [.int r]) (v := .int r) (σ' := σ2) mf_X8_stay bw_1058 bw_1059 bs_1119 ⟨rfl, rfl⟩ ⟨Nat.le_of_ble_eq_true rfl, Nat.le_of_ble_eq_true rfl⟩ hc cf6 pk_68 pl_68 (c_X8_stay Γ.2.1 E ad e2) rfl rfl (Nat.le_of_ble_eq_true rfl) dL_law_645 ?_
                                        refine j_icmp_eq X (tgt := 1212) (by decide) dL_law_648 (fun _ => ?_) (fun c => absurd rfl c)
                                        exact hlat _ hR
                                      · by_cases c17 : x = 17
                                        · refine j_tableIn X (tgt := 653) (by rw [c17]; decide) (by rw [c17]; decide) (by rw [c17]; rfl) (by decide) dL_law_32 ?_
                                          obtain ⟨r, σ1, σ2, e1, e2, hR⟩ := h_stand σ hRel (xs (nI j + nI 1).toNatClampNeg) (xs (nI j + nI 2).toNatClampNeg)
                                          refine j_aload_n X 2 rfl rfl dL_law_653 ?_
                                          refine j_aload_n X 3 rfl rfl dL_law_654 ?_
                                          refine j_iload_n X 0 rfl rfl dL_law_655 ?_
                                          refine j_iconst X (v := nI 1) (by decide) dL_law_656 ?_
                                          refine j_iadd X dL_law_657 ?_
                                          refine j_sld X Z (hin 1 (by decide)) dL_law_658 ?_
                                          refine j_aload_n X 3 rfl rfl dL_law_659 ?_
                                          refine j_iload_n X 0 rfl rfl dL_law_660 ?_
                                          refine j_iconst X (v := nI 2) (by decide) dL_law_661 ?_
                                          refine j_iadd X dL_law_662 ?_
                                          refine j_sld X Z (hin 2 (by decide)) dL_law_663 ?_
                                          refine j_callW X (As := [.int (xs (nI j + nI 1).toNatClampNeg), .int (xs (nI j + nI 2).toNatClampNeg)]) (rest := []) (v := .int r) (σ' := σ1) mf_X7_stand bw_548 bw_549 bs_609 ⟨rfl, rfl⟩ ⟨Nat.le_of_ble_eq_true rfl, Nat.le_of_ble_eq_true rfl⟩ hc cf5 pk_0 pl_0 (c_X7_stand Γ.2.1 E ad e1) rfl rfl (Nat.le_of_ble_eq_true rfl) dL_law_664 ?_
                                          refine j_aload_n X 1 rfl rfl dL_law_667 ?_
                                          refine j_aload_n X 3 rfl rfl dL_law_668 ?_
                                          refine j_iload_n X 0 rfl rfl dL_law_669 ?_
                                          refine j_iconst X (v := nI 1) (by decide) dL_law_670 ?_
                                          refine j_iadd X dL_law_671 ?_
                                          refine j_sld X Z (hin 1 (by decide)) dL_law_672 ?_
                                          refine j_aload_n X 3 rfl rfl dL_law_673 ?_
                                          refine j_iload_n X 0 rfl rfl dL_law_674 ?_
                                          refine j_iconst X (v := nI 2) (by decide) dL_law_675 ?_
                                          refine j_iadd X dL_law_676 ?_
                                          refine j_sld X Z (hin 2 (by decide)) dL_law_677 ?_
                                          refine j_callW X (As := [.int (xs (nI j + nI 1).toNatClampNeg), .int (xs (nI j + nI 2).toNatClampNeg)]) (rest := [.int r]) (v := .int r) (σ' := σ2) mf_X8_stand bw_1067 bw_1068 bs_1128 ⟨rfl, rfl⟩ ⟨Nat.le_of_ble_eq_true rfl, Nat.le_of_ble_eq_true rfl⟩ hc cf6 pk_68 pl_68 (c_X8_stand Γ.2.1 E ad e2) rfl rfl (Nat.le_of_ble_eq_true rfl) dL_law_678 ?_
                                          refine j_icmp_eq X (tgt := 1212) (by decide) dL_law_681 (fun _ => ?_) (fun c => absurd rfl c)
                                          exact hlat _ hR
                                        · by_cases c18 : x = 18
                                          · refine j_tableIn X (tgt := 686) (by rw [c18]; decide) (by rw [c18]; decide) (by rw [c18]; rfl) (by decide) dL_law_32 ?_
                                            obtain ⟨r, σ1, σ2, e1, e2, hR⟩ := h_told σ hRel (xs (nI j + nI 1).toNatClampNeg) (xs (nI j + nI 2).toNatClampNeg) (xs (nI j + nI 3).toNatClampNeg)
                                            refine j_aload_n X 2 rfl rfl dL_law_686 ?_
                                            refine j_aload_n X 3 rfl rfl dL_law_687 ?_
                                            refine j_iload_n X 0 rfl rfl dL_law_688 ?_
                                            refine j_iconst X (v := nI 1) (by decide) dL_law_689 ?_
                                            refine j_iadd X dL_law_690 ?_
                                            refine j_sld X Z (hin 1 (by decide)) dL_law_691 ?_
                                            refine j_aload_n X 3 rfl rfl dL_law_692 ?_
                                            refine j_iload_n X 0 rfl rfl dL_law_693 ?_
                                            refine j_iconst X (v := nI 2) (by decide) dL_law_694 ?_
                                            refine j_iadd X dL_law_695 ?_
                                            refine j_sld X Z (hin 2 (by decide)) dL_law_696 ?_
                                            refine j_aload_n X 3 rfl rfl dL_law_697 ?_
                                            refine j_iload_n X 0 rfl rfl dL_law_698 ?_
                                            refine j_iconst X (v := nI 3) (by decide) dL_law_699 ?_
                                            refine j_iadd X dL_law_700 ?_
                                            refine j_sld X Z (hin 3 (by decide)) dL_law_701 ?_
                                            refine j_callW X (As := [.int (xs (nI j + nI 1).toNatClampNeg), .int (xs (nI j + nI 2).toNatClampNeg), .int (xs (nI j + nI 3).toNatClampNeg)]) (rest := []) (v := .int r) (σ' := σ1) mf_X7_told bw_565 bw_566 bs_626 ⟨rfl, rfl⟩ ⟨Nat.le_of_ble_eq_true rfl, Nat.le_of_ble_eq_true rfl⟩ hc cf5 pk_0 pl_0 (c_X7_told Γ.2.1 E ad e1) rfl rfl (Nat.le_of_ble_eq_true rfl) dL_law_702 ?_
                                            refine j_aload_n X 1 rfl rfl dL_law_705 ?_
                                            refine j_aload_n X 3 rfl rfl dL_law_706 ?_
                                            refine j_iload_n X 0 rfl rfl dL_law_707 ?_
                                            refine j_iconst X (v := nI 1) (by decide) dL_law_708 ?_
                                            refine j_iadd X dL_law_709 ?_
                                            refine j_sld X Z (hin 1 (by decide)) dL_law_710 ?_
                                            refine j_aload_n X 3 rfl rfl dL_law_711 ?_
                                            refine j_iload_n X 0 rfl rfl dL_law_712 ?_
                                            refine j_iconst X (v := nI 2) (by decide) dL_law_713 ?_
                                            refine j_iadd X dL_law_714 ?_
                                            refine j_sld X Z (hin 2 (by decide)) dL_law_715 ?_
                                            refine j_aload_n X 3 rfl rfl dL_law_716 ?_
                                            refine j_iload_n X 0 rfl rfl dL_law_717 ?_
                                            refine j_iconst X (v := nI 3) (by decide) dL_law_718 ?_
                                            refine j_iadd X dL_law_719 ?_
                                            refine j_sld X Z (hin 3 (by decide)) dL_law_720 ?_
                                            refine j_callW X (As := [.int (xs (nI j + nI 1).toNatClampNeg), .int (xs (nI j + nI 2).toNatClampNeg), .int (xs (nI j + nI 3).toNatClampNeg)]) (rest := [.int r]) (v := .int r) (σ' := σ2) mf_X8_told bw_1076 bw_1077 bs_1137 ⟨rfl, rfl⟩ ⟨Nat.le_of_ble_eq_true rfl, Nat.le_of_ble_eq_true rfl⟩ hc cf6 pk_68 pl_68 (c_X8_told Γ.2.1 E ad e2) rfl rfl (Nat.le_of_ble_eq_true rfl) dL_law_721 ?_
                                            refine j_icmp_eq X (tgt := 1212) (by decide) dL_law_724 (fun _ => ?_) (fun c => absurd rfl c)
                                            exact hlat _ hR
                                          · by_cases c19 : x = 19
                                            · refine j_tableIn X (tgt := 729) (by rw [c19]; decide) (by rw [c19]; decide) (by rw [c19]; rfl) (by decide) dL_law_32 ?_
                                              obtain ⟨r, σ1, σ2, e1, e2, hR⟩ := h_said σ hRel (xs (nI j + nI 1).toNatClampNeg) (xs (nI j + nI 2).toNatClampNeg)
                                              refine j_aload_n X 2 rfl rfl dL_law_729 ?_
                                              refine j_aload_n X 3 rfl rfl dL_law_730 ?_
                                              refine j_iload_n X 0 rfl rfl dL_law_731 ?_
                                              refine j_iconst X (v := nI 1) (by decide) dL_law_732 ?_
                                              refine j_iadd X dL_law_733 ?_
                                              refine j_sld X Z (hin 1 (by decide)) dL_law_734 ?_
                                              refine j_aload_n X 3 rfl rfl dL_law_735 ?_
                                              refine j_iload_n X 0 rfl rfl dL_law_736 ?_
                                              refine j_iconst X (v := nI 2) (by decide) dL_law_737 ?_
                                              refine j_iadd X dL_law_738 ?_
                                              refine j_sld X Z (hin 2 (by decide)) dL_law_739 ?_
                                              refine j_callW X (As := [.int (xs (nI j + nI 1).toNatClampNeg), .int (xs (nI j + nI 2).toNatClampNeg)]) (rest := []) (v := .int r) (σ' := σ1) mf_X7_said bw_569 bw_570 bs_630 ⟨rfl, rfl⟩ ⟨Nat.le_of_ble_eq_true rfl, Nat.le_of_ble_eq_true rfl⟩ hc cf5 pk_0 pl_0 (c_X7_said Γ.2.1 E ad e1) rfl rfl (Nat.le_of_ble_eq_true rfl) dL_law_740 ?_
                                              refine j_aload_n X 1 rfl rfl dL_law_743 ?_
                                              refine j_aload_n X 3 rfl rfl dL_law_744 ?_
                                              refine j_iload_n X 0 rfl rfl dL_law_745 ?_
                                              refine j_iconst X (v := nI 1) (by decide) dL_law_746 ?_
                                              refine j_iadd X dL_law_747 ?_
                                              refine j_sld X Z (hin 1 (by decide)) dL_law_748 ?_
                                              refine j_aload_n X 3 rfl rfl dL_law_749 ?_
                                              refine j_iload_n X 0 rfl rfl dL_law_750 ?_
                                              refine j_iconst X (v := nI 2) (by decide) dL_law_751 ?_
                                              refine j_iadd X dL_law_752 ?_
                                              refine j_sld X Z (hin 2 (by decide)) dL_law_753 ?_
                                              refine j_callW X (As := [.int (xs (nI j + nI 1).toNatClampNeg), .int (xs (nI j + nI 2).toNatClampNeg)]) (rest := [.int r]) (v := .int r) (σ' := σ2) mf_X8_said bw_1080 bw_1081 bs_1141 ⟨rfl, rfl⟩ ⟨Nat.le_of_ble_eq_true rfl, Nat.le_of_ble_eq_true rfl⟩ hc cf6 pk_68 pl_68 (c_X8_said Γ.2.1 E ad e2) rfl rfl (Nat.le_of_ble_eq_true rfl) dL_law_754 ?_
                                              refine j_icmp_eq X (tgt := 1212) (by decide) dL_law_757 (fun _ => ?_) (fun c => absurd rfl c)
                                              exact hlat _ hR
                                            · by_cases c20 : x = 20
                                              · refine j_tableIn X (tgt := 762) (by rw [c20]; decide) (by rw [c20]; decide) (by rw [c20]; rfl) (by decide) dL_law_32 ?_
                                                obtain ⟨r, σ1, σ2, e1, e2, hR⟩ := h_note σ hRel (xs (nI j + nI 1).toNatClampNeg) (xs (nI j + nI 2).toNatClampNeg) (xs (nI j + nI 3).toNatClampNeg) (xs (nI j + nI 4).toNatClampNeg)
                                                refine j_aload_n X 2 rfl rfl dL_law_762 ?_
                                                refine j_aload_n X 3 rfl rfl dL_law_763 ?_
                                                refine j_iload_n X 0 rfl rfl dL_law_764 ?_
                                                refine j_iconst X (v := nI 1) (by decide) dL_law_765 ?_
                                                refine j_iadd X dL_law_766 ?_
                                                refine j_sld X Z (hin 1 (by decide)) dL_law_767 ?_
                                                refine j_aload_n X 3 rfl rfl dL_law_768 ?_
                                                refine j_iload_n X 0 rfl rfl dL_law_769 ?_
                                                refine j_iconst X (v := nI 2) (by decide) dL_law_770 ?_
                                                refine j_iadd X dL_law_771 ?_
                                                refine j_sld X Z (hin 2 (by decide)) dL_law_772 ?_
                                                refine j_aload_n X 3 rfl rfl dL_law_773 ?_
                                                refine j_iload_n X 0 rfl rfl dL_law_774 ?_
                                                refine j_iconst X (v := nI 3) (by decide) dL_law_775 ?_
                                                refine j_iadd X dL_law_776 ?_
                                                refine j_sld X Z (hin 3 (by decide)) dL_law_777 ?_
                                                refine j_aload_n X 3 rfl rfl dL_law_778 ?_
                                                refine j_iload_n X 0 rfl rfl dL_law_779 ?_
                                                refine j_iconst X (v := nI 4) (by decide) dL_law_780 ?_
                                                refine j_iadd X dL_law_781 ?_
                                                refine j_sld X Z (hin 4 (by decide)) dL_law_782 ?_
                                                refine j_callW X (As := [.int (xs (nI j + nI 1).toNatClampNeg), .int (xs (nI j + nI 2).toNatClampNeg), .int (xs (nI j + nI 3).toNatClampNeg), .int (xs (nI j + nI 4).toNatClampNeg)]) (rest := []) (v := .int r) (σ' := σ1) mf_X7_note bw_582 bw_583 bs_643 ⟨rfl, rfl⟩ ⟨Nat.le_of_ble_eq_true rfl, Nat.le_of_ble_eq_true rfl⟩ hc cf5 pk_0 pl_0 (c_X7_note Γ.2.1 E ad e1) rfl rfl (Nat.le_of_ble_eq_true rfl) dL_law_783 ?_
                                                refine j_aload_n X 1 rfl rfl dL_law_786 ?_
                                                refine j_aload_n X 3 rfl rfl dL_law_787 ?_
                                                refine j_iload_n X 0 rfl rfl dL_law_788 ?_
                                                refine j_iconst X (v := nI 1) (by decide) dL_law_789 ?_
                                                refine j_iadd X dL_law_790 ?_
                                                refine j_sld X Z (hin 1 (by decide)) dL_law_791 ?_
                                                refine j_aload_n X 3 rfl rfl dL_law_792 ?_
                                                refine j_iload_n X 0 rfl rfl dL_law_793 ?_
                                                refine j_iconst X (v := nI 2) (by decide) dL_law_794 ?_
                                                refine j_iadd X dL_law_795 ?_
                                                refine j_sld X Z (hin 2 (by decide)) dL_law_796 ?_
                                                refine j_aload_n X 3 rfl rfl dL_law_797 ?_
                                                refine j_iload_n X 0 rfl rfl dL_law_798 ?_
                                                refine j_iconst X (v := nI 3) (by decide) dL_law_799 ?_
                                                refine j_iadd X dL_law_800 ?_
                                                refine j_sld X Z (hin 3 (by decide)) dL_law_801 ?_
                                                refine j_aload_n X 3 rfl rfl dL_law_802 ?_
                                                refine j_iload_n X 0 rfl rfl dL_law_803 ?_
                                                refine j_iconst X (v := nI 4) (by decide) dL_law_804 ?_
                                                refine j_iadd X dL_law_805 ?_
                                                refine j_sld X Z (hin 4 (by decide)) dL_law_806 ?_
                                                refine j_callW X (As := [.int (xs (nI j + nI 1).toNatClampNeg), .int (xs (nI j + nI 2).toNatClampNeg), .int (xs (nI j + nI 3).toNatClampNeg), .int (xs (nI j + nI 4).toNatClampNeg)]) (rest := [.int r]) (v := .int r) (σ' := σ2) mf_X8_note bw_1088 bw_1089 bs_1149 ⟨rfl, rfl⟩ ⟨Nat.le_of_ble_eq_true rfl, Nat.le_of_ble_eq_true rfl⟩ hc cf6 pk_68 pl_68 (c_X8_note Γ.2.1 E ad e2) rfl rfl (Nat.le_of_ble_eq_true rfl) dL_law_807 ?_
                                                refine j_icmp_eq X (tgt := 1212) (by decide) dL_law_810 (fun _ => ?_) (fun c => absurd rfl c)
                                                exact hlat _ hR
                                              · by_cases c21 : x = 21
                                                · refine j_tableIn X (tgt := 815) (by rw [c21]; decide) (by rw [c21]; decide) (by rw [c21]; rfl) (by decide) dL_law_32 ?_
                                                  obtain ⟨r, σ1, σ2, e1, e2, hR⟩ := h_mark σ hRel (xs (nI j + nI 1).toNatClampNeg) (xs (nI j + nI 2).toNatClampNeg) (xs (nI j + nI 3).toNatClampNeg) (xs (nI j + nI 4).toNatClampNeg)
                                                  refine j_aload_n X 2 rfl rfl dL_law_815 ?_
                                                  refine j_aload_n X 3 rfl rfl dL_law_816 ?_
                                                  refine j_iload_n X 0 rfl rfl dL_law_817 ?_
                                                  refine j_iconst X (v := nI 1) (by decide) dL_law_818 ?_
                                                  refine j_iadd X dL_law_819 ?_
                                                  refine j_sld X Z (hin 1 (by decide)) dL_law_820 ?_
                                                  refine j_aload_n X 3 rfl rfl dL_law_821 ?_
                                                  refine j_iload_n X 0 rfl rfl dL_law_822 ?_
                                                  refine j_iconst X (v := nI 2) (by decide) dL_law_823 ?_
                                                  refine j_iadd X dL_law_824 ?_
                                                  refine j_sld X Z (hin 2 (by decide)) dL_law_825 ?_
                                                  refine j_aload_n X 3 rfl rfl dL_law_826 ?_
                                                  refine j_iload_n X 0 rfl rfl dL_law_827 ?_
                                                  refine j_iconst X (v := nI 3) (by decide) dL_law_828 ?_
                                                  refine j_iadd X dL_law_829 ?_
                                                  refine j_sld X Z (hin 3 (by decide)) dL_law_830 ?_
                                                  refine j_aload_n X 3 rfl rfl dL_law_831 ?_
                                                  refine j_iload_n X 0 rfl rfl dL_law_832 ?_
                                                  refine j_iconst X (v := nI 4) (by decide) dL_law_833 ?_
                                                  refine j_iadd X dL_law_834 ?_
                                                  refine j_sld X Z (hin 4 (by decide)) dL_law_835 ?_
                                                  refine j_callW X (As := [.int (xs (nI j + nI 1).toNatClampNeg), .int (xs (nI j + nI 2).toNatClampNeg), .int (xs (nI j + nI 3).toNatClampNeg), .int (xs (nI j + nI 4).toNatClampNeg)]) (rest := []) (v := .int r) (σ' := σ1) mf_X7_mark bw_586 bw_587 bs_647 ⟨rfl, rfl⟩ ⟨Nat.le_of_ble_eq_true rfl, Nat.le_of_ble_eq_true rfl⟩ hc cf5 pk_0 pl_0 (c_X7_mark Γ.2.1 E ad e1) rfl rfl (Nat.le_of_ble_eq_true rfl) dL_law_836 ?_
                                                  refine j_aload_n X 1 rfl rfl dL_law_839 ?_
                                                  refine j_aload_n X 3 rfl rfl dL_law_840 ?_
                                                  refine j_iload_n X 0 rfl rfl dL_law_841 ?_
                                                  refine j_iconst X (v := nI 1) (by decide) dL_law_842 ?_
                                                  refine j_iadd X dL_law_843 ?_
                                                  refine j_sld X Z (hin 1 (by decide)) dL_law_844 ?_
                                                  refine j_aload_n X 3 rfl rfl dL_law_845 ?_
                                                  refine j_iload_n X 0 rfl rfl dL_law_846 ?_
                                                  refine j_iconst X (v := nI 2) (by decide) dL_law_847 ?_
                                                  refine j_iadd X dL_law_848 ?_
                                                  refine j_sld X Z (hin 2 (by decide)) dL_law_849 ?_
                                                  refine j_aload_n X 3 rfl rfl dL_law_850 ?_
                                                  refine j_iload_n X 0 rfl rfl dL_law_851 ?_
                                                  refine j_iconst X (v := nI 3) (by decide) dL_law_852 ?_
                                                  refine j_iadd X dL_law_853 ?_
                                                  refine j_sld X Z (hin 3 (by decide)) dL_law_854 ?_
                                                  refine j_aload_n X 3 rfl rfl dL_law_855 ?_
                                                  refine j_iload_n X 0 rfl rfl dL_law_856 ?_
                                                  refine j_iconst X (v := nI 4) (by decide) dL_law_857 ?_
                                                  refine j_iadd X dL_law_858 ?_
                                                  refine j_sld X Z (hin 4 (by decide)) dL_law_859 ?_
                                                  refine j_callW X (As := [.int (xs (nI j + nI 1).toNatClampNeg), .int (xs (nI j + nI 2).toNatClampNeg), .int (xs (nI j + nI 3).toNatClampNeg), .int (xs (nI j + nI 4).toNatClampNeg)]) (rest := [.int r]) (v := .int r) (σ' := σ2) mf_X8_mark bw_1096 bw_1097 bs_1157 ⟨rfl, rfl⟩ ⟨Nat.le_of_ble_eq_true rfl, Nat.le_of_ble_eq_true rfl⟩ hc cf6 pk_68 pl_68 (c_X8_mark Γ.2.1 E ad e2) rfl rfl (Nat.le_of_ble_eq_true rfl) dL_law_860 ?_
                                                  refine j_icmp_eq X (tgt := 1212) (by decide) dL_law_863 (fun _ => ?_) (fun c => absurd rfl c)
                                                  exact hlat _ hR
                                                · by_cases c22 : x = 22
                                                  · refine j_tableIn X (tgt := 868) (by rw [c22]; decide) (by rw [c22]; decide) (by rw [c22]; rfl) (by decide) dL_law_32 ?_
                                                    obtain ⟨r, σ1, σ2, e1, e2, hR⟩ := h_forget σ hRel (xs (nI j + nI 1).toNatClampNeg)
                                                    refine j_aload_n X 2 rfl rfl dL_law_868 ?_
                                                    refine j_aload_n X 3 rfl rfl dL_law_869 ?_
                                                    refine j_iload_n X 0 rfl rfl dL_law_870 ?_
                                                    refine j_iconst X (v := nI 1) (by decide) dL_law_871 ?_
                                                    refine j_iadd X dL_law_872 ?_
                                                    refine j_sld X Z (hin 1 (by decide)) dL_law_873 ?_
                                                    refine j_callW X (As := [.int (xs (nI j + nI 1).toNatClampNeg)]) (rest := []) (v := .int r) (σ' := σ1) mf_X7_forget bw_590 bw_591 bs_651 ⟨rfl, rfl⟩ ⟨Nat.le_of_ble_eq_true rfl, Nat.le_of_ble_eq_true rfl⟩ hc cf5 pk_0 pl_0 (c_X7_forget Γ.2.1 E ad e1) rfl rfl (Nat.le_of_ble_eq_true rfl) dL_law_874 ?_
                                                    refine j_aload_n X 1 rfl rfl dL_law_877 ?_
                                                    refine j_aload_n X 3 rfl rfl dL_law_878 ?_
                                                    refine j_iload_n X 0 rfl rfl dL_law_879 ?_
                                                    refine j_iconst X (v := nI 1) (by decide) dL_law_880 ?_
                                                    refine j_iadd X dL_law_881 ?_
                                                    refine j_sld X Z (hin 1 (by decide)) dL_law_882 ?_
                                                    refine j_callW X (As := [.int (xs (nI j + nI 1).toNatClampNeg)]) (rest := [.int r]) (v := .int r) (σ' := σ2) mf_X8_forget bw_1100 bw_1101 bs_1161 ⟨rfl, rfl⟩ ⟨Nat.le_of_ble_eq_true rfl, Nat.le_of_ble_eq_true rfl⟩ hc cf6 pk_68 pl_68 (c_X8_forget Γ.2.1 E ad e2) rfl rfl (Nat.le_of_ble_eq_true rfl) dL_law_883 ?_
                                                    refine j_icmp_eq X (tgt := 1212) (by decide) dL_law_886 (fun _ => ?_) (fun c => absurd rfl c)
                                                    exact hlat _ hR
                                                  · by_cases c23 : x = 23
                                                    · refine j_tableIn X (tgt := 891) (by rw [c23]; decide) (by rw [c23]; decide) (by rw [c23]; rfl) (by decide) dL_law_32 ?_
                                                      obtain ⟨r, σ1, σ2, e1, e2, hR⟩ := h_is σ hRel (xs (nI j + nI 1).toNatClampNeg)
                                                      refine j_aload_n X 2 rfl rfl dL_law_891 ?_
                                                      refine j_aload_n X 3 rfl rfl dL_law_892 ?_
                                                      refine j_iload_n X 0 rfl rfl dL_law_893 ?_
                                                      refine j_iconst X (v := nI 1) (by decide) dL_law_894 ?_
                                                      refine j_iadd X dL_law_895 ?_
                                                      refine j_sld X Z (hin 1 (by decide)) dL_law_896 ?_
                                                      refine j_callW X (As := [.int (xs (nI j + nI 1).toNatClampNeg)]) (rest := []) (v := .int r) (σ' := σ1) mf_X7_is bw_594 bw_595 bs_655 ⟨rfl, rfl⟩ ⟨Nat.le_of_ble_eq_true rfl, Nat.le_of_ble_eq_true rfl⟩ hc cf5 pk_0 pl_0 (c_X7_is Γ.2.1 E ad e1) rfl rfl (Nat.le_of_ble_eq_true rfl) dL_law_897 ?_
                                                      refine j_aload_n X 1 rfl rfl dL_law_900 ?_
                                                      refine j_aload_n X 3 rfl rfl dL_law_901 ?_
                                                      refine j_iload_n X 0 rfl rfl dL_law_902 ?_
                                                      refine j_iconst X (v := nI 1) (by decide) dL_law_903 ?_
                                                      refine j_iadd X dL_law_904 ?_
                                                      refine j_sld X Z (hin 1 (by decide)) dL_law_905 ?_
                                                      refine j_callW X (As := [.int (xs (nI j + nI 1).toNatClampNeg)]) (rest := [.int r]) (v := .int r) (σ' := σ2) mf_X8_is bw_1104 bw_1105 bs_1165 ⟨rfl, rfl⟩ ⟨Nat.le_of_ble_eq_true rfl, Nat.le_of_ble_eq_true rfl⟩ hc cf6 pk_68 pl_68 (c_X8_is Γ.2.1 E ad e2) rfl rfl (Nat.le_of_ble_eq_true rfl) dL_law_906 ?_
                                                      refine j_icmp_eq X (tgt := 1212) (by decide) dL_law_909 (fun _ => ?_) (fun c => absurd rfl c)
                                                      exact hlat _ hR
                                                    · by_cases c24 : x = 24
                                                      · refine j_tableIn X (tgt := 914) (by rw [c24]; decide) (by rw [c24]; decide) (by rw [c24]; rfl) (by decide) dL_law_32 ?_
                                                        obtain ⟨r, σ1, σ2, e1, e2, hR⟩ := h_look σ hRel (xs (nI j + nI 1).toNatClampNeg)
                                                        refine j_aload_n X 2 rfl rfl dL_law_914 ?_
                                                        refine j_aload_n X 3 rfl rfl dL_law_915 ?_
                                                        refine j_iload_n X 0 rfl rfl dL_law_916 ?_
                                                        refine j_iconst X (v := nI 1) (by decide) dL_law_917 ?_
                                                        refine j_iadd X dL_law_918 ?_
                                                        refine j_sld X Z (hin 1 (by decide)) dL_law_919 ?_
                                                        refine j_callW X (As := [.int (xs (nI j + nI 1).toNatClampNeg)]) (rest := []) (v := .int r) (σ' := σ1) mf_X7_look bw_605 bw_606 bs_666 ⟨rfl, rfl⟩ ⟨Nat.le_of_ble_eq_true rfl, Nat.le_of_ble_eq_true rfl⟩ hc cf5 pk_0 pl_0 (c_X7_look Γ.2.1 E ad e1) rfl rfl (Nat.le_of_ble_eq_true rfl) dL_law_920 ?_
                                                        refine j_aload_n X 1 rfl rfl dL_law_923 ?_
                                                        refine j_aload_n X 3 rfl rfl dL_law_924 ?_
                                                        refine j_iload_n X 0 rfl rfl dL_law_925 ?_
                                                        refine j_iconst X (v := nI 1) (by decide) dL_law_926 ?_
                                                        refine j_iadd X dL_law_927 ?_
                                                        refine j_sld X Z (hin 1 (by decide)) dL_law_928 ?_
                                                        refine j_callW X (As := [.int (xs (nI j + nI 1).toNatClampNeg)]) (rest := [.int r]) (v := .int r) (σ' := σ2) mf_X8_look bw_1112 bw_1113 bs_1173 ⟨rfl, rfl⟩ ⟨Nat.le_of_ble_eq_true rfl, Nat.le_of_ble_eq_true rfl⟩ hc cf6 pk_68 pl_68 (c_X8_look Γ.2.1 E ad e2) rfl rfl (Nat.le_of_ble_eq_true rfl) dL_law_929 ?_
                                                        refine j_icmp_eq X (tgt := 1212) (by decide) dL_law_932 (fun _ => ?_) (fun c => absurd rfl c)
                                                        exact hlat _ hR
                                                      · by_cases c25 : x = 25
                                                        · refine j_tableIn X (tgt := 937) (by rw [c25]; decide) (by rw [c25]; decide) (by rw [c25]; rfl) (by decide) dL_law_32 ?_
                                                          obtain ⟨r, σ1, σ2, e1, e2, hR⟩ := h_kinds σ hRel (xs (nI j + nI 1).toNatClampNeg)
                                                          refine j_aload_n X 2 rfl rfl dL_law_937 ?_
                                                          refine j_aload_n X 3 rfl rfl dL_law_938 ?_
                                                          refine j_iload_n X 0 rfl rfl dL_law_939 ?_
                                                          refine j_iconst X (v := nI 1) (by decide) dL_law_940 ?_
                                                          refine j_iadd X dL_law_941 ?_
                                                          refine j_sld X Z (hin 1 (by decide)) dL_law_942 ?_
                                                          refine j_callW X (As := [.int (xs (nI j + nI 1).toNatClampNeg)]) (rest := []) (v := .int r) (σ' := σ1) mf_X7_kinds bw_621 bw_622 bs_682 ⟨rfl, rfl⟩ ⟨Nat.le_of_ble_eq_true rfl, Nat.le_of_ble_eq_true rfl⟩ hc cf5 pk_0 pl_0 (c_X7_kinds Γ.2.1 E ad e1) rfl rfl (Nat.le_of_ble_eq_true rfl) dL_law_943 ?_
                                                          refine j_aload_n X 1 rfl rfl dL_law_946 ?_
                                                          refine j_aload_n X 3 rfl rfl dL_law_947 ?_
                                                          refine j_iload_n X 0 rfl rfl dL_law_948 ?_
                                                          refine j_iconst X (v := nI 1) (by decide) dL_law_949 ?_
                                                          refine j_iadd X dL_law_950 ?_
                                                          refine j_sld X Z (hin 1 (by decide)) dL_law_951 ?_
                                                          refine j_callW X (As := [.int (xs (nI j + nI 1).toNatClampNeg)]) (rest := [.int r]) (v := .int r) (σ' := σ2) mf_X8_kinds bw_1116 bw_1117 bs_1177 ⟨rfl, rfl⟩ ⟨Nat.le_of_ble_eq_true rfl, Nat.le_of_ble_eq_true rfl⟩ hc cf6 pk_68 pl_68 (c_X8_kinds Γ.2.1 E ad e2) rfl rfl (Nat.le_of_ble_eq_true rfl) dL_law_952 ?_
                                                          refine j_icmp_eq X (tgt := 1212) (by decide) dL_law_955 (fun _ => ?_) (fun c => absurd rfl c)
                                                          exact hlat _ hR
                                                        · by_cases c26 : x = 26
                                                          · refine j_tableIn X (tgt := 960) (by rw [c26]; decide) (by rw [c26]; decide) (by rw [c26]; rfl) (by decide) dL_law_32 ?_
                                                            obtain ⟨r, σ1, σ2, e1, e2, hR⟩ := h_ask σ hRel (xs (nI j + nI 1).toNatClampNeg)
                                                            refine j_aload_n X 2 rfl rfl dL_law_960 ?_
                                                            refine j_aload_n X 3 rfl rfl dL_law_961 ?_
                                                            refine j_iload_n X 0 rfl rfl dL_law_962 ?_
                                                            refine j_iconst X (v := nI 1) (by decide) dL_law_963 ?_
                                                            refine j_iadd X dL_law_964 ?_
                                                            refine j_sld X Z (hin 1 (by decide)) dL_law_965 ?_
                                                            refine j_callW X (As := [.int (xs (nI j + nI 1).toNatClampNeg)]) (rest := []) (v := .int r) (σ' := σ1) mf_X7_ask bw_632 bw_633 bs_693 ⟨rfl, rfl⟩ ⟨Nat.le_of_ble_eq_true rfl, Nat.le_of_ble_eq_true rfl⟩ hc cf5 pk_0 pl_0 (c_X7_ask Γ.2.1 E ad e1) rfl rfl (Nat.le_of_ble_eq_true rfl) dL_law_966 ?_
                                                            refine j_aload_n X 1 rfl rfl dL_law_969 ?_
                                                            refine j_aload_n X 3 rfl rfl dL_law_970 ?_
                                                            refine j_iload_n X 0 rfl rfl dL_law_971 ?_
                                                            refine j_iconst X (v := nI 1) (by decide) dL_law_972 ?_
                                                            refine j_iadd X dL_law_973 ?_
                                                            refine j_sld X Z (hin 1 (by decide)) dL_law_974 ?_
                                                            refine j_callW X (As := [.int (xs (nI j + nI 1).toNatClampNeg)]) (rest := [.int r]) (v := .int r) (σ' := σ2) mf_X8_ask bw_1124 bw_1125 bs_1185 ⟨rfl, rfl⟩ ⟨Nat.le_of_ble_eq_true rfl, Nat.le_of_ble_eq_true rfl⟩ hc cf6 pk_68 pl_68 (c_X8_ask Γ.2.1 E ad e2) rfl rfl (Nat.le_of_ble_eq_true rfl) dL_law_975 ?_
                                                            refine j_icmp_eq X (tgt := 1212) (by decide) dL_law_978 (fun _ => ?_) (fun c => absurd rfl c)
                                                            exact hlat _ hR
                                                          · by_cases c27 : x = 27
                                                            · refine j_tableIn X (tgt := 983) (by rw [c27]; decide) (by rw [c27]; decide) (by rw [c27]; rfl) (by decide) dL_law_32 ?_
                                                              obtain ⟨r, σ1, σ2, e1, e2, hR⟩ := h_brothers σ hRel (xs (nI j + nI 1).toNatClampNeg)
                                                              refine j_aload_n X 2 rfl rfl dL_law_983 ?_
                                                              refine j_aload_n X 3 rfl rfl dL_law_984 ?_
                                                              refine j_iload_n X 0 rfl rfl dL_law_985 ?_
                                                              refine j_iconst X (v := nI 1) (by decide) dL_law_986 ?_
                                                              refine j_iadd X dL_law_987 ?_
                                                              refine j_sld X Z (hin 1 (by decide)) dL_law_988 ?_
                                                              refine j_callW X (As := [.int (xs (nI j + nI 1).toNatClampNeg)]) (rest := []) (v := .int r) (σ' := σ1) mf_X7_brothers bw_644 bw_645 bs_705 ⟨rfl, rfl⟩ ⟨Nat.le_of_ble_eq_true rfl, Nat.le_of_ble_eq_true rfl⟩ hc cf5 pk_0 pl_0 (c_X7_brothers Γ.2.1 E ad e1) rfl rfl (Nat.le_of_ble_eq_true rfl) dL_law_989 ?_
                                                              refine j_aload_n X 1 rfl rfl dL_law_992 ?_
                                                              refine j_aload_n X 3 rfl rfl dL_law_993 ?_
                                                              refine j_iload_n X 0 rfl rfl dL_law_994 ?_
                                                              refine j_iconst X (v := nI 1) (by decide) dL_law_995 ?_
                                                              refine j_iadd X dL_law_996 ?_
                                                              refine j_sld X Z (hin 1 (by decide)) dL_law_997 ?_
                                                              refine j_callW X (As := [.int (xs (nI j + nI 1).toNatClampNeg)]) (rest := [.int r]) (v := .int r) (σ' := σ2) mf_X8_brothers bw_1128 bw_1129 bs_1189 ⟨rfl, rfl⟩ ⟨Nat.le_of_ble_eq_true rfl, Nat.le_of_ble_eq_true rfl⟩ hc cf6 pk_68 pl_68 (c_X8_brothers Γ.2.1 E ad e2) rfl rfl (Nat.le_of_ble_eq_true rfl) dL_law_998 ?_
                                                              refine j_icmp_eq X (tgt := 1212) (by decide) dL_law_1001 (fun _ => ?_) (fun c => absurd rfl c)
                                                              exact hlat _ hR
                                                            · by_cases c28 : x = 28
                                                              · refine j_tableIn X (tgt := 1006) (by rw [c28]; decide) (by rw [c28]; decide) (by rw [c28]; rfl) (by decide) dL_law_32 ?_
                                                                obtain ⟨r, σ1, σ2, e1, e2, hR⟩ := h_holds σ hRel (xs (nI j + nI 1).toNatClampNeg) (xs (nI j + nI 2).toNatClampNeg) (xs (nI j + nI 3).toNatClampNeg)
                                                                refine j_aload_n X 2 rfl rfl dL_law_1006 ?_
                                                                refine j_aload_n X 3 rfl rfl dL_law_1007 ?_
                                                                refine j_iload_n X 0 rfl rfl dL_law_1008 ?_
                                                                refine j_iconst X (v := nI 1) (by decide) dL_law_1009 ?_
                                                                refine j_iadd X dL_law_1010 ?_
                                                                refine j_sld X Z (hin 1 (by decide)) dL_law_1011 ?_
                                                                refine j_aload_n X 3 rfl rfl dL_law_1012 ?_
                                                                refine j_iload_n X 0 rfl rfl dL_law_1013 ?_
                                                                refine j_iconst X (v := nI 2) (by decide) dL_law_1014 ?_
                                                                refine j_iadd X dL_law_1015 ?_
                                                                refine j_sld X Z (hin 2 (by decide)) dL_law_1016 ?_
                                                                refine j_aload_n X 3 rfl rfl dL_law_1017 ?_
                                                                refine j_iload_n X 0 rfl rfl dL_law_1018 ?_
                                                                refine j_iconst X (v := nI 3) (by decide) dL_law_1019 ?_
                                                                refine j_iadd X dL_law_1020 ?_
                                                                refine j_sld X Z (hin 3 (by decide)) dL_law_1021 ?_
                                                                refine j_callW X (As := [.int (xs (nI j + nI 1).toNatClampNeg), .int (xs (nI j + nI 2).toNatClampNeg), .int (xs (nI j + nI 3).toNatClampNeg)]) (rest := []) (v := .int r) (σ' := σ1) mf_X7_holds bw_660 bw_661 bs_721 ⟨rfl, rfl⟩ ⟨Nat.le_of_ble_eq_true rfl, Nat.le_of_ble_eq_true rfl⟩ hc cf5 pk_0 pl_0 (c_X7_holds Γ.2.1 E ad e1) rfl rfl (Nat.le_of_ble_eq_true rfl) dL_law_1022 ?_
                                                                refine j_aload_n X 1 rfl rfl dL_law_1025 ?_
                                                                refine j_aload_n X 3 rfl rfl dL_law_1026 ?_
                                                                refine j_iload_n X 0 rfl rfl dL_law_1027 ?_
                                                                refine j_iconst X (v := nI 1) (by decide) dL_law_1028 ?_
                                                                refine j_iadd X dL_law_1029 ?_
                                                                refine j_sld X Z (hin 1 (by decide)) dL_law_1030 ?_
                                                                refine j_aload_n X 3 rfl rfl dL_law_1031 ?_
                                                                refine j_iload_n X 0 rfl rfl dL_law_1032 ?_
                                                                refine j_iconst X (v := nI 2) (by decide) dL_law_1033 ?_
                                                                refine j_iadd X dL_law_1034 ?_
                                                                refine j_sld X Z (hin 2 (by decide)) dL_law_1035 ?_
                                                                refine j_aload_n X 3 rfl rfl dL_law_1036 ?_
                                                                refine j_iload_n X 0 rfl rfl dL_law_1037 ?_
                                                                refine j_iconst X (v := nI 3) (by decide) dL_law_1038 ?_
                                                                refine j_iadd X dL_law_1039 ?_
                                                                refine j_sld X Z (hin 3 (by decide)) dL_law_1040 ?_
                                                                refine j_callW X (As := [.int (xs (nI j + nI 1).toNatClampNeg), .int (xs (nI j + nI 2).toNatClampNeg), .int (xs (nI j + nI 3).toNatClampNeg)]) (rest := [.int r]) (v := .int r) (σ' := σ2) mf_X8_holds bw_1140 bw_1141 bs_1201 ⟨rfl, rfl⟩ ⟨Nat.le_of_ble_eq_true rfl, Nat.le_of_ble_eq_true rfl⟩ hc cf6 pk_68 pl_68 (c_X8_holds Γ.2.1 E ad e2) rfl rfl (Nat.le_of_ble_eq_true rfl) dL_law_1041 ?_
                                                                refine j_icmp_eq X (tgt := 1212) (by decide) dL_law_1044 (fun _ => ?_) (fun c => absurd rfl c)
                                                                exact hlat _ hR
                                                              · by_cases c29 : x = 29
                                                                · refine j_tableIn X (tgt := 1049) (by rw [c29]; decide) (by rw [c29]; decide) (by rw [c29]; rfl) (by decide) dL_law_32 ?_
                                                                  obtain ⟨r, σ1, σ2, e1, e2, hR⟩ := h_jobs σ hRel (xs (nI j + nI 1).toNatClampNeg) (xs (nI j + nI 2).toNatClampNeg)
                                                                  refine j_aload_n X 2 rfl rfl dL_law_1049 ?_
                                                                  refine j_aload_n X 3 rfl rfl dL_law_1050 ?_
                                                                  refine j_iload_n X 0 rfl rfl dL_law_1051 ?_
                                                                  refine j_iconst X (v := nI 1) (by decide) dL_law_1052 ?_
                                                                  refine j_iadd X dL_law_1053 ?_
                                                                  refine j_sld X Z (hin 1 (by decide)) dL_law_1054 ?_
                                                                  refine j_aload_n X 3 rfl rfl dL_law_1055 ?_
                                                                  refine j_iload_n X 0 rfl rfl dL_law_1056 ?_
                                                                  refine j_iconst X (v := nI 2) (by decide) dL_law_1057 ?_
                                                                  refine j_iadd X dL_law_1058 ?_
                                                                  refine j_sld X Z (hin 2 (by decide)) dL_law_1059 ?_
                                                                  refine j_callW X (As := [.int (xs (nI j + nI 1).toNatClampNeg), .int (xs (nI j + nI 2).toNatClampNeg)]) (rest := []) (v := .int r) (σ' := σ1) mf_X7_jobs bw_686 bw_687 bs_747 ⟨rfl, rfl⟩ ⟨Nat.le_of_ble_eq_true rfl, Nat.le_of_ble_eq_true rfl⟩ hc cf5 pk_0 pl_0 (c_X7_jobs Γ.2.1 E ad e1) rfl rfl (Nat.le_of_ble_eq_true rfl) dL_law_1060 ?_
                                                                  refine j_aload_n X 1 rfl rfl dL_law_1063 ?_
                                                                  refine j_aload_n X 3 rfl rfl dL_law_1064 ?_
                                                                  refine j_iload_n X 0 rfl rfl dL_law_1065 ?_
                                                                  refine j_iconst X (v := nI 1) (by decide) dL_law_1066 ?_
                                                                  refine j_iadd X dL_law_1067 ?_
                                                                  refine j_sld X Z (hin 1 (by decide)) dL_law_1068 ?_
                                                                  refine j_aload_n X 3 rfl rfl dL_law_1069 ?_
                                                                  refine j_iload_n X 0 rfl rfl dL_law_1070 ?_
                                                                  refine j_iconst X (v := nI 2) (by decide) dL_law_1071 ?_
                                                                  refine j_iadd X dL_law_1072 ?_
                                                                  refine j_sld X Z (hin 2 (by decide)) dL_law_1073 ?_
                                                                  refine j_callW X (As := [.int (xs (nI j + nI 1).toNatClampNeg), .int (xs (nI j + nI 2).toNatClampNeg)]) (rest := [.int r]) (v := .int r) (σ' := σ2) mf_X8_jobs bw_1145 bw_1146 bs_1206 ⟨rfl, rfl⟩ ⟨Nat.le_of_ble_eq_true rfl, Nat.le_of_ble_eq_true rfl⟩ hc cf6 pk_68 pl_68 (c_X8_jobs Γ.2.1 E ad e2) rfl rfl (Nat.le_of_ble_eq_true rfl) dL_law_1074 ?_
                                                                  refine j_icmp_eq X (tgt := 1212) (by decide) dL_law_1077 (fun _ => ?_) (fun c => absurd rfl c)
                                                                  exact hlat _ hR
                                                                · by_cases c30 : x = 30
                                                                  · refine j_tableIn X (tgt := 1082) (by rw [c30]; decide) (by rw [c30]; decide) (by rw [c30]; rfl) (by decide) dL_law_32 ?_
                                                                    obtain ⟨r, σ1, σ2, e1, e2, hR⟩ := h_part σ hRel (xs (nI j + nI 1).toNatClampNeg)
                                                                    refine j_aload_n X 2 rfl rfl dL_law_1082 ?_
                                                                    refine j_aload_n X 3 rfl rfl dL_law_1083 ?_
                                                                    refine j_iload_n X 0 rfl rfl dL_law_1084 ?_
                                                                    refine j_iconst X (v := nI 1) (by decide) dL_law_1085 ?_
                                                                    refine j_iadd X dL_law_1086 ?_
                                                                    refine j_sld X Z (hin 1 (by decide)) dL_law_1087 ?_
                                                                    refine j_callW X (As := [.int (xs (nI j + nI 1).toNatClampNeg)]) (rest := []) (v := .long r) (σ' := σ1) mf_X7_part bw_704 bw_705 bs_765 ⟨rfl, rfl⟩ ⟨Nat.le_of_ble_eq_true rfl, Nat.le_of_ble_eq_true rfl⟩ hc cf5 pk_0 pl_0 (c_X7_part Γ.2.1 E ad e1) rfl rfl (Nat.le_of_ble_eq_true rfl) dL_law_1088 ?_
                                                                    refine j_aload_n X 1 rfl rfl dL_law_1091 ?_
                                                                    refine j_aload_n X 3 rfl rfl dL_law_1092 ?_
                                                                    refine j_iload_n X 0 rfl rfl dL_law_1093 ?_
                                                                    refine j_iconst X (v := nI 1) (by decide) dL_law_1094 ?_
                                                                    refine j_iadd X dL_law_1095 ?_
                                                                    refine j_sld X Z (hin 1 (by decide)) dL_law_1096 ?_
                                                                    refine j_callW X (As := [.int (xs (nI j + nI 1).toNatClampNeg)]) (rest := [.long r]) (v := .long r) (σ' := σ2) mf_X8_part bw_1157 bw_1158 bs_1218 ⟨rfl, rfl⟩ ⟨Nat.le_of_ble_eq_true rfl, Nat.le_of_ble_eq_true rfl⟩ hc cf6 pk_68 pl_68 (c_X8_part Γ.2.1 E ad e2) rfl rfl (Nat.le_of_ble_eq_true rfl) dL_law_1097 ?_
                                                                    refine j_lcmp X dL_law_1100 ?_
                                                                    refine j_if_eq X (tgt := 1212) (by decide) dL_law_1101 (fun _ => ?_) (fun c => absurd (by simp [lg_cmp]) c)
                                                                    exact hlat _ hR
                                                                  · by_cases c31 : x = 31
                                                                    · refine j_tableIn X (tgt := 1106) (by rw [c31]; decide) (by rw [c31]; decide) (by rw [c31]; rfl) (by decide) dL_law_32 ?_
                                                                      obtain ⟨r, σ1, σ2, e1, e2, hR⟩ := h_image σ hRel (xs (nI j + nI 1).toNatClampNeg)
                                                                      refine j_aload_n X 2 rfl rfl dL_law_1106 ?_
                                                                      refine j_aload_n X 3 rfl rfl dL_law_1107 ?_
                                                                      refine j_iload_n X 0 rfl rfl dL_law_1108 ?_
                                                                      refine j_iconst X (v := nI 1) (by decide) dL_law_1109 ?_
                                                                      refine j_iadd X dL_law_1110 ?_
                                                                      refine j_sld X Z (hin 1 (by decide)) dL_law_1111 ?_
                                                                      refine j_callW X (As := [.int (xs (nI j + nI 1).toNatClampNeg)]) (rest := []) (v := .int r) (σ' := σ1) mf_X7_image bw_708 bw_709 bs_769 ⟨rfl, rfl⟩ ⟨Nat.le_of_ble_eq_true rfl, Nat.le_of_ble_eq_true rfl⟩ hc cf5 pk_0 pl_0 (c_X7_image Γ.2.1 E ad e1) rfl rfl (Nat.le_of_ble_eq_true rfl) dL_law_1112 ?_
                                                                      refine j_aload_n X 1 rfl rfl dL_law_1115 ?_
                                                                      refine j_aload_n X 3 rfl rfl dL_law_1116 ?_
                                                                      refine j_iload_n X 0 rfl rfl dL_law_1117 ?_
                                                                      refine j_iconst X (v := nI 1) (by decide) dL_law_1118 ?_
                                                                      refine j_iadd X dL_law_1119 ?_
                                                                      refine j_sld X Z (hin 1 (by decide)) dL_law_1120 ?_
                                                                      refine j_callW X (As := [.int (xs (nI j + nI 1).toNatClampNeg)]) (rest := [.int r]) (v := .int r) (σ' := σ2) mf_X8_image bw_1161 bw_1162 bs_1222 ⟨rfl, rfl⟩ ⟨Nat.le_of_ble_eq_true rfl, Nat.le_of_ble_eq_true rfl⟩ hc cf6 pk_68 pl_68 (c_X8_image Γ.2.1 E ad e2) rfl rfl (Nat.le_of_ble_eq_true rfl) dL_law_1121 ?_
                                                                      refine j_icmp_eq X (tgt := 1212) (by decide) dL_law_1124 (fun _ => ?_) (fun c => absurd rfl c)
                                                                      exact hlat _ hR
                                                                    · by_cases c32 : x = 32
                                                                      · refine j_tableIn X (tgt := 1129) (by rw [c32]; decide) (by rw [c32]; decide) (by rw [c32]; rfl) (by decide) dL_law_32 ?_
                                                                        obtain ⟨r, σ1, σ2, e1, e2, hR⟩ := h_from σ hRel (xs (nI j + nI 1).toNatClampNeg)
                                                                        refine j_aload_n X 2 rfl rfl dL_law_1129 ?_
                                                                        refine j_aload_n X 3 rfl rfl dL_law_1130 ?_
                                                                        refine j_iload_n X 0 rfl rfl dL_law_1131 ?_
                                                                        refine j_iconst X (v := nI 1) (by decide) dL_law_1132 ?_
                                                                        refine j_iadd X dL_law_1133 ?_
                                                                        refine j_sld X Z (hin 1 (by decide)) dL_law_1134 ?_
                                                                        refine j_callW X (As := [.int (xs (nI j + nI 1).toNatClampNeg)]) (rest := []) (v := .int r) (σ' := σ1) mf_X7_from bw_712 bw_713 bs_773 ⟨rfl, rfl⟩ ⟨Nat.le_of_ble_eq_true rfl, Nat.le_of_ble_eq_true rfl⟩ hc cf5 pk_0 pl_0 (c_X7_from Γ.2.1 E ad e1) rfl rfl (Nat.le_of_ble_eq_true rfl) dL_law_1135 ?_
                                                                        refine j_aload_n X 1 rfl rfl dL_law_1138 ?_
                                                                        refine j_aload_n X 3 rfl rfl dL_law_1139 ?_
                                                                        refine j_iload_n X 0 rfl rfl dL_law_1140 ?_
                                                                        refine j_iconst X (v := nI 1) (by decide) dL_law_1141 ?_
                                                                        refine j_iadd X dL_law_1142 ?_
                                                                        refine j_sld X Z (hin 1 (by decide)) dL_law_1143 ?_
                                                                        refine j_callW X (As := [.int (xs (nI j + nI 1).toNatClampNeg)]) (rest := [.int r]) (v := .int r) (σ' := σ2) mf_X8_from bw_1177 bw_1178 bs_1238 ⟨rfl, rfl⟩ ⟨Nat.le_of_ble_eq_true rfl, Nat.le_of_ble_eq_true rfl⟩ hc cf6 pk_68 pl_68 (c_X8_from Γ.2.1 E ad e2) rfl rfl (Nat.le_of_ble_eq_true rfl) dL_law_1144 ?_
                                                                        refine j_icmp_eq X (tgt := 1212) (by decide) dL_law_1147 (fun _ => ?_) (fun c => absurd rfl c)
                                                                        exact hlat _ hR
                                                                      · by_cases c33 : x = 33
                                                                        · refine j_tableIn X (tgt := 1152) (by rw [c33]; decide) (by rw [c33]; decide) (by rw [c33]; rfl) (by decide) dL_law_32 ?_
                                                                          obtain ⟨r, σ1, σ2, e1, e2, hR⟩ := h_status σ hRel (xs (nI j + nI 1).toNatClampNeg)
                                                                          refine j_aload_n X 2 rfl rfl dL_law_1152 ?_
                                                                          refine j_aload_n X 3 rfl rfl dL_law_1153 ?_
                                                                          refine j_iload_n X 0 rfl rfl dL_law_1154 ?_
                                                                          refine j_iconst X (v := nI 1) (by decide) dL_law_1155 ?_
                                                                          refine j_iadd X dL_law_1156 ?_
                                                                          refine j_sld X Z (hin 1 (by decide)) dL_law_1157 ?_
                                                                          refine j_callW X (As := [.int (xs (nI j + nI 1).toNatClampNeg)]) (rest := []) (v := .int r) (σ' := σ1) mf_X7_status bw_716 bw_717 bs_777 ⟨rfl, rfl⟩ ⟨Nat.le_of_ble_eq_true rfl, Nat.le_of_ble_eq_true rfl⟩ hc cf5 pk_0 pl_0 (c_X7_status Γ.2.1 E ad e1) rfl rfl (Nat.le_of_ble_eq_true rfl) dL_law_1158 ?_
                                                                          refine j_aload_n X 1 rfl rfl dL_law_1161 ?_
                                                                          refine j_aload_n X 3 rfl rfl dL_law_1162 ?_
                                                                          refine j_iload_n X 0 rfl rfl dL_law_1163 ?_
                                                                          refine j_iconst X (v := nI 1) (by decide) dL_law_1164 ?_
                                                                          refine j_iadd X dL_law_1165 ?_
                                                                          refine j_sld X Z (hin 1 (by decide)) dL_law_1166 ?_
                                                                          refine j_callW X (As := [.int (xs (nI j + nI 1).toNatClampNeg)]) (rest := [.int r]) (v := .int r) (σ' := σ2) mf_X8_status bw_837 bw_838 bs_898 ⟨rfl, rfl⟩ ⟨Nat.le_of_ble_eq_true rfl, Nat.le_of_ble_eq_true rfl⟩ hc cf6 pk_68 pl_68 (c_X8_status Γ.2.1 E ad e2) rfl rfl (Nat.le_of_ble_eq_true rfl) dL_law_1167 ?_
                                                                          refine j_icmp_eq X (tgt := 1212) (by decide) dL_law_1170 (fun _ => ?_) (fun c => absurd rfl c)
                                                                          exact hlat _ hR
                                                                        · by_cases c34 : x = 34
                                                                          · refine j_tableIn X (tgt := 1175) (by rw [c34]; decide) (by rw [c34]; decide) (by rw [c34]; rfl) (by decide) dL_law_32 ?_
                                                                            obtain ⟨r, σ1, σ2, e1, e2, hR⟩ := h_count σ hRel (xs (nI j + nI 1).toNatClampNeg)
                                                                            refine j_aload_n X 2 rfl rfl dL_law_1175 ?_
                                                                            refine j_aload_n X 3 rfl rfl dL_law_1176 ?_
                                                                            refine j_iload_n X 0 rfl rfl dL_law_1177 ?_
                                                                            refine j_iconst X (v := nI 1) (by decide) dL_law_1178 ?_
                                                                            refine j_iadd X dL_law_1179 ?_
                                                                            refine j_sld X Z (hin 1 (by decide)) dL_law_1180 ?_
                                                                            refine j_callW X (As := [.int (xs (nI j + nI 1).toNatClampNeg)]) (rest := []) (v := .int r) (σ' := σ1) mf_X7_count bw_720 bw_721 bs_781 ⟨rfl, rfl⟩ ⟨Nat.le_of_ble_eq_true rfl, Nat.le_of_ble_eq_true rfl⟩ hc cf5 pk_0 pl_0 (c_X7_count Γ.2.1 E ad e1) rfl rfl (Nat.le_of_ble_eq_true rfl) dL_law_1181 ?_
                                                                            refine j_aload_n X 1 rfl rfl dL_law_1184 ?_
                                                                            refine j_aload_n X 3 rfl rfl dL_law_1185 ?_
                                                                            refine j_iload_n X 0 rfl rfl dL_law_1186 ?_
                                                                            refine j_iconst X (v := nI 1) (by decide) dL_law_1187 ?_
                                                                            refine j_iadd X dL_law_1188 ?_
                                                                            refine j_sld X Z (hin 1 (by decide)) dL_law_1189 ?_
                                                                            refine j_callW X (As := [.int (xs (nI j + nI 1).toNatClampNeg)]) (rest := [.int r]) (v := .int r) (σ' := σ2) mf_X8_count bw_1181 bw_1182 bs_1242 ⟨rfl, rfl⟩ ⟨Nat.le_of_ble_eq_true rfl, Nat.le_of_ble_eq_true rfl⟩ hc cf6 pk_68 pl_68 (c_X8_count Γ.2.1 E ad e2) rfl rfl (Nat.le_of_ble_eq_true rfl) dL_law_1190 ?_
                                                                            refine j_icmp_eq X (tgt := 1212) (by decide) dL_law_1193 (fun _ => ?_) (fun c => absurd rfl c)
                                                                            exact hlat _ hR
                                                                          · by_cases c35 : x = 35
                                                                            · refine j_tableIn X (tgt := 1198) (by rw [c35]; decide) (by rw [c35]; decide) (by rw [c35]; rfl) (by decide) dL_law_32 ?_
                                                                              obtain ⟨r, e1, e2, hR⟩ := h_digest σ hRel 
                                                                              refine j_aload_n X 2 rfl rfl dL_law_1198 ?_
                                                                              refine j_callW X (As := []) (rest := []) (v := .long r) (σ' := σ) mf_X7_digest bw_732 bw_733 bs_793 ⟨rfl, rfl⟩ ⟨Nat.le_of_ble_eq_true rfl, Nat.le_of_ble_eq_true rfl⟩ hc cf5 pk_0 pl_0 (c_X7_digest Γ.2.1 E ad e1) rfl rfl (Nat.le_of_ble_eq_true rfl) dL_law_1199 ?_
                                                                              refine j_aload_n X 1 rfl rfl dL_law_1202 ?_
                                                                              refine j_callW X (As := []) (rest := [.long r]) (v := .long r) (σ' := σ) mf_X8_digest bw_1193 bw_1194 bs_1254 ⟨rfl, rfl⟩ ⟨Nat.le_of_ble_eq_true rfl, Nat.le_of_ble_eq_true rfl⟩ hc cf6 pk_68 pl_68 (c_X8_digest Γ.2.1 E ad e2) rfl rfl (Nat.le_of_ble_eq_true rfl) dL_law_1203 ?_
                                                                              refine j_lcmp X dL_law_1206 ?_
                                                                              refine j_if_eq X (tgt := 1212) (by decide) dL_law_1207 (fun _ => ?_) (fun c => absurd (by simp [lg_cmp]) c)
                                                                              exact hlat _ hR
                                                                            · refine j_tableOut X (tgt := 1212) (sw_out (x := x) (lo := 0) (hi := 35) (fun z h1 h2 => by rcases (by omega : z = 0 ∨ z = 1 ∨ z = 2 ∨ z = 3 ∨ z = 4 ∨ z = 5 ∨ z = 6 ∨ z = 7 ∨ z = 8 ∨ z = 9 ∨ z = 10 ∨ z = 11 ∨ z = 12 ∨ z = 13 ∨ z = 14 ∨ z = 15 ∨ z = 16 ∨ z = 17 ∨ z = 18 ∨ z = 19 ∨ z = 20 ∨ z = 21 ∨ z = 22 ∨ z = 23 ∨ z = 24 ∨ z = 25 ∨ z = 26 ∨ z = 27 ∨ z = 28 ∨ z = 29 ∨ z = 30 ∨ z = 31 ∨ z = 32 ∨ z = 33 ∨ z = 34 ∨ z = 35) with rfl | rfl | rfl | rfl | rfl | rfl | rfl | rfl | rfl | rfl | rfl | rfl | rfl | rfl | rfl | rfl | rfl | rfl | rfl | rfl | rfl | rfl | rfl | rfl | rfl | rfl | rfl | rfl | rfl | rfl | rfl | rfl | rfl | rfl | rfl | rfl <;> first | exact c0 | exact c1 | exact c2 | exact c3 | exact c4 | exact c5 | exact c6 | exact c7 | exact c8 | exact c9 | exact c10 | exact c11 | exact c12 | exact c13 | exact c14 | exact c15 | exact c16 | exact c17 | exact c18 | exact c19 | exact c20 | exact c21 | exact c22 | exact c23 | exact c24 | exact c25 | exact c26 | exact c27 | exact c28 | exact c29 | exact c30 | exact c31 | exact c32 | exact c33 | exact c34 | exact c35)) (by decide) dL_law_32 ?_
                                                                              exact hlat _ hRel
