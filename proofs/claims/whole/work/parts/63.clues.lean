/-! ===== PURE: clues, the text ===== -/
theorem if_n3' {α : Type} {p q r : Prop} [Decidable p] [Decidable q] [Decidable r] (a : α) (b : α) : (if p then (if q then (if r then a else b) else b) else b) = if p ∧ q ∧ r then a else b := by
  by_cases h : p ∧ q ∧ r
  · rw [if_pos h, if_pos h.1, if_pos h.2.1, if_pos h.2.2]
  · rw [if_neg h, if_n3 h]
theorem o3 (p q r : Prop) [Decidable p] [Decidable q] [Decidable r] : (if p then (if q then (if r then some (1 : Int32) else some 0) else some 0) else some 0) = some (b01 (p ∧ q ∧ r)) := by
  rw [if_n3']
  unfold b01
  split <;> rfl
theorem nz {a : Nat} (ha : a < 2 ^ 31) {b : Nat} (hb : b < 2 ^ 31) (h : a ≠ b) : ¬ nI a = nI b := fun z => h ((nI_eq ha hb).mp z)
theorem sp_told : Sp_told Rel := by
  intro σ H a1 a2 a3
  obtain ⟨HR, V, HC⟩ := id H
  obtain ⟨s, l, t, n, m, p, K⟩ := HC.1.vk
  have e0 : σ.1 (1 + 7) 3 = nI t := HC.2.2.1.1.2.2.1.trans K.1.1.2.2.1
  have b := K.1.B
  by_cases c : rng a1 0 3 ∧ rng a2 0 29 ∧ rng a3 0 99
  · by_cases hs : t = 5
    · refine r_full H ?_ (fun σ1 e1 => ?_)
      · unfold m_X7_told
        simp only [e_isRoom, e_isSpeak, ew_0_99, bd1_s, b01_z, bd2_id]
        rw [if_pos c.1, if_pos c.2.1, if_pos c.2.2, full_yes HC.2.1.2.2.2.1 e0 hs, bd1_s, if_neg (by decide)]
      · have L : LV σ1 V := by rw [e1]; exact HC.L.si0 _ _
        unfold m_X8_told
        simp only [e_mRoom, ei_0_29, ei_0_99, bd1_s, b01_z, bd2_id]
        rw [if_pos c.1, if_pos c.2.1, if_pos c.2.2, if_pos (L.2.1.2.2.1.trans (K.1.1.2.2.1.trans (by rw [hs]; rfl)))]
    · refine act H HC (r := nI (t + 1)) (K.told (show t < 5 by omega) (a := a1) (b := a2) (c := a3) (by rw [le_I]; exact c.2.1.1)).ok ?_ (fun σ1 L => ?_)
      · obtain ⟨σ1, e, T'⟩ := h_told HC.T K (show t < 5 by omega) (a := a1) (b := a2) (c := a3) (d := 0) (by rw [le_I]; exact c.2.1.1)
        refine ⟨σ1, ?_, T'⟩
        unfold m_X7_told
        simp only [e_isRoom, e_isSpeak, ew_0_99, bd1_s, b01_z, bd2_id]
        rw [if_pos c.1, if_pos c.2.1, if_pos c.2.2, full_no HC.2.1.2.2.2.1 e0 (by omega), bd1_s, if_pos rfl, e, bd2_s, nI_1]
      · have g := L.2.1.2.2.1.trans K.1.1.2.2.1
        have X1 := (LX.of L.2).set (44 + t * 3) (by omega) (x := a1) (m_told _ (by omega)).1 (m_told _ (by omega)).2
        have X2 := X1.set (44 + (t * 3 + 1)) (by omega) (x := a2) (m_told _ (by omega)).1 (m_told _ (by omega)).2
        have X3 := X2.set (44 + (t * 3 + 2)) (by omega) (x := a3) (m_told _ (by omega)).1 (m_told _ (by omega)).2
        have X4 := X3.set 2 (by omega) (x := nI (t + 1)) (show _ = 68 from rfl) (show _ = 16 from rfl)
        have g1 : (si σ1 78 (t * 3) a1).1 68 16 = nI t := X1.2.1.2.2.1.trans (by (try simp only [vSay, vEar, vTold, vNote, vMark, vReset, vShift, vPush, vPop, vTick, vu]; repeat (first | rw [if_pos trivial] | rw [if_pos (by omega)] | rw [if_neg (by omega)])); exact K.1.1.2.2.1)
        have g2 : (si (si σ1 78 (t * 3) a1) 78 (t * 3 + 1) a2).1 68 16 = nI t := X2.2.1.2.2.1.trans (by (try simp only [vSay, vEar, vTold, vNote, vMark, vReset, vShift, vPush, vPop, vTick, vu]; repeat (first | rw [if_pos trivial] | rw [if_pos (by omega)] | rw [if_neg (by omega)])); exact K.1.1.2.2.1)
        have g3 : (si (si (si σ1 78 (t * 3) a1) 78 (t * 3 + 1) a2) 78 (t * 3 + 2) a3).1 68 16 = nI t := X3.2.1.2.2.1.trans (by (try simp only [vSay, vEar, vTold, vNote, vMark, vReset, vShift, vPush, vPop, vTick, vu]; repeat (first | rw [if_pos trivial] | rw [if_pos (by omega)] | rw [if_neg (by omega)])); exact K.1.1.2.2.1)
        refine ⟨_, ?_, X4.out (fun k hk => ?_)⟩
        · unfold m_X8_told
          simp only [e_mRoom, ei_0_29, ei_0_99, bd1_s, b01_z, bd2_id]
          rw [if_pos c.1, if_pos c.2.1, if_pos c.2.2, if_neg (show ¬ σ1.1 68 16 = (5 : Int32) by rw [g]; exact nz (b := 5) (by omega) (by omega) hs), g, show (3 : Int32) = nI 3 from rfl, pk_mul, show 3 * t = t * 3 by omega, ln_78, ix_if (by omega) (by omega), nI_clamp (by omega), nm_eq, g1, show (1 : Int32) = nI 1 from rfl, pk_mul, show 3 * t = t * 3 by omega, nI_add, ix_if (by omega) (by omega), nI_clamp (by omega), nm_eq, g2, show (2 : Int32) = nI 2 from rfl, pk_mul, show 3 * t = t * 3 by omega, nI_add, ix_if (by omega) (by omega), nI_clamp (by omega), nm_eq, g3, nI_add, nm_eq, si_at]
        · rcases (show k = 2 ∨ k = 44 + t * 3 ∨ k = 44 + (t * 3 + 1) ∨ k = 44 + (t * 3 + 2) ∨ (k ≠ 2 ∧ k ≠ 44 + t * 3 ∧ k ≠ 44 + (t * 3 + 1) ∧ k ≠ 44 + (t * 3 + 2)) by omega) with c | c | c | c | c
          · (try simp only [vSay, vEar, vTold, vNote, vMark, vReset, vShift, vPush, vPop, vTick, vu]; repeat (first | rw [if_pos trivial] | rw [if_pos (by omega)] | rw [if_neg (by omega)]))
          · (try simp only [vSay, vEar, vTold, vNote, vMark, vReset, vShift, vPush, vPop, vTick, vu]; repeat (first | rw [if_pos trivial] | rw [if_pos (by omega)] | rw [if_neg (by omega)]))
          · (try simp only [vSay, vEar, vTold, vNote, vMark, vReset, vShift, vPush, vPop, vTick, vu]; repeat (first | rw [if_pos trivial] | rw [if_pos (by omega)] | rw [if_neg (by omega)]))
          · (try simp only [vSay, vEar, vTold, vNote, vMark, vReset, vShift, vPush, vPop, vTick, vu]; repeat (first | rw [if_pos trivial] | rw [if_pos (by omega)] | rw [if_neg (by omega)]))
          · (try simp only [vSay, vEar, vTold, vNote, vMark, vReset, vShift, vPush, vPop, vTick, vu]; repeat (first | rw [if_pos trivial] | rw [if_pos (by omega)] | rw [if_neg (by omega)]))
  · refine r_bad H ?_ (fun σ1 e1 => ?_)
    · unfold m_X7_told
      simp only [e_isRoom, e_isSpeak, ew_0_99, bd1_s, b01_z, bd2_id]
      rw [if_n3 c]
    · unfold m_X8_told
      simp only [e_mRoom, ei_0_29, ei_0_99, bd1_s, b01_z, bd2_id]
      rw [if_n3 c]
theorem sp_note : Sp_note Rel := by
  intro σ H a1 a2 a3 a4
  obtain ⟨HR, V, HC⟩ := id H
  obtain ⟨s, l, t, n, m, p, K⟩ := HC.1.vk
  have e0 : σ.1 (1 + 9) 3 = nI n := HC.2.2.1.1.2.2.2.1.trans K.1.1.2.2.2.1
  have b := K.1.B
  by_cases c : (rng a1 0 ((nS V : Int) - 1) ∧ rng a2 1 9 ∧ rng a3 0 29) ∧ rng a4 0 20
  · by_cases hs : n = 6
    · refine r_full H ?_ (fun σ1 e1 => ?_)
      · unfold m_X7_note
        simp only [x_isS HC.C, e_isSpeak, ew_1_9, ew_0_20, bd1_s, b01_z, bd2_id]
        rw [o3, bd1_s, b01_z, if_pos c.1, if_pos c.2, full_yes HC.2.1.2.2.2.2.1 e0 hs, bd1_s, if_neg (by decide)]
      · have L : LV σ1 V := by rw [e1]; exact HC.L.si0 _ _
        unfold m_X8_note
        simp only [y_isS L, ei_1_9, ei_0_29, ei_0_20, bd1_s, b01_z, bd2_id]
        rw [if_pos c.1.1, if_pos c.1.2.1, if_pos c.1.2.2, if_pos c.2, if_pos (L.2.1.2.2.2.1.trans (K.1.1.2.2.2.1.trans (by rw [hs]; rfl)))]
    · refine act H HC (r := nI (n + 1)) (K.note (show n < 6 by omega) (a := a1) (b := a2) (c := a3) (d := a4)).ok ?_ (fun σ1 L => ?_)
      · obtain ⟨σ1, e, T'⟩ := h_note HC.T K (show n < 6 by omega) (a := a1) (b := a2) (c := a3) (d := a4)
        refine ⟨σ1, ?_, T'⟩
        unfold m_X7_note
        simp only [x_isS HC.C, e_isSpeak, ew_1_9, ew_0_20, bd1_s, b01_z, bd2_id]
        rw [o3, bd1_s, b01_z, if_pos c.1, if_pos c.2, full_no HC.2.1.2.2.2.2.1 e0 (by omega), bd1_s, if_pos rfl, e, bd2_s, nI_1]
      · have g := L.2.1.2.2.2.1.trans K.1.1.2.2.2.1
        obtain ⟨σ2, e2, X1⟩ := m_add (base := 59) (k0 := 79) m_note (by omega) ln_79 (show n < 6 by omega) (LX.of L.2) a1 a2 a3 a4
        have X4 := X1.set 3 (by omega) (x := nI (n + 1)) (show _ = 68 from rfl) (show _ = 18 from rfl)
        refine ⟨_, ?_, X4.out (fun k hk => ?_)⟩
        · unfold m_X8_note
          simp only [y_isS L, ei_1_9, ei_0_29, ei_0_20, bd1_s, b01_z, bd2_id]
          rw [if_pos c.1.1, if_pos c.1.2.1, if_pos c.1.2.2, if_pos c.2, if_neg (show ¬ σ1.1 68 18 = (6 : Int32) by rw [g]; exact nz (b := 6) (by omega) (by omega) hs), g, e2, bd2_s, nm_eq, si_at]
        · rcases (show k = 3 ∨ k = 59 + n * 4 ∨ k = 59 + (n * 4 + 1) ∨ k = 59 + (n * 4 + 2) ∨ k = 59 + (n * 4 + 3) ∨ (k ≠ 3 ∧ k ≠ 59 + n * 4 ∧ k ≠ 59 + (n * 4 + 1) ∧ k ≠ 59 + (n * 4 + 2) ∧ k ≠ 59 + (n * 4 + 3)) by omega) with c | c | c | c | c | c
          · (try simp only [vSay, vEar, vTold, vNote, vMark, vReset, vShift, vPush, vPop, vTick, vu]; repeat (first | rw [if_pos trivial] | rw [if_pos (by omega)] | rw [if_neg (by omega)]))
          · (try simp only [vSay, vEar, vTold, vNote, vMark, vReset, vShift, vPush, vPop, vTick, vu]; repeat (first | rw [if_pos trivial] | rw [if_pos (by omega)] | rw [if_neg (by omega)]))
          · (try simp only [vSay, vEar, vTold, vNote, vMark, vReset, vShift, vPush, vPop, vTick, vu]; repeat (first | rw [if_pos trivial] | rw [if_pos (by omega)] | rw [if_neg (by omega)]))
          · (try simp only [vSay, vEar, vTold, vNote, vMark, vReset, vShift, vPush, vPop, vTick, vu]; repeat (first | rw [if_pos trivial] | rw [if_pos (by omega)] | rw [if_neg (by omega)]))
          · (try simp only [vSay, vEar, vTold, vNote, vMark, vReset, vShift, vPush, vPop, vTick, vu]; repeat (first | rw [if_pos trivial] | rw [if_pos (by omega)] | rw [if_neg (by omega)]))
          · (try simp only [vSay, vEar, vTold, vNote, vMark, vReset, vShift, vPush, vPop, vTick, vu]; repeat (first | rw [if_pos trivial] | rw [if_pos (by omega)] | rw [if_neg (by omega)]))
  · refine r_bad H ?_ (fun σ1 e1 => ?_)
    · unfold m_X7_note
      simp only [x_isS HC.C, e_isSpeak, ew_1_9, ew_0_20, bd1_s, b01_z, bd2_id]
      rw [o3, bd1_s, b01_z, if_n2 c]
    · have L : LV σ1 V := by rw [e1]; exact HC.L.si0 _ _
      unfold m_X8_note
      simp only [y_isS L, ei_1_9, ei_0_29, ei_0_20, bd1_s, b01_z, bd2_id]
      rw [if_n4 (fun z => c ⟨⟨z.1, z.2.1, z.2.2.1⟩, z.2.2.2⟩)]
theorem sp_mark : Sp_mark Rel := by
  intro σ H a1 a2 a3 a4
  obtain ⟨HR, V, HC⟩ := id H
  obtain ⟨s, l, t, n, m, p, K⟩ := HC.1.vk
  have e0 : σ.1 (1 + 11) 3 = nI m := HC.2.2.1.1.2.2.2.2.1.trans K.1.1.2.2.2.2.1
  have b := K.1.B
  by_cases c : (rng a1 0 ((nL V : Int) - 1) ∧ rng a2 0 20 ∧ rng a3 0 99) ∧ rng a4 0 1
  · by_cases hs : m = 6
    · refine r_full H ?_ (fun σ1 e1 => ?_)
      · unfold m_X7_mark
        simp only [x_isL HC.C, ew_0_20, ew_0_99, ew_0_1, bd1_s, b01_z, bd2_id]
        rw [o3, bd1_s, b01_z, if_pos c.1, if_pos c.2, full_yes HC.2.1.2.2.2.2.2.1 e0 hs, bd1_s, if_neg (by decide)]
      · have L : LV σ1 V := by rw [e1]; exact HC.L.si0 _ _
        unfold m_X8_mark
        simp only [y_isL L, ei_0_20, ei_0_99, ei_0_1, bd1_s, b01_z, bd2_id]
        rw [if_pos c.1.1, if_pos c.1.2.1, if_pos c.1.2.2, if_pos c.2, if_pos (L.2.1.2.2.2.2.1.trans (K.1.1.2.2.2.2.1.trans (by rw [hs]; rfl)))]
    · refine act H HC (r := nI (m + 1)) (K.mark (show m < 6 by omega) (a := a1) (b := a2) (c := a3) (d := a4)).ok ?_ (fun σ1 L => ?_)
      · obtain ⟨σ1, e, T'⟩ := h_mark HC.T K (show m < 6 by omega) (a := a1) (b := a2) (c := a3) (d := a4)
        refine ⟨σ1, ?_, T'⟩
        unfold m_X7_mark
        simp only [x_isL HC.C, ew_0_20, ew_0_99, ew_0_1, bd1_s, b01_z, bd2_id]
        rw [o3, bd1_s, b01_z, if_pos c.1, if_pos c.2, full_no HC.2.1.2.2.2.2.2.1 e0 (by omega), bd1_s, if_pos rfl, e, bd2_s, nI_1]
      · have g := L.2.1.2.2.2.2.1.trans K.1.1.2.2.2.2.1
        obtain ⟨σ2, e2, X1⟩ := m_add (base := 83) (k0 := 80) m_mark (by omega) ln_80 (show m < 6 by omega) (LX.of L.2) a1 a2 a3 a4
        have X4 := X1.set 4 (by omega) (x := nI (m + 1)) (show _ = 68 from rfl) (show _ = 20 from rfl)
        refine ⟨_, ?_, X4.out (fun k hk => ?_)⟩
        · unfold m_X8_mark
          simp only [y_isL L, ei_0_20, ei_0_99, ei_0_1, bd1_s, b01_z, bd2_id]
          rw [if_pos c.1.1, if_pos c.1.2.1, if_pos c.1.2.2, if_pos c.2, if_neg (show ¬ σ1.1 68 20 = (6 : Int32) by rw [g]; exact nz (b := 6) (by omega) (by omega) hs), g, e2, bd2_s, nm_eq, si_at]
        · rcases (show k = 4 ∨ k = 83 + m * 4 ∨ k = 83 + (m * 4 + 1) ∨ k = 83 + (m * 4 + 2) ∨ k = 83 + (m * 4 + 3) ∨ (k ≠ 4 ∧ k ≠ 83 + m * 4 ∧ k ≠ 83 + (m * 4 + 1) ∧ k ≠ 83 + (m * 4 + 2) ∧ k ≠ 83 + (m * 4 + 3)) by omega) with c | c | c | c | c | c
          · (try simp only [vSay, vEar, vTold, vNote, vMark, vReset, vShift, vPush, vPop, vTick, vu]; repeat (first | rw [if_pos trivial] | rw [if_pos (by omega)] | rw [if_neg (by omega)]))
          · (try simp only [vSay, vEar, vTold, vNote, vMark, vReset, vShift, vPush, vPop, vTick, vu]; repeat (first | rw [if_pos trivial] | rw [if_pos (by omega)] | rw [if_neg (by omega)]))
          · (try simp only [vSay, vEar, vTold, vNote, vMark, vReset, vShift, vPush, vPop, vTick, vu]; repeat (first | rw [if_pos trivial] | rw [if_pos (by omega)] | rw [if_neg (by omega)]))
          · (try simp only [vSay, vEar, vTold, vNote, vMark, vReset, vShift, vPush, vPop, vTick, vu]; repeat (first | rw [if_pos trivial] | rw [if_pos (by omega)] | rw [if_neg (by omega)]))
          · (try simp only [vSay, vEar, vTold, vNote, vMark, vReset, vShift, vPush, vPop, vTick, vu]; repeat (first | rw [if_pos trivial] | rw [if_pos (by omega)] | rw [if_neg (by omega)]))
          · (try simp only [vSay, vEar, vTold, vNote, vMark, vReset, vShift, vPush, vPop, vTick, vu]; repeat (first | rw [if_pos trivial] | rw [if_pos (by omega)] | rw [if_neg (by omega)]))
  · refine r_bad H ?_ (fun σ1 e1 => ?_)
    · unfold m_X7_mark
      simp only [x_isL HC.C, ew_0_20, ew_0_99, ew_0_1, bd1_s, b01_z, bd2_id]
      rw [o3, bd1_s, b01_z, if_n2 c]
    · have L : LV σ1 V := by rw [e1]; exact HC.L.si0 _ _
      unfold m_X8_mark
      simp only [y_isL L, ei_0_20, ei_0_99, ei_0_1, bd1_s, b01_z, bd2_id]
      rw [if_n4 (fun z => c ⟨⟨z.1, z.2.1, z.2.2.1⟩, z.2.2.2⟩)]
theorem gr_6 : ∀ j, j < 6 → gr j = false := by decide
theorem h_cut {h : Nat} {σ0 σ : Sg} {V : Vw} {s l t n m p B : Nat} (T : HT h σ0 σ V) (K : VK V s l t n m p B) {t' n' m' : Nat} (ht : t' ≤ t) (hn : n' ≤ n) (hm : m' ≤ m) {a j : Nat} (hj : j < 6) {x : Int32} (ha : a = h + ro j) (hV : ∀ k, k < 195 → vu (vu (vu V 2 (nI t')) 3 (nI n')) 4 (nI m') k = vu V j x k) : HT h σ0 (si σ a 3 x) (vu (vu (vu V 2 (nI t')) 3 (nI n')) 4 (nI m')) := by
  have X1 := (T.K K.1).set j (by omega) (a := a) (b := 3) (x := x) ha (show 3 = co j by unfold co; rw [if_pos hj]) (tr_f (gr_6 j hj)).symm
  refine HX.fin (K.cut ht hn hm).1 (X1.out (fun k hk hl => ?_) (fun k hk _ => hV k hk))
  rcases lv_step (s := s) (l := l) (t := t) (n := n) (m := m) (p := p) (by omega) hl with q | q
  · exact .inl q
  · omega
theorem sp_forget : Sp_forget Rel := by
  intro σ H a1
  obtain ⟨HR, V, HC⟩ := id H
  obtain ⟨s, l, t, n, m, p, K⟩ := HC.1.vk
  have b := K.1.B
  obtain ⟨h0, h1, h2, h3, h4, h5⟩ := id K.1.1
  by_cases c : rng a1 0 2
  · have model : ∀ σ1, LV σ1 V → ∃ σ2, m_X8_forget a1 σ1 = some ((if a1 = 0 then V 2 else if a1 = 1 then V 3 else V 4), σ2) ∧ LX σ1 σ2 (vu (vu (vu V 2 (if a1 = 0 then 0 else V 2)) 3 (if a1 = 1 then 0 else V 3)) 4 (if a1 = 2 then 0 else V 4)) := by
      intro σ1 L
      have X1 := (LX.of L.2).set 2 (by omega) (x := if a1 = 0 then 0 else V 2) (show _ = 68 from rfl) (show _ = 16 from rfl)
      have X2 := X1.set 3 (by omega) (x := if a1 = 1 then 0 else V 3) (show _ = 68 from rfl) (show _ = 18 from rfl)
      have X3 := X2.set 4 (by omega) (x := if a1 = 2 then 0 else V 4) (show _ = 68 from rfl) (show _ = 20 from rfl)
      refine ⟨_, ?_, X3⟩
      have g2 : σ1.1 68 16 = V 2 := L.2.1.2.2.1
      have g3 : σ1.1 68 18 = V 3 := L.2.1.2.2.2.1
      have g4 : σ1.1 68 20 = V 4 := L.2.1.2.2.2.2.1
      have g3' : (si σ1 68 16 (if a1 = 0 then 0 else V 2)).1 68 18 = V 3 := X1.2.1.2.2.2.1.trans (by (try simp only [vSay, vEar, vTold, vNote, vMark, vReset, vShift, vPush, vPop, vTick, vu]; repeat (first | rw [if_pos trivial] | rw [if_pos (by omega)] | rw [if_neg (by omega)])))
      have g4' : (si (si σ1 68 16 (if a1 = 0 then 0 else V 2)) 68 18 (if a1 = 1 then 0 else V 3)).1 68 20 = V 4 := X2.2.1.2.2.2.2.1.trans (by (try simp only [vSay, vEar, vTold, vNote, vMark, vReset, vShift, vPush, vPop, vTick, vu]; repeat (first | rw [if_pos trivial] | rw [if_pos (by omega)] | rw [if_neg (by omega)])))
      unfold m_X8_forget
      rw [ei_0_2, bd1_s, b01_z, if_pos c, g2, g3, g4, some_if, some_if, some_if, bd1_s, bd1_s, nm_eq, g3', some_if, bd1_s, nm_eq, g4', some_if, bd1_s, nm_eq]
    obtain ⟨j, hj, rfl⟩ := rng_nI (n := 2) (by omega) c
    rcases (show j = 0 ∨ j = 1 ∨ j = 2 by omega) with rfl | rfl | rfl
    · refine act H HC (r := V 2) (K.cut (Nat.zero_le _) (Nat.le_refl _) (Nat.le_refl _)).ok ⟨si σ 8 3 0, ?_, h_cut HC.T K (Nat.zero_le _) (Nat.le_refl _) (Nat.le_refl _) (show 2 < 6 by omega) (x := 0) (show 8 = 1 + ro 2 from rfl) (fun k hk => ?_)⟩ (fun σ1 L => ?_)
      · unfold m_X7_forget
        rw [if_pos (show nI 0 = 0 from rfl), e_empty, bd2_s, show σ.1 (1 + 7) 3 = V 2 from HC.2.2.1.1.2.2.1]
      · rcases (show k = 2 ∨ k = 3 ∨ k = 4 ∨ (k ≠ 2 ∧ k ≠ 3 ∧ k ≠ 4) by omega) with q | q | q | q
        · (try simp only [vSay, vEar, vTold, vNote, vMark, vReset, vShift, vPush, vPop, vTick, vu]; repeat (first | rw [if_pos trivial] | rw [if_pos (by omega)] | rw [if_neg (by omega)]))
          rfl
        · subst q
          (try simp only [vSay, vEar, vTold, vNote, vMark, vReset, vShift, vPush, vPop, vTick, vu]; repeat (first | rw [if_pos trivial] | rw [if_pos (by omega)] | rw [if_neg (by omega)]))
          exact h3.symm
        · subst q
          (try simp only [vSay, vEar, vTold, vNote, vMark, vReset, vShift, vPush, vPop, vTick, vu]; repeat (first | rw [if_pos trivial] | rw [if_pos (by omega)] | rw [if_neg (by omega)]))
          exact h4.symm
        · (try simp only [vSay, vEar, vTold, vNote, vMark, vReset, vShift, vPush, vPop, vTick, vu]; repeat (first | rw [if_pos trivial] | rw [if_pos (by omega)] | rw [if_neg (by omega)]))
      · obtain ⟨σ2, e2, X⟩ := model σ1 L
        refine ⟨σ2, e2, X.out (fun k hk => ?_)⟩
        rw [show (if nI 0 = 0 then (0 : Int32) else V 2) = nI 0 from rfl, show (if nI 0 = 1 then (0 : Int32) else V 3) = V 3 from rfl, show (if nI 0 = 2 then (0 : Int32) else V 4) = V 4 from rfl, h3, h4]
    · refine act H HC (r := V 3) (K.cut (Nat.le_refl _) (Nat.zero_le _) (Nat.le_refl _)).ok ⟨si σ 10 3 0, ?_, h_cut HC.T K (Nat.le_refl _) (Nat.zero_le _) (Nat.le_refl _) (show 3 < 6 by omega) (x := 0) (show 10 = 1 + ro 3 from rfl) (fun k hk => ?_)⟩ (fun σ1 L => ?_)
      · unfold m_X7_forget
        rw [if_neg (show ¬ nI 1 = 0 by decide), if_pos (show nI 1 = 1 from rfl), e_empty, bd2_s, show σ.1 (1 + 9) 3 = V 3 from HC.2.2.1.1.2.2.2.1]
      · rcases (show k = 2 ∨ k = 3 ∨ k = 4 ∨ (k ≠ 2 ∧ k ≠ 3 ∧ k ≠ 4) by omega) with q | q | q | q
        · subst q
          (try simp only [vSay, vEar, vTold, vNote, vMark, vReset, vShift, vPush, vPop, vTick, vu]; repeat (first | rw [if_pos trivial] | rw [if_pos (by omega)] | rw [if_neg (by omega)]))
          exact h2.symm
        · (try simp only [vSay, vEar, vTold, vNote, vMark, vReset, vShift, vPush, vPop, vTick, vu]; repeat (first | rw [if_pos trivial] | rw [if_pos (by omega)] | rw [if_neg (by omega)]))
          rfl
        · subst q
          (try simp only [vSay, vEar, vTold, vNote, vMark, vReset, vShift, vPush, vPop, vTick, vu]; repeat (first | rw [if_pos trivial] | rw [if_pos (by omega)] | rw [if_neg (by omega)]))
          exact h4.symm
        · (try simp only [vSay, vEar, vTold, vNote, vMark, vReset, vShift, vPush, vPop, vTick, vu]; repeat (first | rw [if_pos trivial] | rw [if_pos (by omega)] | rw [if_neg (by omega)]))
      · obtain ⟨σ2, e2, X⟩ := model σ1 L
        refine ⟨σ2, e2, X.out (fun k hk => ?_)⟩
        rw [show (if nI 1 = 0 then (0 : Int32) else V 2) = V 2 from rfl, show (if nI 1 = 1 then (0 : Int32) else V 3) = nI 0 from rfl, show (if nI 1 = 2 then (0 : Int32) else V 4) = V 4 from rfl, h2, h4]
    · refine act H HC (r := V 4) (K.cut (Nat.le_refl _) (Nat.le_refl _) (Nat.zero_le _)).ok ⟨si σ 12 3 0, ?_, h_cut HC.T K (Nat.le_refl _) (Nat.le_refl _) (Nat.zero_le _) (show 4 < 6 by omega) (x := 0) (show 12 = 1 + ro 4 from rfl) (fun k hk => ?_)⟩ (fun σ1 L => ?_)
      · unfold m_X7_forget
        rw [if_neg (show ¬ nI 2 = 0 by decide), if_neg (show ¬ nI 2 = 1 by decide), if_pos (show nI 2 = 2 from rfl), e_empty, bd2_s, show σ.1 (1 + 11) 3 = V 4 from HC.2.2.1.1.2.2.2.2.1]
      · rcases (show k = 2 ∨ k = 3 ∨ k = 4 ∨ (k ≠ 2 ∧ k ≠ 3 ∧ k ≠ 4) by omega) with q | q | q | q
        · subst q
          (try simp only [vSay, vEar, vTold, vNote, vMark, vReset, vShift, vPush, vPop, vTick, vu]; repeat (first | rw [if_pos trivial] | rw [if_pos (by omega)] | rw [if_neg (by omega)]))
          exact h2.symm
        · subst q
          (try simp only [vSay, vEar, vTold, vNote, vMark, vReset, vShift, vPush, vPop, vTick, vu]; repeat (first | rw [if_pos trivial] | rw [if_pos (by omega)] | rw [if_neg (by omega)]))
          exact h3.symm
        · (try simp only [vSay, vEar, vTold, vNote, vMark, vReset, vShift, vPush, vPop, vTick, vu]; repeat (first | rw [if_pos trivial] | rw [if_pos (by omega)] | rw [if_neg (by omega)]))
          rfl
        · (try simp only [vSay, vEar, vTold, vNote, vMark, vReset, vShift, vPush, vPop, vTick, vu]; repeat (first | rw [if_pos trivial] | rw [if_pos (by omega)] | rw [if_neg (by omega)]))
      · obtain ⟨σ2, e2, X⟩ := model σ1 L
        refine ⟨σ2, e2, X.out (fun k hk => ?_)⟩
        rw [show (if nI 2 = 0 then (0 : Int32) else V 2) = V 2 from rfl, show (if nI 2 = 1 then (0 : Int32) else V 3) = V 3 from rfl, show (if nI 2 = 2 then (0 : Int32) else V 4) = nI 0 from rfl, h2, h3]
  · refine r_bad H ?_ (fun σ1 e1 => ?_)
    · have n0 : ¬ a1 = 0 := fun z => c (by rw [z]; decide)
      have n1 : ¬ a1 = 1 := fun z => c (by rw [z]; decide)
      have n2 : ¬ a1 = 2 := fun z => c (by rw [z]; decide)
      unfold m_X7_forget
      rw [if_neg n0, if_neg n1, if_neg n2, bd2_id]
    · unfold m_X8_forget
      rw [ei_0_2, bd1_s, b01_z, if_neg c, bd2_id]
/-- a change of the text -/
theorem Rel.txt {σ σ' : Sg} (H : Rel σ) (hT : Txt σ') (hk : ∀ a, a ≠ 62 → a ≠ 63 → a ≠ 68 → a ≠ 75 → σ'.1 a = σ.1 a) (h68 : ∀ j, j ≠ 9 → σ'.1 68 j = σ.1 68 j) (h2 : σ'.2 = σ.2) : Rel σ' := by
  obtain ⟨⟨⟨a1, a2, a3, a4⟩, a5, a6, a7, a8, a9, a10⟩, V, HC⟩ := H
  refine ⟨⟨⟨a1.keep (fun a h1 h2 => hk a (by omega) (by omega) (by omega) (by omega)), a2.keep (fun a h1 h2 => hk a (by omega) (by omega) (by omega) (by omega)), a3.keep (fun a h1 h2 => hk a (by omega) (by omega) (by omega) (by omega)), a4.keep (by rw [hk 65 (by omega) (by omega) (by omega) (by omega)]) (by rw [hk 65 (by omega) (by omega) (by omega) (by omega)])⟩, a5.keep (by rw [hk 0 (by omega) (by omega) (by omega) (by omega)]) (by rw [hk 84 (by omega) (by omega) (by omega) (by omega)]) (hk 83 (by omega) (by omega) (by omega) (by omega)) (fun a h1 h2 => hk a (by omega) (by omega) (by omega) (by omega)), a6.keep (by rw [hk 0 (by omega) (by omega) (by omega) (by omega)]) (by rw [hk 84 (by omega) (by omega) (by omega) (by omega)]) (hk 83 (by omega) (by omega) (by omega) (by omega)) (fun a h1 h2 => hk a (by omega) (by omega) (by omega) (by omega)), hT, ?_, ?_, ?_⟩, V, HC.keep (fun a h1 h2 => hk a (by omega) (by omega) (by omega) (by omega)) (fun j g _ _ => h68 j g) (fun a h1 h2 => hk a (by omega) (by omega) (by omega) (by omega)) (fun a h1 h2 => hk a (by omega) (by omega) (by omega) (by omega))⟩
  · rw [hk 0 (by omega) (by omega) (by omega) (by omega), hk 69 (by omega) (by omega) (by omega) (by omega)]
    exact a8
  · rw [h2]
    exact a9
  · rw [h2]
    exact a10
theorem sp_clear : Sp_clear Rel := by
  intro σ H
  obtain ⟨hR, n, hn, e62, e68, hj⟩ := H.1.2.2.2.1
  refine ⟨σ.1 62 3, si σ 62 3 0, si (si σ 62 3 0) 68 9 0, ?_, ?_, H.txt ⟨hR.keep ?_ ?_, 0, by omega, rfl, rfl, fun j hj => absurd hj (by omega)⟩ (fun a h1 h2 h3 h4 => ?_) (fun j h1 => ?_) rfl⟩
  · unfold m_X7_clear
    rw [e_empty, bd2_s]
  · unfold m_X8_clear
    rw [nm_eq, nm_eq, si_row _ _ _ _ (show 68 ≠ 62 by omega), e68, e62]
  · rw [si_off' _ _ _ _ _ (by omega), si_off' _ _ _ _ _ (by omega)]
  · rw [si_off' _ _ _ _ _ (by omega), si_off' _ _ _ _ _ (by omega)]
  · rw [si_row _ _ _ _ h3, si_row _ _ _ _ h1]
  · rw [si_off' _ _ _ _ _ h1, si_row _ _ _ _ (by omega)]
theorem sp_type : Sp_type Rel := by
  intro σ H a1
  obtain ⟨hR, n, hn, e62, e68, hch⟩ := H.1.2.2.2.1
  by_cases c : rng a1 0 127
  · obtain ⟨x, hx, rfl⟩ := rng_nI (n := 127) (by omega) c
    by_cases hs : n = 150
    · refine r_full H ?_ (fun σ1 e1 => ?_)
      · unfold m_X7_type
        simp only [ew_0_127, bd1_s, b01_z, bd2_id]
        rw [if_pos c, full_yes hR e62 hs, bd1_s, if_neg (by decide)]
      · have e : σ1.1 68 9 = 150 := by
          rw [e1, si_row _ _ _ _ (by omega), e68, hs]
          rfl
        unfold m_X8_type
        rw [ei_0_127, bd1_s, b01_z, if_pos c, if_pos e, bd2_id]
    · refine ⟨nI (n + 1), si (si σ 62 3 (nI (n + 1))) (62 + 1) n (nI x), si (si (si (si σ 62 3 (nI (n + 1))) (62 + 1) n (nI x)) 75 n (nI x)) 68 9 (nI (n + 1)), ?_, ?_, H.txt ⟨hR.keep ?_ ?_, n + 1, by omega, ?_, rfl, fun j hj => ?_⟩ (fun a h1 h2 h3 h4 => ?_) (fun j h1 => ?_) rfl⟩
      · unfold m_X7_type
        simp only [ew_0_127, bd1_s, b01_z]
        rw [if_pos c, full_no hR e62 (by omega), bd1_s, if_pos rfl, add1 hR e62 (by omega), bd2_s, nI_1]
      · have e : (si (si σ 62 3 (nI (n + 1))) (62 + 1) n (nI x)).1 68 9 = nI n := by
          rw [si_row _ _ _ _ (by omega), si_row _ _ _ _ (by omega), e68]
        unfold m_X8_type
        rw [ei_0_127, bd1_s, b01_z, if_pos c, e, if_neg (show ¬ nI n = 150 from nz (b := 150) (by omega) (by omega) hs), ln_75, ix_if (by omega) (by omega), nI_clamp (by omega), nm_eq, si_row _ _ _ _ (show 68 ≠ 75 by omega), e, nI_1, nm_eq, si_at]
      · rw [si_row _ _ _ _ (by omega), si_row _ _ _ _ (by omega), si_row _ _ _ _ (by omega), si_off' _ _ _ _ _ (by omega)]
      · rw [si_row _ _ _ _ (by omega), si_row _ _ _ _ (by omega), si_row _ _ _ _ (by omega), si_off' _ _ _ _ _ (by omega)]
      · rw [si_row _ _ _ _ (by omega), si_row _ _ _ _ (by omega), si_row _ _ _ _ (by omega), si_at]
      · rw [si_row _ _ _ _ (show 63 ≠ 68 by omega), si_row _ _ _ _ (show 63 ≠ 75 by omega), si_row _ _ _ _ (show 75 ≠ 68 by omega)]
        by_cases q : j = n
        · subst q
          exact ⟨(si_at _ _ _ _).trans (si_at _ _ _ _).symm, x, by omega, si_at _ _ _ _⟩
        · rw [si_off' _ _ _ _ _ q, si_off' _ _ _ _ _ q, si_row _ _ _ _ (by omega), si_row _ _ _ _ (by omega), si_row _ _ _ _ (by omega)]
          exact hch j (by omega)
      · rw [si_row _ _ _ _ h3, si_row _ _ _ _ h4, si_row _ _ _ _ h2, si_row _ _ _ _ h1]
      · rw [si_off' _ _ _ _ _ h1, si_row _ _ _ _ (by omega), si_row _ _ _ _ (by omega), si_row _ _ _ _ (by omega)]
  · refine r_bad H ?_ (fun σ1 e1 => ?_)
    · unfold m_X7_type
      rw [ew_0_127, bd1_s, b01_z, if_neg c, bd2_id]
    · unfold m_X8_type
      rw [ei_0_127, bd1_s, b01_z, if_neg c, bd2_id]
