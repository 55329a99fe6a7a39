/-! ===== PURE: the acts on both sides ===== -/
theorem if_n2 {α : Type} {p q : Prop} [Decidable p] [Decidable q] (h : ¬ (p ∧ q)) (a b : α) : (if p then (if q then a else b) else b) = b := by
  by_cases hp : p
  · rw [if_pos hp, if_neg (fun z => h ⟨hp, z⟩)]
  · rw [if_neg hp]
theorem if_n3 {α : Type} {p q r : Prop} [Decidable p] [Decidable q] [Decidable r] (h : ¬ (p ∧ q ∧ r)) (a b : α) : (if p then (if q then (if r then a else b) else b) else b) = b := by
  by_cases hp : p
  · rw [if_pos hp, if_n2 (fun z => h ⟨hp, z⟩)]
  · rw [if_neg hp]
theorem if_n4 {α : Type} {p q r s : Prop} [Decidable p] [Decidable q] [Decidable r] [Decidable s] (h : ¬ (p ∧ q ∧ r ∧ s)) (a b : α) : (if p then (if q then (if r then (if s then a else b) else b) else b) else b) = b := by
  by_cases hp : p
  · rw [if_pos hp, if_n3 (fun z => h ⟨hp, z⟩)]
  · rw [if_neg hp]
theorem ix_ifc {α : Type} {j n : Nat} (h : j < n) (hn : n < 2 ^ 31) (a b : α) : (if (nI j < 0 ∨ n ≤ j) then a else b) = b := if_neg (fun z => by
  rcases z with z | z
  · exact absurd z (nI_pos (by omega))
  · omega)
theorem Core.T {σ : Sg} {V : Vw} (h : Core σ V) : HT 1 σ σ V := HT.of h.2.1 h.2.2.1
theorem sp_house : Sp_house Rel := by
  intro σ H
  obtain ⟨HR, V, HC⟩ := id H
  obtain ⟨s, l, t, n, m, p, K⟩ := HC.1.vk
  refine act H HC (r := V 0) (VK.reset V 9999).ok ?_ (fun σ1 L => ?_)
  · obtain ⟨σ1, e, T'⟩ := h_reset HC.T K
    refine ⟨σ1, ?_, T'⟩
    unfold m_X7_house
    rw [nm_eq, e, bd1_s, show σ.1 (1 + 1) 3 = V 0 from HC.2.2.1.1.1]
  · obtain ⟨σ2, e, X⟩ := m_empties (LX.of L.2)
    refine ⟨σ2, ?_, X⟩
    unfold m_X8_house
    rw [nm_eq, e, bd1_s, show σ1.1 68 1 = V 0 from L.2.1.1]
theorem sp_say : Sp_say Rel := by
  intro σ H a1 a2 a3
  obtain ⟨HR, V, HC⟩ := id H
  obtain ⟨s, l, t, n, m, p, K⟩ := HC.1.vk
  have e0 : σ.1 (1 + 1) 3 = nI s := HC.2.2.1.1.1.trans K.1.1.1
  have b := K.1.B
  by_cases c : rng a1 0 5 ∧ rng a2 0 3 ∧ rng a3 1 9
  · obtain ⟨k, hk, rfl⟩ := rng_nI (n := 5) (by omega) c.1
    by_cases hs : s = 8
    · refine r_full H ?_ (fun σ1 e1 => ?_)
      · unfold m_X7_say
        simp only [e_isKind, e_isRoom, ew_1_9, bd1_s, b01_z, bd2_id]
        rw [if_pos c.1, if_pos c.2.1, if_pos c.2.2, full_yes HC.2.1.1 e0 hs, bd1_s, if_neg (by decide)]
      · have L : LV σ1 V := by rw [e1]; exact HC.L.si0 _ _
        unfold m_X8_say
        simp only [ei_0_5, e_mRoom, ei_1_9, bd1_s, b01_z, bd2_id]
        rw [if_pos c.1, if_pos c.2.1, if_pos c.2.2, if_pos (L.2.1.1.trans (K.1.1.1.trans (by rw [hs]; rfl)))]
    · refine act H HC (r := nI s) (K.say (show s < 8 by omega) (show k < 6 by omega) a2 a3).ok ?_ (fun σ1 L => ?_)
      · obtain ⟨σ1, e, T'⟩ := h_say HC.T K (show s < 8 by omega) (show k < 6 by omega) a2 a3
        refine ⟨σ1, ?_, T'⟩
        unfold m_X7_say
        simp only [e_isKind, e_isRoom, ew_1_9, bd1_s, b01_z, bd2_id]
        rw [if_pos c.1, if_pos c.2.1, if_pos c.2.2, full_no HC.2.1.1 e0 (by omega), bd1_s, if_pos rfl, e]
      · obtain ⟨σ2, e, X⟩ := m_say (LX.of L.2) K (show s < 8 by omega) (nI k) a2 a3
        refine ⟨σ2, ?_, X⟩
        have e2 : σ2.1 68 1 = nI (s + 1) := X.2.1.1.trans (by (try simp only [vSay, vEar, vTold, vNote, vMark, vReset, vShift, vPush, vPop, vTick, vu]; repeat (first | rw [if_pos trivial] | rw [if_pos (by omega)] | rw [if_neg (by omega)])))
        unfold m_X8_say
        simp only [ei_0_5, e_mRoom, ei_1_9, bd1_s, b01_z, bd2_id]
        rw [if_pos c.1, if_pos c.2.1, if_pos c.2.2, if_neg (show ¬ σ1.1 68 1 = (8 : Int32) by rw [L.2.1.1, K.1.1.1]; exact fun z => hs ((nI_eq (by omega) (by omega)).mp z)), e, bd1_s, e2, nI_prd (by omega) (by omega), show s + 1 - 1 = s by omega]
  · refine r_bad H ?_ (fun σ1 e1 => ?_)
    · unfold m_X7_say
      simp only [e_isKind, e_isRoom, ew_1_9, bd1_s, b01_z, bd2_id]
      rw [if_n3 c]
    · unfold m_X8_say
      simp only [ei_0_5, e_mRoom, ei_1_9, bd1_s, b01_z, bd2_id]
      rw [if_n3 c]
theorem sp_ear : Sp_ear Rel := by
  intro σ H a1
  obtain ⟨HR, V, HC⟩ := id H
  obtain ⟨s, l, t, n, m, p, K⟩ := HC.1.vk
  have e0 : σ.1 (1 + 3) 3 = nI l := HC.2.2.1.1.2.1.trans K.1.1.2.1
  have b := K.1.B
  by_cases c : rng a1 0 5
  · obtain ⟨k, hk, rfl⟩ := rng_nI (n := 5) (by omega) c
    by_cases hs : l = 3
    · refine r_full H ?_ (fun σ1 e1 => ?_)
      · unfold m_X7_ear
        simp only [e_isKind, bd1_s, b01_z, bd2_id]
        rw [if_pos c, full_yes HC.2.1.2.1 e0 hs, bd1_s, if_neg (by decide)]
      · have L : LV σ1 V := by rw [e1]; exact HC.L.si0 _ _
        unfold m_X8_ear
        simp only [ei_0_5, bd1_s, b01_z, bd2_id]
        rw [if_pos c, if_pos (L.2.1.2.1.trans (K.1.1.2.1.trans (by rw [hs]; rfl)))]
    · refine act H HC (r := nI l) (K.ear (show l < 3 by omega) (show k < 6 by omega) (show 0 < 4 by omega)).ok ?_ (fun σ1 L => ?_)
      · obtain ⟨σ1, e, T'⟩ := h_ear HC.T K (show l < 3 by omega) (show k < 6 by omega) (show 0 < 4 by omega)
        refine ⟨σ1, ?_, T'⟩
        unfold m_X7_ear
        simp only [e_isKind, bd1_s, b01_z, bd2_id]
        rw [if_pos c, full_no HC.2.1.2.1 e0 (by omega), bd1_s, if_pos rfl]
        exact e
      · obtain ⟨σ2, e, X⟩ := m_ear (LX.of L.2) K (show l < 3 by omega) (nI k) (nI 0)
        refine ⟨σ2, ?_, X⟩
        have e2 : σ2.1 68 5 = nI (l + 1) := X.2.1.2.1.trans (by (try simp only [vSay, vEar, vTold, vNote, vMark, vReset, vShift, vPush, vPop, vTick, vu]; repeat (first | rw [if_pos trivial] | rw [if_pos (by omega)] | rw [if_neg (by omega)])))
        unfold m_X8_ear
        simp only [ei_0_5, bd1_s, b01_z, bd2_id]
        rw [if_pos c, if_neg (show ¬ σ1.1 68 5 = (3 : Int32) by rw [L.2.1.2.1, K.1.1.2.1]; exact fun z => hs ((nI_eq (by omega) (by omega)).mp z)), show (0 : Int32) = nI 0 from rfl, e, bd1_s, e2, nI_prd (by omega) (by omega), show l + 1 - 1 = l by omega]
  · refine r_bad H ?_ (fun σ1 e1 => ?_)
    · unfold m_X7_ear
      simp only [e_isKind, bd1_s, b01_z, bd2_id]
      rw [if_neg c]
    · unfold m_X8_ear
      simp only [ei_0_5, bd1_s, b01_z, bd2_id]
      rw [if_neg c]
theorem sp_strips : Sp_strips Rel := by
  intro σ H a1
  obtain ⟨HR, V, HC⟩ := id H
  obtain ⟨s, l, t, n, m, p, K⟩ := HC.1.vk
  by_cases c : rng a1 0 3
  · obtain ⟨r, hr, rfl⟩ := rng_nI (n := 3) (by omega) c
    have Kk := K.keep
    have Ks := Kk.strip (show r < 4 by omega) (x := vKeep V p 33) (.inr rfl)
    refine act H HC (r := rl (vu (vKeep V p) (34 + r) (vKeep V p 33)) r) Ks.ok ?_ (fun σ1 L => ?_)
    · obtain ⟨σ1, e1, T1⟩ := h_keep HC.T K
      obtain ⟨σ2, e2, T2⟩ := h_strip T1 Kk (show r < 4 by omega)
      refine ⟨σ2, ?_, T2⟩
      unfold m_X7_strips
      rw [e_isRoom, bd1_s, b01_z, if_pos c, e1, bd1_s, e2, bd1_s, e_roomLoud T2.2.1 T2.2.2 Ks.ok.1 Ks.ok.N (by omega) (show r < 4 by omega), bd1_s]
    · obtain ⟨σ2, e1, X1⟩ := m_keep (LX.of L.2) K
      have X2 := X1.set (33 + (1 + r)) (by omega) (x := vKeep V p 33) (m_now (1 + r) (by omega)).1 (m_now (1 + r) (by omega)).2
      have X3 := X2.out (V' := vu (vKeep V p) (34 + r) (vKeep V p 33)) (fun k hk => by rw [show 34 + r = 33 + (1 + r) by omega])
      refine ⟨_, ?_, X3⟩
      have h0 : σ2.1 74 0 = vKeep V p 33 := X1.2.2.2.2.2.2.1 0 (by omega)
      unfold m_X8_strips
      rw [e_mRoom, bd1_s, b01_z, if_pos c, e1, bd1_s, ln_74]
      show (if ((nI 0) < 0 ∨ 11 ≤ (nI 0).toNatClampNeg) then none else (if ((nI 1 + nI r) < 0 ∨ 11 ≤ (nI 1 + nI r).toNatClampNeg) then none else
        (nm (si σ2 74 (nI 1 + nI r).toNatClampNeg (σ2.1 74 (nI 0).toNatClampNeg)) (fun σ5 =>
        bd1 (m_X8_loudNow (nI r) σ5) (fun r6 =>
        some (r6, σ5)))))) = _
      rw [ix_if (by omega) (by omega), nI_add, ix_if (by omega) (by omega), nI_clamp (by omega), nI_clamp (by omega), h0, nm_eq, e_loudNow X3.2 Ks.ok.1 Ks.ok.K (show r < 4 by omega), bd1_s]
  · refine r_bad H ?_ (fun σ1 e1 => ?_)
    · unfold m_X7_strips
      rw [e_isRoom, bd1_s, b01_z, if_neg c, bd2_id]
    · unfold m_X8_strips
      rw [e_mRoom, bd1_s, b01_z, if_neg c, bd2_id]
theorem sp_papers : Sp_papers Rel := by
  intro σ H a1
  obtain ⟨HR, V, HC⟩ := id H
  obtain ⟨s, l, t, n, m, p, K⟩ := HC.1.vk
  by_cases c : rng a1 0 3
  · obtain ⟨r, hr, rfl⟩ := rng_nI (n := 3) (by omega) c
    have h74 : ∀ σ1, LV σ1 V → σ1.1 74 (1 + r) = V (34 + r) := fun σ1 L => (L.2.2.2.2.2.2.1 (1 + r) (by omega)).trans (by rw [show 33 + (1 + r) = 34 + r by omega])
    by_cases c2 : V (34 + r) < 0
    · refine r_no H ?_ (fun σ1 e1 => ?_)
      · unfold m_X7_papers
        rw [e_isRoom, bd1_s, b01_z, if_pos c, e_isStr HC.2.1 HC.2.2.1 HC.1.N (by omega) (show r < 4 by omega), bd1_s, b01_z, if_neg (fun z => z c2), bd2_id]
      · have L : LV σ1 V := by rw [e1]; exact HC.L.si0 _ _
        unfold m_X8_papers
        rw [e_mRoom, bd1_s, b01_z, if_pos c, ln_74, show (1 : Int32) = nI 1 from rfl, nI_add, ix_if (by omega) (by omega), nI_clamp (by omega), h74 _ L, if_neg (by rw [le_I]; rw [lt_I] at c2; omega), bd2_id]
    · have Kk := K.keep
      have Ks := Kk.strip (show r < 4 by omega) (x := -1) (.inl rfl)
      refine act H HC (r := 1) Ks.ok ?_ (fun σ1 L => ?_)
      · obtain ⟨σ1, e1, T1⟩ := h_keep HC.T K
        obtain ⟨σ2, e2, T2⟩ := h_paper T1 Kk (show r < 4 by omega)
        refine ⟨σ2, ?_, T2⟩
        unfold m_X7_papers
        rw [e_isRoom, bd1_s, b01_z, if_pos c, e_isStr HC.2.1 HC.2.2.1 HC.1.N (by omega) (show r < 4 by omega), bd1_s, b01_z, if_pos c2, e1, bd1_s, e2, bd1_s]
      · obtain ⟨σ2, e1, X1⟩ := m_keep (LX.of L.2) K
        have X2 := X1.set (33 + (1 + r)) (by omega) (x := -1) (m_now (1 + r) (by omega)).1 (m_now (1 + r) (by omega)).2
        have X3 := X2.out (V' := vu (vKeep V p) (34 + r) (-1)) (fun k hk => by rw [show 34 + r = 33 + (1 + r) by omega])
        refine ⟨_, ?_, X3⟩
        unfold m_X8_papers
        rw [e_mRoom, bd1_s, b01_z, if_pos c, ln_74]
        show (if ((nI 1 + nI r) < 0 ∨ 11 ≤ (nI 1 + nI r).toNatClampNeg) then none else
          (if 0 ≤ (σ1.1 74 (nI 1 + nI r).toNatClampNeg) then
          (bd1 (m_X8_keeps σ1) (fun σ3 =>
          if ((nI 1 + nI r) < 0 ∨ 11 ≤ (nI 1 + nI r).toNatClampNeg) then none else
          (nm (si σ3 74 (nI 1 + nI r).toNatClampNeg (-1 : Int32)) (fun σ5 =>
          some ((1 : Int32), σ5)))))
          else
          (bd2 (m_X8_no σ1) (fun r6 σ7 =>
          some (r6, σ7))))) = _
        rw [nI_add, ix_if (by omega) (by omega), nI_clamp (by omega), h74 _ L, if_pos (by rw [le_I]; rw [lt_I] at c2; omega), e1, bd1_s, ix_ifc (by omega) (by omega), nm_eq]
  · refine r_bad H ?_ (fun σ1 e1 => ?_)
    · unfold m_X7_papers
      rw [e_isRoom, bd1_s, b01_z, if_neg c, bd2_id]
    · unfold m_X8_papers
      rw [e_mRoom, bd1_s, b01_z, if_neg c, bd2_id]
theorem sp_goes : Sp_goes Rel := by
  intro σ H a1 a2
  obtain ⟨HR, V, HC⟩ := id H
  obtain ⟨s, l, t, n, m, p, K⟩ := HC.1.vk
  have b := K.1.B
  have hn := K.1.N
  by_cases c : rng a1 0 ((nL V : Int) - 1) ∧ rng a2 0 3
  · obtain ⟨i, hi, rfl⟩ := rng_idx c.1 (by omega)
    obtain ⟨r, hr, rfl⟩ := rng_nI (n := 3) (by omega) c.2
    have hat : σ.1 (1 + 3 + 1) (i * 3 + 1) = V (38 + i) := (HC.2.2.1.2.2.1 i hi).2.1
    have h74 : ∀ σ1, LV σ1 V → σ1.1 74 (5 + i) = V (38 + i) := fun σ1 L => (L.2.2.2.2.2.2.1 (5 + i) (by omega)).trans (by rw [show 33 + (5 + i) = 38 + i by omega])
    by_cases c2 : V (38 + i) = nI r
    · refine r_no H ?_ (fun σ1 e1 => ?_)
      · unfold m_X7_goes
        rw [x_isL HC.C, bd1_s, b01_z, if_pos c.1, e_isRoom, bd1_s, b01_z, if_pos c.2, show (1 : Int32) = nI 1 from rfl, g_ok HC.2.1.2.1 (show i < 3 by omega) (by omega), bd1_s, hat, if_pos c2, bd2_id]
      · have L : LV σ1 V := by rw [e1]; exact HC.L.si0 _ _
        unfold m_X8_goes
        rw [y_isL L, bd1_s, b01_z, if_pos c.1, e_mRoom, bd1_s, b01_z, if_pos c.2, ln_74, show (5 : Int32) = nI 5 from rfl, nI_add, ix_if (by omega) (by omega), nI_clamp (by omega), h74 _ L, nm_eq, if_pos c2, bd2_id]
    · have Kk := K.keep
      have Ks := Kk.go (show i < 3 by omega) (show r < 4 by omega)
      refine act H HC (r := V (38 + i)) Ks.ok ?_ (fun σ1 L => ?_)
      · obtain ⟨σ1, e1, T1⟩ := h_keep HC.T K
        obtain ⟨σ2, e2, T2⟩ := h_go T1 Kk (show i < 3 by omega) (show r < 4 by omega)
        refine ⟨σ2, ?_, T2⟩
        unfold m_X7_goes
        rw [x_isL HC.C, bd1_s, b01_z, if_pos c.1, e_isRoom, bd1_s, b01_z, if_pos c.2, show (1 : Int32) = nI 1 from rfl, g_ok HC.2.1.2.1 (show i < 3 by omega) (by omega), bd1_s, hat, if_neg c2, e1, bd1_s]
        rw [show m_X6_set (1 + 3) (nI i) (nI 1) (nI r) σ1 = some σ2 from e2, bd1_s]
      · obtain ⟨σ2, e1, X1⟩ := m_keep (LX.of L.2) K
        have X2 := X1.set (33 + (5 + i)) (by omega) (x := nI r) (m_now (5 + i) (by omega)).1 (m_now (5 + i) (by omega)).2
        have X3 := X2.out (V' := vu (vKeep V p) (38 + i) (nI r)) (fun k hk => by rw [show 38 + i = 33 + (5 + i) by omega])
        refine ⟨_, ?_, X3⟩
        unfold m_X8_goes
        rw [y_isL L, bd1_s, b01_z, if_pos c.1, e_mRoom, bd1_s, b01_z, if_pos c.2, ln_74, show (5 : Int32) = nI 5 from rfl, nI_add, ix_if (by omega) (by omega), nI_clamp (by omega), h74 _ L, nm_eq, if_neg c2, e1, bd1_s, ix_ifc (by omega) (by omega), nm_eq]
  · refine r_bad H ?_ (fun σ1 e1 => ?_)
    · unfold m_X7_goes
      simp only [x_isL HC.C, e_isRoom, bd1_s, b01_z, bd2_id]
      rw [if_n2 c]
    · have L : LV σ1 V := by rw [e1]; exact HC.L.si0 _ _
      unfold m_X8_goes
      simp only [y_isL L, e_mRoom, bd1_s, b01_z, bd2_id]
      rw [if_n2 c]
theorem sp_minutes : Sp_minutes Rel := by
  intro σ H a1
  obtain ⟨HR, V, HC⟩ := id H
  obtain ⟨s, l, t, n, m, p, K⟩ := HC.1.vk
  by_cases c : rng a1 1 99
  · obtain ⟨N, hN, rfl⟩ := rng_nI (n := 99) (by omega) (⟨by have := c.1; omega, c.2⟩ : rng a1 0 99)
    have Kk := K.keep
    have Ks := VK.ticks (lim := 9999) (by omega) N _ Kk
    refine act H HC (r := bc (kn (vTicks l 9999 N (vKeep V p)))) Ks.ok ?_ (fun σ1 L => ?_)
    · obtain ⟨σ1, e1, T1⟩ := h_keep HC.T K
      obtain ⟨σ2, e2, T2⟩ := h_pass (lim := 9999) (N := N) (by omega) (by omega) T1 Kk
      refine ⟨σ2, ?_, T2⟩
      unfold m_X7_minutes
      rw [ew_1_99, bd1_s, b01_z, if_pos c, e1, bd1_s, show (9999 : Int32) = nI 9999 from rfl, e2, bd1_s, e_known T2.2.1 T2.2.2 Ks.ok.2.1 Ks.ok.N, bd1_s]
    · obtain ⟨σ2, e1, X1⟩ := m_keep (LX.of L.2) K
      obtain ⟨σ3, e2, X2⟩ := m_pass (N := N) (by omega) X1 Kk
      refine ⟨σ3, ?_, X2⟩
      unfold m_X8_minutes
      rw [ei_1_99, bd1_s, b01_z, if_pos c, e1, bd1_s, e2, bd1_s, e_knownAll X2.2 Ks.ok.N, bd1_s]
  · refine r_bad H ?_ (fun σ1 e1 => ?_)
    · unfold m_X7_minutes
      rw [ew_1_99, bd1_s, b01_z, if_neg c, bd2_id]
    · unfold m_X8_minutes
      rw [ei_1_99, bd1_s, b01_z, if_neg c, bd2_id]
theorem sp_undo : Sp_undo Rel := by
  intro σ H
  obtain ⟨HR, V, HC⟩ := id H
  obtain ⟨s, l, t, n, m, p, K⟩ := HC.1.vk
  have e0 : σ.1 (1 + 13) 3 = nI p := HC.2.2.1.1.2.2.2.2.2.1.trans K.1.1.2.2.2.2.2
  have b := K.1.B
  by_cases c : p = 0
  · subst c
    refine r_no H ?_ (fun σ1 e1 => ?_)
    · unfold m_X7_undo
      rw [e0, if_pos (show nI 0 = 0 from rfl), bd2_id]
    · have L : LV σ1 V := by rw [e1]; exact HC.L.si0 _ _
      unfold m_X8_undo
      rw [if_pos (show σ1.1 68 14 = 0 from L.2.1.2.2.2.2.2.trans K.1.1.2.2.2.2.2), bd2_id]
  · obtain ⟨p', rfl⟩ : ∃ p', p = p' + 1 := ⟨p - 1, by omega⟩
    refine act H HC (r := V (107 + (p' * 11 + 0))) K.pop.ok ?_ (fun σ1 L => ?_)
    · obtain ⟨σ1, e1, T1⟩ := h_recall HC.T K
      refine ⟨σ1, ?_, T1⟩
      have em : σ1.1 1 0 = vPop V p' 33 := T1.2.2.1.2.2.2.2.2.2
      unfold m_X7_undo
      rw [e0, if_neg (show ¬ nI (p' + 1) = 0 from fun z => absurd ((nI_eq (a := p' + 1) (b := 0) (by omega) (by omega)).mp z) (by omega)), e1, bd1_s, em]
      (try simp only [vSay, vEar, vTold, vNote, vMark, vReset, vShift, vPush, vPop, vTick, vu]; repeat (first | rw [if_pos trivial] | rw [if_pos (by omega)] | rw [if_neg (by omega)]))
    · obtain ⟨σ2, e1, X1⟩ := m_undoes (LX.of L.2) K
      exact ⟨σ2, e1, X1⟩
