/-! ===== PURE: read ===== -/
section APPLY
variable {σ0 σ : Sg} {W : Vw} {s l : Nat}
theorem y_becomes (X : LX σ0 σ W) {i : Nat} (hi : 4 * i + 3 < 152) {it : Nat × Nat × Nat × Nat} (R : R76 σ0 i it) (ok : okI it s l) (hK : it.1 = 0 ∨ VK W s l 0 0 0 0 9999) : ∃ σ', m_X8_becomes (nI (4 * i)) σ = some σ' ∧ LX σ0 σ' (vItem it W) := by
  obtain ⟨r, x, y, z⟩ := it
  obtain ⟨o1, o2, o3, o4, o5, o6, o7, o8⟩ := ok
  have k76 : σ.1 76 = σ0.1 76 := X.1.1 76 (by omega)
  obtain ⟨r0, r1, r2, r3⟩ := R
  have o1 : r ≤ 5 := o1
  have r0 : σ.1 76 (4 * i) = nI r := by rw [k76]; exact r0
  have A1 : nI (4 * i) + (1 : Int32) = nI (4 * i + 1) := nI_1 _
  have A2 : nI (4 * i) + (2 : Int32) = nI (4 * i + 2) := nI_add _ 2
  have A3 : nI (4 * i) + (3 : Int32) = nI (4 * i + 3) := nI_add _ 3
  have B1 : ∀ a, (1 : Int32) + nI a = nI (1 + a) := fun a => nI_add 1 a
  have hz : ((0 : Int32) < 0 ∨ 11 ≤ (0 : Int32).toNatClampNeg) ↔ False := by decide
  have e0 : (0 : Int32).toNatClampNeg = 0 := rfl
  unfold m_X8_becomes vItem
  rw [A1, A2, A3, ln_76, ix_if (show 4 * i + 1 < 152 by omega) (by omega), nI_clamp (show 4 * i + 1 < 2 ^ 31 by omega), nm_eq, ix_if (show 4 * i < 152 by omega) (by omega), nI_clamp (show 4 * i < 2 ^ 31 by omega), nm_eq, r0]
  rcases (show r = 0 ∨ r = 1 ∨ r = 2 ∨ r = 3 ∨ r = 4 ∨ r = 5 by omega) with rfl | rfl | rfl | rfl | rfl | rfl
  · obtain ⟨σ', f, X'⟩ := m_empties X
    rw [if_pos (show nI 0 = 0 from rfl), if_pos (show (0, x, y, z).1 = 0 from rfl), f, bd1_s]
    exact ⟨σ', rfl, X'⟩
  all_goals
    have K := hK.resolve_left (by simp)
    obtain ⟨n1, n2, _⟩ := K.1.N
    have c1 : σ.1 76 (4 * i + 1) = nI x := by rw [k76]; exact r1 (by simp)
    rw [c1]
  · have c2 : σ.1 76 (4 * i + 2) = nI y := by rw [k76]; exact r2 (.inl rfl)
    have c3 : σ.1 76 (4 * i + 3) = nI z := by rw [k76]; exact r3 rfl
    obtain ⟨p1, p2, p3⟩ := o2 rfl
    obtain ⟨σ', f, X'⟩ := m_say X K p1 (nI x) (nI y) (nI z)
    rw [if_neg (show ¬ nI 1 = 0 by decide), if_pos (show nI 1 = 1 from rfl), if_neg (show ¬ (1, x, y, z).1 = 0 from (by decide : ¬ (1 : Nat) = 0)), if_pos (show (1, x, y, z).1 = 1 from rfl), ix_if (show 4 * i + 2 < 152 by omega) (by omega), ix_if (show 4 * i + 3 < 152 by omega) (by omega), nI_clamp (show 4 * i + 2 < 2 ^ 31 by omega), nI_clamp (show 4 * i + 3 < 2 ^ 31 by omega), c2, c3, f, bd1_s, n1]
    exact ⟨σ', rfl, X'⟩
  · have c2 : σ.1 76 (4 * i + 2) = nI y := by rw [k76]; exact r2 (.inr rfl)
    obtain ⟨p1, p2, p3⟩ := o3 rfl
    obtain ⟨σ', f, X'⟩ := m_ear X K p1 (nI x) (nI y)
    rw [if_neg (show ¬ nI 2 = 0 by decide), if_neg (show ¬ nI 2 = 1 by decide), if_pos (show nI 2 = 2 from rfl), if_neg (show ¬ (2, x, y, z).1 = 0 from (by decide : ¬ (2 : Nat) = 0)), if_neg (show ¬ (2, x, y, z).1 = 1 from (by decide : ¬ (2 : Nat) = 1)), if_pos (show (2, x, y, z).1 = 2 from rfl), ix_if (show 4 * i + 2 < 152 by omega) (by omega), nI_clamp (show 4 * i + 2 < 2 ^ 31 by omega), c2, f, bd1_s, n2]
    exact ⟨σ', rfl, X'⟩
  · have p1 : x < 4 := o4 (.inl rfl)
    have X' := X.set (33 + (1 + x)) (by omega) (x := W 33) (m_now (1 + x) (by omega)).1 (m_now (1 + x) (by omega)).2
    have h0 : σ.1 74 0 = W 33 := X.2.2.2.2.2.2.1 0 (by omega)
    rw [if_neg (show ¬ nI 3 = 0 by decide), if_neg (show ¬ nI 3 = 1 by decide), if_neg (show ¬ nI 3 = 2 by decide), if_pos (show nI 3 = 3 from rfl), if_neg (show ¬ (3, x, y, z).1 = 0 from (by decide : ¬ (3 : Nat) = 0)), if_neg (show ¬ (3, x, y, z).1 = 1 from (by decide : ¬ (3 : Nat) = 1)), if_neg (show ¬ (3, x, y, z).1 = 2 from (by decide : ¬ (3 : Nat) = 2)), if_pos (show (3, x, y, z).1 = 3 from rfl), ln_74, if_neg (fun q => hz.mp q), B1, ix_if (show 1 + x < 11 by omega) (by omega), nI_clamp (show 1 + x < 2 ^ 31 by omega), e0, h0, nm_eq]
    exact ⟨_, rfl, X'.out (fun k hk => by rw [show 33 + (1 + x) = 34 + x by omega])⟩
  · have p1 : x < 4 := o4 (.inr rfl)
    have X' := X.set (33 + (1 + x)) (by omega) (x := -1) (m_now (1 + x) (by omega)).1 (m_now (1 + x) (by omega)).2
    rw [if_neg (show ¬ nI 4 = 0 by decide), if_neg (show ¬ nI 4 = 1 by decide), if_neg (show ¬ nI 4 = 2 by decide), if_neg (show ¬ nI 4 = 3 by decide), if_pos (show nI 4 = 4 from rfl), if_neg (show ¬ (4, x, y, z).1 = 0 from (by decide : ¬ (4 : Nat) = 0)), if_neg (show ¬ (4, x, y, z).1 = 1 from (by decide : ¬ (4 : Nat) = 1)), if_neg (show ¬ (4, x, y, z).1 = 2 from (by decide : ¬ (4 : Nat) = 2)), if_neg (show ¬ (4, x, y, z).1 = 3 from (by decide : ¬ (4 : Nat) = 3)), if_pos (show (4, x, y, z).1 = 4 from rfl), ln_74, B1, ix_if (show 1 + x < 11 by omega) (by omega), nI_clamp (show 1 + x < 2 ^ 31 by omega), nm_eq]
    exact ⟨_, rfl, X'.out (fun k hk => by rw [show 33 + (1 + x) = 34 + x by omega])⟩
  · have p1 : x ≤ 99 := o5 rfl
    obtain ⟨σ', f, X'⟩ := m_pass (N := x) (by omega) X K
    rw [if_neg (show ¬ nI 5 = 0 by decide), if_neg (show ¬ nI 5 = 1 by decide), if_neg (show ¬ nI 5 = 2 by decide), if_neg (show ¬ nI 5 = 3 by decide), if_neg (show ¬ nI 5 = 4 by decide), if_neg (show ¬ (5, x, y, z).1 = 0 from (by decide : ¬ (5 : Nat) = 0)), if_neg (show ¬ (5, x, y, z).1 = 1 from (by decide : ¬ (5 : Nat) = 1)), if_neg (show ¬ (5, x, y, z).1 = 2 from (by decide : ¬ (5 : Nat) = 2)), if_neg (show ¬ (5, x, y, z).1 = 3 from (by decide : ¬ (5 : Nat) = 3)), if_neg (show ¬ (5, x, y, z).1 = 4 from (by decide : ¬ (5 : Nat) = 4)), f, bd1_s, n2]
    exact ⟨σ', rfl, X'⟩
theorem VK.it {it : Nat × Nat × Nat × Nat} {k : Nat} (ok : okI it s l) (h0 : it.1 = 0 ↔ k = 0) (hK : (k = 0 ∧ s = 0 ∧ l = 0) ∨ (k ≠ 0 ∧ VK W s l 0 0 0 0 9999)) : VK (vItem it W) (s + if it.1 = 1 then 1 else 0) (l + if it.1 = 2 then 1 else 0) 0 0 0 0 9999 := by
  rcases hK with ⟨a, b, c⟩ | ⟨a, b⟩
  · have hz := h0.mpr a
    rw [b, c, if_neg (show ¬ it.1 = 1 by omega), if_neg (show ¬ it.1 = 2 by omega)]
    exact VK.item0 hz
  · exact b.item ok (fun z => a (h0.mp z))
theorem VK.fold : ∀ (L : List (Nat × Nat × Nat × Nat)) (k s l : Nat) (W : Vw), okL L k s l → (L ≠ [] ∨ k ≠ 0) → ((k = 0 ∧ s = 0 ∧ l = 0) ∨ (k ≠ 0 ∧ VK W s l 0 0 0 0 9999)) → ∃ s' l', VK (vFold L W) s' l' 0 0 0 0 9999 := by
  intro L
  induction L with
  | nil =>
    intro k s l W h1 h2 h3
    rcases h3 with ⟨a, _⟩ | ⟨_, b⟩
    · exact absurd a (h2.resolve_left (fun z => z rfl))
    · exact ⟨s, l, b⟩
  | cons it L ih =>
    intro k s l W h1 h2 h3
    obtain ⟨o1, o2, o3⟩ := h1
    exact ih (k + 1) _ _ _ o3 (.inr (by omega)) (.inr ⟨by omega, VK.it o1 o2 h3⟩)
theorem y_apply (m : Nat) (hm : 4 * m ≤ 150) (kx : Sg → Option (Int32 × Sg)) : ∀ (L : List (Nat × Nat × Nat × Nat)) (F i s l : Nat) (W : Vw) (σ : Sg), i + L.length = m → m < i + F → okL L i s l → ((i = 0 ∧ s = 0 ∧ l = 0) ∨ (i ≠ 0 ∧ VK W s l 0 0 0 0 9999)) → (∀ j it, L[j]? = some it → R76 σ0 (i + j) it) → LX σ0 σ W → ∃ σ', m_X8_read_L40 (nI m) kx F (nI i) σ = some (nI m, σ') ∧ LX σ0 σ' (vFold L W) := by
  intro L
  induction L with
  | nil =>
    intro F i s l W σ h1 h2 h3 h4 h5 X
    obtain ⟨F', rfl⟩ : ∃ F', F = F' + 1 := ⟨F - 1, by have : i + 0 = m := h1; omega⟩
    have : i = m := h1
    subst this
    rw [m_X8_read_L40.eq_2, if_pos (nI_le (Nat.le_refl _) (by omega))]
    exact ⟨σ, rfl, X⟩
  | cons it L ih =>
    intro F i s l W σ h1 h2 h3 h4 h5 X
    rw [List.length_cons] at h1
    obtain ⟨F', rfl⟩ : ∃ F', F = F' + 1 := ⟨F - 1, by omega⟩
    obtain ⟨o1, o2, o3⟩ := h3
    have R : R76 σ0 i it := by
      have := h5 0 it (by simp)
      rwa [Nat.add_zero] at this
    obtain ⟨σ1, f1, X1⟩ := y_becomes X (i := i) (by omega) R o1 (by
      rcases h4 with ⟨a, _⟩ | ⟨_, b⟩
      · exact .inl (o2.mpr a)
      · exact .inr b)
    rw [m_X8_read_L40.eq_2, if_neg (nI_ge (show i < m by omega) (by omega)), show (4 : Int32) = nI 4 from rfl, pk_mul, f1, bd1_s, nI_1, nm_eq]
    exact ih F' (i + 1) _ _ _ σ1 (by omega) (by omega) o3 (.inr ⟨by omega, VK.it o1 o2 h4⟩) (fun j it' hj => by
      have := h5 (j + 1) it' (by simpa using hj)
      rwa [show i + (j + 1) = i + 1 + j by omega] at this) X1
end APPLY
theorem Txt.tx {σ : Sg} (H : Txt σ) : ∃ (n : Nat) (t : Nat → Nat), TX σ n t ∧ ∀ σ', σ'.1 68 9 = σ.1 68 9 → σ'.1 75 = σ.1 75 → TY σ' n t := by
  obtain ⟨hR, n, hn, e1, e2, hj⟩ := H
  have hb : ∀ j, j < n → ∃ b, b < 128 ∧ σ.1 75 j = nI b := fun j h => (hj j h).2
  have ht : ∀ j, j < n → cnt (σ.1 75 j) < 128 ∧ σ.1 75 j = nI (cnt (σ.1 75 j)) := fun j h => by
    obtain ⟨b, h1, h2⟩ := hb j h
    rw [h2, cnt_nI (by omega)]
    exact ⟨h1, rfl⟩
  refine ⟨n, fun j => if j < n then cnt (σ.1 75 j) else 0, ⟨hR, e1, fun j h => ?_, hn, fun j => ?_⟩, fun σ' h1 h2 => ⟨by rw [h1]; exact e2, fun j h => ?_, hn, fun j => ?_⟩⟩
  · show σ.1 63 j = nI (if j < n then _ else _)
    rw [if_pos h, (hj j h).1]
    exact (ht j h).2
  · show (if j < n then _ else _) < 128
    split
    · exact (ht j ‹_›).1
    · omega
  · show σ'.1 75 j = nI (if j < n then _ else _)
    rw [if_pos h, h2]
    exact (ht j h).2
  · show (if j < n then _ else _) < 128
    split
    · exact (ht j ‹_›).1
    · omega
theorem sp_read : Sp_read Rel := by
  intro σ H
  obtain ⟨HR, V, HC⟩ := id H
  obtain ⟨n, t, HX, HY⟩ := HR.2.2.2.1.tx
  have h150 := HX.2.2.2.1
  obtain ⟨A1, A2⟩ := x_into HX HR.1.1 V
  obtain ⟨O1, O2⟩ := pAll_ok (t := t) h150 40 0 0 0 0 (by omega) (by omega) (by omega)
  rcases hp : pAll n t 40 0 0 0 0 with f | L
  · obtain ⟨σ1, f1, Q1, S1⟩ := A1 f hp
    have hf := O1 f hp
    have hY : TY σ1 n t := HY σ1 (by rw [Q1.1 68 (by omega) (by omega)]) (Q1.1 75 (by omega) (by omega))
    obtain ⟨v, σ2, f2, P2, F2⟩ := (y_readAll hY).1 f hp
    have hneg : ((-10 : Int32) - nI f) < 0 := by
      have hlt : ∀ f, f < 151 → ((-10 : Int32) - nI f) < 0 := by decide +kernel
      exact hlt f (by omega)
    have k2 : ∀ a, a ≠ 61 → ¬ (16 ≤ a ∧ a < 31) → a ≠ 68 → a ≠ 76 → σ2.1 a = σ.1 a := fun a h1 h2 h3 h4 => (P2.1 a h3 h4).trans (Q1.1 a h1 h2)
    have k68 : ∀ b, b ≠ 10 → b ≠ 11 → σ2.1 68 b = σ.1 68 b := fun b h1 h2 => (P2.2.1 b h1 h2).trans (by rw [Q1.1 68 (by omega) (by omega)])
    refine ⟨-10 - nI f, σ1, σ2, ?_, ?_, ?_, V, HC.keep (fun a h1 h2 => k2 a (by omega) (by omega) (by omega) (by omega)) (fun j h1 h2 h3 => k68 j h2 h3) (fun a h1 h2 => k2 a (by omega) (by omega) (by omega) (by omega)) (fun a h1 h2 => k2 a (by omega) (by omega) (by omega) (by omega))⟩
    · unfold m_X7_read
      rw [f1, bd2_s, if_pos hneg, bd1_s]
    · unfold m_X8_read
      rw [f2, bd2_s, F2, if_neg (nI_pos (by omega)), P2.2.1 9 (by omega) (by omega), hY.1]
      rcases Nat.lt_or_ge f n with q | q
      · rw [if_neg (nI_ge q (by omega)), bd1_s]
      · rw [if_pos (nI_le q (by omega)), bd1_s, show n = f by omega]
    · exact HR.keep (fun j => by rw [k2 0 (by omega) (by omega) (by omega) (by omega)]) (fun a h1 h2 h3 h4 => k2 a h3 (by omega) (by omega) (by omega)) (fun q => S1.keep (fun a h1 h2 => P2.1 a (by omega) (by omega))) (fun j hj => by rw [k2 65 (by omega) (by omega) (by omega) (by omega)]) (k68 9 (by omega) (by omega)) (k2 69 (by omega) (by omega) (by omega) (by omega)) (k2 75 (by omega) (by omega) (by omega) (by omega)) (k2 83 (by omega) (by omega) (by omega) (by omega)) (k2 84 (by omega) (by omega) (by omega) (by omega)) (by rw [P2.2.2.1, Q1.2]; exact ⟨rfl, rfl⟩)
  · obtain ⟨σ1, f1, Q1, S1, V1⟩ := A2 L hp
    obtain ⟨p1, p2, p3⟩ := O2 L hp
    obtain ⟨s', l', K'⟩ := VK.fold L 0 0 0 V p1 (.inl (p3 rfl)) (.inl ⟨rfl, rfl, rfl⟩)
    have hS1 : HS σ1 1 := HC.2.1.keep (fun a h1 h2 => Q1.1 a (by omega) (by omega))
    obtain ⟨σ2, f2, T2⟩ := h_copy hS1 S1 V1 K'.ok (by omega)
    have k2 : ∀ a, a ≠ 61 → ¬ (16 ≤ a ∧ a < 31) → ¬ (1 ≤ a ∧ a < 16) → σ2.1 a = σ.1 a := fun a h1 h2 h3 => (T2.1.1 a (by omega)).trans (Q1.1 a h1 h2)
    have hY : TY σ2 n t := HY σ2 (by rw [k2 68 (by omega) (by omega) (by omega)]) (k2 75 (by omega) (by omega) (by omega))
    obtain ⟨σ3, f3, P3, F3, R3⟩ := (y_readAll hY).2 L hp
    have L3 : Live σ3 V := HC.2.2.2.keep (fun j h1 h2 h3 => by rw [P3.2.1 j h2 h3, k2 68 (by omega) (by omega) (by omega)]) (fun a h1 h2 => (P3.1 a (by omega) (by omega)).trans (k2 a (by omega) (by omega) (by omega))) (fun a h1 h2 => (P3.1 a (by omega) (by omega)).trans (k2 a (by omega) (by omega) (by omega)))
    obtain ⟨σ4, f4, X4⟩ := y_apply (σ0 := σ3) L.length (by omega) (fun _ => none) L 1000 0 0 0 V σ3 (by omega) (by omega) p1 (.inl ⟨rfl, rfl, rfl⟩) (fun j it hj => by rw [Nat.zero_add]; exact R3 j it hj) (LX.of L3)
    have k4 : ∀ a, a ≠ 61 → ¬ (16 ≤ a ∧ a < 31) → ¬ (1 ≤ a ∧ a < 16) → a ≠ 76 → ¬ (a = 68 ∨ (70 ≤ a ∧ a ≤ 74) ∨ (77 ≤ a ∧ a ≤ 80)) → σ4.1 a = σ.1 a := fun a h1 h2 h3 h4 h5 => (X4.1.1 a h5).trans ((P3.1 a (by omega) h4).trans (k2 a h1 h2 h3))
    have k5 : ∀ a, a < 61 → σ4.1 a = σ2.1 a := fun a h1 => (X4.1.1 a (by omega)).trans (P3.1 a (by omega) (by omega))
    refine ⟨nI L.length, σ2, σ4, ?_, ?_, ?_, vFold L V, K'.ok, T2.2.1.keep (fun a h1 h2 => k5 a (by omega)), T2.2.2.keep (fun a h1 h2 => k5 a (by omega)), X4.2⟩
    · unfold m_X7_read
      rw [f1, bd2_s, if_neg (nI_pos (by omega)), f2, bd1_s, bd1_s]
    · unfold m_X8_read
      rw [f3, bd2_s, F3, if_pos (show (-1 : Int32) < 0 by decide), nm_eq]
      exact f4
    · exact HR.keep (fun j => by rw [k4 0 (by omega) (by omega) (by omega) (by omega) (by omega)]) (fun a h1 h2 h3 h4 => k4 a h3 (by omega) (by omega) (by omega) (by omega)) (fun q => S1.keep (fun a h1 h2 => (k5 a (by omega)).trans (T2.1.1 a (by omega)))) (fun j hj => by rw [k4 65 (by omega) (by omega) (by omega) (by omega) (by omega)]) (by rw [X4.1.2.1 9 (by omega), P3.2.1 9 (by omega) (by omega), k2 68 (by omega) (by omega) (by omega)]) (k4 69 (by omega) (by omega) (by omega) (by omega) (by omega)) (k4 75 (by omega) (by omega) (by omega) (by omega) (by omega)) (k4 83 (by omega) (by omega) (by omega) (by omega) (by omega)) (k4 84 (by omega) (by omega) (by omega) (by omega) (by omega)) (by rw [X4.1.2.2, P3.2.2.1, T2.1.2, Q1.2]; exact ⟨rfl, rfl⟩)
