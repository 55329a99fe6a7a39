/-! ===== PURE: the acts of the model ===== -/
section MODEL
variable {σ0 σ : Sg} {V : Vw} {s l t n m p B : Nat}
theorem m_empties (X : LX σ0 σ V) : ∃ σ', m_X8_empties σ = some σ' ∧ LX σ0 σ' (vReset V) := by
  have loop1 : ∀ (kx : Sg → Option Sg) F v (σ : Sg) (V : Vw), v ≤ 11 → 11 < v + F → LX σ0 σ V → ∃ σ', m_X8_empties_L12 kx F (nI v) σ = kx σ' ∧ LX σ0 σ' (fun k => if 33 + v ≤ k ∧ k < 44 then 0 else V k) := by
    intro kx F
    induction F with
    | zero => intro v σ V h1 h2; exact absurd h2 (by omega)
    | succ F ih =>
      intro v σ V h1 h2 X
      rw [m_X8_empties_L12.eq_2, show (11 : Int32) = nI 11 from rfl]
      rcases Nat.lt_or_ge v 11 with q | q
      · rw [if_neg (nI_ge q (by omega)), ln_74, ix_if q (by omega), nI_clamp (by omega), nm_eq, nI_1, nm_eq]
        obtain ⟨σ', e, X'⟩ := ih (v + 1) _ _ (by omega) (by omega) (X.set (33 + v) (by omega) (x := 0) (m_now v q).1 (m_now v q).2)
        refine ⟨σ', e, X'.out (fun k hk => ?_)⟩
        by_cases c : k = 33 + v
        · (try simp only [vSay, vEar, vTold, vNote, vMark, vReset, vShift, vPush, vPop, vTick, vu]; repeat (first | rw [if_pos trivial] | rw [if_pos (by omega)] | rw [if_neg (by omega)]))
        · by_cases c2 : 33 + v ≤ k ∧ k < 44
          · (try simp only [vSay, vEar, vTold, vNote, vMark, vReset, vShift, vPush, vPop, vTick, vu]; repeat (first | rw [if_pos trivial] | rw [if_pos (by omega)] | rw [if_neg (by omega)]))
          · (try simp only [vSay, vEar, vTold, vNote, vMark, vReset, vShift, vPush, vPop, vTick, vu]; repeat (first | rw [if_pos trivial] | rw [if_pos (by omega)] | rw [if_neg (by omega)]))
      · have : v = 11 := by omega
        subst this
        rw [if_pos (nI_le (Nat.le_refl _) (by omega))]
        exact ⟨σ, rfl, X.out (fun k hk => if_neg (by omega))⟩
  have loop2 : ∀ (kx : Sg → Option Sg) F v (σ : Sg) (V : Vw), v ≤ 4 → 4 < v + F → LX σ0 σ V → ∃ σ', m_X8_empties_L33 kx F (nI v) σ = kx σ' ∧ LX σ0 σ' (fun k => if 34 + v ≤ k ∧ k < 38 then -1 else V k) := by
    intro kx F
    induction F with
    | zero => intro v σ V h1 h2; exact absurd h2 (by omega)
    | succ F ih =>
      intro v σ V h1 h2 X
      rw [m_X8_empties_L33.eq_2, show (4 : Int32) = nI 4 from rfl, show (1 : Int32) + nI v = nI (1 + v) from nI_add 1 v]
      rcases Nat.lt_or_ge v 4 with q | q
      · rw [if_neg (nI_ge q (by omega)), ln_74, ix_if (by omega) (by omega), nI_clamp (by omega), nm_eq, nI_1, nm_eq]
        obtain ⟨σ', e, X'⟩ := ih (v + 1) _ _ (by omega) (by omega) (X.set (33 + (1 + v)) (by omega) (x := -1) (m_now (1 + v) (by omega)).1 (m_now (1 + v) (by omega)).2)
        refine ⟨σ', e, X'.out (fun k hk => ?_)⟩
        by_cases c : k = 33 + (1 + v)
        · (try simp only [vSay, vEar, vTold, vNote, vMark, vReset, vShift, vPush, vPop, vTick, vu]; repeat (first | rw [if_pos trivial] | rw [if_pos (by omega)] | rw [if_neg (by omega)]))
        · by_cases c2 : 34 + v ≤ k ∧ k < 38
          · (try simp only [vSay, vEar, vTold, vNote, vMark, vReset, vShift, vPush, vPop, vTick, vu]; repeat (first | rw [if_pos trivial] | rw [if_pos (by omega)] | rw [if_neg (by omega)]))
          · (try simp only [vSay, vEar, vTold, vNote, vMark, vReset, vShift, vPush, vPop, vTick, vu]; repeat (first | rw [if_pos trivial] | rw [if_pos (by omega)] | rw [if_neg (by omega)]))
      · have : v = 4 := by omega
        subst this
        rw [if_pos (nI_le (Nat.le_refl _) (by omega))]
        exact ⟨σ, rfl, X.out (fun k hk => if_neg (by omega))⟩
  have X1 := X.set 0 (by omega) (x := 0) (show _ = 68 from rfl) (show _ = 1 from rfl)
  have X2 := X1.set 1 (by omega) (x := 0) (show _ = 68 from rfl) (show _ = 5 from rfl)
  unfold m_X8_empties
  rw [nm_eq, nm_eq, nm_eq]
  obtain ⟨σ1, e1, X3⟩ := loop1 (fun σ6 =>
    nm ((0 : Int32)) (fun x7 =>
    m_X8_empties_L33 (fun σ10 =>
    nm (si σ10 68 16 (0 : Int32)) (fun σ11 =>
    nm (si σ11 68 18 (0 : Int32)) (fun σ12 =>
    nm (si σ12 68 20 (0 : Int32)) (fun σ13 =>
    nm (si σ13 68 14 (0 : Int32)) (fun σ14 =>
    some σ14))))) 1000 x7 σ6)) 1000 0 _ _ (by omega) (by omega) X2
  obtain ⟨σ2, e2, X4⟩ := loop2 (fun σ10 =>
    nm (si σ10 68 16 (0 : Int32)) (fun σ11 =>
    nm (si σ11 68 18 (0 : Int32)) (fun σ12 =>
    nm (si σ12 68 20 (0 : Int32)) (fun σ13 =>
    nm (si σ13 68 14 (0 : Int32)) (fun σ14 =>
    some σ14))))) 1000 0 _ _ (by omega) (by omega) X3
  have X5 := X4.set 2 (by omega) (x := 0) (show _ = 68 from rfl) (show _ = 16 from rfl)
  have X6 := X5.set 3 (by omega) (x := 0) (show _ = 68 from rfl) (show _ = 18 from rfl)
  have X7 := X6.set 4 (by omega) (x := 0) (show _ = 68 from rfl) (show _ = 20 from rfl)
  have X8 := X7.set 5 (by omega) (x := 0) (show _ = 68 from rfl) (show _ = 14 from rfl)
  refine ⟨_, e1.trans ((nm_eq _ _).trans e2), X8.out (fun k hk => ?_)⟩
  rcases (show k = 0 ∨ k = 1 ∨ k = 2 ∨ k = 3 ∨ k = 4 ∨ k = 5 ∨ (34 ≤ k ∧ k < 38) ∨ (33 ≤ k ∧ k < 44 ∧ ¬ (34 ≤ k ∧ k < 38)) ∨ (6 ≤ k ∧ ¬ (33 ≤ k ∧ k < 44)) by omega) with c | c | c | c | c | c | c | c | c
  · (try simp only [vSay, vEar, vTold, vNote, vMark, vReset, vShift, vPush, vPop, vTick, vu]; repeat (first | rw [if_pos trivial] | rw [if_pos (by omega)] | rw [if_neg (by omega)]))
  · (try simp only [vSay, vEar, vTold, vNote, vMark, vReset, vShift, vPush, vPop, vTick, vu]; repeat (first | rw [if_pos trivial] | rw [if_pos (by omega)] | rw [if_neg (by omega)]))
  · (try simp only [vSay, vEar, vTold, vNote, vMark, vReset, vShift, vPush, vPop, vTick, vu]; repeat (first | rw [if_pos trivial] | rw [if_pos (by omega)] | rw [if_neg (by omega)]))
  · (try simp only [vSay, vEar, vTold, vNote, vMark, vReset, vShift, vPush, vPop, vTick, vu]; repeat (first | rw [if_pos trivial] | rw [if_pos (by omega)] | rw [if_neg (by omega)]))
  · (try simp only [vSay, vEar, vTold, vNote, vMark, vReset, vShift, vPush, vPop, vTick, vu]; repeat (first | rw [if_pos trivial] | rw [if_pos (by omega)] | rw [if_neg (by omega)]))
  · (try simp only [vSay, vEar, vTold, vNote, vMark, vReset, vShift, vPush, vPop, vTick, vu]; repeat (first | rw [if_pos trivial] | rw [if_pos (by omega)] | rw [if_neg (by omega)]))
  · (try simp only [vSay, vEar, vTold, vNote, vMark, vReset, vShift, vPush, vPop, vTick, vu]; repeat (first | rw [if_pos trivial] | rw [if_pos (by omega)] | rw [if_neg (by omega)]))
  · (try simp only [vSay, vEar, vTold, vNote, vMark, vReset, vShift, vPush, vPop, vTick, vu]; repeat (first | rw [if_pos trivial] | rw [if_pos (by omega)] | rw [if_neg (by omega)]))
  · (try simp only [vSay, vEar, vTold, vNote, vMark, vReset, vShift, vPush, vPop, vTick, vu]; repeat (first | rw [if_pos trivial] | rw [if_pos (by omega)] | rw [if_neg (by omega)]))
theorem m_say (X : LX σ0 σ V) (K : VK V s l t n m p B) (hs : s < 8) (a b c : Int32) : ∃ σ', m_X8_sayingComes a b c σ = some σ' ∧ LX σ0 σ' (vSay V s a b c) := by
  have e0 : V 0 = nI s := K.1.1.1
  have g1 := X.2.1.1.trans e0
  unfold m_X8_sayingComes
  rw [g1, ln_70, ix_if hs (by omega), nI_clamp (by omega), nm_eq]
  have X1 := X.set (6 + s) (by omega) (x := a) (m_kind s hs).1 (m_kind s hs).2
  have g2 : (si σ 70 s a).1 68 1 = nI s := X1.2.1.1.trans (by (try simp only [vSay, vEar, vTold, vNote, vMark, vReset, vShift, vPush, vPop, vTick, vu]; repeat (first | rw [if_pos trivial] | rw [if_pos (by omega)] | rw [if_neg (by omega)])); exact e0)
  rw [g2, ln_71, ix_if hs (by omega), nI_clamp (by omega), nm_eq]
  have X2 := X1.set (14 + s) (by omega) (x := b) (m_spot s hs).1 (m_spot s hs).2
  have g3 : (si (si σ 70 s a) 71 s b).1 68 1 = nI s := X2.2.1.1.trans (by (try simp only [vSay, vEar, vTold, vNote, vMark, vReset, vShift, vPush, vPop, vTick, vu]; repeat (first | rw [if_pos trivial] | rw [if_pos (by omega)] | rw [if_neg (by omega)])); exact e0)
  rw [g3, ln_72, ix_if hs (by omega), nI_clamp (by omega), nm_eq]
  have X3 := X2.set (22 + s) (by omega) (x := c) (m_force s hs).1 (m_force s hs).2
  have g4 : (si (si (si σ 70 s a) 71 s b) 72 s c).1 68 1 = nI s := X3.2.1.1.trans (by (try simp only [vSay, vEar, vTold, vNote, vMark, vReset, vShift, vPush, vPop, vTick, vu]; repeat (first | rw [if_pos trivial] | rw [if_pos (by omega)] | rw [if_neg (by omega)])); exact e0)
  rw [g4, nI_1, nm_eq, nm_eq]
  have X4 := X3.set 0 (by omega) (x := nI (s + 1)) (show _ = 68 from rfl) (show _ = 1 from rfl)
  have X5 := X4.set 5 (by omega) (x := 0) (show _ = 68 from rfl) (show _ = 14 from rfl)
  refine ⟨_, rfl, X5.out (fun k hk => ?_)⟩
  rcases (show k = 0 ∨ k = 5 ∨ k = 6 + s ∨ k = 14 + s ∨ k = 22 + s ∨ (k ≠ 0 ∧ k ≠ 5 ∧ k ≠ 6 + s ∧ k ≠ 14 + s ∧ k ≠ 22 + s) by omega) with c | c | c | c | c | c
  · (try simp only [vSay, vEar, vTold, vNote, vMark, vReset, vShift, vPush, vPop, vTick, vu]; repeat (first | rw [if_pos trivial] | rw [if_pos (by omega)] | rw [if_neg (by omega)]))
  · (try simp only [vSay, vEar, vTold, vNote, vMark, vReset, vShift, vPush, vPop, vTick, vu]; repeat (first | rw [if_pos trivial] | rw [if_pos (by omega)] | rw [if_neg (by omega)]))
  · (try simp only [vSay, vEar, vTold, vNote, vMark, vReset, vShift, vPush, vPop, vTick, vu]; repeat (first | rw [if_pos trivial] | rw [if_pos (by omega)] | rw [if_neg (by omega)]))
  · (try simp only [vSay, vEar, vTold, vNote, vMark, vReset, vShift, vPush, vPop, vTick, vu]; repeat (first | rw [if_pos trivial] | rw [if_pos (by omega)] | rw [if_neg (by omega)]))
  · (try simp only [vSay, vEar, vTold, vNote, vMark, vReset, vShift, vPush, vPop, vTick, vu]; repeat (first | rw [if_pos trivial] | rw [if_pos (by omega)] | rw [if_neg (by omega)]))
  · (try simp only [vSay, vEar, vTold, vNote, vMark, vReset, vShift, vPush, vPop, vTick, vu]; repeat (first | rw [if_pos trivial] | rw [if_pos (by omega)] | rw [if_neg (by omega)]))
theorem m_ear (X : LX σ0 σ V) (K : VK V s l t n m p B) (hl : l < 3) (a b : Int32) : ∃ σ', m_X8_earComes a b σ = some σ' ∧ LX σ0 σ' (vEar V l a b) := by
  have e0 : V 1 = nI l := K.1.1.2.1
  have g1 := X.2.1.2.1.trans e0
  unfold m_X8_earComes
  rw [g1, ln_73, ix_if hl (by omega), nI_clamp (by omega), nm_eq]
  have X1 := X.set (30 + l) (by omega) (x := a) (m_sort l hl).1 (m_sort l hl).2
  have g2 : (si σ 73 l a).1 68 5 = nI l := X1.2.1.2.1.trans (by (try simp only [vSay, vEar, vTold, vNote, vMark, vReset, vShift, vPush, vPop, vTick, vu]; repeat (first | rw [if_pos trivial] | rw [if_pos (by omega)] | rw [if_neg (by omega)])); exact e0)
  rw [g2, show (5 : Int32) = nI 5 from rfl, nI_add, ln_74, ix_if (by omega) (by omega), nI_clamp (by omega), nm_eq]
  have X2 := X1.set (33 + (5 + l)) (by omega) (x := b) (m_now (5 + l) (by omega)).1 (m_now (5 + l) (by omega)).2
  have g3 : (si (si σ 73 l a) 74 (5 + l) b).1 68 5 = nI l := X2.2.1.2.1.trans (by (try simp only [vSay, vEar, vTold, vNote, vMark, vReset, vShift, vPush, vPop, vTick, vu]; repeat (first | rw [if_pos trivial] | rw [if_pos (by omega)] | rw [if_neg (by omega)])); exact e0)
  rw [g3, show (8 : Int32) = nI 8 from rfl, nI_add, ix_if (by omega) (by omega), nI_clamp (by omega), nm_eq]
  have X3 := X2.set (33 + (8 + l)) (by omega) (x := 0) (m_now (8 + l) (by omega)).1 (m_now (8 + l) (by omega)).2
  have g4 : (si (si (si σ 73 l a) 74 (5 + l) b) 74 (8 + l) 0).1 68 5 = nI l := X3.2.1.2.1.trans (by (try simp only [vSay, vEar, vTold, vNote, vMark, vReset, vShift, vPush, vPop, vTick, vu]; repeat (first | rw [if_pos trivial] | rw [if_pos (by omega)] | rw [if_neg (by omega)])); exact e0)
  rw [g4, nI_1, nm_eq, nm_eq]
  have X4 := X3.set 1 (by omega) (x := nI (l + 1)) (show _ = 68 from rfl) (show _ = 5 from rfl)
  have X5 := X4.set 5 (by omega) (x := 0) (show _ = 68 from rfl) (show _ = 14 from rfl)
  refine ⟨_, rfl, X5.out (fun k hk => ?_)⟩
  rcases (show k = 1 ∨ k = 5 ∨ k = 30 + l ∨ k = 38 + l ∨ k = 41 + l ∨ (k ≠ 1 ∧ k ≠ 5 ∧ k ≠ 30 + l ∧ k ≠ 38 + l ∧ k ≠ 41 + l) by omega) with c | c | c | c | c | c
  · (try simp only [vSay, vEar, vTold, vNote, vMark, vReset, vShift, vPush, vPop, vTick, vu]; repeat (first | rw [if_pos trivial] | rw [if_pos (by omega)] | rw [if_neg (by omega)]))
  · (try simp only [vSay, vEar, vTold, vNote, vMark, vReset, vShift, vPush, vPop, vTick, vu]; repeat (first | rw [if_pos trivial] | rw [if_pos (by omega)] | rw [if_neg (by omega)]))
  · (try simp only [vSay, vEar, vTold, vNote, vMark, vReset, vShift, vPush, vPop, vTick, vu]; repeat (first | rw [if_pos trivial] | rw [if_pos (by omega)] | rw [if_neg (by omega)]))
  · (try simp only [vSay, vEar, vTold, vNote, vMark, vReset, vShift, vPush, vPop, vTick, vu]; repeat (first | rw [if_pos trivial] | rw [if_pos (by omega)] | rw [if_neg (by omega)]))
  · (try simp only [vSay, vEar, vTold, vNote, vMark, vReset, vShift, vPush, vPop, vTick, vu]; repeat (first | rw [if_pos trivial] | rw [if_pos (by omega)] | rw [if_neg (by omega)]))
  · (try simp only [vSay, vEar, vTold, vNote, vMark, vReset, vShift, vPush, vPop, vTick, vu]; repeat (first | rw [if_pos trivial] | rw [if_pos (by omega)] | rw [if_neg (by omega)]))
theorem m_add {base : Nat} {k0 : Nat} (hb : ∀ j, j < 24 → mr (base + j) = k0 ∧ mc (base + j) = j) (hb2 : base + 24 ≤ 195) (hl : len k0 = 24) {n : Nat} (hn : n < 6) (X : LX σ0 σ V) (a b c d : Int32) : ∃ σ', m_X8_add k0 (nI n) a b c d σ = some (nI (n + 1), σ') ∧ LX σ0 σ' (vu (vu (vu (vu V (base + n * 4) a) (base + (n * 4 + 1)) b) (base + (n * 4 + 2)) c) (base + (n * 4 + 3)) d) := by
  unfold m_X8_add
  rw [show (4 : Int32) = nI 4 from rfl, show (1 : Int32) = nI 1 from rfl, show (2 : Int32) = nI 2 from rfl, show (3 : Int32) = nI 3 from rfl, pk_mul, nI_add, nI_add, nI_add, nI_add, hl, show 4 * n = n * 4 by omega, ix_if (by omega) (by omega), nI_clamp (by omega), nm_eq, ix_if (by omega) (by omega), nI_clamp (by omega), nm_eq, ix_if (by omega) (by omega), nI_clamp (by omega), nm_eq, ix_if (by omega) (by omega), nI_clamp (by omega), nm_eq]
  have X1 := X.set (base + n * 4) (by omega) (x := a) (hb _ (by omega)).1 (hb _ (by omega)).2
  have X2 := X1.set (base + (n * 4 + 1)) (by omega) (x := b) (hb _ (by omega)).1 (hb _ (by omega)).2
  have X3 := X2.set (base + (n * 4 + 2)) (by omega) (x := c) (hb _ (by omega)).1 (hb _ (by omega)).2
  have X4 := X3.set (base + (n * 4 + 3)) (by omega) (x := d) (hb _ (by omega)).1 (hb _ (by omega)).2
  exact ⟨_, rfl, X4⟩
theorem m_push (X : LX σ0 σ V) (hp : p < 8) (e0 : V 5 = nI p) : ∃ σ', (nm ((0 : Int32)) (fun x3 =>
    m_X8_keeps_L47 (fun σ6 =>
    nm (si σ6 68 14 ((σ6.1 68 14) + (1 : Int32))) (fun σ7 =>
    some σ7)) 1000 x3 σ)) = some σ' ∧ LX σ0 σ' (vPush V p) := by
  have loop : ∀ (kx : Sg → Option Sg) F v (σ : Sg) (V : Vw), v ≤ 11 → 11 < v + F → V 5 = nI p → LX σ0 σ V → ∃ σ', m_X8_keeps_L47 kx F (nI v) σ = kx σ' ∧ LX σ0 σ' (fun k => if 107 + p * 11 + v ≤ k ∧ k < 118 + p * 11 then V (33 + (k - (107 + p * 11))) else V k) := by
    intro kx F
    induction F with
    | zero => intro v σ V h1 h2; exact absurd h2 (by omega)
    | succ F ih =>
      intro v σ V h1 h2 e0 X
      have g := X.2.1.2.2.2.2.2.trans e0
      rw [m_X8_keeps_L47.eq_2, show (11 : Int32) = nI 11 from rfl]
      rcases Nat.lt_or_ge v 11 with q | q
      · have hv : σ.1 74 v = V (33 + v) := X.2.2.2.2.2.2.1 v q
        rw [if_neg (nI_ge q (by omega)), ln_74, ix_if q (by omega), g, pk_mul, nI_add, ln_77, ix_if (by omega) (by omega), nI_clamp (by omega), nI_clamp (by omega), nm_eq, nI_1, nm_eq, hv]
        obtain ⟨σ', e, X'⟩ := ih (v + 1) _ _ (by omega) (by omega) (by (try simp only [vSay, vEar, vTold, vNote, vMark, vReset, vShift, vPush, vPop, vTick, vu]; repeat (first | rw [if_pos trivial] | rw [if_pos (by omega)] | rw [if_neg (by omega)])); exact e0) (X.set (107 + (11 * p + v)) (by omega) (x := V (33 + v)) (m_undo (11 * p + v) (by omega)).1 (m_undo (11 * p + v) (by omega)).2)
        refine ⟨σ', e, X'.out (fun k hk => ?_)⟩
        by_cases c : k = 107 + (11 * p + v)
        · subst c
          rw [if_pos (by omega), if_neg (by omega), vu_at, show 107 + (11 * p + v) - (107 + p * 11) = v by omega]
        · by_cases c2 : 107 + p * 11 + v ≤ k ∧ k < 118 + p * 11
          · rw [if_pos c2, if_pos (by omega), vu_off _ _ (by omega)]
          · rw [if_neg c2, if_neg (by omega), vu_off _ _ c]
      · have : v = 11 := by omega
        subst this
        rw [if_pos (nI_le (Nat.le_refl _) (by omega))]
        exact ⟨σ, rfl, X.out (fun k hk => if_neg (by omega))⟩
  obtain ⟨σ1, e1, X1⟩ := loop (fun σ6 =>
    nm (si σ6 68 14 ((σ6.1 68 14) + (1 : Int32))) (fun σ7 =>
    some σ7)) 1000 0 σ V (by omega) (by omega) e0 X
  have g := X1.2.1.2.2.2.2.2
  have g : σ1.1 68 14 = nI p := g.trans ((if_neg (by omega)).trans e0)
  have X2 := X1.set 5 (by omega) (x := nI (p + 1)) (show _ = 68 from rfl) (show _ = 14 from rfl)
  rw [nm_eq]
  refine ⟨_, e1.trans (by rw [nm_eq, g, nI_1]), X2.out (fun k hk => ?_)⟩
  by_cases c : k = 5
  · (try simp only [vSay, vEar, vTold, vNote, vMark, vReset, vShift, vPush, vPop, vTick, vu]; repeat (first | rw [if_pos trivial] | rw [if_pos (by omega)] | rw [if_neg (by omega)]))
  · by_cases c2 : 107 + p * 11 ≤ k ∧ k < 118 + p * 11
    · (try simp only [vSay, vEar, vTold, vNote, vMark, vReset, vShift, vPush, vPop, vTick, vu]; repeat (first | rw [if_pos trivial] | rw [if_pos (by omega)] | rw [if_neg (by omega)]))
    · (try simp only [vSay, vEar, vTold, vNote, vMark, vReset, vShift, vPush, vPop, vTick, vu]; repeat (first | rw [if_pos trivial] | rw [if_pos (by omega)] | rw [if_neg (by omega)]))
theorem m_keep (X : LX σ0 σ V) (K : VK V s l t n m p B) : ∃ σ', m_X8_keeps σ = some σ' ∧ LX σ0 σ' (vKeep V p) := by
  have e0 : V 5 = nI p := K.1.1.2.2.2.2.2
  have hb := K.1.B
  have g := X.2.1.2.2.2.2.2.trans e0
  unfold m_X8_keeps vKeep
  by_cases c : p = 8
  · subst c
    have loop : ∀ (kx : Sg → Option Sg) F v (σ : Sg), v ≤ 77 → 77 < v + F → LX σ0 σ (fun k => if 107 ≤ k ∧ k < 107 + v then V (k + 11) else V k) → ∃ σ', m_X8_keeps_L12 kx F (nI (11 + v)) σ = kx σ' ∧ LX σ0 σ' (fun k => if 107 ≤ k ∧ k < 184 then V (k + 11) else V k) := by
      intro kx F
      induction F with
      | zero => intro v σ h1 h2; exact absurd h2 (by omega)
      | succ F ih =>
        intro v σ h1 h2 X
        rw [m_X8_keeps_L12.eq_2, show (88 : Int32) = nI 88 from rfl]
        rcases Nat.lt_or_ge v 77 with q | q
        · have hsub : nI (11 + v) - 11 = nI v := by
            rw [show (11 : Int32) = nI 11 from rfl, show nI (11 + v) = nI v + nI 11 by rw [nI_add, Nat.add_comm]]
            exact Int32.add_sub_cancel _ _
          have hv : σ.1 77 (11 + v) = V (107 + v + 11) := (X.2.2.2.2.2.2.2.2.2.2 (11 + v) (by omega)).trans ((if_neg (by omega)).trans (by rw [show 107 + (11 + v) = 107 + v + 11 by omega]))
          rw [if_neg (nI_ge (show 11 + v < 88 by omega) (by omega)), ln_77, ix_if (by omega) (by omega), hsub, ix_if (by omega) (by omega), nI_clamp (by omega), nI_clamp (by omega), nm_eq, nI_1, nm_eq, hv]
          refine ih (v + 1) _ (by omega) (by omega) ((X.set (107 + v) (by omega) (x := V (107 + v + 11)) (m_undo v (by omega)).1 (m_undo v (by omega)).2).out (fun k hk => ?_))
          by_cases c : k = 107 + v
          · subst c
            rw [if_pos (by omega), vu_at]
          · rw [vu_off _ _ c]
            by_cases c2 : 107 ≤ k ∧ k < 107 + v
            · rw [if_pos c2, if_pos (by omega)]
            · rw [if_neg c2, if_neg (by omega)]
        · have : v = 77 := by omega
          subst this
          rw [if_pos (nI_le (Nat.le_refl _) (by omega))]
          exact ⟨σ, rfl, X⟩
    rw [if_pos (show σ.1 68 14 = (8 : Int32) from g), if_pos rfl, nm_eq]
    obtain ⟨σ1, e1, X1⟩ := loop (fun σ11 =>
      nm (si σ11 68 14 (7 : Int32)) (fun σ12 =>
      some (σ12))) 1000 0 σ (by omega) (by omega) (X.out (fun k hk => if_neg (by omega)))
    have X2 := X1.set 5 (by omega) (x := 7) (show _ = 68 from rfl) (show _ = 14 from rfl)
    rw [show (11 : Int32) = nI (11 + 0) from rfl, e1, nm_eq, bd1_s]
    refine m_push (X2.out (V' := vShift V) (fun k hk => ?_)) (by omega) (by (try simp only [vSay, vEar, vTold, vNote, vMark, vReset, vShift, vPush, vPop, vTick, vu]; repeat (first | rw [if_pos trivial] | rw [if_pos (by omega)] | rw [if_neg (by omega)])); rfl)
    by_cases c : k = 5
    · (try simp only [vSay, vEar, vTold, vNote, vMark, vReset, vShift, vPush, vPop, vTick, vu]; repeat (first | rw [if_pos trivial] | rw [if_pos (by omega)] | rw [if_neg (by omega)]))
    · by_cases c2 : 107 ≤ k ∧ k < 184
      · (try simp only [vSay, vEar, vTold, vNote, vMark, vReset, vShift, vPush, vPop, vTick, vu]; repeat (first | rw [if_pos trivial] | rw [if_pos (by omega)] | rw [if_neg (by omega)]))
      · (try simp only [vSay, vEar, vTold, vNote, vMark, vReset, vShift, vPush, vPop, vTick, vu]; repeat (first | rw [if_pos trivial] | rw [if_pos (by omega)] | rw [if_neg (by omega)]))
  · rw [if_neg (show ¬ σ.1 68 14 = (8 : Int32) by rw [g]; exact fun z => c ((nI_eq (by omega) (by omega)).mp z)), if_neg c, bd1_s]
    exact m_push X (by omega) e0
theorem m_undoes (X : LX σ0 σ V) (K : VK V s l t n m (p + 1) B) : ∃ σ', m_X8_undo σ = some (V (107 + (p * 11 + 0)), σ') ∧ LX σ0 σ' (vPop V p) := by
  obtain ⟨b0, b1, b2, b3, b4, b5⟩ := K.1.B
  have e0 : V 5 = nI (p + 1) := K.1.1.2.2.2.2.2
  have g := X.2.1.2.2.2.2.2.trans e0
  have loop : ∀ F v (σ : Sg), v ≤ 11 → 11 < v + F → LX σ0 σ (fun k => if k = 5 then nI p else if 33 ≤ k ∧ k < 33 + v then V (107 + (p * 11 + (k - 33))) else V k) → ∃ σ', m_X8_undo_L24 (fun _ => none) F (nI v) σ = some (V (107 + (p * 11 + 0)), σ') ∧ LX σ0 σ' (vPop V p) := by
    intro F
    induction F with
    | zero => intro v σ h1 h2; exact absurd h2 (by omega)
    | succ F ih =>
      intro v σ h1 h2 X
      have g : σ.1 68 14 = nI p := X.2.1.2.2.2.2.2.trans (if_pos rfl)
      rw [m_X8_undo_L24.eq_2, show (11 : Int32) = nI 11 from rfl]
      rcases Nat.lt_or_ge v 11 with q | q
      · have hv : σ.1 77 (11 * p + v) = V (107 + (p * 11 + v)) := (X.2.2.2.2.2.2.2.2.2.2 (11 * p + v) (by omega)).trans ((if_neg (by omega)).trans ((if_neg (by omega)).trans (by rw [show 11 * p + v = p * 11 + v by omega])))
        rw [if_neg (nI_ge q (by omega)), g, pk_mul, nI_add, ln_77, ix_if (by omega) (by omega), ln_74, ix_if q (by omega), nI_clamp (by omega), nI_clamp (by omega), nm_eq, nI_1, nm_eq, hv]
        refine ih (v + 1) _ (by omega) (by omega) ((X.set (33 + v) (by omega) (x := V (107 + (p * 11 + v))) (m_now v q).1 (m_now v q).2).out (fun k hk => ?_))
        by_cases c : k = 33 + v
        · subst c
          rw [if_neg (by omega), if_pos (by omega), vu_at, show 33 + v - 33 = v by omega]
        · rw [vu_off _ _ c]
          by_cases c3 : k = 5
          · rw [if_pos c3, if_pos c3]
          · rw [if_neg c3, if_neg c3]
            by_cases c2 : 33 ≤ k ∧ k < 33 + v
            · rw [if_pos c2, if_pos (by omega)]
            · rw [if_neg c2, if_neg (by omega)]
      · have : v = 11 := by omega
        subst this
        have h0 : σ.1 74 0 = V (107 + (p * 11 + 0)) := (X.2.2.2.2.2.2.1 0 (by omega)).trans ((if_neg (by omega)).trans (if_pos (by omega)))
        rw [if_pos (nI_le (Nat.le_refl _) (by omega)), ln_74]
        show ∃ σ', (if ((nI 0) < 0 ∨ 11 ≤ (nI 0).toNatClampNeg) then none else some (σ.1 74 (nI 0).toNatClampNeg, σ)) = _ ∧ _
        rw [ix_if (by omega) (by omega), nI_clamp (by omega), h0]
        exact ⟨σ, rfl, X⟩
  unfold m_X8_undo
  rw [g, if_neg (show ¬ nI (p + 1) = 0 from fun z => absurd ((nI_eq (a := p + 1) (b := 0) (by omega) (by omega)).mp z) (by omega)), nI_prd (by omega) (by omega), show p + 1 - 1 = p by omega, nm_eq, nm_eq]
  refine loop 1000 0 _ (by omega) (by omega) ((X.set 5 (by omega) (x := nI p) (show _ = 68 from rfl) (show _ = 14 from rfl)).out (fun k hk => ?_))
  by_cases c : k = 5
  · (try simp only [vSay, vEar, vTold, vNote, vMark, vReset, vShift, vPush, vPop, vTick, vu]; repeat (first | rw [if_pos trivial] | rw [if_pos (by omega)] | rw [if_neg (by omega)]))
  · (try simp only [vSay, vEar, vTold, vNote, vMark, vReset, vShift, vPush, vPop, vTick, vu]; repeat (first | rw [if_pos trivial] | rw [if_pos (by omega)] | rw [if_neg (by omega)]))
theorem m_hear (K : VK V s l t n m p B) (kx : Sg → Option Sg) : ∀ F v (σ : Sg), v ≤ l → l < v + F → LX σ0 σ (vHear V v) → ∃ σ', m_X8_goesBy_L2 kx F (nI v) σ = kx σ' ∧ LX σ0 σ' (vHear V l) := by
  obtain ⟨b0, b1, b2, b3, b4, b5⟩ := K.1.B
  intro F
  induction F with
  | zero => intro i σ h1 h2; exact absurd h2 (by omega)
  | succ F ih =>
    intro v σ h1 h2 X
    have K' := K.hear h1
    have hN := K'.1.N
    have el : σ.1 68 5 = nI l := (X.2.1.2.1).trans K'.1.1.2.1
    rw [m_X8_goesBy_L2.eq_2, el, show (8 : Int32) = nI 8 from rfl, nI_add]
    rcases Nat.lt_or_ge v l with q | q
    · have N' := K'.ok.N
      have hvl : v < nL (vHear V v) := by rw [hN.2.1]; exact q
      have eh : hn (vHear V v) v = hn V v :=
        hn_congr (V' := vHear V v) (fun j hj => if_neg (by omega)) K.ok.N (by omega) (by have := K.1.N.1; omega)
      have hv : σ.1 74 (8 + v) = vHear V v (33 + (8 + v)) := X.2.2.2.2.2.2.1 _ (by omega)
      rw [if_neg (nI_ge q (by omega)), ln_74, ix_if (by omega) (by omega), e_mHeardNow X.2 K'.ok.1 K'.ok.2.1 K'.ok.K N' hvl, bd1_s, ix_if (by omega) (by omega), eh, nI_clamp (by omega), hv, nm_eq, nI_1, nm_eq]
      have X1 := X.set (33 + (8 + v)) (by omega) (x := vHear V v (33 + (8 + v)) ||| hn V v) (m_now (8 + v) (by omega)).1 (m_now (8 + v) (by omega)).2
      refine ih (v + 1) _ (by omega) (by omega) (X1.out (fun k hk => ?_))
      by_cases c : k = 33 + (8 + v)
      · subst c
        have e1 : vHear V v (33 + (8 + v)) = V (33 + (8 + v)) := if_neg (by omega)
        have e2 : vHear V (v + 1) (33 + (8 + v)) = V (33 + (8 + v)) ||| hn V (33 + (8 + v) - 41) := if_pos (by omega)
        rw [vu_at, e1, e2, show 33 + (8 + v) - 41 = v by omega]
      · rw [vu_off _ _ c]
        by_cases c2 : 41 ≤ k ∧ k < 41 + v
        · show (if _ then _ else _) = (if _ then _ else _)
          rw [if_pos c2, if_pos (by omega)]
        · show (if _ then _ else _) = (if _ then _ else _)
          rw [if_neg c2, if_neg (by omega)]
    · have : v = l := by omega
      subst this
      rw [if_pos (nI_le (Nat.le_refl _) (by omega))]
      exact ⟨σ, rfl, X⟩
theorem m_goesBy (X : LX σ0 σ V) (K : VK V s l t n m p B) : ∃ σ', m_X8_goesBy σ = some σ' ∧ LX σ0 σ' (vTick V l) := by
  have b := K.1.B
  unfold m_X8_goesBy
  rw [nm_eq]
  obtain ⟨σ1, e1, X1⟩ := m_hear K (fun σ6 =>
    if ((0 : Int32) < 0 ∨ len 74 ≤ (0 : Int32).toNatClampNeg) then none else
    (if ((0 : Int32) < 0 ∨ len 74 ≤ (0 : Int32).toNatClampNeg) then none else
    (nm (si σ6 74 (0 : Int32).toNatClampNeg ((σ6.1 74 (0 : Int32).toNatClampNeg) + (1 : Int32))) (fun σ7 =>
    some σ7)))) 1000 0 σ (Nat.zero_le _) (by omega) (X.out (fun k hk => if_neg (by omega)))
  have e0 : σ1.1 74 0 = V 33 := (X1.2.2.2.2.2.2.1 0 (by omega)).trans (if_neg (by omega))
  have X2 := X1.set 33 (by omega) (x := V 33 + 1) (show _ = 74 from rfl) (show _ = 0 from rfl)
  refine ⟨_, e1.trans ?_, X2.out (fun k hk => ?_)⟩
  · rw [ln_74]
    show (if ((nI 0) < 0 ∨ 11 ≤ (nI 0).toNatClampNeg) then none else (if ((nI 0) < 0 ∨ 11 ≤ (nI 0).toNatClampNeg) then none else nm (si σ1 74 (nI 0).toNatClampNeg ((σ1.1 74 (nI 0).toNatClampNeg) + (1 : Int32))) (fun σ7 => some σ7))) = _
    rw [ix_if (by omega) (by omega), ix_if (by omega) (by omega), nI_clamp (by omega), e0, nm_eq]
  · by_cases c : k = 33
    · subst c
      rw [vu_at]
      (try simp only [vSay, vEar, vTold, vNote, vMark, vReset, vShift, vPush, vPop, vTick, vu]; repeat (first | rw [if_pos trivial] | rw [if_pos (by omega)] | rw [if_neg (by omega)]))
    · rw [vu_off _ _ c]
      show (if _ then _ else _) = (if _ then _ else _)
      rw [if_neg c]
theorem m_pass {N : Nat} (hN : N < 1000) (X : LX σ0 σ V) (K : VK V s l t n m p 9999) : ∃ σ', m_X8_goMinutes (nI N) σ = some σ' ∧ LX σ0 σ' (vTicks l 9999 N V) := by
  have loop : ∀ F v (σ : Sg) (V : Vw), v ≤ N → N < v + F → LX σ0 σ V → VK V s l t n m p 9999 → ∃ σ', m_X8_goMinutes_L2 (nI N) (fun _ => none) F (nI v) σ = some σ' ∧ LX σ0 σ' (vTicks l 9999 (N - v) V) := by
    intro F
    induction F with
    | zero => intro i σ V h1 h2; exact absurd h2 (by omega)
    | succ F ih =>
      intro v σ V h1 h2 X K
      rw [m_X8_goMinutes_L2.eq_2]
      rcases Nat.lt_or_ge v N with q | q
      · have em : σ.1 74 0 = V 33 := X.2.2.2.2.2.2.1 0 (by omega)
        rw [if_neg (nI_ge q (by omega)), show N - v = N - (v + 1) + 1 by omega, ln_74]
        show ∃ σ', (if ((nI 0) < 0 ∨ 11 ≤ (nI 0).toNatClampNeg) then none else (if (nI 9999) ≤ (σ.1 74 (nI 0).toNatClampNeg) then (some σ) else bd1 (m_X8_goesBy σ) (fun σ2 => nm (nI v + (1 : Int32)) (fun x4 => m_X8_goMinutes_L2 (nI N) (fun _ => none) F x4 σ2)))) = some σ' ∧ _
        rw [ix_if (by omega) (by omega), nI_clamp (by omega), em]
        unfold vTicks
        by_cases c : nI 9999 ≤ V 33
        · rw [if_pos c, if_pos c]
          exact ⟨σ, rfl, X⟩
        · rw [if_neg c, if_neg c]
          obtain ⟨σ1, e1, X1⟩ := m_goesBy X K
          rw [e1, bd1_s, nI_1, nm_eq]
          exact ih (v + 1) σ1 _ (by omega) (by omega) X1 (K.tick' (by omega) c)
      · have : v = N := by omega
        subst this
        rw [if_pos (nI_le (Nat.le_refl _) (by omega)), Nat.sub_self]
        exact ⟨σ, rfl, X⟩
  unfold m_X8_goMinutes
  rw [nm_eq]
  exact loop 1000 0 σ V (Nat.zero_le _) (by omega) X K
end MODEL
