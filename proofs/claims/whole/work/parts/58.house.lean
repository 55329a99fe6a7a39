/-! ===== PURE: the acts of a house of the class ===== -/
section HOUSE
variable {h : Nat} {σ0 σ : Sg} {V : Vw} {s l t n m p B : Nat}
theorem x_paper (S : HS σ h) {r : Nat} (hr : r < 4) : m_X2_paper h (nI r) σ = some (si σ (h + 5 + 1) (r * 1 + 0) 0) := by
  unfold m_X2_paper
  rw [show (0 : Int32) = nI 0 from rfl, s_ok S.2.2.1 hr (show 0 < 1 by omega), bd1_s]
theorem x_strip (S : HS σ h) {r : Nat} (hr : r < 4) : m_X2_strip h (nI r) σ = some (si σ (h + 5 + 1) (r * 1 + 0) (σ.1 h 0 + 1)) := by
  unfold m_X2_strip
  rw [show (0 : Int32) = nI 0 from rfl, s_ok S.2.2.1 hr (show 0 < 1 by omega), bd1_s]
theorem h_reset (T : HT h σ0 σ V) (K : VK V s l t n m p B) : ∃ σ', m_X2_reset h σ = some σ' ∧ HT h σ0 σ' (vReset V) := by
  have loop : ∀ (kx : Sg → Option Sg) F r (σ : Sg) (L : Nat → Prop) (V : Vw), r ≤ 4 → 4 < r + F → HX h σ0 σ L V → ∃ σ', m_X2_reset_L23 h kx F (nI r) σ = kx σ' ∧ HX h σ0 σ' (fun k => L k ∨ (34 + r ≤ k ∧ k < 38)) (fun k => if 34 + r ≤ k ∧ k < 38 then -1 else V k) := by
    intro kx F
    induction F with
    | zero => intro r σ L V h1 h2; exact absurd h2 (by omega)
    | succ F ih =>
      intro r σ L V h1 h2 X
      rw [m_X2_reset_L23.eq_2, show (4 : Int32) = nI 4 from rfl]
      rcases Nat.lt_or_ge r 4 with q | q
      · rw [if_neg (nI_ge q (by omega)), x_paper X.2.1 q, bd1_s, nI_1, nm_eq]
        obtain ⟨e1, e2, e3⟩ := a_since r q
        obtain ⟨σ', e, X'⟩ := ih (r + 1) _ _ _ (by omega) (by omega) (X.set (34 + r) (by omega) (x := -1) (show h + 5 + 1 = _ by rw [e1]) (show r * 1 + 0 = _ by rw [e2]) (by rw [tr_t e3]))
        refine ⟨σ', e, X'.out (fun k _ hk => ?_) (fun k _ hk => ?_)⟩
        · rcases hk with hk | hk
          · exact .inl (.inl hk)
          · by_cases c : k = 34 + r
            · exact .inl (.inr c)
            · exact .inr (by omega)
        by_cases c : k = 34 + r
        · subst c
          (try simp only [vSay, vEar, vTold, vNote, vMark, vReset, vShift, vPush, vPop, vTick, vu]; repeat (first | rw [if_pos trivial] | rw [if_pos (by omega)] | rw [if_neg (by omega)]))
        · by_cases c2 : 34 + r ≤ k ∧ k < 38
          · (try simp only [vSay, vEar, vTold, vNote, vMark, vReset, vShift, vPush, vPop, vTick, vu]; repeat (first | rw [if_pos trivial] | rw [if_pos (by omega)] | rw [if_neg (by omega)]))
          · (try simp only [vSay, vEar, vTold, vNote, vMark, vReset, vShift, vPush, vPop, vTick, vu]; repeat (first | rw [if_pos trivial] | rw [if_pos (by omega)] | rw [if_neg (by omega)]))
      · have : r = 4 := by omega
        subst this
        rw [if_pos (nI_le (Nat.le_refl _) (by omega))]
        refine ⟨σ, rfl, X.out (fun k _ hk => ?_) (fun k _ hk => if_neg (by omega))⟩
        rcases hk with hk | hk
        · exact hk
        · exact absurd hk (by omega)
  obtain ⟨b0, b1, b2, b3, b4, b5⟩ := K.1.B
  have X1 := (T.K K.1).set 33 (by omega) (x := 0) (show h = _ from rfl) (show 0 = _ from rfl) (show (0 : Int32) = _ from rfl)
  have X2 := X1.set 0 (by omega) (x := 0) (show h + 1 = _ from rfl) (show 3 = _ from rfl) (show (0 : Int32) = _ from rfl)
  have X3 := X2.set 1 (by omega) (x := 0) (show h + 3 = _ from rfl) (show 3 = _ from rfl) (show (0 : Int32) = _ from rfl)
  unfold m_X2_reset
  obtain ⟨σ', e, X4⟩ := loop (fun σ12 =>
    bd2 (m_X6_empty (h + 7) σ12) (fun r13 σ14 =>
    bd2 (m_X6_empty (h + 9) σ14) (fun r16 σ17 =>
    bd2 (m_X6_empty (h + 11) σ17) (fun r19 σ20 =>
    bd2 (m_X6_empty (h + 13) σ20) (fun r22 σ23 =>
    some σ23))))) 1000 0 _ _ _ (by omega) (by omega) X3
  have X5 := X4.set 2 (by omega) (x := 0) (show h + 7 = _ from rfl) (show 3 = _ from rfl) (show (0 : Int32) = _ from rfl)
  have X6 := X5.set 3 (by omega) (x := 0) (show h + 9 = _ from rfl) (show 3 = _ from rfl) (show (0 : Int32) = _ from rfl)
  have X7 := X6.set 4 (by omega) (x := 0) (show h + 11 = _ from rfl) (show 3 = _ from rfl) (show (0 : Int32) = _ from rfl)
  have X8 := X7.set 5 (by omega) (x := 0) (show h + 13 = _ from rfl) (show 3 = _ from rfl) (show (0 : Int32) = _ from rfl)
  refine ⟨_, e, HX.fin (VK.reset V B).1 (X8.out (fun k _ hk => ?_) (fun k _ hk => ?_))⟩
  · rcases lv_step (s := s) (l := l) (t := t) (n := n) (m := m) (p := p) (.inl rfl) hk with q | q
    · simp only [q, true_or]
    · omega
  · unfold lv at hk
    rcases (show k = 0 ∨ k = 1 ∨ k = 2 ∨ k = 3 ∨ k = 4 ∨ k = 5 ∨ k = 33 ∨ (34 ≤ k ∧ k < 38) by omega) with c | c | c | c | c | c | c | c
    · (try simp only [vSay, vEar, vTold, vNote, vMark, vReset, vShift, vPush, vPop, vTick, vu]; repeat (first | rw [if_pos trivial] | rw [if_pos (by omega)] | rw [if_neg (by omega)]))
    · (try simp only [vSay, vEar, vTold, vNote, vMark, vReset, vShift, vPush, vPop, vTick, vu]; repeat (first | rw [if_pos trivial] | rw [if_pos (by omega)] | rw [if_neg (by omega)]))
    · (try simp only [vSay, vEar, vTold, vNote, vMark, vReset, vShift, vPush, vPop, vTick, vu]; repeat (first | rw [if_pos trivial] | rw [if_pos (by omega)] | rw [if_neg (by omega)]))
    · (try simp only [vSay, vEar, vTold, vNote, vMark, vReset, vShift, vPush, vPop, vTick, vu]; repeat (first | rw [if_pos trivial] | rw [if_pos (by omega)] | rw [if_neg (by omega)]))
    · (try simp only [vSay, vEar, vTold, vNote, vMark, vReset, vShift, vPush, vPop, vTick, vu]; repeat (first | rw [if_pos trivial] | rw [if_pos (by omega)] | rw [if_neg (by omega)]))
    · (try simp only [vSay, vEar, vTold, vNote, vMark, vReset, vShift, vPush, vPop, vTick, vu]; repeat (first | rw [if_pos trivial] | rw [if_pos (by omega)] | rw [if_neg (by omega)]))
    · (try simp only [vSay, vEar, vTold, vNote, vMark, vReset, vShift, vPush, vPop, vTick, vu]; repeat (first | rw [if_pos trivial] | rw [if_pos (by omega)] | rw [if_neg (by omega)]))
    · (try simp only [vSay, vEar, vTold, vNote, vMark, vReset, vShift, vPush, vPop, vTick, vu]; repeat (first | rw [if_pos trivial] | rw [if_pos (by omega)] | rw [if_neg (by omega)]))
theorem h_say (T : HT h σ0 σ V) (K : VK V s l t n m p B) (hs : s < 8) {k : Nat} (hk : k < 6) (b c : Int32) : ∃ σ', m_X2_addSaying h (nI k) b c σ = some (nI s, σ') ∧ HT h σ0 σ' (vSay V s (nI k) b c) := by
  unfold m_X2_addSaying
  rw [e_empty, bd2_s]
  have X1 := (T.K K.1).set 5 (by omega) (x := 0) (show h + 13 = _ from rfl) (show 3 = _ from rfl) (show (0 : Int32) = _ from rfl)
  have e0 : (si σ (h + 13) 3 0).1 (h + 1) 3 = nI s := (X1.2.2 0 (by omega) (.inl (.inl (by omega)))).trans (by rw [tr_f rfl]; (try simp only [vSay, vEar, vTold, vNote, vMark, vReset, vShift, vPush, vPop, vTick, vu]; repeat (first | rw [if_pos trivial] | rw [if_pos (by omega)] | rw [if_neg (by omega)])); exact K.1.1.1)
  rw [add3 X1.2.1.1 e0 hs, bd2_s]
  obtain ⟨f1, f2, f3⟩ := a_kind s hs
  obtain ⟨g1, g2, g3⟩ := a_spot s hs
  obtain ⟨i1, i2, i3⟩ := a_force s hs
  have X2 := X1.set 0 (by omega) (x := nI (s + 1)) (show h + 1 = _ from rfl) (show 3 = _ from rfl) (tr_f rfl).symm
  have X3 := X2.set (6 + s) (by omega) (x := nI k) (show h + 1 + 1 = _ by rw [f1]) (show s * 3 = _ from f2.symm) (tr_f f3).symm
  have X4 := X3.set (14 + s) (by omega) (x := b) (show h + 1 + 1 = _ by rw [g1]) (show s * 3 + 1 = _ by rw [g2]) (tr_f g3).symm
  have X5 := X4.set (22 + s) (by omega) (x := c) (show h + 1 + 1 = _ by rw [i1]) (show s * 3 + 2 = _ by rw [i2]) (tr_f i3).symm
  refine ⟨_, rfl, HX.fin (K.say hs hk b c).1 (X5.out (fun k _ hk => ?_) (fun k _ hk => rfl))⟩
  rcases lv_step (s := s) (l := l) (t := t) (n := n) (m := m) (p := p) (by omega) hk with q | q
  · simp only [q, true_or]
  · omega
theorem h_ear (T : HT h σ0 σ V) (K : VK V s l t n m p B) (hl : l < 3) {k r : Nat} (hk : k < 6) (hr : r < 4) : ∃ σ', m_X2_addListener h (nI k) (nI r) σ = some (nI l, σ') ∧ HT h σ0 σ' (vEar V l (nI k) (nI r)) := by
  unfold m_X2_addListener
  rw [e_empty, bd2_s]
  have X1 := (T.K K.1).set 5 (by omega) (x := 0) (show h + 13 = _ from rfl) (show 3 = _ from rfl) (show (0 : Int32) = _ from rfl)
  have e0 : (si σ (h + 13) 3 0).1 (h + 3) 3 = nI l := (X1.2.2 1 (by omega) (.inl (.inl (by omega)))).trans (by rw [tr_f rfl]; (try simp only [vSay, vEar, vTold, vNote, vMark, vReset, vShift, vPush, vPop, vTick, vu]; repeat (first | rw [if_pos trivial] | rw [if_pos (by omega)] | rw [if_neg (by omega)])); exact K.1.1.2.1)
  rw [add3 X1.2.1.2.1 e0 hl, bd2_s]
  obtain ⟨f1, f2, f3⟩ := a_sort l hl
  obtain ⟨g1, g2, g3⟩ := a_at l hl
  obtain ⟨i1, i2, i3⟩ := a_know l hl
  have X2 := X1.set 1 (by omega) (x := nI (l + 1)) (show h + 3 = _ from rfl) (show 3 = _ from rfl) (tr_f rfl).symm
  have X3 := X2.set (30 + l) (by omega) (x := nI k) (show h + 3 + 1 = _ by rw [f1]) (show l * 3 = _ from f2.symm) (tr_f f3).symm
  have X4 := X3.set (38 + l) (by omega) (x := nI r) (show h + 3 + 1 = _ by rw [g1]) (show l * 3 + 1 = _ by rw [g2]) (tr_f g3).symm
  have X5 := X4.set (41 + l) (by omega) (x := 0) (show h + 3 + 1 = _ by rw [i1]) (show l * 3 + 2 = _ by rw [i2]) (tr_f i3).symm
  refine ⟨_, rfl, HX.fin (K.ear hl hk hr).1 (X5.out (fun k _ hk => ?_) (fun k _ hk => rfl))⟩
  rcases lv_step (s := s) (l := l) (t := t) (n := n) (m := m) (p := p) (by omega) hk with q | q
  · simp only [q, true_or]
  · omega
theorem h_told (T : HT h σ0 σ V) (K : VK V s l t n m p B) (ht : t < 5) {a b c d : Int32} (hb : 0 ≤ b) : ∃ σ', m_X6_add (h + 7) a b c d σ = some (nI t, σ') ∧ HT h σ0 σ' (vTold V t a b c) := by
  have e0 : σ.1 (h + 7) 3 = nI t := (T.2.2.1.2.2.1).trans K.1.1.2.2.1
  rw [add3 T.2.1.2.2.2.1 e0 ht]
  obtain ⟨f1, f2, f3⟩ := a_told (t * 3) (by omega)
  obtain ⟨g1, g2, g3⟩ := a_told (t * 3 + 1) (by omega)
  obtain ⟨i1, i2, i3⟩ := a_told (t * 3 + 2) (by omega)
  have X2 := (T.K K.1).set 2 (by omega) (x := nI (t + 1)) (show h + 7 = _ from rfl) (show 3 = _ from rfl) (tr_f rfl).symm
  have X3 := X2.set (44 + t * 3) (by omega) (x := a) (show h + 7 + 1 = _ by rw [f1]) (show t * 3 = _ from f2.symm) (tr_f f3).symm
  have X4 := X3.set (44 + (t * 3 + 1)) (by omega) (x := b) (show h + 7 + 1 = _ by rw [g1]) (show t * 3 + 1 = _ by rw [g2]) (tr_f g3).symm
  have X5 := X4.set (44 + (t * 3 + 2)) (by omega) (x := c) (show h + 7 + 1 = _ by rw [i1]) (show t * 3 + 2 = _ by rw [i2]) (tr_f i3).symm
  refine ⟨_, rfl, HX.fin (K.told ht hb).1 (X5.out (fun k _ hk => ?_) (fun k _ hk => rfl))⟩
  rcases lv_step (s := s) (l := l) (t := t) (n := n) (m := m) (p := p) (by omega) hk with q | q
  · simp only [q, true_or]
  · omega
theorem h_note (T : HT h σ0 σ V) (K : VK V s l t n m p B) (ht : n < 6) {a b c d : Int32} : ∃ σ', m_X6_add (h + 9) a b c d σ = some (nI n, σ') ∧ HT h σ0 σ' (vNote V n a b c d) := by
  have e0 : σ.1 (h + 9) 3 = nI n := (T.2.2.1.2.2.2.1).trans K.1.1.2.2.2.1
  rw [add4 T.2.1.2.2.2.2.1 (by omega) e0 ht]
  obtain ⟨f1, f2, f3⟩ := a_note (n * 4) (by omega)
  obtain ⟨g1, g2, g3⟩ := a_note (n * 4 + 1) (by omega)
  obtain ⟨i1, i2, i3⟩ := a_note (n * 4 + 2) (by omega)
  obtain ⟨j1, j2, j3⟩ := a_note (n * 4 + 3) (by omega)
  have X2 := (T.K K.1).set 3 (by omega) (x := nI (n + 1)) (show h + 9 = _ from rfl) (show 3 = _ from rfl) (tr_f rfl).symm
  have X3 := X2.set (59 + n * 4) (by omega) (x := a) (show h + 9 + 1 = _ by rw [f1]) (show n * 4 = _ from f2.symm) (tr_f f3).symm
  have X4 := X3.set (59 + (n * 4 + 1)) (by omega) (x := b) (show h + 9 + 1 = _ by rw [g1]) (show n * 4 + 1 = _ by rw [g2]) (tr_f g3).symm
  have X5 := X4.set (59 + (n * 4 + 2)) (by omega) (x := c) (show h + 9 + 1 = _ by rw [i1]) (show n * 4 + 2 = _ by rw [i2]) (tr_f i3).symm
  have X6 := X5.set (59 + (n * 4 + 3)) (by omega) (x := d) (show h + 9 + 1 = _ by rw [j1]) (show n * 4 + 3 = _ by rw [j2]) (tr_f j3).symm
  refine ⟨_, rfl, HX.fin (K.note ht).1 (X6.out (fun k _ hk => ?_) (fun k _ hk => rfl))⟩
  rcases lv_step (s := s) (l := l) (t := t) (n := n) (m := m) (p := p) (by omega) hk with q | q
  · simp only [q, true_or]
  · omega
theorem h_mark (T : HT h σ0 σ V) (K : VK V s l t n m p B) (ht : m < 6) {a b c d : Int32} : ∃ σ', m_X6_add (h + 11) a b c d σ = some (nI m, σ') ∧ HT h σ0 σ' (vMark V m a b c d) := by
  have e0 : σ.1 (h + 11) 3 = nI m := (T.2.2.1.2.2.2.2.1).trans K.1.1.2.2.2.2.1
  rw [add4 T.2.1.2.2.2.2.2.1 (by omega) e0 ht]
  obtain ⟨f1, f2, f3⟩ := a_mark (m * 4) (by omega)
  obtain ⟨g1, g2, g3⟩ := a_mark (m * 4 + 1) (by omega)
  obtain ⟨i1, i2, i3⟩ := a_mark (m * 4 + 2) (by omega)
  obtain ⟨j1, j2, j3⟩ := a_mark (m * 4 + 3) (by omega)
  have X2 := (T.K K.1).set 4 (by omega) (x := nI (m + 1)) (show h + 11 = _ from rfl) (show 3 = _ from rfl) (tr_f rfl).symm
  have X3 := X2.set (83 + m * 4) (by omega) (x := a) (show h + 11 + 1 = _ by rw [f1]) (show m * 4 = _ from f2.symm) (tr_f f3).symm
  have X4 := X3.set (83 + (m * 4 + 1)) (by omega) (x := b) (show h + 11 + 1 = _ by rw [g1]) (show m * 4 + 1 = _ by rw [g2]) (tr_f g3).symm
  have X5 := X4.set (83 + (m * 4 + 2)) (by omega) (x := c) (show h + 11 + 1 = _ by rw [i1]) (show m * 4 + 2 = _ by rw [i2]) (tr_f i3).symm
  have X6 := X5.set (83 + (m * 4 + 3)) (by omega) (x := d) (show h + 11 + 1 = _ by rw [j1]) (show m * 4 + 3 = _ by rw [j2]) (tr_f j3).symm
  refine ⟨_, rfl, HX.fin (K.mark ht).1 (X6.out (fun k _ hk => ?_) (fun k _ hk => rfl))⟩
  rcases lv_step (s := s) (l := l) (t := t) (n := n) (m := m) (p := p) (by omega) hk with q | q
  · simp only [q, true_or]
  · omega
theorem h_strip (T : HT h σ0 σ V) (K : VK V s l t n m p B) {r : Nat} (hr : r < 4) : ∃ σ', m_X2_strip h (nI r) σ = some σ' ∧ HT h σ0 σ' (vu V (34 + r) (V 33)) := by
  rw [x_strip T.2.1 hr]
  obtain ⟨e1, e2, e3⟩ := a_since r hr
  have e0 : σ.1 h 0 = V 33 := T.2.2.1.2.2.2.2.2.2
  have X1 := (T.K K.1).set (34 + r) (by omega) (x := V 33) (y := σ.1 h 0 + 1) (show h + 5 + 1 = _ by rw [e1]) (show r * 1 + 0 = _ by rw [e2]) (by rw [tr_t e3, e0])
  refine ⟨_, rfl, HX.fin (K.strip hr (.inr rfl)).1 (X1.out (fun k _ hk => ?_) (fun k _ hk => rfl))⟩
  exact .inl hk
theorem h_paper (T : HT h σ0 σ V) (K : VK V s l t n m p B) {r : Nat} (hr : r < 4) : ∃ σ', m_X2_paper h (nI r) σ = some σ' ∧ HT h σ0 σ' (vu V (34 + r) (-1)) := by
  rw [x_paper T.2.1 hr]
  obtain ⟨e1, e2, e3⟩ := a_since r hr
  have X1 := (T.K K.1).set (34 + r) (by omega) (x := -1) (y := 0) (show h + 5 + 1 = _ by rw [e1]) (show r * 1 + 0 = _ by rw [e2]) (by rw [tr_t e3]; rfl)
  refine ⟨_, rfl, HX.fin (K.strip hr (.inl rfl)).1 (X1.out (fun k _ hk => ?_) (fun k _ hk => rfl))⟩
  exact .inl hk
theorem h_go (T : HT h σ0 σ V) (K : VK V s l t n m p B) {i r : Nat} (hi : i < 3) (hr : r < 4) : ∃ σ', m_X6_set (h + 3) (nI i) 1 (nI r) σ = some σ' ∧ HT h σ0 σ' (vu V (38 + i) (nI r)) := by
  rw [show (1 : Int32) = nI 1 from rfl, s_ok T.2.1.2.1 hi (show 1 < 3 by omega)]
  obtain ⟨e1, e2, e3⟩ := a_at i hi
  have X1 := (T.K K.1).set (38 + i) (by omega) (x := nI r) (show h + 3 + 1 = _ by rw [e1]) (show i * 3 + 1 = _ by rw [e2]) (tr_f e3).symm
  refine ⟨_, rfl, HX.fin (K.go hi hr).1 (X1.out (fun k _ hk => ?_) (fun k _ hk => rfl))⟩
  exact .inl hk
end HOUSE
