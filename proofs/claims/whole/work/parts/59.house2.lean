/-! ===== PURE: what a house remembers, what time does ===== -/
theorem nI_prd {n : Nat} (h : 1 ≤ n) (hn : n ≤ 200) : nI n - 1 = nI (n - 1) := by
  apply Int32.toInt_inj.mp
  rw [toInt_pred hn, nI_toInt (by omega)]
  omega
theorem e_drop {σ : Sg} {k lim w n : Nat} (hR : RS σ k lim w) (hs : σ.1 k 3 = nI n) (h1 : 1 ≤ n) (hn : n ≤ lim) : ∃ σ', m_X6_dropFirst k σ = some σ' ∧ σ'.2 = σ.2 ∧ (∀ a, a ≠ k → a ≠ k + 1 → σ'.1 a = σ.1 a) ∧ (∀ b, b ≠ 3 → σ'.1 k b = σ.1 k b) ∧ σ'.1 k 3 = nI (n - 1) ∧ ∀ j, j + w < lim * w → σ'.1 (k + 1) j = σ.1 (k + 1) (j + w) := by
  obtain ⟨r0, r1, r2, r3, r4, r5⟩ := id hR
  have loop : ∀ (kx : Sg → Option Sg) F v (σ' : Sg), v ≤ lim * w → lim * w < v + F → (σ'.2 = σ.2 ∧ (∀ a, a ≠ k + 1 → σ'.1 a = σ.1 a) ∧ (∀ j, j < v → j + w < lim * w → σ'.1 (k + 1) j = σ.1 (k + 1) (j + w)) ∧ ∀ j, v ≤ j → σ'.1 (k + 1) j = σ.1 (k + 1) j) → ∃ σ'', m_X6_dropFirst_L2 k kx F (nI v) σ' = kx σ'' ∧ (σ''.2 = σ.2 ∧ (∀ a, a ≠ k + 1 → σ''.1 a = σ.1 a) ∧ (∀ j, j + w < lim * w → σ''.1 (k + 1) j = σ.1 (k + 1) (j + w))) := by
    intro kx F
    induction F with
    | zero => intro v σ' q1 q2; exact absurd q2 (by omega)
    | succ F ih =>
      intro v σ' q1 q2 ⟨i1, i2, i3, i4⟩
      rw [m_X6_dropFirst_L2.eq_2, r2]
      rcases Nat.lt_or_ge v (lim * w) with q | q
      · rw [if_neg (nI_ge q (by omega)), i2 k (by omega), r1, nI_add, nm_eq, if_neg (nI_pos (by omega))]
        rcases Nat.lt_or_ge (v + w) (lim * w) with c | c
        · rw [if_neg (nI_ge c (by omega)), ix_if c (by omega), ix_if q (by omega), nI_clamp (by omega), nI_clamp (by omega), nm_eq, bd1_s, nI_1, nm_eq]
          refine ih (v + 1) _ (by omega) (by omega) ⟨i1, fun a ha => (si_row _ _ _ _ ha).trans (i2 a ha), fun j g1 g2 => ?_, fun j g1 => ?_⟩
          · rw [si_1]
            by_cases e : j = v
            · subst e
              rw [if_pos ⟨rfl, rfl⟩]
              exact i4 _ (by omega)
            · rw [if_neg (fun z => e z.2)]
              exact i3 j (by omega) g2
          · rw [si_off' _ _ _ _ _ (by omega)]
            exact i4 j (by omega)
        · rw [if_pos (nI_le c (by omega)), bd1_s, nI_1, nm_eq]
          exact ih (v + 1) _ (by omega) (by omega) ⟨i1, i2, fun j g1 g2 => i3 j (by omega) g2, fun j g1 => i4 j (by omega)⟩
      · rw [if_pos (nI_le q (by omega))]
        exact ⟨σ', rfl, i1, i2, fun j g => i3 j (by omega) g⟩
  unfold m_X6_dropFirst
  rw [nm_eq]
  obtain ⟨σ', e, i1, i2, i3⟩ := loop (fun σ7 =>
    nm (if (0 : Int32) < ((σ7.1 k 3) - (1 : Int32)) then ((σ7.1 k 3) - (1 : Int32)) else (0 : Int32)) (fun x8 =>
    nm (si σ7 k 3 x8) (fun σ9 =>
    some σ9))) 1000 0 σ (by omega) (by omega) ⟨rfl, fun _ _ => rfl, fun j g => absurd g (by omega), fun _ _ => rfl⟩
  refine ⟨_, e, i1, fun a h1 h2 => (si_row _ _ _ _ h1).trans (i2 a h2), fun b hb => (si_off' _ _ _ _ _ hb).trans (by rw [i2 k (by omega)]), ?_, fun j hj => ?_⟩
  · rw [si_at, i2 k (by omega), hs, nI_prd h1 (by omega)]
    rcases Nat.lt_or_ge 0 (n - 1) with c | c
    · rw [if_pos (show (0 : Int32) < nI (n - 1) from nI_lt (show 0 < n - 1 from c) (by omega))]
    · rw [show n - 1 = 0 by omega]
      rfl
  · rw [si_row _ _ _ _ (by omega)]
    exact i3 j hj
theorem lv_top {s l t n m p k : Nat} (h : lv s l t n m p k) : k < 107 ∨ k < 107 + p * 11 := by
  unfold lv at h
  omega
section HOUSE2
variable {h : Nat} {σ0 σ : Sg} {V : Vw} {s l t n m p B : Nat}
theorem h_push (T : HT h σ0 σ V) (K : VK V s l t n m p 9999) (hp : p < 8) : ∃ σ', (bd2 (m_X6_add (h + 13) (σ.1 h 0) (0 : Int32) (0 : Int32) (0 : Int32) σ) (fun r5 σ6 =>
    nm ((0 : Int32)) (fun x8 =>
    m_X2_remember_L34 h r5 (fun σ14 =>
    nm ((0 : Int32)) (fun x15 =>
    m_X2_remember_L67 h r5 (fun _ => none) 1000 x15 σ14)) 1000 x8 σ6))) = some σ' ∧ HT h σ0 σ' (vPush V p) := by
  have loop2 : ∀ (kx : Sg → Option Sg) F i (σ : Sg), i ≤ 3 → 3 < i + F → HX h σ0 σ (fun k => lv s l t n m p k ∨ (107 + p * 11 ≤ k ∧ k < 112 + p * 11) ∨ (112 + p * 11 ≤ k ∧ k < 112 + p * 11 + i ∧ k < 112 + p * 11 + l) ∨ (115 + p * 11 ≤ k ∧ k < 115 + p * 11 + i ∧ k < 115 + p * 11 + l)) (vPush V p) → ∃ σ', m_X2_remember_L67 h (nI p) kx F (nI i) σ = some σ' ∧ HX h σ0 σ' (lv s l t n m (p + 1)) (vPush V p) := by
    obtain ⟨b0, b1, b2, b3, b4, b5⟩ := K.1.B
    intro kx F
    induction F with
    | zero => intro i σ h1 h2; exact absurd h2 (by omega)
    | succ F ih =>
      intro i σ h1 h2 X
      rw [m_X2_remember_L67.eq_2, show (3 : Int32) = nI 3 from rfl]
      rcases Nat.lt_or_ge i 3 with q | q
      · obtain ⟨e1, e2, e3⟩ := a_undo (p * 11 + (5 + i)) (by omega)
        obtain ⟨f1, f2, f3⟩ := a_undo (p * 11 + (8 + i)) (by omega)
        rw [show (p * 11 + (5 + i)) % 11 = 5 + i by omega] at e3
        rw [show (p * 11 + (8 + i)) % 11 = 8 + i by omega] at f3
        have e3 : gr (107 + (p * 11 + (5 + i))) = false := e3.trans (by have : ¬ 5 + i < 5 := (by omega); simp [this])
        have f3 : gr (107 + (p * 11 + (8 + i))) = false := f3.trans (by have : ¬ 8 + i < 5 := (by omega); simp [this])
        rw [if_neg (nI_ge q (by omega)), show (1 : Int32) = nI 1 from rfl, g_ok X.2.1.2.1 q (by omega), bd1_s, show (5 : Int32) = nI 5 from rfl, nI_add, s_ok X.2.1.2.2.2.2.2.2 hp (by omega), bd1_s]
        have Y := X.set (107 + (p * 11 + (5 + i))) (by omega) (show h + 13 + 1 = _ by rw [e1]) (show p * 11 + (5 + i) = _ from e2.symm) (tr_f (x := σ.1 (h + 3 + 1) (i * 3 + 1)) e3).symm
        rw [show (2 : Int32) = nI 2 from rfl, g_ok Y.2.1.2.1 q (by omega), bd1_s, show (8 : Int32) = nI 8 from rfl, nI_add, s_ok Y.2.1.2.2.2.2.2.2 hp (by omega), bd1_s, nI_add, nm_eq]
        have Z := Y.set (107 + (p * 11 + (8 + i))) (by omega) (show h + 13 + 1 = _ by rw [f1]) (show p * 11 + (8 + i) = _ from f2.symm) (tr_f (x := (si σ (h + 13 + 1) (p * 11 + (5 + i)) (σ.1 (h + 3 + 1) (i * 3 + 1))).1 (h + 3 + 1) (i * 3 + 2)) f3).symm
        refine ih (i + 1) _ (by omega) (by omega) (Z.out (fun k _ hk => ?_) (fun k _ hk => ?_))
        · rcases hk with hk | hk | hk | hk
          · exact .inl (.inl (.inl hk))
          · exact .inl (.inl (.inr (.inl hk)))
          · by_cases c : k = 112 + p * 11 + i
            · exact .inl (.inr (by omega))
            · exact .inl (.inl (.inr (.inr (.inl (by omega)))))
          · by_cases c : k = 115 + p * 11 + i
            · exact .inr (by omega)
            · exact .inl (.inl (.inr (.inr (.inr (by omega)))))
        · have hlt : lv s l t n m p k → k < 107 + p * 11 := fun hk => by have := lv_top hk; omega
          have hne1 : i < l → σ.1 (h + 3 + 1) (i * 3 + 1) = V (38 + i) := fun hi => by
            obtain ⟨g1, g2, g3⟩ := a_at i q
            have := X.2.2 (38 + i) (by omega) (.inl (.inr (.inr (.inr (.inr (.inr (.inr (.inl ⟨by omega, by omega, by omega⟩))))))))
            rw [g1, g2, tr_f g3] at this
            refine this.trans ?_
            (try simp only [vSay, vEar, vTold, vNote, vMark, vReset, vShift, vPush, vPop, vTick, vu]; repeat (first | rw [if_pos trivial] | rw [if_pos (by omega)] | rw [if_neg (by omega)]))
          have hne2 : i < l → (si σ (h + 13 + 1) (p * 11 + (5 + i)) (σ.1 (h + 3 + 1) (i * 3 + 1))).1 (h + 3 + 1) (i * 3 + 2) = V (41 + i) := fun hi => by
            obtain ⟨g1, g2, g3⟩ := a_know i q
            have := X.2.2 (41 + i) (by omega) (.inl (.inr (.inr (.inr (.inr (.inr (.inr (.inr (.inl ⟨by omega, by omega, by omega⟩)))))))))
            rw [g1, g2, tr_f g3] at this
            rw [si_row _ _ _ _ (by omega)]
            refine this.trans ?_
            (try simp only [vSay, vEar, vTold, vNote, vMark, vReset, vShift, vPush, vPop, vTick, vu]; repeat (first | rw [if_pos trivial] | rw [if_pos (by omega)] | rw [if_neg (by omega)]))
          have hk' : (k < 107 + p * 11 ∨ (107 + p * 11 ≤ k ∧ k < 112 + p * 11)) ∨ (k ≠ 107 + (p * 11 + (5 + i)) ∧ k ≠ 107 + (p * 11 + (8 + i))) ∨ (i < l ∧ (k = 107 + (p * 11 + (5 + i)) ∨ k = 107 + (p * 11 + (8 + i)))) := by
            rcases hk with hk | hk | hk | hk
            · exact .inl (.inl (hlt hk))
            · exact .inl (.inr hk)
            · by_cases c : k = 107 + (p * 11 + (5 + i))
              · exact .inr (.inr (by omega))
              · exact .inr (.inl (by omega))
            · by_cases c : k = 107 + (p * 11 + (8 + i))
              · exact .inr (.inr (by omega))
              · exact .inr (.inl (by omega))
          rcases hk' with hk' | hk' | ⟨hi, hk' | hk'⟩
          · rw [vu_off _ _ (by omega), vu_off _ _ (by omega)]
          · rw [vu_off _ _ (by omega), vu_off _ _ (by omega)]
          · subst hk'
            rw [vu_off _ _ (by omega), vu_at, hne1 hi]
            (try simp only [vSay, vEar, vTold, vNote, vMark, vReset, vShift, vPush, vPop, vTick, vu]; repeat (first | rw [if_pos trivial] | rw [if_pos (by omega)] | rw [if_neg (by omega)]))
            rw [show 33 + (107 + (p * 11 + (5 + i)) - (107 + p * 11)) = 38 + i by omega]
          · subst hk'
            rw [vu_at, hne2 hi]
            (try simp only [vSay, vEar, vTold, vNote, vMark, vReset, vShift, vPush, vPop, vTick, vu]; repeat (first | rw [if_pos trivial] | rw [if_pos (by omega)] | rw [if_neg (by omega)]))
            rw [show 33 + (107 + (p * 11 + (8 + i)) - (107 + p * 11)) = 41 + i by omega]
      · have : i = 3 := by omega
        subst this
        rw [if_pos (nI_le (Nat.le_refl _) (by omega))]
        refine ⟨σ, rfl, X.out (fun k _ hk => ?_) (fun k _ _ => rfl)⟩
        rcases Nat.lt_or_ge k (107 + p * 11) with c | c
        · rcases lv_step (s := s) (l := l) (t := t) (n := n) (m := m) (p := p + 1) (p' := p + 1) (by omega) hk with q | q
          · refine .inl ?_
            rcases q with q | q | q | q | q | q | q | q | q | q | q | ⟨q1, q2, q3, q4⟩
            · exact .inl q
            · exact .inr (.inl q)
            · exact .inr (.inr (.inl q))
            · exact .inr (.inr (.inr (.inl q)))
            · exact .inr (.inr (.inr (.inr (.inl q))))
            · exact .inr (.inr (.inr (.inr (.inr (.inl q)))))
            · exact .inr (.inr (.inr (.inr (.inr (.inr (.inl q))))))
            · exact .inr (.inr (.inr (.inr (.inr (.inr (.inr (.inl q)))))))
            · exact .inr (.inr (.inr (.inr (.inr (.inr (.inr (.inr (.inl q))))))))
            · exact .inr (.inr (.inr (.inr (.inr (.inr (.inr (.inr (.inr (.inl q)))))))))
            · exact .inr (.inr (.inr (.inr (.inr (.inr (.inr (.inr (.inr (.inr (.inl q))))))))))
            · exact .inr (.inr (.inr (.inr (.inr (.inr (.inr (.inr (.inr (.inr (.inr ⟨q1, c, q3, q4⟩))))))))))
          · omega
        · unfold lv at hk
          have hk : k < 107 + (p + 1) * 11 ∧ ((k - 107) % 11 < 5 + l ∨ (8 ≤ (k - 107) % 11 ∧ (k - 107) % 11 < 8 + l)) := by omega
          have e : (k - 107) % 11 = k - (107 + p * 11) := by omega
          rw [e] at hk
          exact .inr (by omega)
  have loop1 : ∀ (kx : Sg → Option Sg) F r (σ : Sg), r ≤ 4 → 4 < r + F → HX h σ0 σ (fun k => lv s l t n m p k ∨ (107 + p * 11 ≤ k ∧ k < 108 + p * 11 + r)) (vPush V p) → ∃ σ', m_X2_remember_L34 h (nI p) kx F (nI r) σ = kx σ' ∧ HX h σ0 σ' (fun k => lv s l t n m p k ∨ (107 + p * 11 ≤ k ∧ k < 112 + p * 11)) (vPush V p) := by
    intro kx F
    induction F with
    | zero => intro i σ h1 h2; exact absurd h2 (by omega)
    | succ F ih =>
      intro r σ h1 h2 X
      rw [m_X2_remember_L34.eq_2, show (4 : Int32) = nI 4 from rfl]
      rcases Nat.lt_or_ge r 4 with q | q
      · obtain ⟨e1, e2, e3⟩ := a_undo (p * 11 + (1 + r)) (by omega)
        rw [show (p * 11 + (1 + r)) % 11 = 1 + r by omega] at e3
        have e3 : gr (107 + (p * 11 + (1 + r))) = true := e3.trans (by have : 1 + r < 5 := (by omega); simp [this])
        obtain ⟨g1, g2, g3⟩ := a_since r q
        have hv : σ.1 (h + 5 + 1) (r * 1 + 0) = V (34 + r) + 1 := by
          have := X.2.2 (34 + r) (by omega) (.inl (.inr (.inr (.inr (.inr (.inr (.inl ⟨by omega, by omega⟩)))))))
          rw [g1, g2, tr_t g3] at this
          refine this.trans ?_
          (try simp only [vSay, vEar, vTold, vNote, vMark, vReset, vShift, vPush, vPop, vTick, vu]; repeat (first | rw [if_pos trivial] | rw [if_pos (by omega)] | rw [if_neg (by omega)]))
        rw [if_neg (nI_ge q (by omega)), show (0 : Int32) = nI 0 from rfl, g_ok X.2.1.2.2.1 q (by omega), bd1_s, show (1 : Int32) = nI 1 from rfl, nI_add, s_ok X.2.1.2.2.2.2.2.2 hp (by omega), bd1_s, nI_add, nm_eq]
        have Y := X.set (107 + (p * 11 + (1 + r))) (by omega) (x := V (34 + r)) (show h + 13 + 1 = _ by rw [e1]) (show p * 11 + (1 + r) = _ from e2.symm) (show σ.1 (h + 5 + 1) (r * 1 + 0) = _ by rw [hv, tr_t e3])
        refine ih (r + 1) _ (by omega) (by omega) (Y.out (fun k _ hk => ?_) (fun k _ hk => ?_))
        · rcases hk with hk | hk
          · exact .inl (.inl hk)
          · by_cases c : k = 108 + p * 11 + r
            · exact .inr (by omega)
            · exact .inl (.inr (by omega))
        · by_cases c : k = 107 + (p * 11 + (1 + r))
          · subst c
            (try simp only [vSay, vEar, vTold, vNote, vMark, vReset, vShift, vPush, vPop, vTick, vu]; repeat (first | rw [if_pos trivial] | rw [if_pos (by omega)] | rw [if_neg (by omega)]))
            rw [show 33 + (107 + (p * 11 + (1 + r)) - (107 + p * 11)) = 34 + r by omega]
          · rw [vu_off _ _ c]
      · have : r = 4 := by omega
        subst this
        rw [if_pos (nI_le (Nat.le_refl _) (by omega))]
        refine ⟨σ, rfl, X.out (fun k _ hk => ?_) (fun k _ _ => rfl)⟩
        rcases hk with hk | hk
        · exact .inl hk
        · exact .inr (by omega)
  have e0 : σ.1 (h + 13) 3 = nI p := (T.2.2.1.2.2.2.2.2.1).trans K.1.1.2.2.2.2.2
  have em : σ.1 h 0 = V 33 := T.2.2.1.2.2.2.2.2.2
  rw [add4 T.2.1.2.2.2.2.2.2 (by omega) e0 hp, bd2_s, nm_eq, em]
  have A : ∀ c, c < 4 → ro (107 + (p * 11 + c)) = 14 ∧ co (107 + (p * 11 + c)) = p * 11 + c := fun c hc => ⟨(a_undo _ (by omega)).1, (a_undo _ (by omega)).2.1⟩
  have G0 : gr (107 + (p * 11 + 0)) = false := by
    rw [(a_undo (p * 11 + 0) (by omega)).2.2, show (p * 11 + 0) % 11 = 0 by omega]
    rfl
  have G : ∀ c, 1 ≤ c → c < 4 → gr (107 + (p * 11 + c)) = true := fun c hc hc2 => by
    rw [(a_undo (p * 11 + c) (by omega)).2.2, show (p * 11 + c) % 11 = c by omega]
    have : c < 5 := by omega
    simp [this, hc]
  have X1 := (T.K K.1).set 5 (by omega) (x := nI (p + 1)) (show h + 13 = _ from rfl) (show 3 = _ from rfl) (tr_f rfl).symm
  have X2 := X1.set (107 + (p * 11 + 0)) (by omega) (x := V 33) (show h + 13 + 1 = _ by rw [(A 0 (by omega)).1]) (show p * 11 = _ from (A 0 (by omega)).2.symm) (tr_f G0).symm
  have X3 := X2.set (107 + (p * 11 + 1)) (by omega) (x := -1) (y := 0) (show h + 13 + 1 = _ by rw [(A 1 (by omega)).1]) (show p * 11 + 1 = _ from (A 1 (by omega)).2.symm) (by rw [tr_t (G 1 (by omega) (by omega))]; rfl)
  have X4 := X3.set (107 + (p * 11 + 2)) (by omega) (x := -1) (y := 0) (show h + 13 + 1 = _ by rw [(A 2 (by omega)).1]) (show p * 11 + 2 = _ from (A 2 (by omega)).2.symm) (by rw [tr_t (G 2 (by omega) (by omega))]; rfl)
  have X5 := X4.set (107 + (p * 11 + 3)) (by omega) (x := -1) (y := 0) (show h + 13 + 1 = _ by rw [(A 3 (by omega)).1]) (show p * 11 + 3 = _ from (A 3 (by omega)).2.symm) (by rw [tr_t (G 3 (by omega) (by omega))]; rfl)
  obtain ⟨σ1, e1, Y⟩ := loop1 (fun σ14 =>
    nm ((0 : Int32)) (fun x15 =>
    m_X2_remember_L67 h (nI p) (fun _ => none) 1000 x15 σ14)) 1000 0 _ (by omega) (by omega) (X5.out (L' := fun k => lv s l t n m p k ∨ (107 + p * 11 ≤ k ∧ k < 108 + p * 11 + 0)) (V' := vPush V p) (fun k _ hk => by
      rcases hk with hk | hk
      · simp only [hk, true_or]
      · omega) (fun k _ hk => by
      have hk : k < 108 + p * 11 := by
        rcases hk with hk | hk
        · have := lv_top hk
          omega
        · omega
      by_cases c : k = 5
      · (try simp only [vSay, vEar, vTold, vNote, vMark, vReset, vShift, vPush, vPop, vTick, vu]; repeat (first | rw [if_pos trivial] | rw [if_pos (by omega)] | rw [if_neg (by omega)]))
      · by_cases c2 : k = 107 + (p * 11 + 0)
        · subst c2
          (try simp only [vSay, vEar, vTold, vNote, vMark, vReset, vShift, vPush, vPop, vTick, vu]; repeat (first | rw [if_pos trivial] | rw [if_pos (by omega)] | rw [if_neg (by omega)]))
          rw [show 107 + (p * 11 + 0) - (107 + p * 11) = 0 by omega]
        · (try simp only [vSay, vEar, vTold, vNote, vMark, vReset, vShift, vPush, vPop, vTick, vu]; repeat (first | rw [if_pos trivial] | rw [if_pos (by omega)] | rw [if_neg (by omega)]))))
  obtain ⟨σ2, e2, Z⟩ := loop2 (fun _ => none) 1000 0 _ (by omega) (by omega) (Y.out (fun k _ hk => by
    rcases hk with hk | hk | hk | hk
    · exact .inl hk
    · exact .inr hk
    · exact absurd hk (by omega)
    · exact absurd hk (by omega)) (fun k _ _ => rfl))
  exact ⟨σ2, e1.trans e2, HX.fin (K.push hp).1 Z⟩
theorem h_shift (T : HT h σ0 σ V) (K : VK V s l t n m 8 B) : ∃ σ', m_X6_dropFirst (h + 13) σ = some σ' ∧ HT h σ0 σ' (vShift V) := by
  have e0 : σ.1 (h + 13) 3 = nI 8 := (T.2.2.1.2.2.2.2.2.1).trans K.1.1.2.2.2.2.2
  obtain ⟨σ', e, i1, i2, i3, i4, i5⟩ := e_drop T.2.1.2.2.2.2.2.2 e0 (by omega) (by omega)
  refine ⟨σ', e, HX.fin K.shift.1 ⟨T.1.trans ⟨fun a ha => i2 a (by omega) (by omega), i1⟩, ?_, ?_⟩⟩
  · obtain ⟨s1, s2, s3, s4, s5, s6, s7⟩ := T.2.1
    have k0 : ∀ d, d < 13 → σ'.1 (h + d) = σ.1 (h + d) := fun d hd => i2 _ (by omega) (by omega)
    exact ⟨s1.keep (by rw [k0 1 (by omega)]) (by rw [k0 1 (by omega)]), s2.keep (by rw [k0 3 (by omega)]) (by rw [k0 3 (by omega)]), s3.keep (by rw [k0 5 (by omega)]) (by rw [k0 5 (by omega)]), s4.keep (by rw [k0 7 (by omega)]) (by rw [k0 7 (by omega)]), s5.keep (by rw [k0 9 (by omega)]) (by rw [k0 9 (by omega)]), s6.keep (by rw [k0 11 (by omega)]) (by rw [k0 11 (by omega)]), s7.keep (i3 0 (by omega)) (i3 1 (by omega))⟩
  · have X := (T.K K.1).2.2
    intro j hj hl
    rcases Nat.lt_or_ge j 107 with c | c
    · by_cases c5 : j = 5
      · subst c5
        show σ'.1 (h + 13) 3 = tr 5 _
        rw [i4, tr_f rfl]
        (try simp only [vSay, vEar, vTold, vNote, vMark, vReset, vShift, vPush, vPop, vTick, vu]; repeat (first | rw [if_pos trivial] | rw [if_pos (by omega)] | rw [if_neg (by omega)]))
        rfl
      · have hr : ro j ≠ 13 ∧ ro j ≠ 14 := by
          have : ∀ j, j < 107 → j ≠ 5 → ro j ≠ 13 ∧ ro j ≠ 14 := by decide +kernel
          exact this j c c5
        rw [i2 _ (by omega) (by omega), X j hj]
        · (try simp only [vSay, vEar, vTold, vNote, vMark, vReset, vShift, vPush, vPop, vTick, vu]; repeat (first | rw [if_pos trivial] | rw [if_pos (by omega)] | rw [if_neg (by omega)]))
        · rcases lv_step (s := s) (l := l) (t := t) (n := n) (m := m) (p := 8) (p' := 7) (by omega) hl with q | q
          · exact q
          · omega
    · have h11 : j + 11 < 195 := by
        have := lv_top hl
        omega
      obtain ⟨x, rfl⟩ : ∃ x, j = 107 + x := ⟨j - 107, by omega⟩
      obtain ⟨e1, e2, e3⟩ := a_undo x (by omega)
      obtain ⟨f1, f2, f3⟩ := a_undo (x + 11) (by omega)
      have hL : lv s l t n m 8 (107 + (x + 11)) := by
        rcases hl with q | q | q | q | q | q | q | q | q | q | q | ⟨q1, q2, q3, q4⟩
        · omega
        · omega
        · omega
        · omega
        · omega
        · omega
        · omega
        · omega
        · omega
        · omega
        · omega
        · exact .inr (.inr (.inr (.inr (.inr (.inr (.inr (.inr (.inr (.inr (.inr ⟨by omega, by omega, by omega, by
            rw [show 107 + (x + 11) - 107 = x + 11 by omega, show (x + 11) % 11 = x % 11 by omega]
            rw [show 107 + x - 107 = x by omega] at q4
            exact q4⟩))))))))))
      have hx := X (107 + (x + 11)) (by omega) hL
      rw [f1, f2] at hx
      rw [e1, e2, show h + 14 = h + 13 + 1 from rfl, i5 x (by omega), show h + 13 + 1 = h + 14 from rfl, hx]
      have eg : gr (107 + (x + 11)) = gr (107 + x) := by
        rw [f3, e3, show (x + 11) % 11 = x % 11 by omega]
      have ev : vShift V (107 + x) = V (107 + (x + 11)) := by
        (try simp only [vSay, vEar, vTold, vNote, vMark, vReset, vShift, vPush, vPop, vTick, vu]; repeat (first | rw [if_pos trivial] | rw [if_pos (by omega)] | rw [if_neg (by omega)]))
        rw [show 107 + (x + 11) = 107 + x + 11 by omega]
      unfold tr
      rw [eg, ev]
theorem h_keep (T : HT h σ0 σ V) (K : VK V s l t n m p 9999) : ∃ σ', m_X2_remember h σ = some σ' ∧ HT h σ0 σ' (vKeep V p) := by
  have e0 : σ.1 (h + 13) 3 = nI p := (T.2.2.1.2.2.2.2.2.1).trans K.1.1.2.2.2.2.2
  have hb := K.1.B
  unfold m_X2_remember vKeep
  by_cases c : p = 8
  · subst c
    rw [if_pos rfl, full_yes T.2.1.2.2.2.2.2.2 e0 rfl, bd1_s, if_neg (by decide)]
    obtain ⟨σ', e, T'⟩ := h_shift T K
    rw [e, bd1_s, bd1_s]
    exact h_push T' K.shift (by omega)
  · rw [if_neg c, full_no T.2.1.2.2.2.2.2.2 e0 (by omega), bd1_s, if_pos rfl, bd1_s]
    exact h_push T K (by omega)
end HOUSE2
