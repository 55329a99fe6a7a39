/-! ===== PURE: how the model reads an item ===== -/
/-- row 76 is another at c alone -/
def PC (c : Nat) (σ σ' : Sg) : Prop := (∀ a, a ≠ 68 → a ≠ 76 → σ'.1 a = σ.1 a) ∧ (∀ b, b ≠ 10 → b ≠ 11 → σ'.1 68 b = σ.1 68 b) ∧ σ'.2 = σ.2 ∧ ∀ j, j ≠ c → σ'.1 76 j = σ.1 76 j
/-- row 76 is the same below c -/
def PF (c : Nat) (σ σ' : Sg) : Prop := (∀ a, a ≠ 68 → a ≠ 76 → σ'.1 a = σ.1 a) ∧ (∀ b, b ≠ 10 → b ≠ 11 → σ'.1 68 b = σ.1 68 b) ∧ σ'.2 = σ.2 ∧ ∀ j, j < c → σ'.1 76 j = σ.1 76 j
theorem PF.trans {c : Nat} {σ σ' σ'' : Sg} (H : PF c σ σ') (H' : PF c σ' σ'') : PF c σ σ'' := ⟨fun a h1 h2 => (H'.1 a h1 h2).trans (H.1 a h1 h2), fun b h1 h2 => (H'.2.1 b h1 h2).trans (H.2.1 b h1 h2), H'.2.2.1.trans H.2.2.1, fun j hj => (H'.2.2.2 j hj).trans (H.2.2.2 j hj)⟩
theorem PC.f {c d : Nat} {σ σ' : Sg} (H : PC c σ σ') (h : d ≤ c) : PF d σ σ' := ⟨H.1, H.2.1, H.2.2.1, fun j hj => H.2.2.2 j (by omega)⟩
theorem PT.f {σ σ' : Sg} (H : PT σ σ') (d : Nat) : PF d σ σ' := ⟨fun a h1 _ => H.1 a h1, H.2.1, H.2.2, fun j _ => by rw [H.1 76 (by omega)]⟩
theorem PF.mono {c d : Nat} {σ σ' : Sg} (H : PF c σ σ') (h : d ≤ c) : PF d σ σ' := ⟨H.1, H.2.1, H.2.2.1, fun j hj => H.2.2.2 j (by omega)⟩
theorem TY.f {σ σ' : Sg} {n : Nat} {t : Nat → Nat} {c : Nat} (H : TY σ n t) (P : PF c σ σ') : TY σ' n t :=
  ⟨(P.2.1 9 (by omega) (by omega)).trans H.1, fun j hj => by rw [P.1 75 (by omega) (by omega)]; exact H.2.1 j hj, H.2.2⟩
/-- the item that row 76 holds as the k-th -/
def R76 (σ : Sg) (k : Nat) (it : Nat × Nat × Nat × Nat) : Prop :=
  σ.1 76 (4 * k) = nI it.1 ∧ (it.1 ≠ 0 → σ.1 76 (4 * k + 1) = nI it.2.1) ∧ (it.1 = 1 ∨ it.1 = 2 → σ.1 76 (4 * k + 2) = nI it.2.2.1) ∧ (it.1 = 1 → σ.1 76 (4 * k + 3) = nI it.2.2.2)
theorem pNum_lt {n : Nat} {t : Nat → Nat} {lo hi e : Nat} (he : e ≤ n) (hn : n ≤ 150) : ∀ f, pNum n t lo hi e = .inl f → f < 2 ^ 31 := fun f h => by
  have h1 := pNum_f h
  have h2 : sk n t e ≤ n := sk_le he
  omega
theorem pEnd_f {n : Nat} {t : Nat → Nat} {e f : Nat} (h : pEnd n t e = .inl f) : f = sk n t e := by
  unfold pEnd at h
  split at h
  · exact absurd h (by simp)
  · exact (Sum.inl.inj h).symm
theorem pEnd_v {n : Nat} {t : Nat → Nat} {e q : Nat} (h : pEnd n t e = .inr q) : q = sk n t e + 1 := by
  unfold pEnd at h
  split at h
  · exact (Sum.inr.inj h).symm
  · exact absurd h (by simp)
section MREAD
variable {σ : Sg} {n : Nat} {t : Nat → Nat}
theorem pA0 (q : Nat) : pArgs n t 0 q = .inr (q, 0, 0, 0) := rfl
theorem pA1 (q : Nat) : pArgs n t 1 q = sb (pNum n t 0 5 q) (fun a => sb (pNum n t 0 3 a.1) (fun b => sb (pNum n t 1 9 b.1) (fun c => .inr (c.1, a.2, b.2, c.2)))) := rfl
theorem pA2 (q : Nat) : pArgs n t 2 q = sb (pNum n t 0 5 q) (fun a => sb (pNum n t 0 3 a.1) (fun b => .inr (b.1, a.2, b.2, 0))) := rfl
theorem pA5 (q : Nat) : pArgs n t 5 q = sb (pNum n t 1 99 q) (fun a => .inr (a.1, a.2, 0, 0)) := rfl
theorem pA3 {r : Nat} (hr : r = 3 ∨ r = 4) (q : Nat) : pArgs n t r q = sb (pNum n t 0 3 q) (fun a => .inr (a.1, a.2, 0, 0)) := by
  rcases hr with rfl | rfl <;> rfl
theorem y_arg (H : TY σ n t) {p lo hi c : Nat} (hp : p ≤ n) (hlo : lo ≤ 99) (hhi : hi ≤ 99) (hc : c < 152) (e : σ.1 68 10 = nI p) (hF : σ.1 68 11 = -1 ∨ 0 ≤ σ.1 68 11) {β : Type} (kk : Sg → Option β) : ∃ σ', bd2 (m_X8_number (nI lo) (nI hi) σ) (fun r22 σ23 =>
    if (nI c < 0 ∨ len 76 ≤ (nI c).toNatClampNeg) then none else
    (nm (si σ23 76 (nI c).toNatClampNeg r22) kk)) = kk σ' ∧ PC c σ σ' ∧ TY σ' n t ∧ σ'.1 68 11 = FS (σ.1 68 11) (pNum n t lo hi p) ∧ (σ'.1 68 11 = -1 ∨ 0 ≤ σ'.1 68 11) ∧ (∃ q, σ'.1 68 10 = nI q ∧ q ≤ n) ∧ ∀ q x, pNum n t lo hi p = .inr (q, x) → σ'.1 68 10 = nI q ∧ σ'.1 76 c = nI x := by
  have h150 := H.2.2.1
  obtain ⟨v, σ1, f1, P1, e11, ⟨q, eq, hq⟩, hv⟩ := y_num H (by omega) hlo hhi e hF
  have P2 : PC c σ (si σ1 76 c v) := ⟨fun a h1 h2 => (si_row _ _ _ _ h2).trans (P1.1 a h1), fun b h1 h2 => (by rw [si_row _ _ _ _ (by omega)]; exact P1.2.1 b h1 h2), P1.2.2, fun j hj => (si_off' _ _ _ _ _ hj).trans (by rw [P1.1 76 (by omega)])⟩
  have e2 : (si σ1 76 c v).1 68 11 = FS (σ.1 68 11) (pNum n t lo hi p) := by rw [si_row _ _ _ _ (by omega), e11]
  refine ⟨si σ1 76 c v, ?_, P2, H.f (P2.f (Nat.le_refl _)), e2, ?_, ⟨q, by rw [si_row _ _ _ _ (by omega), eq], by omega⟩, fun q x h => ?_⟩
  · rw [f1, bd2_s, ln_76, ix_if hc (by omega), nI_clamp (by omega), nm_eq]
  · rw [e2]
    exact FS_ok hF (pNum_lt hp h150)
  · obtain ⟨h1, h2⟩ := hv q x h
    exact ⟨by rw [si_row _ _ _ _ (by omega), h1], (si_at _ _ _ _).trans h2⟩
theorem y_item (H : TY σ n t) {r q k : Nat} (hr : r ≤ 5) (hq : q ≤ n) (hk : 4 * k + 3 < 152) (e : σ.1 68 10 = nI q) (e11 : σ.1 68 11 = -1) : ∃ σ', m_X8_readItem (nI r) (nI (4 * k)) σ = some σ' ∧ PF (4 * k) σ σ' ∧ σ'.1 68 11 = FS (-1) (sb (pArgs n t r q) (fun a => pEnd n t a.1)) ∧ (∃ p, σ'.1 68 10 = nI p ∧ p ≤ n + 1) ∧ ∀ e' x y z q', pArgs n t r q = .inr (e', x, y, z) → pEnd n t e' = .inr q' → σ'.1 68 10 = nI q' ∧ R76 σ' k (r, x, y, z) := by
  have h150 := H.2.2.1
  have A1 : nI (4 * k) + (1 : Int32) = nI (4 * k + 1) := nI_1 _
  have A2 : nI (4 * k) + (2 : Int32) = nI (4 * k + 2) := nI_add _ 2
  have A3 : nI (4 * k) + (3 : Int32) = nI (4 * k + 3) := nI_add _ 3
  have P0 : PF (4 * k) σ (si σ 76 (4 * k) (nI r)) := ⟨fun a h1 h2 => si_row _ _ _ _ h2, fun b h1 h2 => by rw [si_row _ _ _ _ (by omega)], rfl, fun j hj => si_off' _ _ _ _ _ (by omega)⟩
  have H0 := H.f P0
  have e0 : (si σ 76 (4 * k) (nI r)).1 68 10 = nI q := by rw [si_row _ _ _ _ (by omega), e]
  have e011 : (si σ 76 (4 * k) (nI r)).1 68 11 = -1 := by rw [si_row _ _ _ _ (by omega), e11]
  have c0 : (si σ 76 (4 * k) (nI r)).1 76 (4 * k) = nI r := si_at _ _ _ _
  unfold m_X8_readItem
  rw [ln_76, ix_if (show 4 * k < 152 by omega) (by omega), nI_clamp (show 4 * k < 2 ^ 31 by omega), nm_eq, A1, A2, A3, ← ln_76]
  generalize si σ 76 (4 * k) (nI r) = τ at *
  have fin : ∀ (τ' : Sg) (p : Nat), PF (4 * k) σ τ' → τ'.1 68 10 = nI p → p ≤ n → (τ'.1 68 11 = -1 ∨ 0 ≤ τ'.1 68 11) → ∃ σ', bd1 (m_X8_ends τ') (fun σ4 => some σ4) = some σ' ∧ PF (4 * k) σ σ' ∧ σ'.1 68 11 = FS (τ'.1 68 11) (pEnd n t p) ∧ (∃ p, σ'.1 68 10 = nI p ∧ p ≤ n + 1) ∧ σ'.1 68 10 = nI (sk n t p + 1) ∧ σ'.1 76 = τ'.1 76 := fun τ' p hP h1 h2 h3 => by
    obtain ⟨σ', f, P, g1, g2⟩ := y_ends (H.f hP) (by omega) h1 h3
    have : sk n t p ≤ n := sk_le h2
    exact ⟨σ', by rw [f, bd1_s], hP.trans (P.f _), g1, ⟨_, g2, by omega⟩, g2, P.1 76 (by omega)⟩
  rcases (show r = 0 ∨ r = 1 ∨ r = 2 ∨ r = 5 ∨ r = 3 ∨ r = 4 by omega) with rfl | rfl | rfl | rfl | hr | hr
  · rw [pA0, if_neg (show ¬ nI 0 = (1 : Int32) by decide), if_neg (show ¬ nI 0 = (2 : Int32) by decide), if_neg (show ¬ nI 0 = (5 : Int32) by decide), if_pos (show nI 0 ≤ (2 : Int32) by decide), bd1_s, sb_r]
    obtain ⟨σ', g1, g2, g3, g4, g5, g6⟩ := fin τ q P0 e0 hq (.inl e011)
    refine ⟨σ', g1, g2, by rw [g3, e011], g4, fun e' x y z q' h1 h2 => ⟨?_, ?_, fun z => absurd rfl z, fun z => absurd z (by decide : ¬ ((0 : Nat) = 1 ∨ (0 : Nat) = 2)), fun z => absurd z (by decide : ¬ (0 : Nat) = 1)⟩⟩
    · have h1 : q = e' := congrArg Prod.fst (Sum.inr.inj h1)
      rw [g5, pEnd_v h2, h1]
    · rw [g6]
      exact c0
  · rw [if_pos (show nI 1 = (1 : Int32) from rfl)]
    obtain ⟨τ1, f1, C1, H1, F1, O1, ⟨q1', eq1, hq1⟩, V1⟩ := y_arg H0 (lo := 0) (hi := 5) (c := 4 * k + 1) hq (by omega) (by omega) (by omega) e0 (.inl e011) (fun σ25 =>
      bd2 (m_X8_number (0 : Int32) (3 : Int32) σ25) (fun r26 σ27 =>
      if (nI (4 * k + 2) < 0 ∨ len 76 ≤ (nI (4 * k + 2)).toNatClampNeg) then none else
      (nm (si σ27 76 (nI (4 * k + 2)).toNatClampNeg r26) (fun σ29 =>
      bd2 (m_X8_number (1 : Int32) (9 : Int32) σ29) (fun r30 σ31 =>
      if (nI (4 * k + 3) < 0 ∨ len 76 ≤ (nI (4 * k + 3)).toNatClampNeg) then none else
      (nm (si σ31 76 (nI (4 * k + 3)).toNatClampNeg r30) (fun σ33 =>
      some (σ33))))))))
    obtain ⟨τ2, f2, C2, H2, F2, O2, ⟨q2', eq2, hq2⟩, V2⟩ := y_arg H1 (lo := 0) (hi := 3) (c := 4 * k + 2) hq1 (by omega) (by omega) (by omega) eq1 O1 (fun σ29 =>
      bd2 (m_X8_number (1 : Int32) (9 : Int32) σ29) (fun r30 σ31 =>
      if (nI (4 * k + 3) < 0 ∨ len 76 ≤ (nI (4 * k + 3)).toNatClampNeg) then none else
      (nm (si σ31 76 (nI (4 * k + 3)).toNatClampNeg r30) (fun σ33 =>
      some (σ33)))))
    obtain ⟨τ3, f3, C3, H3, F3, O3, ⟨q3', eq3, hq3⟩, V3⟩ := y_arg H2 (lo := 1) (hi := 9) (c := 4 * k + 3) hq2 (by omega) (by omega) (by omega) eq2 O2 (fun σ33 => some (σ33))
    have PP := P0.trans ((C1.f (d := 4 * k) (by omega)).trans ((C2.f (d := 4 * k) (by omega)).trans (C3.f (d := 4 * k) (by omega))))
    obtain ⟨σ', g1, g2, g3, g4, g5, g6⟩ := fin τ3 q3' PP eq3 hq3 O3
    refine ⟨σ', ?_, g2, ?_, g4, fun e' x y z q' h1 h2 => ?_⟩
    · refine (congrArg (fun w => bd1 w _) (f1.trans (f2.trans f3))).trans ?_
      rw [bd1_s]
      exact g1
    · rw [e011] at F1
      rw [pA1]
      rcases c1 : pNum n t 0 5 q with f | ⟨q1, x⟩
      · have hf := pNum_lt hq h150 f c1
        rw [c1, FS_l] at F1
        rw [F1, FS_f hf] at F2
        rw [F2, FS_f hf] at F3
        rw [g3, F3, FS_f hf, sb_l, sb_l, FS_l]
      obtain ⟨W1, W2⟩ := V1 q1 x c1
      have : q1' = q1 := (nI_eq (by omega) (by have := pNum_ok hq c1; omega)).mp (eq1.symm.trans W1)
      subst this
      rw [c1, FS_r] at F1
      rw [F1] at F2
      rw [sb_r]
      show _ = FS (-1) (sb (sb (pNum n t 0 3 q1') _) _)
      rcases c2 : pNum n t 0 3 q1' with f | ⟨q2, y⟩
      · have hf := pNum_lt hq1 h150 f c2
        rw [c2, FS_l] at F2
        rw [F2, FS_f hf] at F3
        rw [g3, F3, FS_f hf, sb_l, sb_l, FS_l]
      obtain ⟨W3, W4⟩ := V2 q2 y c2
      have : q2' = q2 := (nI_eq (by omega) (by have := pNum_ok hq1 c2; omega)).mp (eq2.symm.trans W3)
      subst this
      rw [c2, FS_r] at F2
      rw [F2] at F3
      rw [sb_r]
      show _ = FS (-1) (sb (sb (pNum n t 1 9 q2') _) _)
      rcases c3 : pNum n t 1 9 q2' with f | ⟨q3, z⟩
      · have hf := pNum_lt hq2 h150 f c3
        rw [c3, FS_l] at F3
        rw [g3, F3, FS_f hf, sb_l, sb_l, FS_l]
      obtain ⟨W5, W6⟩ := V3 q3 z c3
      have : q3' = q3 := (nI_eq (by omega) (by have := pNum_ok hq2 c3; omega)).mp (eq3.symm.trans W5)
      subst this
      rw [c3, FS_r] at F3
      rw [g3, F3, sb_r, sb_r]
    · rcases c1 : pNum n t 0 5 q with f | ⟨q1, x1⟩
      · rw [pA1, c1, sb_l] at h1
        exact absurd h1 (by simp)
      obtain ⟨W1, W2⟩ := V1 q1 x1 c1
      have : q1' = q1 := (nI_eq (by omega) (by have := pNum_ok hq c1; omega)).mp (eq1.symm.trans W1)
      subst this
      rcases c2 : pNum n t 0 3 q1' with f | ⟨q2, x2⟩
      · rw [pA1, c1, sb_r, c2, sb_l] at h1
        exact absurd h1 (by simp)
      obtain ⟨W3, W4⟩ := V2 q2 x2 c2
      have : q2' = q2 := (nI_eq (by omega) (by have := pNum_ok hq1 c2; omega)).mp (eq2.symm.trans W3)
      subst this
      rcases c3 : pNum n t 1 9 q2' with f | ⟨q3, x3⟩
      · rw [pA1, c1, sb_r, c2, sb_r, c3, sb_l] at h1
        exact absurd h1 (by simp)
      obtain ⟨W5, W6⟩ := V3 q3 x3 c3
      have : q3' = q3 := (nI_eq (by omega) (by have := pNum_ok hq2 c3; omega)).mp (eq3.symm.trans W5)
      subst this
      rw [pA1, c1, sb_r, c2, sb_r, c3, sb_r] at h1
      have h1 := Sum.inr.inj h1
      simp only [Prod.mk.injEq] at h1
      obtain ⟨y1, y2, y3, y4⟩ := h1
      subst y1 y2 y3 y4
      refine ⟨by rw [g5, pEnd_v h2], ?_, fun _ => ?_, fun _ => ?_, fun _ => ?_⟩
      · rw [g6, C3.2.2.2 _ (by omega), C2.2.2.2 _ (by omega), C1.2.2.2 _ (by omega)]
        exact c0
      · rw [g6, C3.2.2.2 _ (by omega), C2.2.2.2 _ (by omega)]
        exact W2
      · rw [g6, C3.2.2.2 _ (by omega)]
        exact W4
      · rw [g6]
        exact W6
  · rw [if_neg (show ¬ nI 2 = (1 : Int32) by decide), if_pos (show nI 2 = (2 : Int32) from rfl)]
    obtain ⟨τ1, f1, C1, H1, F1, O1, ⟨q1', eq1, hq1⟩, V1⟩ := y_arg H0 (lo := 0) (hi := 5) (c := 4 * k + 1) hq (by omega) (by omega) (by omega) e0 (.inl e011) (fun σ25 =>
      bd2 (m_X8_number (0 : Int32) (3 : Int32) σ25) (fun r26 σ27 =>
      if (nI (4 * k + 2) < 0 ∨ len 76 ≤ (nI (4 * k + 2)).toNatClampNeg) then none else
      (nm (si σ27 76 (nI (4 * k + 2)).toNatClampNeg r26) (fun σ29 =>
      some (σ29)))))
    obtain ⟨τ2, f2, C2, H2, F2, O2, ⟨q2', eq2, hq2⟩, V2⟩ := y_arg H1 (lo := 0) (hi := 3) (c := 4 * k + 2) hq1 (by omega) (by omega) (by omega) eq1 O1 (fun σ29 => some (σ29))
    have PP := P0.trans ((C1.f (d := 4 * k) (by omega)).trans (C2.f (d := 4 * k) (by omega)))
    obtain ⟨σ', g1, g2, g3, g4, g5, g6⟩ := fin τ2 q2' PP eq2 hq2 O2
    refine ⟨σ', ?_, g2, ?_, g4, fun e' x y z q' h1 h2 => ?_⟩
    · refine (congrArg (fun w => bd1 w _) (f1.trans f2)).trans ?_
      rw [bd1_s]
      exact g1
    · rw [e011] at F1
      rw [pA2]
      rcases c1 : pNum n t 0 5 q with f | ⟨q1, x⟩
      · have hf := pNum_lt hq h150 f c1
        rw [c1, FS_l] at F1
        rw [F1, FS_f hf] at F2
        rw [g3, F2, FS_f hf, sb_l, sb_l, FS_l]
      obtain ⟨W1, W2⟩ := V1 q1 x c1
      have : q1' = q1 := (nI_eq (by omega) (by have := pNum_ok hq c1; omega)).mp (eq1.symm.trans W1)
      subst this
      rw [c1, FS_r] at F1
      rw [F1] at F2
      rw [sb_r]
      show _ = FS (-1) (sb (sb (pNum n t 0 3 q1') _) _)
      rcases c2 : pNum n t 0 3 q1' with f | ⟨q2, y⟩
      · have hf := pNum_lt hq1 h150 f c2
        rw [c2, FS_l] at F2
        rw [g3, F2, FS_f hf, sb_l, sb_l, FS_l]
      obtain ⟨W3, W4⟩ := V2 q2 y c2
      have : q2' = q2 := (nI_eq (by omega) (by have := pNum_ok hq1 c2; omega)).mp (eq2.symm.trans W3)
      subst this
      rw [c2, FS_r] at F2
      rw [g3, F2, sb_r, sb_r]
    · rcases c1 : pNum n t 0 5 q with f | ⟨q1, x1⟩
      · rw [pA2, c1, sb_l] at h1
        exact absurd h1 (by simp)
      obtain ⟨W1, W2⟩ := V1 q1 x1 c1
      have : q1' = q1 := (nI_eq (by omega) (by have := pNum_ok hq c1; omega)).mp (eq1.symm.trans W1)
      subst this
      rcases c2 : pNum n t 0 3 q1' with f | ⟨q2, x2⟩
      · rw [pA2, c1, sb_r, c2, sb_l] at h1
        exact absurd h1 (by simp)
      obtain ⟨W3, W4⟩ := V2 q2 x2 c2
      have : q2' = q2 := (nI_eq (by omega) (by have := pNum_ok hq1 c2; omega)).mp (eq2.symm.trans W3)
      subst this
      rw [pA2, c1, sb_r, c2, sb_r] at h1
      have h1 := Sum.inr.inj h1
      simp only [Prod.mk.injEq] at h1
      obtain ⟨y1, y2, y3, y4⟩ := h1
      subst y1 y2 y3 y4
      refine ⟨by rw [g5, pEnd_v h2], ?_, fun _ => ?_, fun _ => ?_, fun w => absurd w (by decide : ¬ (2 : Nat) = 1)⟩
      · rw [g6, C2.2.2.2 _ (by omega), C1.2.2.2 _ (by omega)]
        exact c0
      · rw [g6, C2.2.2.2 _ (by omega)]
        exact W2
      · rw [g6]
        exact W4
  · rw [if_neg (show ¬ nI 5 = (1 : Int32) by decide), if_neg (show ¬ nI 5 = (2 : Int32) by decide), if_pos (show nI 5 = (5 : Int32) from rfl)]
    obtain ⟨τ1, f1, C1, H1, F1, O1, ⟨q1', eq1, hq1⟩, V1⟩ := y_arg H0 (lo := 1) (hi := 99) (c := 4 * k + 1) hq (by omega) (by omega) (by omega) e0 (.inl e011) (fun σ25 => some (σ25))
    have PP := P0.trans (C1.f (d := 4 * k) (by omega))
    obtain ⟨σ', g1, g2, g3, g4, g5, g6⟩ := fin τ1 q1' PP eq1 hq1 O1
    refine ⟨σ', ?_, g2, ?_, g4, fun e' x y z q' h1 h2 => ?_⟩
    · refine (congrArg (fun w => bd1 w _) f1).trans ?_
      rw [bd1_s]
      exact g1
    · rw [e011] at F1
      rw [pA5]
      rcases c1 : pNum n t 1 99 q with f | ⟨q1, x⟩
      · have hf := pNum_lt hq h150 f c1
        rw [c1, FS_l] at F1
        rw [g3, F1, FS_f hf, sb_l, sb_l, FS_l]
      obtain ⟨W1, W2⟩ := V1 q1 x c1
      have : q1' = q1 := (nI_eq (by omega) (by have := pNum_ok hq c1; omega)).mp (eq1.symm.trans W1)
      subst this
      rw [c1, FS_r] at F1
      rw [g3, F1, sb_r, sb_r]
    · rcases c1 : pNum n t 1 99 q with f | ⟨q1, x1⟩
      · rw [pA5, c1, sb_l] at h1
        exact absurd h1 (by simp)
      obtain ⟨W1, W2⟩ := V1 q1 x1 c1
      have : q1' = q1 := (nI_eq (by omega) (by have := pNum_ok hq c1; omega)).mp (eq1.symm.trans W1)
      subst this
      rw [pA5, c1, sb_r] at h1
      have h1 := Sum.inr.inj h1
      simp only [Prod.mk.injEq] at h1
      obtain ⟨y1, y2, y3, y4⟩ := h1
      subst y1 y2 y3 y4
      refine ⟨by rw [g5, pEnd_v h2], ?_, fun _ => ?_, fun w => absurd w (by decide : ¬ ((5 : Nat) = 1 ∨ (5 : Nat) = 2)), fun w => absurd w (by decide : ¬ (5 : Nat) = 1)⟩
      · rw [g6, C1.2.2.2 _ (by omega)]
        exact c0
      · rw [g6]
        exact W2
  all_goals
    subst hr
    rw [if_neg (by decide), if_neg (by decide), if_neg (by decide), if_neg (by decide)]
    obtain ⟨τ1, f1, C1, H1, F1, O1, ⟨q1', eq1, hq1⟩, V1⟩ := y_arg H0 (lo := 0) (hi := 3) (c := 4 * k + 1) hq (by omega) (by omega) (by omega) e0 (.inl e011) (fun σ25 => some (σ25))
    have PP := P0.trans (C1.f (d := 4 * k) (by omega))
    obtain ⟨σ', g1, g2, g3, g4, g5, g6⟩ := fin τ1 q1' PP eq1 hq1 O1
    refine ⟨σ', ?_, g2, ?_, g4, fun e' x y z q' h1 h2 => ?_⟩
    · refine (congrArg (fun w => bd1 w _) f1).trans ?_
      rw [bd1_s]
      exact g1
    · rw [e011] at F1
      rw [pA3 (by omega)]
      rcases c1 : pNum n t 0 3 q with f | ⟨q1, x⟩
      · have hf := pNum_lt hq h150 f c1
        rw [c1, FS_l] at F1
        rw [g3, F1, FS_f hf, sb_l, sb_l, FS_l]
      obtain ⟨W1, W2⟩ := V1 q1 x c1
      have : q1' = q1 := (nI_eq (by omega) (by have := pNum_ok hq c1; omega)).mp (eq1.symm.trans W1)
      subst this
      rw [c1, FS_r] at F1
      rw [g3, F1, sb_r, sb_r]
    · rcases c1 : pNum n t 0 3 q with f | ⟨q1, x1⟩
      · rw [pA3 (by omega), c1, sb_l] at h1
        exact absurd h1 (by simp)
      obtain ⟨W1, W2⟩ := V1 q1 x1 c1
      have : q1' = q1 := (nI_eq (by omega) (by have := pNum_ok hq c1; omega)).mp (eq1.symm.trans W1)
      subst this
      rw [pA3 (by omega), c1, sb_r] at h1
      have h1 := Sum.inr.inj h1
      simp only [Prod.mk.injEq] at h1
      obtain ⟨y1, y2, y3, y4⟩ := h1
      subst y1 y2 y3 y4
      refine ⟨by rw [g5, pEnd_v h2], ?_, fun _ => ?_, fun w => absurd w (by simp), fun w => absurd w (by simp)⟩
      · rw [g6, C1.2.2.2 _ (by omega)]
        exact c0
      · rw [g6]
        exact W2
end MREAD
