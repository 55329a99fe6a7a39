/-! ===== PURE: how the class reads a house ===== -/
def vItem (it : Nat × Nat × Nat × Nat) (V : Vw) : Vw :=
  if it.1 = 0 then vReset V else if it.1 = 1 then vSay V (nS V) (nI it.2.1) (nI it.2.2.1) (nI it.2.2.2) else if it.1 = 2 then vEar V (nL V) (nI it.2.1) (nI it.2.2.1) else if it.1 = 3 then vu V (34 + it.2.1) (V 33) else if it.1 = 4 then vu V (34 + it.2.1) (-1) else vTicks (nL V) 9999 it.2.1 V
def vFold : List (Nat × Nat × Nat × Nat) → Vw → Vw
  | [], V => V
  | it :: L, V => vFold L (vItem it V)
theorem VK.item {V : Vw} {s l : Nat} (K : VK V s l 0 0 0 0 9999) {it : Nat × Nat × Nat × Nat} (ok : okI it s l) (h0 : it.1 ≠ 0) : VK (vItem it V) (s + if it.1 = 1 then 1 else 0) (l + if it.1 = 2 then 1 else 0) 0 0 0 0 9999 := by
  obtain ⟨o1, o2, o3, o4, o5, o6, o7, o8⟩ := ok
  obtain ⟨n1, n2, _⟩ := K.1.N
  unfold vItem
  rw [if_neg h0, n1, n2]
  by_cases r1 : it.1 = 1
  · rw [if_pos r1, if_pos r1, if_neg (by omega)]
    exact K.say (o2 r1).1 (o2 r1).2.1 _ _
  rw [if_neg r1, if_neg r1]
  by_cases r2 : it.1 = 2
  · rw [if_pos r2, if_pos r2]
    exact K.ear (o3 r2).1 (o3 r2).2.1 (o3 r2).2.2
  rw [if_neg r2, if_neg r2]
  by_cases r3 : it.1 = 3
  · rw [if_pos r3]
    exact K.strip (o4 (.inl r3)) (.inr rfl)
  rw [if_neg r3]
  by_cases r4 : it.1 = 4
  · rw [if_pos r4]
    exact K.strip (o4 (.inr r4)) (.inl rfl)
  rw [if_neg r4]
  exact VK.ticks (by omega) _ _ K
theorem VK.item0 {V : Vw} {it : Nat × Nat × Nat × Nat} (h0 : it.1 = 0) : VK (vItem it V) 0 0 0 0 0 0 9999 := by
  unfold vItem
  rw [if_pos h0]
  exact VK.reset V 9999
section CREAD
variable {σ : Sg} {n : Nat} {t : Nat → Nat}
theorem x_obey {W : Vw} {s l r x y z : Nat} (S : HS σ 16) (H : HV σ 16 W) (K : VK W s l 0 0 0 0 9999) (ok : okI (r, x, y, z) s l) (h0 : r ≠ 0) (G : RG σ r x y z) : ∃ σ', m_X5_obey 16 (nI r) σ = some σ' ∧ HT 16 σ σ' (vItem (r, x, y, z) W) := by
  have T := HT.of S H
  obtain ⟨o1, o2, o3, o4, o5, o6, o7, o8⟩ := ok
  obtain ⟨g1, g2, g3, g4⟩ := G
  obtain ⟨n1, n2, _⟩ := K.1.N
  have o1 : r ≤ 5 := o1
  unfold vItem m_X5_obey
  rw [if_neg (show ¬ (r, x, y, z).1 = 0 from h0), n1, n2]
  rcases (show r = 1 ∨ r = 2 ∨ r = 3 ∨ r = 4 ∨ r = 5 by omega) with rfl | rfl | rfl | rfl | rfl
  · obtain ⟨e1, e2, e3⟩ := g1 rfl
    obtain ⟨p1, p2, p3⟩ := o2 rfl
    obtain ⟨σ', f, T'⟩ := h_say T K p1 p2 (nI y) (nI z)
    rw [if_pos (show nI 1 = 1 from rfl), if_pos (show (1, x, y, z).1 = 1 from rfl), e1, e2, e3, f, bd2_s]
    exact ⟨σ', rfl, T'⟩
  · obtain ⟨e1, e2⟩ := g2 rfl
    obtain ⟨p1, p2, p3⟩ := o3 rfl
    obtain ⟨σ', f, T'⟩ := h_ear T K p1 p2 p3
    rw [if_neg (show ¬ nI 2 = 1 by decide), if_pos (show nI 2 = 2 from rfl), if_neg (show ¬ (2, x, y, z).1 = 1 from (by decide : ¬ (2 : Nat) = 1)), if_pos (show (2, x, y, z).1 = 2 from rfl), e1, e2, f, bd2_s]
    exact ⟨σ', rfl, T'⟩
  · have e1 := g3 (.inl rfl)
    obtain ⟨σ', f, T'⟩ := h_strip T K (o4 (.inl rfl))
    rw [if_neg (show ¬ nI 3 = 1 by decide), if_neg (show ¬ nI 3 = 2 by decide), if_pos (show nI 3 = 3 from rfl), if_neg (show ¬ (3, x, y, z).1 = 1 from (by decide : ¬ (3 : Nat) = 1)), if_neg (show ¬ (3, x, y, z).1 = 2 from (by decide : ¬ (3 : Nat) = 2)), if_pos (show (3, x, y, z).1 = 3 from rfl), e1, f, bd1_s]
    exact ⟨σ', rfl, T'⟩
  · have e1 := g3 (.inr rfl)
    obtain ⟨σ', f, T'⟩ := h_paper T K (o4 (.inr rfl))
    rw [if_neg (show ¬ nI 4 = 1 by decide), if_neg (show ¬ nI 4 = 2 by decide), if_neg (show ¬ nI 4 = 3 by decide), if_pos (show nI 4 = 4 from rfl), if_neg (show ¬ (4, x, y, z).1 = 1 from (by decide : ¬ (4 : Nat) = 1)), if_neg (show ¬ (4, x, y, z).1 = 2 from (by decide : ¬ (4 : Nat) = 2)), if_neg (show ¬ (4, x, y, z).1 = 3 from (by decide : ¬ (4 : Nat) = 3)), if_pos (show (4, x, y, z).1 = 4 from rfl), e1, f, bd1_s]
    exact ⟨σ', rfl, T'⟩
  · have e1 := g4 rfl
    have p1 : x ≤ 99 := o5 rfl
    obtain ⟨σ', f, T'⟩ := h_pass (lim := 9999) (N := x) (by omega) (by omega) T K
    rw [if_neg (show ¬ nI 5 = 1 by decide), if_neg (show ¬ nI 5 = 2 by decide), if_neg (show ¬ nI 5 = 3 by decide), if_neg (show ¬ nI 5 = 4 by decide), if_neg (show ¬ (5, x, y, z).1 = 1 from (by decide : ¬ (5 : Nat) = 1)), if_neg (show ¬ (5, x, y, z).1 = 2 from (by decide : ¬ (5 : Nat) = 2)), if_neg (show ¬ (5, x, y, z).1 = 3 from (by decide : ¬ (5 : Nat) = 3)), if_neg (show ¬ (5, x, y, z).1 = 4 from (by decide : ¬ (5 : Nat) = 4)), e1, show (9999 : Int32) = nI 9999 from rfl, f, bd1_s]
    exact ⟨σ', rfl, T'⟩
theorem x_may {W : Vw} {s l k r : Nat} (S : HS σ 16) (H : HV σ 16 W) (K : VK W s l 0 0 0 0 9999) (hk : k ≠ 0) (hr : r ≤ 6) : m_X5_mayBegin 16 (nI (if r = 0 ∨ r = 6 then 0 else r)) σ = some (b01 (¬ (r = 6 ∨ (r = 0 ∧ k ≠ 0) ∨ (r ≠ 0 ∧ k = 0) ∨ (r = 1 ∧ 8 ≤ s) ∨ (r = 2 ∧ 3 ≤ l)))) := by
  have b := K.1.B
  have e1 : σ.1 (16 + 1) 3 = nI s := H.1.1.trans K.1.1.1
  have e2 : σ.1 (16 + 3) 3 = nI l := H.1.2.1.trans K.1.1.2.1
  unfold m_X5_mayBegin b01
  rcases (show r = 0 ∨ r = 1 ∨ r = 2 ∨ r = 3 ∨ r = 4 ∨ r = 5 ∨ r = 6 by omega) with rfl | rfl | rfl | rfl | rfl | rfl | rfl
  · rw [if_pos (show (0 : Nat) = 0 ∨ (0 : Nat) = 6 by omega), if_pos (show nI 0 = 0 from rfl), if_neg (by omega)]
  · rw [if_neg (show ¬ ((1 : Nat) = 0 ∨ (1 : Nat) = 6) by omega), if_neg (show ¬ nI 1 = 0 by decide), if_pos (show nI 1 = 1 from rfl)]
    by_cases c : s = 8
    · rw [full_yes S.1 e1 c, bd1_s, if_neg (by decide), if_neg (by omega)]
    · rw [full_no S.1 e1 (by omega), bd1_s, if_pos rfl, if_pos (by omega)]
  · rw [if_neg (show ¬ ((2 : Nat) = 0 ∨ (2 : Nat) = 6) by omega), if_neg (show ¬ nI 2 = 0 by decide), if_neg (show ¬ nI 2 = 1 by decide), if_pos (show nI 2 = 2 from rfl)]
    by_cases c : l = 3
    · rw [full_yes S.2.1 e2 c, bd1_s, if_neg (by decide), if_neg (by omega)]
    · rw [full_no S.2.1 e2 (by omega), bd1_s, if_pos rfl, if_pos (by omega)]
  · rw [if_neg (show ¬ ((3 : Nat) = 0 ∨ (3 : Nat) = 6) by omega), if_neg (show ¬ nI 3 = 0 by decide), if_neg (show ¬ nI 3 = 1 by decide), if_neg (show ¬ nI 3 = 2 by decide), if_pos (by omega)]
  · rw [if_neg (show ¬ ((4 : Nat) = 0 ∨ (4 : Nat) = 6) by omega), if_neg (show ¬ nI 4 = 0 by decide), if_neg (show ¬ nI 4 = 1 by decide), if_neg (show ¬ nI 4 = 2 by decide), if_pos (by omega)]
  · rw [if_neg (show ¬ ((5 : Nat) = 0 ∨ (5 : Nat) = 6) by omega), if_neg (show ¬ nI 5 = 0 by decide), if_neg (show ¬ nI 5 = 1 by decide), if_neg (show ¬ nI 5 = 2 by decide), if_pos (by omega)]
  · rw [if_pos (show (6 : Nat) = 0 ∨ (6 : Nat) = 6 by omega), if_pos (show nI 0 = 0 from rfl), if_neg (by omega)]
/-- the draft and the reader are others -/
def QF (σ σ' : Sg) : Prop := (∀ a, a ≠ 61 → ¬ (16 ≤ a ∧ a < 31) → σ'.1 a = σ.1 a) ∧ σ'.2 = σ.2
theorem QF.trans {σ σ' σ'' : Sg} (H : QF σ σ') (H' : QF σ' σ'') : QF σ σ'' := ⟨fun a h1 h2 => (H'.1 a h1 h2).trans (H.1 a h1 h2), H'.2.trans H.2⟩
theorem FR.q {σ σ' : Sg} (H : FR 61 σ σ') : QF σ σ' := ⟨fun a h1 h2 => H.1 a h1, H.2⟩
theorem HF.q {σ σ' : Sg} (H : HF 16 σ σ') : QF σ σ' := ⟨fun a h1 h2 => H.1 a (by omega), H.2⟩
theorem TX.q {σ' : Sg} (H : TX σ n t) (F : QF σ σ') : TX σ' n t := H.fr (F.1 62 (by omega) (by omega)) (F.1 63 (by omega) (by omega))
theorem HS.f {σ' : Sg} (H : HS σ 16) (F : FR 61 σ σ') : HS σ' 16 := H.keep (fun a h1 h2 => F.1 a (by omega))
theorem HV.f {σ' : Sg} {W : Vw} (H : HV σ 16 W) (F : FR 61 σ σ') : HV σ' 16 W := H.keep (fun a h1 h2 => F.1 a (by omega))
theorem x_items (kx : Sg → Option (Int32 × Sg)) : ∀ Fp F k s l e (W : Vw) (σ : Sg), 1 ≤ k → 4 * k ≤ e → e ≤ n → 40 ≤ k + Fp → 60 ≤ k + F → TX σ n t → HS σ 16 → HV σ 16 W → VK W s l 0 0 0 0 9999 → σ.1 61 2 = nI e → (∀ f, pAll n t Fp k s l e = .inl f → ∃ σ', m_X5_readInto_L39 16 kx F (nI k) σ = some (-10 - nI f, σ') ∧ QF σ σ' ∧ HS σ' 16) ∧ (∀ L, pAll n t Fp k s l e = .inr L → ∃ σ', m_X5_readInto_L39 16 kx F (nI k) σ = some (nI (k + L.length), σ') ∧ QF σ σ' ∧ HS σ' 16 ∧ HV σ' 16 (vFold L W)) := by
  intro Fp
  induction Fp with
  | zero =>
    intro F k s l e W σ h1 h2 h3 h4 h5 H
    have := H.2.2.2.1
    omega
  | succ Fp ih =>
    intro F k s l e W σ h1 h2 h3 h4 h5 H S HH K e2
    have h150 := H.2.2.2.1
    obtain ⟨F', rfl⟩ : ∃ F', F = F' + 1 := ⟨F - 1, by omega⟩
    have hb : sk n t e ≤ n := sk_le h3
    obtain ⟨σ1, f1, G1, TK1⟩ := x_tok H h3 e2
    have H1 := H.g G1
    have S1 := S.f G1.1
    have HH1 := HH.f G1.1
    have k0 := TK1.1
    rw [m_X5_readInto_L39.eq_2, show (150 : Int32) = nI 150 from rfl, if_neg (nI_nlt (show k ≤ 150 by omega) (by omega)), f1, bd1_s]
    show (∀ f, (if k ≠ 0 ∧ n ≤ sk n t e then .inr [] else sb (pItem n t k s l e) _ : Nat ⊕ List (Nat × Nat × Nat × Nat)) = .inl f → _) ∧ (∀ L, (if k ≠ 0 ∧ n ≤ sk n t e then .inr [] else sb (pItem n t k s l e) _ : Nat ⊕ List (Nat × Nat × Nat × Nat)) = .inr L → _)
    by_cases c : n ≤ sk n t e
    · rw [if_pos ⟨by omega, c⟩, if_pos (TK1.2.2.2.1 c)]
      refine ⟨fun f h => absurd h (by simp), fun L h => ?_⟩
      have : [] = L := Sum.inr.inj h
      subst this
      exact ⟨σ1, rfl, G1.1.q, S1, HH1⟩
    rw [if_neg (fun z => c z.2), if_neg (TK1.2.2.2.2 c), x_begun H1 hb TK1, bd1_s, x_may (k := k) S1 HH1 K (by omega) (wh_le _), bd1_s, b01_z]
    by_cases no : noI (wh n t (sk n t e)) k s l
    · rw [if_neg (fun z => z no), pItem_no no, sb_l, k0]
      exact ⟨fun f h => ⟨σ1, by rw [Sum.inl.inj h], G1.1.q, S1⟩, fun L h => absurd h (by simp)⟩
    have no' := no
    unfold noI at no'
    rw [if_pos no', pItem_yes no]
    have hle := wh_le (n := n) (t := t) (sk n t e)
    have hw : wh n t (sk n t e) ≠ 0 ∧ wh n t (sk n t e) ≠ 6 := by omega
    rw [if_neg (by omega)]
    have hwd := of_decide_eq_true (wh_is (n := n) (t := t) (b := sk n t e) (by omega))
    have hl := wl_in (wh n t (sk n t e)) (by omega)
    have hso : so n t (sk n t e) = 1 := Classical.byContradiction (fun z => by
      have := rs_none (n := n) (t := t) (s := 1) (b := sk n t e) (.inl z)
      omega)
    have hq : rs n t 1 (sk n t e) ≤ n := rs_le hb
    obtain ⟨A1, A2⟩ := x_args H1 (r := wh n t (sk n t e)) (by omega) (by omega) hq (TK1.2.1 hso).2
    rcases c1 : pArgs n t (wh n t (sk n t e)) (rs n t 1 (sk n t e)) with f | ⟨q1, x, y, z⟩
    · obtain ⟨σ2, f2, G2, g2⟩ := A1 f c1
      rw [f2, bd2_s, if_pos rfl, sb_l, sb_l, g2]
      exact ⟨fun f' h => ⟨σ2, by rw [Sum.inl.inj h], (G1.1.trans G2).q, S1.f G2⟩, fun L h => absurd h (by simp)⟩
    obtain ⟨σ2, f2, G2, g2, RG2⟩ := A2 q1 x y z c1
    have o1 := pArgs_ok hq c1
    have H2 := H1.f G2
    rw [f2, bd2_s, if_neg (by decide), sb_r]
    obtain ⟨B1, B2⟩ := x_stop H2 o1.2.1 g2
    show (∀ f, sb (sb (pEnd n t q1) _) _ = .inl f → _) ∧ (∀ L, sb (sb (pEnd n t q1) _) _ = .inr L → _)
    rcases c2 : pEnd n t q1 with f | q2
    · obtain ⟨σ3, f3, G3, g3⟩ := B1 f c2
      rw [f3, bd2_s, if_pos rfl, sb_l, sb_l, g3]
      exact ⟨fun f' h => ⟨σ3, by rw [Sum.inl.inj h], (G1.1.trans (G2.trans G3.1)).q, (S1.f G2).f G3.1⟩, fun L h => absurd h (by simp)⟩
    obtain ⟨σ3, f3, G3, g3, g4⟩ := B2 q2 c2
    rw [f3, bd2_s, if_neg (by decide), sb_r, sb_r]
    have S3 := (S1.f G2).f G3.1
    have HH3 := (HH1.f G2).f G3.1
    have RG3 : RG σ3 (wh n t (sk n t e)) x y z := by
      obtain ⟨w1, w2, w3, w4⟩ := RG2
      exact ⟨fun w => by rw [G3.2.1, G3.2.2, g4]; exact w1 w, fun w => by rw [G3.2.1, G3.2.2]; exact w2 w, fun w => by rw [G3.2.2]; exact w3 w, fun w => by rw [g4]; exact w4 w⟩
    have pe : pItem n t k s l e = .inr (q2, wh n t (sk n t e), x, y, z) := by
      rw [pItem_yes no, c1, sb_r]
      show sb (pEnd n t q1) _ = _
      rw [c2, sb_r]
    obtain ⟨i1, i2, i3, i4⟩ := pItem_ok h3 pe
    obtain ⟨σ4, f4, T4⟩ := x_obey S3 HH3 K i3 hw.1 RG3
    rw [f4, bd1_s, nI_1, nm_eq]
    have Q4 : QF σ σ4 := (G1.1.trans (G2.trans G3.1)).q.trans T4.1.q
    have e4 : σ4.1 61 2 = nI q2 := by
      rw [T4.1.1 61 (by omega), g3]
    obtain ⟨I1, I2⟩ := ih F' (k + 1) _ _ q2 _ σ4 (by omega) (by omega) i2 (by omega) (by omega) (H.q Q4) T4.2.1 T4.2.2 (K.item i3 hw.1) e4
    show (∀ f, sb (pAll n t Fp (k + 1) (s + if wh n t (sk n t e) = 1 then 1 else 0) (l + if wh n t (sk n t e) = 2 then 1 else 0) q2) _ = .inl f → _) ∧ (∀ L, sb (pAll n t Fp (k + 1) (s + if wh n t (sk n t e) = 1 then 1 else 0) (l + if wh n t (sk n t e) = 2 then 1 else 0) q2) _ = .inr L → _)
    rcases c5 : pAll n t Fp (k + 1) (s + if wh n t (sk n t e) = 1 then 1 else 0) (l + if wh n t (sk n t e) = 2 then 1 else 0) q2 with f | L
    · obtain ⟨σ5, f5, Q5, S5⟩ := I1 f c5
      rw [sb_l, f5]
      exact ⟨fun f' h => ⟨σ5, by rw [Sum.inl.inj h], Q4.trans Q5, S5⟩, fun L h => absurd h (by simp)⟩
    · obtain ⟨σ5, f5, Q5, S5, V5⟩ := I2 L c5
      rw [sb_r, f5]
      refine ⟨fun f' h => absurd h (by simp), fun L' h => ?_⟩
      have h : (wh n t (sk n t e), x, y, z) :: L = L' := Sum.inr.inj h
      subst h
      exact ⟨σ5, by rw [List.length_cons, show k + 1 + L.length = k + (L.length + 1) by omega], Q4.trans Q5, S5, V5⟩
end CREAD
/-- a house is made as at first, whatever it held -/
theorem h_reset0 {h : Nat} {σ : Sg} (S : HS σ h) (V : Vw) : ∃ σ', m_X2_reset h σ = some σ' ∧ HT h σ σ' (vReset V) := by
  have loop : ∀ (kx : Sg → Option Sg) F r (σ1 : Sg) (L : Nat → Prop) (V : Vw), r ≤ 4 → 4 < r + F → HX h σ σ1 L V → ∃ σ', m_X2_reset_L23 h kx F (nI r) σ1 = kx σ' ∧ HX h σ σ' (fun k => L k ∨ (34 + r ≤ k ∧ k < 38)) (fun k => if 34 + r ≤ k ∧ k < 38 then -1 else V k) := by
    intro kx F
    induction F with
    | zero => intro r σ1 L V h1 h2; exact absurd h2 (by omega)
    | succ F ih =>
      intro r σ1 L V h1 h2 X
      rw [m_X2_reset_L23.eq_2, show (4 : Int32) = nI 4 from rfl]
      rcases Nat.lt_or_ge r 4 with q | q
      · rw [if_neg (nI_ge q (by omega)), x_paper X.2.1 q, bd1_s, nI_1, nm_eq]
        obtain ⟨e1, e2, e3⟩ := a_since r q
        obtain ⟨σ', e, X'⟩ := ih (r + 1) _ _ _ (by omega) (by omega) (X.set (34 + r) (by omega) (x := -1) (show h + 5 + 1 = _ by rw [e1]) (show r * 1 + 0 = _ by rw [e2]) (by rw [tr_t e3]))
        refine ⟨σ', e, X'.out (fun k _ hk => ?_) (fun k _ hk => ?_)⟩
        · rcases hk with hk | hk
          · exact .inl (.inl hk)
          · by_cases c : k = 34 + r
            · exact .inl (.inr c)
            · exact .inr (by omega)
        by_cases c : k = 34 + r
        · subst c
          (try simp only [vSay, vEar, vTold, vNote, vMark, vReset, vShift, vPush, vPop, vTick, vu]; repeat (first | rw [if_pos trivial] | rw [if_pos (by omega)] | rw [if_neg (by omega)]))
        · by_cases c2 : 34 + r ≤ k ∧ k < 38
          · (try simp only [vSay, vEar, vTold, vNote, vMark, vReset, vShift, vPush, vPop, vTick, vu]; repeat (first | rw [if_pos trivial] | rw [if_pos (by omega)] | rw [if_neg (by omega)]))
          · (try simp only [vSay, vEar, vTold, vNote, vMark, vReset, vShift, vPush, vPop, vTick, vu]; repeat (first | rw [if_pos trivial] | rw [if_pos (by omega)] | rw [if_neg (by omega)]))
      · have : r = 4 := by omega
        subst this
        rw [if_pos (nI_le (Nat.le_refl _) (by omega))]
        refine ⟨σ1, rfl, X.out (fun k _ hk => ?_) (fun k _ hk => if_neg (by omega))⟩
        rcases hk with hk | hk
        · exact hk
        · exact absurd hk (by omega)
  have X0 : HX h σ σ (fun _ => False) V := ⟨HF.rfl' _ _, S, fun j _ z => z.elim⟩
  have X1 := X0.set 33 (by omega) (x := 0) (show h = _ from rfl) (show 0 = _ from rfl) (show (0 : Int32) = _ from rfl)
  have X2 := X1.set 0 (by omega) (x := 0) (show h + 1 = _ from rfl) (show 3 = _ from rfl) (show (0 : Int32) = _ from rfl)
  have X3 := X2.set 1 (by omega) (x := 0) (show h + 3 = _ from rfl) (show 3 = _ from rfl) (show (0 : Int32) = _ from rfl)
  unfold m_X2_reset
  obtain ⟨σ', e, X4⟩ := loop (fun σ12 =>
    bd2 (m_X6_empty (h + 7) σ12) (fun r13 σ14 =>
    bd2 (m_X6_empty (h + 9) σ14) (fun r16 σ17 =>
    bd2 (m_X6_empty (h + 11) σ17) (fun r19 σ20 =>
    bd2 (m_X6_empty (h + 13) σ20) (fun r22 σ23 =>
    some σ23))))) 1000 0 _ _ _ (by omega) (by omega) X3
  have X5 := X4.set 2 (by omega) (x := 0) (show h + 7 = _ from rfl) (show 3 = _ from rfl) (show (0 : Int32) = _ from rfl)
  have X6 := X5.set 3 (by omega) (x := 0) (show h + 9 = _ from rfl) (show 3 = _ from rfl) (show (0 : Int32) = _ from rfl)
  have X7 := X6.set 4 (by omega) (x := 0) (show h + 11 = _ from rfl) (show 3 = _ from rfl) (show (0 : Int32) = _ from rfl)
  have X8 := X7.set 5 (by omega) (x := 0) (show h + 13 = _ from rfl) (show 3 = _ from rfl) (show (0 : Int32) = _ from rfl)
  refine ⟨_, e, HX.fin (VK.reset V 0).1 (X8.out (fun k _ hk => ?_) (fun k _ hk => ?_))⟩
  · unfold lv at hk
    omega
  · unfold lv at hk
    rcases (show k = 0 ∨ k = 1 ∨ k = 2 ∨ k = 3 ∨ k = 4 ∨ k = 5 ∨ k = 33 ∨ (34 ≤ k ∧ k < 38) by omega) with c | c | c | c | c | c | c | c
    · (try simp only [vSay, vEar, vTold, vNote, vMark, vReset, vShift, vPush, vPop, vTick, vu]; repeat (first | rw [if_pos trivial] | rw [if_pos (by omega)] | rw [if_neg (by omega)]))
    · (try simp only [vSay, vEar, vTold, vNote, vMark, vReset, vShift, vPush, vPop, vTick, vu]; repeat (first | rw [if_pos trivial] | rw [if_pos (by omega)] | rw [if_neg (by omega)]))
    · (try simp only [vSay, vEar, vTold, vNote, vMark, vReset, vShift, vPush, vPop, vTick, vu]; repeat (first | rw [if_pos trivial] | rw [if_pos (by omega)] | rw [if_neg (by omega)]))
    · (try simp only [vSay, vEar, vTold, vNote, vMark, vReset, vShift, vPush, vPop, vTick, vu]; repeat (first | rw [if_pos trivial] | rw [if_pos (by omega)] | rw [if_neg (by omega)]))
    · (try simp only [vSay, vEar, vTold, vNote, vMark, vReset, vShift, vPush, vPop, vTick, vu]; repeat (first | rw [if_pos trivial] | rw [if_pos (by omega)] | rw [if_neg (by omega)]))
    · (try simp only [vSay, vEar, vTold, vNote, vMark, vReset, vShift, vPush, vPop, vTick, vu]; repeat (first | rw [if_pos trivial] | rw [if_pos (by omega)] | rw [if_neg (by omega)]))
    · (try simp only [vSay, vEar, vTold, vNote, vMark, vReset, vShift, vPush, vPop, vTick, vu]; repeat (first | rw [if_pos trivial] | rw [if_pos (by omega)] | rw [if_neg (by omega)]))
    · (try simp only [vSay, vEar, vTold, vNote, vMark, vReset, vShift, vPush, vPop, vTick, vu]; repeat (first | rw [if_pos trivial] | rw [if_pos (by omega)] | rw [if_neg (by omega)]))
/-- the house that a text tells, in the draft -/
theorem x_into {σ : Sg} {n : Nat} {t : Nat → Nat} (H : TX σ n t) (S : HS σ 16) (V : Vw) : (∀ f, pAll n t 40 0 0 0 0 = .inl f → ∃ σ', m_X5_readInto 16 σ = some (-10 - nI f, σ') ∧ QF σ σ' ∧ HS σ' 16) ∧ (∀ L, pAll n t 40 0 0 0 0 = .inr L → ∃ σ', m_X5_readInto 16 σ = some (nI L.length, σ') ∧ QF σ σ' ∧ HS σ' 16 ∧ HV σ' 16 (vFold L V)) := by
  obtain ⟨σ1, f1, T1⟩ := h_reset0 S V
  have Q2 : QF σ (si σ1 61 2 0) := T1.1.q.trans (FR.q (FR.set (k := 61) (σ := σ1) (σ' := σ1) ⟨fun _ _ => rfl, rfl⟩ 2 0))
  have H2 := H.q Q2
  have F2 : FR 61 σ1 (si σ1 61 2 0) := FR.set (k := 61) (σ := σ1) (σ' := σ1) ⟨fun _ _ => rfl, rfl⟩ 2 0
  obtain ⟨σ3, f3, G3, TK3⟩ := x_tok H2 (e := 0) (by omega) (si_at _ _ _ _)
  have H3 := H2.g G3
  have hb : sk n t 0 ≤ n := sk_le (by omega)
  have S3 := (T1.2.1.f F2).f G3.1
  have V3 := (T1.2.2.f F2).f G3.1
  have Q3 := Q2.trans G3.1.q
  have hle := wh_le (n := n) (t := t) (sk n t 0)
  unfold m_X5_readInto
  rw [f1, bd1_s, nm_eq, f3, bd1_s, x_isWord H3 hb TK3 (show 0 < 6 by omega), bd1_s, TK3.1]
  show (∀ f, (if (0 : Nat) ≠ 0 ∧ n ≤ sk n t 0 then .inr [] else sb (pItem n t 0 0 0 0) _ : Nat ⊕ List (Nat × Nat × Nat × Nat)) = .inl f → _) ∧ (∀ L, (if (0 : Nat) ≠ 0 ∧ n ≤ sk n t 0 then .inr [] else sb (pItem n t 0 0 0 0) _ : Nat ⊕ List (Nat × Nat × Nat × Nat)) = .inr L → _)
  rw [if_neg (show ¬ ((0 : Nat) ≠ 0 ∧ n ≤ sk n t 0) from fun z => z.1 rfl)]
  by_cases c : wh n t (sk n t 0) = 0
  · have cw : isW n t (sk n t 0) 0 = true := by
      have := wh_is (n := n) (t := t) (b := sk n t 0) (by omega)
      rwa [c] at this
    have hwd := of_decide_eq_true cw
    have hl := wl_in 0 (by omega)
    have no : ¬ noI (wh n t (sk n t 0)) 0 0 0 := by
      unfold noI
      omega
    have hso : so n t (sk n t 0) = 1 := Classical.byContradiction (fun z => by
      have := rs_none (n := n) (t := t) (s := 1) (b := sk n t 0) (.inl z)
      omega)
    have hq : rs n t 1 (sk n t 0) ≤ n := rs_le hb
    have pa : pArgs n t (wh n t (sk n t 0)) (rs n t 1 (sk n t 0)) = .inr (rs n t 1 (sk n t 0), 0, 0, 0) := by
      unfold pArgs
      rw [if_pos c]
    rw [if_pos cw, if_neg (by decide), pItem_yes no, pa, sb_r]
    obtain ⟨B1, B2⟩ := x_stop H3 hq (TK3.2.1 hso).2
    show (∀ f, sb (sb (pEnd n t (rs n t 1 (sk n t 0))) _) _ = .inl f → _) ∧ (∀ L, sb (sb (pEnd n t (rs n t 1 (sk n t 0))) _) _ = .inr L → _)
    rcases c2 : pEnd n t (rs n t 1 (sk n t 0)) with f | q2
    · obtain ⟨σ4, f4, G4, g4⟩ := B1 f c2
      rw [f4, bd2_s, if_pos rfl, sb_l, sb_l, g4]
      exact ⟨fun f' h => ⟨σ4, by rw [Sum.inl.inj h], Q3.trans G4.1.q, S3.f G4.1⟩, fun L h => absurd h (by simp)⟩
    obtain ⟨σ4, f4, G4, g4, g5⟩ := B2 q2 c2
    rw [f4, bd2_s, if_neg (by decide), sb_r, sb_r, nm_eq]
    have pe : pItem n t 0 0 0 0 = .inr (q2, wh n t (sk n t 0), 0, 0, 0) := by
      rw [pItem_yes no, pa, sb_r]
      show sb (pEnd n t (rs n t 1 (sk n t 0))) _ = _
      rw [c2, sb_r]
    obtain ⟨i1, i2, i3, i4⟩ := pItem_ok (show 0 ≤ n by omega) pe
    have Q4 := Q3.trans G4.1.q
    obtain ⟨I1, I2⟩ := x_items (n := n) (t := t) (fun _ => none) 39 1000 1 0 0 q2 (vReset V) σ4 (by omega) (by omega) i2 (by omega) (by omega) (H.q Q4) (S3.f G4.1) (V3.f G4.1) (VK.reset V 9999) g4
    show (∀ f, sb (pAll n t 39 (0 + 1) (0 + if wh n t (sk n t 0) = 1 then 1 else 0) (0 + if wh n t (sk n t 0) = 2 then 1 else 0) q2) _ = .inl f → _) ∧ (∀ L, sb (pAll n t 39 (0 + 1) (0 + if wh n t (sk n t 0) = 1 then 1 else 0) (0 + if wh n t (sk n t 0) = 2 then 1 else 0) q2) _ = .inr L → _)
    rw [c, if_neg (show ¬ (0 : Nat) = 1 by omega), if_neg (show ¬ (0 : Nat) = 2 by omega)]
    show (∀ f, sb (pAll n t 39 1 0 0 q2) _ = .inl f → _) ∧ (∀ L, sb (pAll n t 39 1 0 0 q2) _ = .inr L → _)
    rcases c5 : pAll n t 39 1 0 0 q2 with f | L
    · obtain ⟨σ5, f5, Q5, S5⟩ := I1 f c5
      rw [sb_l, show m_X5_readInto_L39 16 (fun _ => none) 1000 (1 : Int32) σ4 = _ from f5]
      exact ⟨fun f' h => ⟨σ5, by rw [Sum.inl.inj h], Q4.trans Q5, S5⟩, fun L h => absurd h (by simp)⟩
    · obtain ⟨σ5, f5, Q5, S5, V5⟩ := I2 L c5
      rw [sb_r, show m_X5_readInto_L39 16 (fun _ => none) 1000 (1 : Int32) σ4 = _ from f5]
      refine ⟨fun f' h => absurd h (by simp), fun L' h => ?_⟩
      have h : (0, 0, 0, 0) :: L = L' := Sum.inr.inj h
      subst h
      refine ⟨σ5, by rw [List.length_cons, Nat.add_comm 1], Q4.trans Q5, S5, ?_⟩
      show HV σ5 16 (vFold L (vItem (0, 0, 0, 0) V))
      have : vItem (0, 0, 0, 0) V = vReset V := if_pos rfl
      rw [this]
      exact V5
  · have no : noI (wh n t (sk n t 0)) 0 0 0 := .inr (.inr (.inl ⟨c, rfl⟩))
    have cw : ¬ isW n t (sk n t 0) 0 = true := wh_no (by omega) c
    rw [if_neg cw, if_pos rfl, pItem_no no, sb_l]
    exact ⟨fun f h => ⟨σ3, by rw [Sum.inl.inj h], Q3, S3⟩, fun L h => absurd h (by simp)⟩
