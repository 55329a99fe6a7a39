/-! ===== PURE: how the model reads a text ===== -/
theorem pArgs_f {n : Nat} {t : Nat → Nat} {r q f : Nat} (hq : q ≤ n) (h : pArgs n t r q = .inl f) : f ≤ n := by
  have K : ∀ lo hi e f, e ≤ n → pNum n t lo hi e = .inl f → f ≤ n := fun lo hi e f he h => by
    rw [pNum_f h]
    exact sk_le he
  unfold pArgs at h
  by_cases r0 : r = 0
  · rw [if_pos r0] at h
    exact absurd h (by simp)
  rw [if_neg r0] at h
  by_cases r1 : r = 1
  · rw [if_pos r1] at h
    rcases c1 : pNum n t 0 5 q with g | ⟨q1, a⟩
    · rw [c1, sb_l] at h
      rw [← Sum.inl.inj h]
      exact K _ _ _ _ hq c1
    have o1 := pNum_ok hq c1
    rw [c1, sb_r] at h
    rcases c2 : pNum n t 0 3 q1 with g | ⟨q2, b⟩
    · rw [c2, sb_l] at h
      rw [← Sum.inl.inj h]
      exact K _ _ _ _ o1.2.1 c2
    have o2 := pNum_ok o1.2.1 c2
    rw [c2, sb_r] at h
    rcases c3 : pNum n t 1 9 q2 with g | ⟨q3, c⟩
    · rw [c3, sb_l] at h
      rw [← Sum.inl.inj h]
      exact K _ _ _ _ o2.2.1 c3
    rw [c3, sb_r] at h
    exact absurd h (by simp)
  rw [if_neg r1] at h
  by_cases r2 : r = 2
  · rw [if_pos r2] at h
    rcases c1 : pNum n t 0 5 q with g | ⟨q1, a⟩
    · rw [c1, sb_l] at h
      rw [← Sum.inl.inj h]
      exact K _ _ _ _ hq c1
    have o1 := pNum_ok hq c1
    rw [c1, sb_r] at h
    rcases c2 : pNum n t 0 3 q1 with g | ⟨q2, b⟩
    · rw [c2, sb_l] at h
      rw [← Sum.inl.inj h]
      exact K _ _ _ _ o1.2.1 c2
    rw [c2, sb_r] at h
    exact absurd h (by simp)
  rw [if_neg r2] at h
  by_cases r5 : r = 5
  · rw [if_pos r5] at h
    rcases c1 : pNum n t 1 99 q with g | ⟨q1, a⟩
    · rw [c1, sb_l] at h
      rw [← Sum.inl.inj h]
      exact K _ _ _ _ hq c1
    rw [c1, sb_r] at h
    exact absurd h (by simp)
  · rw [if_neg r5] at h
    rcases c1 : pNum n t 0 3 q with g | ⟨q1, a⟩
    · rw [c1, sb_l] at h
      rw [← Sum.inl.inj h]
      exact K _ _ _ _ hq c1
    rw [c1, sb_r] at h
    exact absurd h (by simp)
theorem pItem_f {n : Nat} {t : Nat → Nat} {k s l e f : Nat} (he : e ≤ n) (h : pItem n t k s l e = .inl f) : f ≤ n := by
  have hb : sk n t e ≤ n := sk_le he
  by_cases c : noI (wh n t (sk n t e)) k s l
  · rw [pItem_no c] at h
    rw [← Sum.inl.inj h]
    exact hb
  rw [pItem_yes c] at h
  have hq : rs n t 1 (sk n t e) ≤ n := rs_le hb
  rcases c1 : pArgs n t (wh n t (sk n t e)) (rs n t 1 (sk n t e)) with g | ⟨q1, x, y, z⟩
  · rw [c1, sb_l] at h
    rw [← Sum.inl.inj h]
    exact pArgs_f hq c1
  · have o1 := pArgs_ok hq c1
    rw [c1, sb_r] at h
    rcases c2 : pEnd n t q1 with g | q2
    · rw [c2, sb_l] at h
      rw [← Sum.inl.inj h, pEnd_f c2]
      exact sk_le o1.2.1
    · rw [c2, sb_r] at h
      exact absurd h (by simp)
def okL : List (Nat × Nat × Nat × Nat) → Nat → Nat → Nat → Prop
  | [], _, _, _ => True
  | it :: L, k, s, l => okI it s l ∧ (it.1 = 0 ↔ k = 0) ∧ okL L (k + 1) (s + if it.1 = 1 then 1 else 0) (l + if it.1 = 2 then 1 else 0)
theorem pAll_s (n : Nat) (t : Nat → Nat) (F k s l e : Nat) : pAll n t (F + 1) k s l e = if k ≠ 0 ∧ n ≤ sk n t e then .inr [] else sb (pItem n t k s l e) (fun a => sb (pAll n t F (k + 1) (s + if a.2.1 = 1 then 1 else 0) (l + if a.2.1 = 2 then 1 else 0) a.1) (fun L => .inr (a.2 :: L))) := rfl
theorem pAll_ok {n : Nat} {t : Nat → Nat} (hn : n ≤ 150) : ∀ F k s l e, 4 * k ≤ e → e ≤ n → 40 ≤ k + F → (∀ f, pAll n t F k s l e = .inl f → f ≤ n) ∧ ∀ L, pAll n t F k s l e = .inr L → okL L k s l ∧ 4 * (k + L.length) ≤ n ∧ (k = 0 → L ≠ []) := by
  intro F
  induction F with
  | zero => intro k s l e h1 h2 h3; omega
  | succ F ih =>
    intro k s l e h1 h2 h3
    rw [pAll_s]
    by_cases c : k ≠ 0 ∧ n ≤ sk n t e
    · rw [if_pos c]
      refine ⟨fun f h => absurd h (by simp), fun L h => ?_⟩
      have : [] = L := Sum.inr.inj h
      subst this
      exact ⟨trivial, by show 4 * (k + 0) ≤ n; omega, fun z => absurd z c.1⟩
    rw [if_neg c]
    rcases c1 : pItem n t k s l e with g | ⟨e', it⟩
    · rw [sb_l]
      exact ⟨fun f h => by rw [← Sum.inl.inj h]; exact pItem_f h2 c1, fun L h => absurd h (by simp)⟩
    obtain ⟨i1, i2, i3, i4⟩ := pItem_ok h2 c1
    obtain ⟨I1, I2⟩ := ih (k + 1) (s + if it.1 = 1 then 1 else 0) (l + if it.1 = 2 then 1 else 0) e' (by omega) i2 (by omega)
    rw [sb_r]
    show (∀ f, sb (pAll n t F (k + 1) (s + if it.1 = 1 then 1 else 0) (l + if it.1 = 2 then 1 else 0) e') _ = .inl f → _) ∧ (∀ L, sb (pAll n t F (k + 1) (s + if it.1 = 1 then 1 else 0) (l + if it.1 = 2 then 1 else 0) e') _ = .inr L → _)
    rcases c5 : pAll n t F (k + 1) (s + if it.1 = 1 then 1 else 0) (l + if it.1 = 2 then 1 else 0) e' with f | L
    · rw [sb_l]
      exact ⟨fun f' h => by rw [← Sum.inl.inj h]; exact I1 f c5, fun L h => absurd h (by simp)⟩
    · obtain ⟨J1, J2, J3⟩ := I2 L c5
      rw [sb_r]
      refine ⟨fun f' h => absurd h (by simp), fun L' h => ?_⟩
      have h : it :: L = L' := Sum.inr.inj h
      subst h
      exact ⟨⟨i3, i4, J1⟩, by rw [List.length_cons]; omega, fun _ => by simp⟩
theorem R76.keep {c k : Nat} {σ σ' : Sg} {it : Nat × Nat × Nat × Nat} (H : R76 σ k it) (h : ∀ j, 4 * k ≤ j → j < 4 * k + 4 → σ'.1 76 j = σ.1 76 j) : R76 σ' k it := by
  obtain ⟨a, b, c, d⟩ := H
  exact ⟨(h _ (by omega) (by omega)).trans a, fun w => (h _ (by omega) (by omega)).trans (b w), fun w => (h _ (by omega) (by omega)).trans (c w), fun w => (h _ (by omega) (by omega)).trans (d w)⟩
section MALL
variable {σ : Sg} {n : Nat} {t : Nat → Nat}
theorem y_blk (H : TY σ n t) {e k s l : Nat} (he : e ≤ n) (hk : 4 * k + 3 < 152) (hs : s ≤ 8) (hl : l ≤ 3) (e10 : σ.1 68 10 = nI (sk n t e)) (e11 : σ.1 68 11 = -1) (K : Int32 → Int32 → Int32 → Sg → Option (Int32 × Sg)) : ∃ σ', (nm ((σ.1 68 10)) (fun x8 =>
    bd2 (m_X8_word σ) (fun r9 σ10 =>
    bd1 (m_X8_itemBy r9 σ10) (fun r12 =>
    bd1 (
    if r12 = (1 : Int32) then
    (some ((1 : Int32)))
    else
    (some ((0 : Int32)))) (fun o15 =>
    nm ((nI s + o15)) (fun x16 =>
    bd1 (
    if r12 = (2 : Int32) then
    (some ((1 : Int32)))
    else
    (some ((0 : Int32)))) (fun o18 =>
    nm ((nI l + o18)) (fun x19 =>
    bd1 (
    if r12 < 0 then
    (bd1 (m_X8_faults x8 σ10) (fun σ25 =>
    some (σ25)))
    else
    (bd1 (
    if r12 = 0 then
    (some ((1 : Int32)))
    else
    (some ((0 : Int32)))) (fun o28 =>
    bd1 (
    if nI k = 0 then
    (some ((1 : Int32)))
    else
    (some ((0 : Int32)))) (fun o30 =>
    if o28 = o30 then
    (if (8 : Int32) < x16 then
    (bd1 (m_X8_faults x8 σ10) (fun σ33 =>
    some (σ33)))
    else
    (if x19 ≤ (3 : Int32) then
    (bd1 (m_X8_readItem r12 ((4 : Int32) * nI k) σ10) (fun σ35 =>
    some (σ35)))
    else
    (bd1 (m_X8_faults x8 σ10) (fun σ37 =>
    some (σ37)))))
    else
    (bd1 (m_X8_faults x8 σ10) (fun σ31 =>
    some (σ31))))))) (fun σ21 =>
    nm (nI k + (1 : Int32)) (fun x22 =>
    bd1 (m_X8_skips σ21) (fun σ23 =>
    K x19 x16 x22 σ23))))))))))) = K (nI (l + if wh n t (sk n t e) = 2 then 1 else 0)) (nI (s + if wh n t (sk n t e) = 1 then 1 else 0)) (nI (k + 1)) σ' ∧ PF (4 * k) σ σ' ∧ σ'.1 68 11 = FS (-1) (pItem n t k s l e) ∧ ∀ e' it, pItem n t k s l e = .inr (e', it) → σ'.1 68 10 = nI (sk n t e') ∧ R76 σ' k it ∧ it.1 = wh n t (sk n t e) := by
  have h150 := H.2.2.1
  have ht := H.2.2.2
  have hb : sk n t e ≤ n := sk_le he
  have hq : rs n t 1 (sk n t e) ≤ n := rs_le hb
  obtain ⟨σ10, f1, P1, g10, g11⟩ := y_word H hb e10
  have g11' : σ10.1 68 11 = -1 := g11.trans e11
  have hle := wh_le (n := n) (t := t) (sk n t e)
  rw [nm_eq, e10, f1, bd2_s, y_itemBy ht, bd1_s]
  -- behind the item: the blanks
  have tail : ∀ (τ : Sg) (p : Nat) (x19 x16 : Int32), PF (4 * k) σ τ → τ.1 68 10 = nI p → p ≤ n + 1 → ∃ σ', bd1 (some τ) (fun σ21 => nm (nI k + (1 : Int32)) (fun x22 => bd1 (m_X8_skips σ21) (fun σ23 => K x19 x16 x22 σ23))) = K x19 x16 (nI (k + 1)) σ' ∧ PF (4 * k) σ σ' ∧ σ'.1 68 11 = τ.1 68 11 ∧ σ'.1 68 10 = nI (sk n t p) ∧ σ'.1 76 = τ.1 76 := fun τ p x19 x16 hP h1 h2 => by
    obtain ⟨σ', f, P, q1, q2⟩ := y_skips (H.f hP) (show p ≤ 1000 by omega) h1
    exact ⟨σ', by rw [bd1_s, nI_1, nm_eq, f, bd1_s], hP.trans (P.f _), q2, q1, P.1 76 (by omega)⟩
  have flt : pItem n t k s l e = .inl (sk n t e) → ∀ (x19 x16 : Int32), ∃ σ', bd1 (bd1 (m_X8_faults (nI (sk n t e)) σ10) (fun σ25 => some (σ25))) (fun σ21 => nm (nI k + (1 : Int32)) (fun x22 => bd1 (m_X8_skips σ21) (fun σ23 => K x19 x16 x22 σ23))) = K x19 x16 (nI (k + 1)) σ' ∧ PF (4 * k) σ σ' ∧ σ'.1 68 11 = FS (-1) (pItem n t k s l e) ∧ ∀ e' it, pItem n t k s l e = .inr (e', it) → σ'.1 68 10 = nI (sk n t e') ∧ R76 σ' k it ∧ it.1 = wh n t (sk n t e) := fun h x19 x16 => by
    rw [y_faults _ _ h (.inl g11'), bd1_s]
    obtain ⟨σ', f, P, q1, q2, q3⟩ := tail (si σ10 68 11 (FS (σ10.1 68 11) (pItem n t k s l e))) (rs n t 1 (sk n t e)) x19 x16 ((P1.set (.inr rfl) _).f _) (by rw [si_off' _ _ _ _ _ (by omega), g10]) (by omega)
    refine ⟨σ', f, P, by rw [q1, si_at, g11'], fun e' it h2 => ?_⟩
    rw [h] at h2
    exact absurd h2 (by simp)
  by_cases c6 : wh n t (sk n t e) = 6
  · have no : noI (wh n t (sk n t e)) k s l := .inl c6
    rw [if_pos c6, if_neg (show ¬ (-1 : Int32) = 1 by decide), bd1_s, nm_eq, if_neg (show ¬ (-1 : Int32) = 2 by decide), bd1_s, nm_eq, if_pos (show (-1 : Int32) < 0 by decide), Int32.add_zero, Int32.add_zero]
    have := flt (pItem_no no) (nI l) (nI s)
    rw [if_neg (show ¬ wh n t (sk n t e) = 2 by omega), if_neg (show ¬ wh n t (sk n t e) = 1 by omega)]
    exact this
  rw [if_neg c6]
  have ex : ∀ (u v : Nat) (w : Int32), u < 1000 → v < 1000 → w = nI v → (if nI u = w then some (1 : Int32) else some 0) = some (nI (if u = v then 1 else 0)) := fun u v w hu hv hw => by
    subst hw
    by_cases c : u = v
    · rw [if_pos (by rw [c]), if_pos c]
      rfl
    · rw [if_neg (fun z => c ((nI_eq (by omega) (by omega)).mp z)), if_neg c]
      rfl
  rw [ex _ 1 1 (by omega) (by omega) rfl, bd1_s, nm_eq, ex _ 2 2 (by omega) (by omega) rfl, bd1_s, nm_eq, nI_add, nI_add, if_neg (nI_pos (by omega)), ex _ 0 0 (by omega) (by omega) rfl, bd1_s, ex k 0 0 (by omega) (by omega) rfl, bd1_s]
  have h8 : ((8 : Int32) < nI (s + if wh n t (sk n t e) = 1 then 1 else 0)) ↔ 8 < s + if wh n t (sk n t e) = 1 then 1 else 0 := nI_ltI (a := 8) (by omega) (by split <;> omega)
  have h3 : (nI (l + if wh n t (sk n t e) = 2 then 1 else 0) ≤ (3 : Int32)) ↔ (l + if wh n t (sk n t e) = 2 then 1 else 0) ≤ 3 := nI_leI (b := 3) (by split <;> omega) (by omega)
  have h0 : (nI (if wh n t (sk n t e) = 0 then 1 else 0) = nI (if k = 0 then 1 else 0)) ↔ (wh n t (sk n t e) = 0 ↔ k = 0) := by
    rw [nI_eq (by split <;> omega) (by split <;> omega)]
    by_cases c1 : wh n t (sk n t e) = 0 <;> by_cases c2 : k = 0 <;> simp [c1, c2]
  by_cases no : noI (wh n t (sk n t e)) k s l
  · have F := flt (pItem_no no)
    unfold noI at no
    by_cases d0 : (wh n t (sk n t e) = 0 ↔ k = 0)
    · rw [if_pos (h0.mpr d0)]
      by_cases d8 : 8 < s + if wh n t (sk n t e) = 1 then 1 else 0
      · rw [if_pos (h8.mpr d8)]
        exact F _ _
      · rw [if_neg (fun z => d8 (h8.mp z))]
        by_cases d3 : (l + if wh n t (sk n t e) = 2 then 1 else 0) ≤ 3
        · exfalso
          by_cases x1 : wh n t (sk n t e) = 1
          · rw [if_pos x1] at d8
            omega
          · by_cases x2 : wh n t (sk n t e) = 2
            · rw [if_pos x2] at d3
              omega
            · omega
        · rw [if_neg (fun z => d3 (h3.mp z))]
          exact F _ _
    · rw [if_neg (fun z => d0 (h0.mp z))]
      exact F _ _
  · have pe := pItem_yes no
    unfold noI at no
    rw [if_pos (h0.mpr (by omega)), if_neg (fun z => by
      have := h8.mp z
      split at this <;> omega), if_pos (h3.mpr (by split <;> omega)), show (4 : Int32) = nI 4 from rfl, pk_mul]
    obtain ⟨τ, f2, P2, F2, ⟨p, ep, hp⟩, V2⟩ := y_item (H.p P1) (r := wh n t (sk n t e)) (k := k) (by omega) hq hk g10 g11'
    rw [f2, bd1_s]
    obtain ⟨σ', f, P, q1, q2, q3⟩ := tail τ p (nI (l + if wh n t (sk n t e) = 2 then 1 else 0)) (nI (s + if wh n t (sk n t e) = 1 then 1 else 0)) ((P1.f _).trans P2) ep hp
    refine ⟨σ', f, P, ?_, fun e' it h => ?_⟩
    · rw [q1, F2, pe]
      rcases c1 : pArgs n t (wh n t (sk n t e)) (rs n t 1 (sk n t e)) with g | ⟨q1, x, y, z⟩
      · rw [sb_l, sb_l, FS_l, FS_l]
      · rw [sb_r, sb_r]
        show FS (-1) (pEnd n t q1) = FS (-1) (sb (pEnd n t q1) _)
        rcases c2 : pEnd n t q1 with g | q2
        · rw [sb_l, FS_l, FS_l]
        · rw [sb_r, FS_r, FS_r]
    · rw [pe] at h
      rcases c1 : pArgs n t (wh n t (sk n t e)) (rs n t 1 (sk n t e)) with g | ⟨w1, x, y, z⟩
      · rw [c1, sb_l] at h
        exact absurd h (by simp)
      rw [c1, sb_r] at h
      rcases c2 : pEnd n t w1 with g | w2
      · rw [c2, sb_l] at h
        exact absurd h (by simp)
      rw [c2, sb_r] at h
      have h := Sum.inr.inj h
      have y1 : w2 = e' := congrArg Prod.fst h
      have y2 : (wh n t (sk n t e), x, y, z) = it := congrArg Prod.snd h
      subst y1 y2
      obtain ⟨u1, u2⟩ := V2 w1 x y z w2 c1 c2
      have : p = w2 := (nI_eq (by omega) (by have := pArgs_ok hq c1; have := pEnd_ok this.2.1 c2; omega)).mp (ep.symm.trans u1)
      rw [q2, this]
      exact ⟨rfl, u2.keep (c := 0) (fun j h1 h2 => by rw [q3]), rfl⟩
theorem y_items (kx : Sg → Option (Int32 × Sg)) : ∀ Fp F k s l e (σ : Sg), 4 * k ≤ e → e ≤ n → 40 ≤ k + Fp → 60 ≤ k + F → s ≤ 8 → l ≤ 3 → TY σ n t → σ.1 68 10 = nI (sk n t e) → σ.1 68 11 = -1 → (∀ f, pAll n t Fp k s l e = .inl f → ∃ v σ', m_X8_readAll_L20 kx F (nI l) (nI s) (nI k) σ = some (v, σ') ∧ PF (4 * k) σ σ' ∧ σ'.1 68 11 = nI f) ∧ (∀ L, pAll n t Fp k s l e = .inr L → ∃ σ', m_X8_readAll_L20 kx F (nI l) (nI s) (nI k) σ = some (nI (k + L.length), σ') ∧ PF (4 * k) σ σ' ∧ σ'.1 68 11 = -1 ∧ ∀ i it, L[i]? = some it → R76 σ' (k + i) it) := by
  intro Fp
  induction Fp with
  | zero =>
    intro F k s l e σ h1 h2 h3 h4 hs hl H
    have := H.2.2.1
    omega
  | succ Fp ih =>
    intro F k s l e σ h1 h2 h3 h4 hs hl H e10 e11
    have h150 := H.2.2.1
    obtain ⟨F', rfl⟩ : ∃ F', F = F' + 1 + 1 := ⟨F - 2, by omega⟩
    have hb : sk n t e ≤ n := sk_le h2
    have hge := sk_ge n t e
    have main : (k ≠ 0 → ¬ n ≤ sk n t e) → (∀ f, sb (pItem n t k s l e) (fun a => sb (pAll n t Fp (k + 1) (s + if a.2.1 = 1 then 1 else 0) (l + if a.2.1 = 2 then 1 else 0) a.1) (fun L => .inr (a.2 :: L))) = .inl f → ∃ v σ', m_X8_readAll_L20 kx (F' + 1 + 1) (nI l) (nI s) (nI k) σ = some (v, σ') ∧ PF (4 * k) σ σ' ∧ σ'.1 68 11 = nI f) ∧ (∀ L, sb (pItem n t k s l e) (fun a => sb (pAll n t Fp (k + 1) (s + if a.2.1 = 1 then 1 else 0) (l + if a.2.1 = 2 then 1 else 0) a.1) (fun L => .inr (a.2 :: L))) = .inr L → ∃ σ', m_X8_readAll_L20 kx (F' + 1 + 1) (nI l) (nI s) (nI k) σ = some (nI (k + L.length), σ') ∧ PF (4 * k) σ σ' ∧ σ'.1 68 11 = -1 ∧ ∀ i it, L[i]? = some it → R76 σ' (k + i) it) := fun hne => by
      have hk : 4 * k + 3 < 152 := by
        by_cases c : k = 0
        · omega
        · have := hne c
          omega
      obtain ⟨σ1, f1, P1, F1, V1⟩ := y_blk H h2 hk hs hl e10 e11 (fun x19 x16 x22 σ23 => m_X8_readAll_L20 kx (F' + 1) x19 x16 x22 σ23)
      have step : m_X8_readAll_L20 kx (F' + 1 + 1) (nI l) (nI s) (nI k) σ = m_X8_readAll_L20 kx (F' + 1) (nI (l + if wh n t (sk n t e) = 2 then 1 else 0)) (nI (s + if wh n t (sk n t e) = 1 then 1 else 0)) (nI (k + 1)) σ1 := by
        rw [m_X8_readAll_L20.eq_2, e11, if_neg (show ¬ (0 : Int32) ≤ -1 by decide)]
        by_cases c : k = 0
        · rw [if_pos (show nI k = 0 by rw [c]; rfl)]
          exact f1
        · rw [if_neg (show ¬ nI k = 0 from fun z => c ((nI_eq (b := 0) (by omega) (by omega)).mp z)), H.1, e10, if_neg (nI_ge (show sk n t e < n by have := hne c; omega) (by omega)), ← e10]
          exact f1
      rw [step]
      rcases c1 : pItem n t k s l e with f | ⟨e', it⟩
      · rw [c1, FS_l] at F1
        have hf := pItem_f h2 c1
        rw [sb_l]
        refine ⟨fun f' h => ⟨nI (k + 1), σ1, ?_, P1, by rw [F1]; exact congrArg nI (Sum.inl.inj h)⟩, fun L h => absurd h (by simp)⟩
        rw [m_X8_readAll_L20.eq_2, F1, if_pos (nI_pos' (by omega))]
      obtain ⟨i1, i2, i3, i4⟩ := pItem_ok h2 c1
      obtain ⟨u1, u2, u3⟩ := V1 e' it c1
      rw [c1, FS_r] at F1
      obtain ⟨o1, o2, o3, _⟩ := i3
      rw [sb_r, ← u3]
      show (∀ f, sb (pAll n t Fp (k + 1) (s + if it.1 = 1 then 1 else 0) (l + if it.1 = 2 then 1 else 0) e') _ = .inl f → _) ∧ (∀ L, sb (pAll n t Fp (k + 1) (s + if it.1 = 1 then 1 else 0) (l + if it.1 = 2 then 1 else 0) e') _ = .inr L → _)
      obtain ⟨I1, I2⟩ := ih (F' + 1) (k + 1) (s + if it.1 = 1 then 1 else 0) (l + if it.1 = 2 then 1 else 0) e' σ1 (by omega) i2 (by omega) (by omega) (by split <;> omega) (by split <;> omega) (H.f P1) u1 F1
      rcases c5 : pAll n t Fp (k + 1) (s + if it.1 = 1 then 1 else 0) (l + if it.1 = 2 then 1 else 0) e' with f | L
      · obtain ⟨v, σ2, f2, P2, F2⟩ := I1 f c5
        rw [sb_l]
        exact ⟨fun f' h => ⟨v, σ2, f2, P1.trans (P2.mono (by omega)), by rw [F2]; exact congrArg nI (Sum.inl.inj h)⟩, fun L h => absurd h (by simp)⟩
      · obtain ⟨σ2, f2, P2, F2, R2⟩ := I2 L c5
        rw [sb_r]
        refine ⟨fun f' h => absurd h (by simp), fun L' h => ?_⟩
        have h : it :: L = L' := Sum.inr.inj h
        subst h
        refine ⟨σ2, by rw [List.length_cons, f2, show k + 1 + L.length = k + (L.length + 1) by omega], P1.trans (P2.mono (by omega)), F2, fun i it' hi => ?_⟩
        cases i with
        | zero =>
          have : it = it' := by simpa using hi
          subst this
          exact u2.keep (c := 0) (fun j h1 h2 => P2.2.2.2 j (by omega))
        | succ i =>
          have hi : L[i]? = some it' := by simpa using hi
          have := R2 i it' hi
          rwa [show k + 1 + i = k + (i + 1) by omega] at this
    rw [pAll_s]
    by_cases c : k ≠ 0 ∧ n ≤ sk n t e
    · rw [if_pos c]
      refine ⟨fun f h => absurd h (by simp), fun L h => ?_⟩
      have : [] = L := Sum.inr.inj h
      subst this
      refine ⟨σ, ?_, ⟨fun _ _ _ => rfl, fun _ _ _ => rfl, rfl, fun _ _ => rfl⟩, e11, fun i it h => absurd h (by simp)⟩
      rw [m_X8_readAll_L20.eq_2, e11, if_neg (show ¬ (0 : Int32) ≤ -1 by decide), if_neg (show ¬ nI k = 0 from fun z => c.1 ((nI_eq (b := 0) (by omega) (by omega)).mp z)), H.1, e10, if_pos (nI_le c.2 (by omega))]
      rfl
    · rw [if_neg c]
      exact main (fun h1 h2 => c ⟨h1, h2⟩)
theorem y_readAll (H : TY σ n t) : (∀ f, pAll n t 40 0 0 0 0 = .inl f → ∃ v σ', m_X8_readAll σ = some (v, σ') ∧ PF 0 σ σ' ∧ σ'.1 68 11 = nI f) ∧ (∀ L, pAll n t 40 0 0 0 0 = .inr L → ∃ σ', m_X8_readAll σ = some (nI L.length, σ') ∧ PF 0 σ σ' ∧ σ'.1 68 11 = -1 ∧ ∀ i it, L[i]? = some it → R76 σ' i it) := by
  have P0 : PT σ (si (si σ 68 10 0) 68 11 (-1)) := ((PT.rfl' σ).set (.inl rfl) _).set (.inr rfl) _
  obtain ⟨σ1, f1, P1, e1, e2⟩ := y_skips (H.p P0) (p := 0) (by omega) (by rw [si_off' _ _ _ _ _ (by omega), si_at]; rfl)
  rw [si_at] at e2
  have P := P0.trans P1
  obtain ⟨I1, I2⟩ := y_items (fun _ => none) 40 1000 0 0 0 0 σ1 (by omega) (by omega) (by omega) (by omega) (by omega) (by omega) (H.p P) e1 e2
  unfold m_X8_readAll
  rw [nm_eq, nm_eq, nm_eq, nm_eq, nm_eq, f1, bd1_s]
  refine ⟨fun f h => ?_, fun L h => ?_⟩
  · obtain ⟨v, σ2, f2, P2, F2⟩ := I1 f h
    exact ⟨v, σ2, f2, (P.f 0).trans P2, F2⟩
  · obtain ⟨σ2, f2, P2, F2, R2⟩ := I2 L h
    rw [Nat.zero_add] at f2
    exact ⟨σ2, f2, (P.f 0).trans P2, F2, fun i it hi => by
      have := R2 i it hi
      rwa [Nat.zero_add] at this⟩
end MALL
