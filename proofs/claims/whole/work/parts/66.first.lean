/-! ===== PURE: first, stay ===== -/
/-- the first t, of n from t on, for which p -/
def FF (p : Nat → Bool) : Nat → Nat → Int32
  | 0, _ => -1
  | n + 1, t => if p t = true then nI t else FF p n (t + 1)
theorem FF_none {p : Nat → Bool} : ∀ n t, (∀ u, t ≤ u → p u = false) → FF p n t = -1 := by
  intro n
  induction n with
  | zero => intro t h; rfl
  | succ n ih =>
    intro t h
    unfold FF
    rw [if_neg (by rw [h t (Nat.le_refl _)]; decide)]
    exact ih (t + 1) (fun u hu => h u (by omega))
theorem FF_val {p : Nat → Bool} : ∀ n t, FF p n t = -1 ∨ ∃ u, t ≤ u ∧ u < t + n ∧ FF p n t = nI u := by
  intro n
  induction n with
  | zero => intro t; exact .inl rfl
  | succ n ih =>
    intro t
    unfold FF
    by_cases c : p t = true
    · rw [if_pos c]
      exact .inr ⟨t, by omega, by omega, rfl⟩
    · rw [if_neg c]
      rcases ih (t + 1) with e | ⟨u, h1, h2, e⟩
      · exact .inl e
      · exact .inr ⟨u, by omega, by omega, e⟩
/-- what listener i hears in t minutes -/
def ht (V : Vw) (i t : Nat) : Int32 := hd V (V (30 + i)) (V (38 + i)) (mo V (cnt (V (38 + i))) t)
abbrev pF (V : Vw) (i s : Nat) (t : Nat) : Bool := decide (bit (ht V i t) s)
section FIRST
variable {σ : Sg} {V : Vw}
theorem x_first (CL : CV σ V) {i s : Nat} (hi : i < nL V) : m_X4_firstHearing 1 (nI i) (nI s) σ = some (FF (pF V i s) 41 0) := by
  obtain ⟨hv, S, H⟩ := CL
  have h3 : nL V ≤ 3 := hv.2.1.2
  obtain ⟨hp, ep⟩ := at_ok hv.N (show i < 3 by omega)
  have loop : ∀ F t, t ≤ 41 → 41 < t + F → m_X4_firstHearing_L13 1 (V (38 + i)) (nI i) (nI s) σ (fun _ => none) F (nI t) = some (FF (pF V i s) (41 - t) t) := by
    intro F
    induction F with
    | zero => intro t h1 h2; exact absurd h2 (by omega)
    | succ F ih =>
      intro t h1 h2
      rw [m_X4_firstHearing_L13.eq_2, show (40 : Int32) = nI 40 from rfl]
      rcases Nat.lt_or_ge t 41 with q | q
      · rw [if_neg (nI_nlt (show t ≤ 40 by omega) (by omega)), show m_X2_roomMinute 1 (V (38 + i)) (nI t) σ = _ from (congrArg (fun z => m_X2_roomMinute 1 z (nI t) σ) ep).trans (e_roomMinute S H hv.N (by omega) hp (by omega)), bd1_s, e_heardIn S H hv.1 hv.2.1 hi _ _ (mo_sign hv.N (by omega) hp (by omega)), bd1_s, e_isIn', bd1_s, b01_z, show 41 - t = (41 - (t + 1)) + 1 by omega]
        unfold FF
        by_cases c : bit (ht V i t) s
        · rw [if_pos (decide_eq_true c)]
          exact if_pos c
        · have pf : pF V i s t = false := decide_eq_false c
          rw [if_neg (show ¬ bit (hd V (V (30 + i)) (V (38 + i)) (mo V (cnt (V (38 + i))) t)) s from c), if_neg (show ¬ pF V i s t = true by rw [pf]; decide), nI_1, nm_eq]
          exact ih (t + 1) (by omega) (by omega)
      · have : t = 41 := by omega
        subst this
        rw [if_pos (nI_lt (show 40 < 41 by omega) (by omega))]
        rfl
  have ha : σ.1 (1 + 3 + 1) (i * 3 + 1) = V (38 + i) := (H.2.2.1 i hi).2.1
  unfold m_X4_firstHearing
  rw [show (1 : Int32) = nI 1 from rfl, g_ok S.2.1 (show i < 3 by omega) (by omega), bd1_s, ha, nm_eq]
  exact loop 1000 0 (by omega) (by omega)
theorem y_first {σ0 : Sg} (X : LX σ0 σ V) (hv : VOK V 9999) {i s : Nat} (hi : i < nL V) (hs : s < nS V) : ∃ σ', m_X8_first (nI i) (nI s) σ = some (FF (pF V i s) 41 0, σ') ∧ LX σ0 σ' V := by
  obtain ⟨s', l, t, n, m, p, K⟩ := id hv.vk
  have h3 : nL V ≤ 3 := hv.2.1.2
  have h8 : nS V ≤ 8 := hv.1.2
  obtain ⟨⟨mi, n1, n2, n3⟩, n4, n5, n6⟩ := hv.N
  have n2' : V 33 = nI mi := n2
  obtain ⟨hp, ep⟩ := at_ok hv.N (show i < 3 by omega)
  have KT : ∀ t, t ≤ 41 → VOK (vu V 33 (nI (mi + t))) 10040 := fun t ht => by
    refine (K.now (V' := vu V 33 (nI (mi + t))) (B' := 10040) (fun j hj => by (try simp only [vSay, vEar, vTold, vNote, vMark, vReset, vShift, vPush, vPop, vTick, vu]; repeat (first | rw [if_pos trivial] | rw [if_pos (by omega)] | rw [if_neg (by omega)]))) ?_).ok
    obtain ⟨_, _, _, a3, _⟩ := K
    obtain ⟨_, n4, n5, n6⟩ := a3
    refine ⟨⟨mi + t, by omega, by (try simp only [vSay, vEar, vTold, vNote, vMark, vReset, vShift, vPush, vPop, vTick, vu]; repeat (first | rw [if_pos trivial] | rw [if_pos (by omega)] | rw [if_neg (by omega)])), fun r hr => ?_⟩, fun i hi => by (try simp only [vSay, vEar, vTold, vNote, vMark, vReset, vShift, vPush, vPop, vTick, vu]; repeat (first | rw [if_pos trivial] | rw [if_pos (by omega)] | rw [if_neg (by omega)])); exact n4 i hi, fun i hi => by (try simp only [vSay, vEar, vTold, vNote, vMark, vReset, vShift, vPush, vPop, vTick, vu]; repeat (first | rw [if_pos trivial] | rw [if_pos (by omega)] | rw [if_neg (by omega)])); exact n5 i hi, fun i hi hi2 => by (try simp only [vSay, vEar, vTold, vNote, vMark, vReset, vShift, vPush, vPop, vTick, vu]; repeat (first | rw [if_pos trivial] | rw [if_pos (by omega)] | rw [if_neg (by omega)])); exact n6 i hi hi2⟩
    (try simp only [vSay, vEar, vTold, vNote, vMark, vReset, vShift, vPush, vPop, vTick, vu]; repeat (first | rw [if_pos trivial] | rw [if_pos (by omega)] | rw [if_neg (by omega)]))
    rcases n3 r hr with e | ⟨j, hj, e⟩
    · exact .inl e
    · exact .inr ⟨j, by omega, e⟩
  have HN : ∀ t, t ≤ 41 → hn (vu V 33 (nI (mi + t))) i = ht V i t := fun t hle => by
    unfold hn ht
    rw [vu_off _ _ (show 30 + i ≠ 33 by omega), vu_off _ _ (show 38 + i ≠ 33 by omega), hd_congr (fun j hj => vu_off _ _ (by omega)) _ _ _ h8]
    congr 1
    unfold mo
    rw [vu_off _ _ (show 34 + cnt (V (38 + i)) ≠ 33 by omega), vu_at, n2', nI_add, nI_add, Nat.add_zero]
  have loop : ∀ (kx : Int32 → Sg → Option (Int32 × Sg)) F t (σ : Sg), t ≤ 41 → 41 < t + F → LX σ0 σ (vu V 33 (nI (mi + t))) → ∃ σ' t', m_X8_first_L34 (V 33) (nI i) (nI s) kx F (nI t) (-1) σ = kx (FF (pF V i s) (41 - t) t) σ' ∧ LX σ0 σ' (vu V 33 (nI (mi + t'))) := by
    intro kx F
    induction F with
    | zero => intro t σ h1 h2; exact absurd h2 (by omega)
    | succ F ih =>
      intro t σ h1 h2 X
      rw [m_X8_first_L34.eq_2, show (41 : Int32) = nI 41 from rfl]
      rcases Nat.lt_or_ge t 41 with q | q
      · have ok := KT t (by omega)
        have e0 : σ.1 74 0 = nI (mi + t) := (X.2.2.2.2.2.2.1 0 (by omega)).trans (by (try simp only [vSay, vEar, vTold, vNote, vMark, vReset, vShift, vPush, vPop, vTick, vu]; repeat (first | rw [if_pos trivial] | rw [if_pos (by omega)] | rw [if_neg (by omega)])))
        have hl : i < nL (vu V 33 (nI (mi + t))) := by
          show i < cnt (vu V 33 (nI (mi + t)) 1)
          rw [vu_off _ _ (by omega)]
          exact hi
        rw [if_neg (nI_ge q (by omega)), if_pos rfl, e_mHeardNow X.2 ok.1 ok.2.1 ok.K ok.N hl, bd1_s, HN t (by omega), some_if, bd1_s, ln_74]
        have X1 := (X.set 33 (by omega) (x := nI (mi + (t + 1))) (show _ = 74 from rfl) (show _ = 0 from rfl)).out (V' := vu V 33 (nI (mi + (t + 1)))) (fun k hk => by
          by_cases c : k = 33
          · rw [c, vu_at, vu_at]
          · rw [vu_off _ _ c, vu_off _ _ c, vu_off _ _ c])
        have tail : ∀ (o : Int32), (if ((0 : Int32) < 0 ∨ 11 ≤ (0 : Int32).toNatClampNeg) then none else
          (if ((0 : Int32) < 0 ∨ 11 ≤ (0 : Int32).toNatClampNeg) then none else
          (nm (si σ 74 (0 : Int32).toNatClampNeg ((σ.1 74 (0 : Int32).toNatClampNeg) + (1 : Int32))) (fun σ15 =>
          nm (nI t + (1 : Int32)) (fun x16 =>
          m_X8_first_L34 (V 33) (nI i) (nI s) kx F x16 o σ15))))) = m_X8_first_L34 (V 33) (nI i) (nI s) kx F (nI (t + 1)) o (si σ 74 0 (nI (mi + (t + 1)))) := fun o => by
          show (if (nI 0 < 0 ∨ 11 ≤ (nI 0).toNatClampNeg) then none else
          (if (nI 0 < 0 ∨ 11 ≤ (nI 0).toNatClampNeg) then none else
          (nm (si σ 74 (nI 0).toNatClampNeg ((σ.1 74 (nI 0).toNatClampNeg) + (1 : Int32))) (fun σ15 =>
          nm (nI t + (1 : Int32)) (fun x16 =>
          m_X8_first_L34 (V 33) (nI i) (nI s) kx F x16 o σ15))))) = _
          rw [ix_if (by omega) (by omega), ix_if (by omega) (by omega), nI_clamp (by omega), e0, nI_1, nI_1, nm_eq, nm_eq]
          rfl
        rw [tail, show 41 - t = (41 - (t + 1)) + 1 by omega]
        conv => arg 1; intro σ'; arg 1; intro t'; lhs; rhs; unfold FF
        by_cases c : bit (ht V i t) s
        · rw [if_pos (show (ht V i t >>> (nI s &&& 31)) &&& 1 = 1 from c), if_pos (decide_eq_true c)]
          refine ⟨si σ 74 0 (nI (mi + (t + 1))), t + 1, ?_, X1⟩
          obtain ⟨F', rfl⟩ : ∃ F', F = F' + 1 := ⟨F - 1, by omega⟩
          rw [m_X8_first_L34.eq_2, show (41 : Int32) = nI 41 from rfl]
          rcases Nat.lt_or_ge (t + 1) 41 with q2 | q2
          · rw [if_neg (nI_ge q2 (by omega)), if_neg]
            intro z
            have := congrArg Int32.toInt z
            rw [nI_toInt (by omega)] at this
            have e : (-1 : Int32).toInt = -1 := rfl
            omega
          · rw [if_pos (nI_le q2 (by omega))]
        · have pf : pF V i s t = false := decide_eq_false c
          rw [if_neg (show ¬ (ht V i t >>> (nI s &&& 31)) &&& 1 = 1 from c), if_neg (show ¬ pF V i s t = true by rw [pf]; decide)]
          exact ih (t + 1) _ (by omega) (by omega) X1
      · have : t = 41 := by omega
        subst this
        rw [if_pos (nI_le (Nat.le_refl _) (by omega))]
        exact ⟨σ, 41, rfl, X⟩
  have hr : rng (nI i) 0 ((nL V : Int) - 1) := (nI_rng (by omega)).mpr ⟨by omega, by omega⟩
  have hr2 : rng (nI s) 0 ((nS V : Int) - 1) := (nI_rng (by omega)).mpr ⟨by omega, by omega⟩
  have L : LV σ V := ⟨hv, X.2⟩
  have e0 : σ.1 74 0 = V 33 := X.2.2.2.2.2.2.1 0 (by omega)
  obtain ⟨σ', t', e, X'⟩ := loop (fun x17 σ18 =>
    if ((0 : Int32) < 0 ∨ len 74 ≤ (0 : Int32).toNatClampNeg) then none else
    (nm (si σ18 74 (0 : Int32).toNatClampNeg (V 33)) (fun σ19 =>
    some (x17, σ19)))) 1000 0 σ (by omega) (by omega) (X.out (fun k hk => by
      by_cases c : k = 33
      · rw [c, vu_at, n2', Nat.add_zero]
      · rw [vu_off _ _ c]))
  refine ⟨si σ' 74 0 (V 33), ?_, (X'.set 33 (by omega) (x := V 33) (show _ = 74 from rfl) (show _ = 0 from rfl)).out (fun k hk => ?_)⟩
  · unfold m_X8_first
    rw [y_isL L, bd1_s, b01_z, if_pos hr, y_isS L, bd1_s, b01_z, if_pos hr2, ln_74]
    show (if (nI 0 < 0 ∨ 11 ≤ (nI 0).toNatClampNeg) then none else
    (nm ((σ.1 74 (nI 0).toNatClampNeg)) (fun x8 =>
    nm ((-1 : Int32)) (fun x9 =>
    nm ((0 : Int32)) (fun x10 =>
    m_X8_first_L34 x8 (nI i) (nI s) (fun x17 σ18 =>
    if ((0 : Int32) < 0 ∨ 11 ≤ (0 : Int32).toNatClampNeg) then none else
    (nm (si σ18 74 (0 : Int32).toNatClampNeg x8) (fun σ19 =>
    some (x17, σ19)))) 1000 x10 x9 σ))))) = _
    rw [ix_if (by omega) (by omega), nI_clamp (by omega), e0, nm_eq, nm_eq, nm_eq]
    rw [ln_74] at e
    refine e.trans ?_
    show (if (nI 0 < 0 ∨ 11 ≤ (nI 0).toNatClampNeg) then none else
    (nm (si σ' 74 (nI 0).toNatClampNeg (V 33)) (fun σ19 =>
    some (FF (pF V i s) (41 - 0) 0, σ19)))) = _
    rw [ix_if (by omega) (by omega), nI_clamp (by omega), nm_eq]
  · by_cases c : k = 33
    · rw [c, vu_at]
    · rw [vu_off _ _ c, vu_off _ _ c]
end FIRST
theorem sp_first : Sp_first Rel := by
  intro σ H a1 a2
  obtain ⟨HR, V, HC⟩ := id H
  have h3 : nL V ≤ 3 := HC.1.2.1.2
  have h8 : nS V ≤ 8 := HC.1.1.2
  by_cases c : rng a1 0 ((nL V : Int) - 1) ∧ rng a2 0 ((nS V : Int) - 1)
  · obtain ⟨i, hi, rfl⟩ := rng_idx c.1 (by omega)
    obtain ⟨s, hs, rfl⟩ := rng_idx c.2 (by omega)
    refine act H HC (r := FF (pF V i s) 41 0) HC.1 ⟨σ, ?_, HC.T⟩ (fun σ1 L => y_first (LX.of L.2) L.1 hi hs)
    unfold m_X7_first
    rw [x_isL HC.C, bd1_s, b01_z, if_pos c.1, x_isS HC.C, bd1_s, b01_z, if_pos c.2, x_first HC.C hi, bd1_s]
  · refine r_bad H ?_ (fun σ1 e1 => ?_)
    · unfold m_X7_first
      simp only [x_isL HC.C, x_isS HC.C, bd1_s, b01_z, bd2_id]
      rw [if_n2 c]
    · have L : LV σ1 V := by rw [e1]; exact HC.L.si0 _ _
      unfold m_X8_first
      simp only [y_isL L, y_isS L, bd1_s, b01_z, bd2_id]
      rw [if_n2 c]
