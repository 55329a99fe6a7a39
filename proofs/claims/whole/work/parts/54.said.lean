/-! ===== PURE: said ===== -/
abbrev fT (V : Vw) (r set : Int32) (t : Nat) : Prop := V (44 + (t * 3 + 0)) = r → LO V set (V (44 + (t * 3 + 1))) (nS V) = V (44 + (t * 3 + 2))
def rT (V : Vw) (r set : Int32) : Nat → Int32
  | 0 => 1
  | n + 1 => if rT V r set n = 0 then 0 else if V (44 + (n * 3 + 0)) = r then (if LO V set (V (44 + (n * 3 + 1))) (nS V) = V (44 + (n * 3 + 2)) then 1 else 0) else 1
theorem rT_0 {V : Vw} {r set : Int32} {t : Nat} (h : rT V r set t = 0) : ∀ n, t ≤ n → rT V r set n = 0 := by
  intro n
  induction n with
  | zero => intro h1; rwa [show t = 0 by omega] at h
  | succ n ih =>
    intro h1
    rcases Nat.lt_or_ge t (n + 1) with q | q
    · unfold rT
      rw [ih (by omega), if_pos rfl]
    · rwa [show t = n + 1 by omega] at h
theorem rT_01 (V : Vw) (r set : Int32) : ∀ n, rT V r set n = 0 ∨ rT V r set n = 1 := by
  intro n
  cases n with
  | zero => exact .inr rfl
  | succ n =>
    unfold rT
    split
    · exact .inl rfl
    · split
      · split
        · exact .inr rfl
        · exact .inl rfl
      · exact .inr rfl
section SAID
variable {σ : Sg} {V : Vw}
theorem x_fitsT (CL : CV σ V) (r set : Int32) : m_X0_fitsTold 1 r set σ = some (rT V r set (nT V)) := by
  obtain ⟨hv, S, H⟩ := CL
  have h5 : nT V ≤ 5 := hv.2.2.1.2
  have loop : ∀ F t, t ≤ nT V → nT V < t + F → rT V r set t = 1 → m_X0_fitsTold_L2 1 r set σ (fun _ => none) F (nI t) = some (rT V r set (nT V)) := by
    intro F
    induction F with
    | zero => intro s h1 h2; exact absurd h2 (by omega)
    | succ F ih =>
      intro t h1 h2 h3
      rw [m_X0_fitsTold_L2.eq_2, H.1.2.2.1, hv.2.2.1.1]
      rcases Nat.lt_or_ge t (nT V) with q | q
      · have g0 : m_X6_get (1 + 7) (nI t) 0 σ = some (V (44 + (t * 3 + 0))) := (g_ok S.2.2.2.1 (by omega) (show 0 < 3 by omega)).trans (congrArg some (H.2.2.2.2.1 _ (by omega)))
        have g1 : m_X6_get (1 + 7) (nI t) 1 σ = some (V (44 + (t * 3 + 1))) := (g_ok S.2.2.2.1 (by omega) (show 1 < 3 by omega)).trans (congrArg some (H.2.2.2.2.1 _ (by omega)))
        have g2 : m_X6_get (1 + 7) (nI t) 2 σ = some (V (44 + (t * 3 + 2))) := (g_ok S.2.2.2.1 (by omega) (show 2 < 3 by omega)).trans (congrArg some (H.2.2.2.2.1 _ (by omega)))
        rw [if_neg (nI_ge q (by omega)), g0, bd1_s, g1, bd1_s, e_LS S H hv.1, bd1_s, g2, bd1_s, nI_1, nm_eq]
        have e : rT V r set (t + 1) = if V (44 + (t * 3 + 0)) = r then (if LO V set (V (44 + (t * 3 + 1))) (nS V) = V (44 + (t * 3 + 2)) then 1 else 0) else 1 := by
          conv => lhs; unfold rT
          rw [h3, if_neg (by decide)]
        by_cases c1 : V (44 + (t * 3 + 0)) = r
        · rw [if_pos c1] at e
          rw [if_pos c1, bd1_s, if_neg (by decide)]
          by_cases c2 : LO V set (V (44 + (t * 3 + 1))) (nS V) = V (44 + (t * 3 + 2))
          · rw [if_pos c2] at e
            rw [if_pos c2]
            exact ih (t + 1) (by omega) (by omega) e
          · rw [if_neg c2] at e
            rw [if_neg c2, rT_0 e _ (by omega)]
        · rw [if_neg c1] at e
          rw [if_neg c1, bd1_s, if_pos rfl]
          exact ih (t + 1) (by omega) (by omega) e
      · have : t = nT V := by omega
        subst this
        rw [if_pos (nI_le (Nat.le_refl _) (show nT V < 2 ^ 31 by omega)), h3]
  unfold m_X0_fitsTold
  rw [nm_eq]
  exact loop 1000 0 (Nat.zero_le _) (by omega) rfl
theorem y_isSo (L : LV σ V) {r set : Int32} (hsub : ∀ s, s < nS V → bit set s → V (14 + s) = r) : m_X8_isSo set r σ = some (rT V r set (nT V)) := by
  obtain ⟨hv, H⟩ := L
  have h5 : nT V ≤ 5 := hv.2.2.1.2
  have hT : ∀ j, j < 15 → σ.1 78 j = V (44 + j) := H.2.2.2.2.2.2.1
  have loop : ∀ F t, t ≤ nT V → nT V < t + F → m_X8_isSo_L5 set r σ (fun _ => none) F (nI t) (rT V r set t) = some (rT V r set (nT V)) := by
    intro F
    induction F with
    | zero => intro s h1 h2; exact absurd h2 (by omega)
    | succ F ih =>
      intro t h1 h2
      rw [m_X8_isSo_L5.eq_2, H.1.2.2.1, hv.2.2.1.1]
      rcases Nat.lt_or_ge t (nT V) with q | q
      · have hm : ¬ V (44 + (t * 3 + 1)) < 0 := by
          have h0 := hv.2.2.2.2.2.2.2.2.2.1 t q
          rw [le_I] at h0
          rw [lt_I]
          omega
        rw [if_neg (nI_ge q (by omega)), show (3 : Int32) = nI 3 from rfl, show (1 : Int32) = nI 1 from rfl, show (2 : Int32) = nI 2 from rfl, pk_mul, nI_add, nI_add, nI_add, show 3 * t = t * 3 + 0 by omega, ln_78, ix_if (by omega) (by omega), ix_if (by omega) (by omega), nI_clamp (by omega), nI_clamp (by omega), hT _ (by omega), hT _ (by omega), e_TG H hv.1 hv.K, bd1_s, ix_if (by omega) (by omega), nI_clamp (by omega), hT _ (by omega), show t * 3 + 0 + 1 = t * 3 + 1 by omega, show t * 3 + 0 + 2 = t * 3 + 2 by omega, TG_LS V set set r _ hm _ (fun s hs => ⟨fun z => ⟨hsub s hs z, z⟩, fun z => z.2⟩)]
        refine Eq.trans ?_ (ih (t + 1) (by omega) (by omega))
        conv => rhs; unfold rT
        by_cases c0 : rT V r set t = 0
        · rw [if_pos c0, if_pos c0, bd1_s, nm_eq]
        · rw [if_neg c0, if_neg c0]
          by_cases c1 : V (44 + (t * 3 + 0)) = r
          · rw [if_pos c1, if_pos c1]
            by_cases c2 : LO V set (V (44 + (t * 3 + 1))) (nS V) = V (44 + (t * 3 + 2))
            · rw [if_pos c2, if_pos c2, bd1_s, nm_eq]
              rfl
            · rw [if_neg c2, if_neg c2, bd1_s, nm_eq]
          · rw [if_neg c1, if_neg c1, bd1_s, nm_eq]
            rfl
      · have : t = nT V := by omega
        subst this
        rw [if_pos (nI_le (Nat.le_refl _) (show nT V < 2 ^ 31 by omega)), if_neg (fun z => z (rT_01 V r set _))]
  unfold m_X8_isSo
  rw [nm_eq, nm_eq]
  exact loop 1000 0 (Nat.zero_le _) (by omega)
end SAID
theorem and_not (x y : Int32) : x &&& y = x ↔ x &&& (y ^^^ (-1)) = 0 := by
  have hb : ∀ a b : Int32, a = b ↔ ∀ i, i < 32 → a.toBitVec.getLsbD i = b.toBitVec.getLsbD i := fun a b =>
    ⟨fun h i _ => by rw [h], fun h => Int32.toBitVec_inj.mp (BitVec.eq_of_getLsbD_eq (fun i hi => h i hi))⟩
  have h1 : ∀ i, i < 32 → (-1 : Int32).toBitVec.getLsbD i = true := by decide +kernel
  rw [hb, hb]
  refine forall_congr' (fun i => forall_congr' (fun hi => ?_))
  rw [Int32.toBitVec_and, Int32.toBitVec_and, Int32.toBitVec_xor, BitVec.getLsbD_and, BitVec.getLsbD_and, BitVec.getLsbD_xor, h1 i hi]
  have h0 : (0 : Int32).toBitVec.getLsbD i = false := BitVec.getLsbD_zero
  rw [h0]
  cases x.toBitVec.getLsbD i <;> cases y.toBitVec.getLsbD i <;> decide
/-- how many sets fit, what is in all, in some: among the first n sets -/
def SD (V : Vw) (r here : Int32) : Nat → Int32 × Int32 × Int32
  | 0 => (0, here, 0)
  | n + 1 => if nI n &&& here = nI n then (if rT V r (nI n) (nT V) = 0 then SD V r here n else ((SD V r here n).1 + 1, (SD V r here n).2.1 &&& nI n, (SD V r here n).2.2 ||| nI n)) else SD V r here n
def sdA (V : Vw) (r what : Int32) : Int32 :=
  if what = 0 then (SD V r (SR V r (nS V)) 256).1 else if what = 1 then (if (SD V r (SR V r (nS V)) 256).1 = 0 then -1 else (SD V r (SR V r (nS V)) 256).2.1) else (SD V r (SR V r (nS V)) 256).2.2
section SAID2
variable {σ : Sg} {V : Vw}
theorem x_sets (CL : CV σ V) (r what : Int32) : m_X0_setsSaid 1 r what σ = some (sdA V r what) := by
  obtain ⟨hv, S, H⟩ := id CL
  have loop : ∀ (here : Int32) (kx : Int32 → Int32 → Int32 → Option Int32) F n, n ≤ 256 → 256 < n + F → m_X0_setsSaid_L18 1 here r what σ kx F (nI n) (SD V r here n).2.2 (SD V r here n).2.1 (SD V r here n).1 = kx (SD V r here 256).2.2 (SD V r here 256).2.1 (SD V r here 256).1 := by
    intro here kx F
    induction F with
    | zero => intro s h1 h2; exact absurd h2 (by omega)
    | succ F ih =>
      intro n h1 h2
      rw [m_X0_setsSaid_L18.eq_2, show (256 : Int32) = nI 256 from rfl]
      rcases Nat.lt_or_ge n 256 with q | q
      · rw [if_neg (nI_ge q (by omega)), x_fitsT CL, bd1_s]
        refine Eq.trans ?_ (ih (n + 1) (by omega) (by omega))
        conv => rhs; unfold SD
        by_cases c1 : nI n &&& here = nI n
        · rw [if_pos c1, if_pos c1]
          by_cases c2 : rT V r (nI n) (nT V) = 0
          · rw [if_pos c2, if_pos c2, bd3_s, nI_1, nm_eq]
          · rw [if_neg c2, if_neg c2, nm_eq, nm_eq, nm_eq, bd3_s, nI_1, nm_eq]
        · rw [if_neg c1, if_neg c1, bd3_s, nI_1, nm_eq]
      · have : n = 256 := by omega
        subst this
        rw [if_pos (nI_le (Nat.le_refl _) (by omega))]
  unfold m_X0_setsSaid
  rw [e_SR S H hv.1, bd1_s, nm_eq, nm_eq, nm_eq]
  refine (loop _ _ 1000 0 (by omega) (by omega)).trans ?_
  simp only [some_if]
  rfl
theorem y_said (L : LV σ V) {r : Int32} (c1 : rng r 0 3) {what : Int32} (c2 : rng what 0 2) : m_X8_said r what σ = some (sdA V r what, σ) := by
  obtain ⟨hv, H⟩ := id L
  have h8 : nS V ≤ 8 := hv.1.2
  have l1 : ∀ (kx : Int32 → Option (Int32 × Sg)) F s, s ≤ nS V → nS V < s + F → m_X8_said_L29 r what σ kx F (nI s) (SR V r s) = kx (SR V r (nS V)) := by
    intro kx F
    induction F with
    | zero => intro s h1 h2; exact absurd h2 (by omega)
    | succ F ih =>
      intro s h1 h2
      rw [m_X8_said_L29.eq_2, H.1.1, hv.1.1]
      rcases Nat.lt_or_ge s (nS V) with q | q
      · rw [if_neg (nI_ge q (by omega)), ln_71, ix_if (by omega) (by omega), nI_clamp (by omega), H.2.2.1 s (by omega)]
        refine Eq.trans ?_ (ih (s + 1) (by omega) (by omega))
        conv => rhs; unfold SR
        by_cases c : V (14 + s) = r
        · rw [if_pos c, if_pos c, bd1_s, nI_1, nm_eq, nm_eq]
        · rw [if_neg c, if_neg c, bd1_s, nI_1, nm_eq, nm_eq, Int32.or_zero]
      · have : s = nS V := by omega
        subst this
        rw [if_pos (nI_le (Nat.le_refl _) (show nS V < 2 ^ 31 by omega))]
  have l2 : ∀ (kx : Int32 → Int32 → Int32 → Option (Int32 × Sg)) F n, n ≤ 256 → 256 < n + F → m_X8_said_L78 (SR V r (nS V)) r what σ kx F (nI n) (SD V r (SR V r (nS V)) n).2.2 (SD V r (SR V r (nS V)) n).2.1 (SD V r (SR V r (nS V)) n).1 = kx (SD V r (SR V r (nS V)) 256).2.2 (SD V r (SR V r (nS V)) 256).2.1 (SD V r (SR V r (nS V)) 256).1 := by
    intro kx F
    induction F with
    | zero => intro s h1 h2; exact absurd h2 (by omega)
    | succ F ih =>
      intro n h1 h2
      rw [m_X8_said_L78.eq_2, show (256 : Int32) = nI 256 from rfl]
      rcases Nat.lt_or_ge n 256 with q | q
      · rw [if_neg (nI_ge q (by omega))]
        refine Eq.trans ?_ (ih (n + 1) (by omega) (by omega))
        conv => rhs; unfold SD
        by_cases c1 : nI n &&& SR V r (nS V) = nI n
        · have hsub : ∀ s, s < nS V → bit (nI n) s → V (14 + s) = r := by
            intro s hs hb
            have hb2 : bit (SR V r (nS V)) s := by
              rw [SR_eq V r _ h8] at c1 ⊢
              rw [and_nI] at c1
              have hlt := SRN_256 V r h8
              have hand : n &&& SRN V r (nS V) < 256 := Nat.lt_of_le_of_lt Nat.and_le_left q
              have c1 := (nI_eq (by omega) (by omega)).mp c1
              rw [bit_nI q (by omega)] at hb
              rw [bit_nI hlt (by omega)]
              rw [← c1, Nat.testBit_and, Bool.and_eq_true] at hb
              exact hb.2
            exact (SR_bit V r h8 hs).mp hb2
          rw [if_pos c1, if_pos ((and_not _ _).mp c1), y_isSo L hsub, bd1_s]
          by_cases c2 : rT V r (nI n) (nT V) = 0
          · rw [if_pos c2, if_pos c2, bd3_s, nI_1, nm_eq]
          · rw [if_neg c2, if_neg c2, nm_eq, nm_eq, nm_eq, bd3_s, nI_1, nm_eq]
        · rw [if_neg c1, if_neg (fun z => c1 ((and_not _ _).mpr z)), bd3_s, nI_1, nm_eq]
      · have : n = 256 := by omega
        subst this
        rw [if_pos (nI_le (Nat.le_refl _) (by omega))]
  unfold m_X8_said
  rw [e_mRoom, bd1_s, b01_z, if_pos c1, ei_0_2, bd1_s, b01_z, if_pos c2, nm_eq, nm_eq]
  refine (l1 _ 1000 0 (by omega) (by omega)).trans ?_
  rw [nm_eq, nm_eq, nm_eq]
  refine (l2 _ 1000 0 (by omega) (by omega)).trans ?_
  unfold sdA
  by_cases e0 : what = 0
  · rw [if_pos e0, if_pos e0]
  · rw [if_neg e0, if_neg e0]
    by_cases e1 : what = 1
    · rw [if_pos e1, if_pos e1]
      split <;> rfl
    · rw [if_neg e1, if_neg e1]
end SAID2
theorem sp_said : Sp_said Rel := by
  intro σ H a1 a2
  obtain ⟨HR, V, HC⟩ := id H
  have CL := HC.C
  refine q_pair H HC (rng a1 0 3 ∧ rng a2 0 2) (sdA V a1 a2) (fun c => ?_) (fun c => ?_) (fun c => ?_) (fun c σ' L => ?_)
  · unfold m_X7_said
    rw [e_isRoom, bd1_s, b01_z, if_pos c.1, ew_0_2, bd1_s, b01_z, if_pos c.2, x_sets CL, bd1_s]
  · unfold m_X7_said
    simp only [e_isRoom, ew_0_2, bd1_s, b01_z, bd2_id]
    by_cases c1 : rng a1 0 3
    · rw [if_pos c1, if_neg (fun q => c ⟨c1, q⟩)]
    · rw [if_neg c1]
  · exact y_said HC.L c.1 c.2
  · unfold m_X8_said
    rw [e_mRoom, bd1_s, b01_z]
    by_cases c1 : rng a1 0 3
    · rw [if_pos c1, ei_0_2, bd1_s, b01_z, if_neg (fun q => c ⟨c1, q⟩), bd2_id]
    · rw [if_neg c1, bd2_id]
