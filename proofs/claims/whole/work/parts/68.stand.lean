/-! ===== PURE: stand, brothers ===== -/
/-- the two boards where a call works may be others -/
theorem Rel.free {σ σ' : Sg} (H : Rel σ) (hk : ∀ a, a ≠ 66 → a ≠ 81 → σ'.1 a = σ.1 a) (h2 : σ'.2 = σ.2) : Rel σ' := by
  obtain ⟨HR, V, HC⟩ := H
  exact ⟨HR.keep (fun j => by rw [hk 0 (by omega) (by omega)]) (fun a h1 h2 h3 h4 => hk a (by omega) (by omega)) (fun q => q.keep (fun a h1 h2 => hk a (by omega) (by omega))) (fun j hj => by rw [hk 65 (by omega) (by omega)]) (by rw [hk 68 (by omega) (by omega)]) (hk 69 (by omega) (by omega)) (hk 75 (by omega) (by omega)) (hk 83 (by omega) (by omega)) (hk 84 (by omega) (by omega)) (by rw [h2]; exact ⟨rfl, rfl⟩), V, HC.keep (fun a h1 h2 => hk a (by omega) (by omega)) (fun j _ _ _ => by rw [hk 68 (by omega) (by omega)]) (fun a h1 h2 => hk a (by omega) (by omega)) (fun a h1 h2 => hk a (by omega) (by omega))⟩
/-- nothing but row k is another -/
def FR (k : Nat) (σ σ' : Sg) : Prop := (∀ a, a ≠ k → σ'.1 a = σ.1 a) ∧ σ'.2 = σ.2
theorem FR.set {k : Nat} {σ σ' : Sg} (H : FR k σ σ') (j : Nat) (x : Int32) : FR k σ (si σ' k j x) := ⟨fun a ha => (si_row _ _ _ _ ha).trans (H.1 a ha), H.2⟩
theorem CV.fr {σ σ' : Sg} {V : Vw} (H : CV σ V) (F : FR 66 σ σ') : CV σ' V := ⟨H.1, H.2.1.keep (fun a h1 h2 => F.1 a (by omega)), H.2.2.keep (fun a h1 h2 => F.1 a (by omega))⟩
theorem LV.fr {σ σ' : Sg} {V : Vw} {k : Nat} (H : LV σ V) (F : FR k σ σ') (hk : k = 66 ∨ k = 81) : LV σ' V :=
  ⟨H.1, H.2.keep (fun j _ _ _ => by rw [F.1 68 (by omega)]) (fun a h1 h2 => F.1 a (by omega)) (fun a h1 h2 => F.1 a (by omega))⟩
theorem n4_16 : ∀ n, n < 16 → nI n / 4 = nI (n / 4) ∧ nI n - nI n / 4 * 4 = nI (n % 4) := by decide +kernel
/-- the greatest so far of f, and where -/
def SB (f : Nat → Int32) (st : Int32) : Nat → Int32 × Int32
  | 0 => (-1, st)
  | n + 1 => if f n ≤ (SB f st n).1 then SB f st n else (f n, nI (10 * (n / 4) + n % 4))
theorem SB_st (f : Nat → Int32) (h : ¬ f 0 ≤ -1) (s t : Int32) : ∀ n, SB f s (n + 1) = SB f t (n + 1) := by
  intro n
  induction n with
  | zero => simp [SB, h]
  | succ n ih =>
    conv => lhs; unfold SB
    conv => rhs; unfold SB
    rw [ih]
theorem code_4 (x y : Nat) : (10 : Int32) * nI x + nI y = nI (10 * x + y) := by
  rw [show (10 : Int32) = nI 10 from rfl, pk_mul, nI_add]
/-- what listener i knows, having stood in x -/
def KB (V : Vw) (N i x : Nat) : Int32 := HO V (V (30 + i)) (nI x) (V (41 + i)) N
abbrev fB (V : Vw) (N n : Nat) : Int32 := bc (KB V N 0 (n / 4) ||| KB V N 1 (n % 4))
theorem KB_lt {V : Vw} {B : Nat} (hv : VOK V B) (N : Nat) {i : Nat} (hi : i < 3) (x : Nat) : ∃ w, w < 256 ∧ KB V N i x = nI w := by
  obtain ⟨w, hw, e⟩ := hv.N.2.2.1 i hi
  have e : V (41 + i) = nI w := by
    rw [show 41 + i = 33 + (8 + i) by omega]
    exact e
  unfold KB
  rw [e]
  exact HO_lt hv.1.2 _ _ hw N
section STAND
variable {σ : Sg} {V : Vw}
theorem x_behind (CL : CV σ V) {i : Nat} (hi : i < nL V) (x : Nat) {N : Nat} (hN : N ≤ 30) : m_X4_knownBehind 1 (nI i) (nI x) (nI N) σ = some (KB V N i x) := by
  obtain ⟨hv, S, H⟩ := CL
  have h3 : nL V ≤ 3 := hv.2.1.2
  have loop : ∀ F t, t ≤ N → N < t + F → m_X4_knownBehind_L14 1 (nI i) (nI x) (nI N) σ (fun _ => none) F (nI t) (HO V (V (30 + i)) (nI x) (V (41 + i)) t) = some (KB V N i x) := by
    intro F
    induction F with
    | zero => intro t h1 h2; exact absurd h2 (by omega)
    | succ F ih =>
      intro t h1 h2
      rw [m_X4_knownBehind_L14.eq_2]
      rcases Nat.lt_or_ge t N with q | q
      · rw [if_neg (nI_ge q (by omega)), e_heardIn S H hv.1 hv.2.1 hi _ _ (.inr (nI_pos (by omega))), bd1_s, nm_eq, nI_1, nm_eq]
        exact ih (t + 1) (by omega) (by omega)
      · have : t = N := by omega
        subst this
        rw [if_pos (nI_le (Nat.le_refl _) (by omega))]
        rfl
  have hk : σ.1 (1 + 3 + 1) (i * 3 + 2) = V (41 + i) := (H.2.2.1 i hi).2.2
  unfold m_X4_knownBehind
  rw [show (2 : Int32) = nI 2 from rfl, g_ok S.2.1 (show i < 3 by omega) (by omega), bd1_s, hk, nm_eq]
  exact loop 1000 0 (by omega) (by omega)
theorem y_behind (L : LV σ V) {i : Nat} (hi : i < nL V) (x : Nat) {N : Nat} (hN : N ≤ 30) : m_X8_heardBehind (nI i) (nI x) (nI N) σ = some (KB V N i x) := by
  obtain ⟨hv, H⟩ := L
  have h3 : nL V ≤ 3 := hv.2.1.2
  have loop : ∀ F t, t ≤ N → N < t + F → m_X8_heardBehind_L14 (nI i) (nI x) (nI N) σ (fun _ => none) F (nI t) (HO V (V (30 + i)) (nI x) (V (41 + i)) t) = some (KB V N i x) := by
    intro F
    induction F with
    | zero => intro t h1 h2; exact absurd h2 (by omega)
    | succ F ih =>
      intro t h1 h2
      rw [m_X8_heardBehind_L14.eq_2]
      rcases Nat.lt_or_ge t N with q | q
      · rw [if_neg (nI_ge q (by omega)), e_mHeardIn H hv.1 hv.2.1 hv.K hi, bd1_s, nm_eq, nI_1, nm_eq]
        exact ih (t + 1) (by omega) (by omega)
      · have : t = N := by omega
        subst this
        rw [if_pos (nI_le (Nat.le_refl _) (by omega))]
        rfl
  have hk : σ.1 74 (8 + i) = V (41 + i) := (H.2.2.2.2.2.1 (8 + i) (by omega)).trans (by rw [show 33 + (8 + i) = 41 + i by omega])
  unfold m_X8_heardBehind
  rw [show (8 : Int32) = nI 8 from rfl, nI_add, ln_74, ix_if (by omega) (by omega), nI_clamp (by omega), hk, nm_eq, nm_eq]
  exact loop 1000 0 (by omega) (by omega)
/-- a board of two rows -/
def B2 (σ : Sg) (f : Nat → Nat → Int32) (n : Nat) : Prop := ∀ i, i < 2 → ∀ x, x < n → σ.1 66 (i * 4 + x) = f i x
theorem B2.set {σ : Sg} {f : Nat → Nat → Int32} {n : Nat} (H : B2 σ f n) (hn : n < 4) : B2 (si (si σ (65 + 1) (0 * 4 + n) (f 0 n)) (65 + 1) (1 * 4 + n) (f 1 n)) f (n + 1) := by
  intro i hi x hx
  rw [si_1, si_1]
  rcases (show i = 0 ∨ i = 1 by omega) with rfl | rfl
  · rw [if_neg (by omega)]
    by_cases c : x = n
    · subst c
      rw [if_pos (by omega)]
    · rw [if_neg (by omega)]
      exact H 0 (by omega) x (by omega)
  · by_cases c : x = n
    · subst c
      rw [if_pos (by omega)]
    · rw [if_neg (by omega), if_neg (by omega)]
      exact H 1 (by omega) x (by omega)
theorem x_stand (CL : CV σ V) (h65 : RS σ 65 2 4) (hl : 2 ≤ nL V) {N : Nat} (hN : N ≤ 30) (a : Int32) : ∃ σ', m_X4_bestStand 1 (nI N) a σ = some (if a = 0 then (SB (fB V N) 0 16).1 else (SB (fB V N) 0 16).2, σ') ∧ FR 66 σ σ' := by
  have hv := CL.1
  have f0 : ¬ fB V N 0 ≤ -1 := by
    obtain ⟨w1, hw1, e1⟩ := KB_lt hv N (show 0 < 3 by omega) 0
    obtain ⟨w2, hw2, e2⟩ := KB_lt hv N (show 1 < 3 by omega) 0
    obtain ⟨j, hj, e⟩ := bc_le (or_lt hw1 hw2)
    show ¬ bc (KB V N 0 (0 / 4) ||| KB V N 1 (0 % 4)) ≤ -1
    rw [show 0 / 4 = 0 from rfl, show 0 % 4 = 0 from rfl, e1, e2, or_nI, e, le_I, nI_toInt (by omega)]
    have : (-1 : Int32).toInt = -1 := rfl
    omega
  have l1 : ∀ (kx : Sg → Option (Int32 × Sg)) F r (σ' : Sg), r ≤ 4 → 4 < r + F → FR 66 σ σ' → B2 σ' (KB V N) r → ∃ σ'', m_X4_bestStand_L3 1 (nI N) a kx F (nI r) σ' = kx σ'' ∧ FR 66 σ σ'' ∧ B2 σ'' (KB V N) 4 := by
    intro kx F
    induction F with
    | zero => intro r σ' h1 h2; exact absurd h2 (by omega)
    | succ F ih =>
      intro r σ' h1 h2 hF hB
      rw [m_X4_bestStand_L3.eq_2, show (4 : Int32) = nI 4 from rfl]
      rcases Nat.lt_or_ge r 4 with q | q
      · have R1 : RS σ' 65 2 4 := h65.keep (by rw [hF.1 65 (by omega)]) (by rw [hF.1 65 (by omega)])
        have F1 := hF.set (0 * 4 + r) (KB V N 0 r)
        have R2 : RS (si σ' (65 + 1) (0 * 4 + r) (KB V N 0 r)) 65 2 4 := R1.keep (by rw [si_row _ _ _ _ (by omega)]) (by rw [si_row _ _ _ _ (by omega)])
        rw [if_neg (nI_ge q (by omega)), show (0 : Int32) = nI 0 from rfl, x_behind (CL.fr hF) (show 0 < nL V by omega) r hN, bd1_s, s_ok R1 (show 0 < 2 by omega) q, bd1_s, show (1 : Int32) = nI 1 from rfl, x_behind (CL.fr F1) (show 1 < nL V by omega) r hN, bd1_s, s_ok R2 (show 1 < 2 by omega) q, bd1_s, nI_add, nm_eq]
        exact ih (r + 1) _ (by omega) (by omega) (F1.set _ _) (hB.set q)
      · have : r = 4 := by omega
        subst this
        rw [if_pos (nI_le (Nat.le_refl _) (by omega))]
        exact ⟨σ', rfl, hF, hB⟩
  have l3 : ∀ (σ' : Sg), RS σ' 65 2 4 → B2 σ' (KB V N) 4 → ∀ x, x < 4 → ∀ (kx : Int32 → Int32 → Option (Int32 × Sg)) F y, y ≤ 4 → 4 < y + F → m_X4_bestStand_L69 1 (nI x) a σ' kx F (nI y) (SB (fB V N) (-1) (4 * x + y)).2 (SB (fB V N) (-1) (4 * x + y)).1 = kx (SB (fB V N) (-1) (4 * (x + 1))).2 (SB (fB V N) (-1) (4 * (x + 1))).1 := by
    intro σ' hR hB x hx kx F
    induction F with
    | zero => intro y h1 h2; exact absurd h2 (by omega)
    | succ F ih =>
      intro y h1 h2
      rw [m_X4_bestStand_L69.eq_2, show (4 : Int32) = nI 4 from rfl]
      rcases Nat.lt_or_ge y 4 with q | q
      · rw [if_neg (nI_ge q (by omega)), show m_X6_get 65 (0 : Int32) (nI x) σ' = some (σ'.1 (65 + 1) (0 * 4 + x)) from g_ok hR (show 0 < 2 by omega) hx, bd1_s, show m_X6_get 65 (1 : Int32) (nI y) σ' = some (σ'.1 (65 + 1) (1 * 4 + y)) from g_ok hR (show 1 < 2 by omega) q, bd1_s, hB 0 (by omega) x hx, hB 1 (by omega) y q, e_bc, bd1_s]
        refine Eq.trans ?_ (ih (y + 1) (by omega) (by omega))
        rw [show 4 * x + (y + 1) = 4 * x + y + 1 by omega]
        conv => rhs; unfold SB
        have ef : fB V N (4 * x + y) = bc (KB V N 0 x ||| KB V N 1 y) := by
          show bc (KB V N 0 ((4 * x + y) / 4) ||| KB V N 1 ((4 * x + y) % 4)) = _
          rw [show (4 * x + y) / 4 = x by omega, show (4 * x + y) % 4 = y by omega]
        rw [← ef]
        by_cases c : fB V N (4 * x + y) ≤ (SB (fB V N) (-1) (4 * x + y)).1
        · rw [if_pos c, if_pos c, bd2_s, nI_1, nm_eq]
        · rw [if_neg c, if_neg c, nm_eq, bd2_s, nI_1, nm_eq, code_4, show (4 * x + y) / 4 = x by omega, show (4 * x + y) % 4 = y by omega]
      · have : y = 4 := by omega
        subst this
        rw [if_pos (nI_le (Nat.le_refl _) (by omega)), show 4 * x + 4 = 4 * (x + 1) by omega]
  have l2 : ∀ (σ' : Sg), RS σ' 65 2 4 → B2 σ' (KB V N) 4 → ∀ (kx : Int32 → Int32 → Option (Int32 × Sg)) F x, x ≤ 4 → 4 < x + F → m_X4_bestStand_L60 1 a σ' kx F (nI x) (SB (fB V N) (-1) (4 * x)).2 (SB (fB V N) (-1) (4 * x)).1 = kx (SB (fB V N) (-1) 16).2 (SB (fB V N) (-1) 16).1 := by
    intro σ' hR hB kx F
    induction F with
    | zero => intro y h1 h2; exact absurd h2 (by omega)
    | succ F ih =>
      intro x h1 h2
      rw [m_X4_bestStand_L60.eq_2, show (4 : Int32) = nI 4 from rfl]
      rcases Nat.lt_or_ge x 4 with q | q
      · rw [if_neg (nI_ge q (by omega)), nm_eq]
        refine Eq.trans (l3 σ' hR hB x q _ 1000 0 (by omega) (by omega)) ?_
        rw [nI_1, nm_eq]
        exact ih (x + 1) (by omega) (by omega)
      · have : x = 4 := by omega
        subst this
        rw [if_pos (nI_le (Nat.le_refl _) (by omega))]
  unfold m_X4_bestStand
  rw [nm_eq]
  obtain ⟨σ1, e1, hF, hB⟩ := l1 (fun σ11 =>
    nm ((-1 : Int32)) (fun x12 =>
    nm ((-1 : Int32)) (fun x13 =>
    nm ((0 : Int32)) (fun x14 =>
    m_X4_bestStand_L60 1 a σ11 (fun x30 x31 =>
    if a = 0 then
    (some (x31, σ11))
    else
    (some (x30, σ11))) 1000 x14 x13 x12)))) 1000 0 σ (by omega) (by omega) ⟨fun _ _ => rfl, rfl⟩ (fun i _ x hx => absurd hx (by omega))
  refine ⟨σ1, e1.trans ?_, hF⟩
  rw [nm_eq, nm_eq, nm_eq]
  refine (l2 σ1 (h65.keep (by rw [hF.1 65 (by omega)]) (by rw [hF.1 65 (by omega)])) hB _ 1000 0 (by omega) (by omega)).trans ?_
  rw [SB_st _ f0 (-1) 0 15]
  split <;> rfl
theorem y_stand (L : LV σ V) (hl : 2 ≤ nL V) {N : Nat} (hN : N ≤ 30) (a : Int32) : (nm ((0 : Int32)) (fun x8 =>
    nm ((-1 : Int32)) (fun x9 =>
    nm ((0 : Int32)) (fun x10 =>
    m_X8_stand_L48 (nI N) a σ (fun x22 x23 =>
    if a = 0 then
    (some (x22, σ))
    else
    (some (x23, σ))) 1000 x10 x9 x8)))) = some (if a = 0 then (SB (fB V N) 0 16).1 else (SB (fB V N) 0 16).2, σ) := by
  have hv := L.1
  have loop : ∀ (kx : Int32 → Int32 → Option (Int32 × Sg)) F n, n ≤ 16 → 16 < n + F → m_X8_stand_L48 (nI N) a σ kx F (nI n) (SB (fB V N) 0 n).1 (SB (fB V N) 0 n).2 = kx (SB (fB V N) 0 16).1 (SB (fB V N) 0 16).2 := by
    intro kx F
    induction F with
    | zero => intro y h1 h2; exact absurd h2 (by omega)
    | succ F ih =>
      intro n h1 h2
      rw [m_X8_stand_L48.eq_2, show (16 : Int32) = nI 16 from rfl]
      rcases Nat.lt_or_ge n 16 with q | q
      · obtain ⟨d1, d2⟩ := n4_16 n q
        obtain ⟨w1, hw1, e1⟩ := KB_lt hv N (show 0 < 3 by omega) (n / 4)
        obtain ⟨w2, hw2, e2⟩ := KB_lt hv N (show 1 < 3 by omega) (n % 4)
        have em : m_X8_many (KB V N 0 (n / 4) ||| KB V N 1 (n % 4)) σ = some (fB V N n) := by
          show _ = some (bc _)
          rw [e1, e2, or_nI]
          exact e_many (or_lt hw1 hw2) σ
        rw [if_neg (nI_ge q (by omega)), d2, d1, show m_X8_heardBehind (0 : Int32) (nI (n / 4)) (nI N) σ = _ from y_behind L (show 0 < nL V by omega) (n / 4) hN, bd1_s, show m_X8_heardBehind (1 : Int32) (nI (n % 4)) (nI N) σ = _ from y_behind L (show 1 < nL V by omega) (n % 4) hN, bd1_s, em, bd1_s]
        refine Eq.trans ?_ (ih (n + 1) (by omega) (by omega))
        conv => rhs; unfold SB
        by_cases c : fB V N n ≤ (SB (fB V N) 0 n).1
        · rw [if_pos c, if_pos c, if_pos c, bd1_s, bd1_s, nI_1, nm_eq]
        · rw [if_neg c, if_neg c, if_neg c, bd1_s, bd1_s, nI_1, nm_eq, code_4]
      · have : n = 16 := by omega
        subst this
        rw [if_pos (nI_le (Nat.le_refl _) (by omega))]
  rw [nm_eq, nm_eq, nm_eq]
  refine (loop _ 1000 0 (by omega) (by omega)).trans ?_
  split <;> rfl
end STAND
theorem x_areBro {σ : Sg} {V : Vw} (CL : CV σ V) : m_X7_areBrothers σ = some (b01 (2 ≤ nL V)) := by
  have h3 : nL V ≤ 3 := CL.1.2.1.2
  unfold m_X7_areBrothers b01
  rw [show σ.1 (1 + 3) 3 = nI (nL V) from CL.2.2.1.2.1.trans CL.1.2.1.1]
  by_cases c : 2 ≤ nL V
  · rw [if_pos c, if_neg (show ¬ nI (nL V) < 2 from nI_nlt (b := 2) c (by omega))]
  · rw [if_neg c, if_pos (show nI (nL V) < 2 from nI_lt (b := 2) (by omega) (by omega))]
theorem sp_stand : Sp_stand Rel := by
  intro σ H a1 a2
  obtain ⟨HR, V, HC⟩ := id H
  have h3 : nL V ≤ 3 := HC.1.2.1.2
  by_cases c : rng a1 1 30 ∧ rng a2 0 1
  · obtain ⟨N, hN, rfl⟩ := rng_nI (n := 30) (by omega) (⟨by have := c.1.1; omega, c.1.2⟩ : rng a1 0 30)
    by_cases hl : 2 ≤ nL V
    · obtain ⟨σ1, e1, hF⟩ := x_stand HC.C HR.1.2.2.2 hl hN a2
      have L := HC.L.fr hF (.inl rfl)
      refine ⟨if a2 = 0 then (SB (fB V N) 0 16).1 else (SB (fB V N) 0 16).2, σ1, σ1, ?_, ?_, H.free (fun a h1 h2 => hF.1 a h1) hF.2⟩
      · unfold m_X7_stand
        simp only [ew_1_30, ew_0_1, x_areBro HC.C, bd1_s, b01_z, bd2_id]
        rw [if_pos c.1, if_pos c.2, if_pos hl, e1]
      · unfold m_X8_stand
        simp only [ei_1_30, ei_0_1, bd1_s, b01_z, bd2_id]
        rw [if_pos c.1, if_pos c.2, if_pos (show (2 : Int32) ≤ σ1.1 68 5 by rw [L.2.1.2.1, L.1.2.1.1]; exact nI_le (a := 2) hl (show nL V < 2 ^ 31 by omega))]
        exact y_stand L hl hN a2
    · refine r_no H ?_ (fun σ1 e1 => ?_)
      · unfold m_X7_stand
        simp only [ew_1_30, ew_0_1, x_areBro HC.C, bd1_s, b01_z, bd2_id]
        rw [if_pos c.1, if_pos c.2, if_neg hl]
      · have L : LV σ1 V := by rw [e1]; exact HC.L.si0 _ _
        unfold m_X8_stand
        simp only [ei_1_30, ei_0_1, bd1_s, b01_z, bd2_id]
        rw [if_pos c.1, if_pos c.2, if_neg (show ¬ (2 : Int32) ≤ σ1.1 68 5 by rw [L.2.1.2.1, L.1.2.1.1]; exact nI_ge (b := 2) (show nL V < 2 by omega) (by omega))]
  · refine r_bad H ?_ (fun σ1 e1 => ?_)
    · unfold m_X7_stand
      simp only [ew_1_30, ew_0_1, bd1_s, b01_z, bd2_id]
      rw [if_n2 c]
    · unfold m_X8_stand
      simp only [ei_1_30, ei_0_1, bd1_s, b01_z, bd2_id]
      rw [if_n2 c]
