/-! ===== PURE: digest ===== -/
def adF (f : Nat → Int32) (h : Int64) : Nat → Int64
  | 0 => h
  | n + 1 => 31 * adF f h n + (f n).toInt64
theorem adF_cong {f g : Nat → Int32} {h : Int64} : ∀ {n : Nat}, (∀ j, j < n → f j = g j) → adF f h n = adF g h n := by
  intro n
  induction n with
  | zero => intro _; rfl
  | succ n ih =>
    intro hj
    unfold adF
    rw [ih (fun j h => hj j (by omega)), hj n (by omega)]
theorem e_mixed {σ : Sg} {k lim w n : Nat} (hR : RS σ k lim w) (hs : σ.1 k 3 = nI n) (hn : n ≤ lim) (h : Int64) : m_X6_mixedInto k h σ = some (adF (σ.1 (k + 1)) h (n * w)) := by
  have hw : w ≤ 200 := hR.2.2.2.2.2
  have hl : lim ≤ 200 := hR.2.2.2.2.1
  have inner : ∀ (kx : Int64 → Option Int64) row, row < n → ∀ F c, c ≤ w → w < c + F → m_X6_mixedInto_L17 k (nI row) σ kx F (nI c) (adF (σ.1 (k + 1)) h (row * w + c)) = kx (adF (σ.1 (k + 1)) h (row * w + w)) := by
    intro kx row hrow F
    induction F with
    | zero => intro c h1 h2; exact absurd h2 (by omega)
    | succ F ih =>
      intro c h1 h2
      rw [m_X6_mixedInto_L17.eq_2, hR.2.1]
      rcases Nat.lt_or_ge c w with q | q
      · rw [if_neg (nI_ge q (by omega)), g_ok hR (by omega) q, bd1_s, nm_eq, nI_1, nm_eq]
        exact ih (c + 1) (by omega) (by omega)
      · have : c = w := by omega
        subst this
        rw [if_pos (nI_le (Nat.le_refl _) (by omega))]
  have outer : ∀ F row, row ≤ n → n < row + F → m_X6_mixedInto_L5 k σ (fun _ => none) F (nI row) (adF (σ.1 (k + 1)) h (row * w)) = some (adF (σ.1 (k + 1)) h (n * w)) := by
    intro F
    induction F with
    | zero => intro c h1 h2; exact absurd h2 (by omega)
    | succ F ih =>
      intro row h1 h2
      rw [m_X6_mixedInto_L5.eq_2, hs]
      rcases Nat.lt_or_ge row n with q | q
      · rw [if_neg (nI_ge q (by omega)), nm_eq]
        refine (inner _ row q 1000 0 (Nat.zero_le _) (by omega)).trans ?_
        rw [nI_1, nm_eq, show row * w + w = (row + 1) * w by rw [Nat.add_mul, Nat.one_mul]]
        exact ih (row + 1) (by omega) (by omega)
      · have : row = n := by omega
        subst this
        rw [if_pos (nI_le (Nat.le_refl _) (by omega))]
  unfold m_X6_mixedInto
  rw [nm_eq]
  have h0 := outer 1000 0 (Nat.zero_le _) (by omega)
  rw [Nat.zero_mul] at h0
  exact h0
theorem e_adds {σ : Sg} {k n : Nat} (hn : n ≤ len k) (hl : len k ≤ 200) (h : Int64) : m_X8_adds h k (nI n) σ = some (adF (σ.1 k) h n) := by
  have loop : ∀ F c, c ≤ n → n < c + F → m_X8_adds_L6 k (nI n) σ (fun _ => none) F (nI c) (adF (σ.1 k) h c) = some (adF (σ.1 k) h n) := by
    intro F
    induction F with
    | zero => intro c h1 h2; exact absurd h2 (by omega)
    | succ F ih =>
      intro c h1 h2
      rw [m_X8_adds_L6.eq_2]
      rcases Nat.lt_or_ge c n with q | q
      · rw [if_neg (nI_ge q (by omega)), ix_if (by omega) (by omega), nI_clamp (by omega), nm_eq, nI_1, nm_eq]
        exact ih (c + 1) (by omega) (by omega)
      · have : c = n := by omega
        subst this
        rw [if_pos (nI_le (Nat.le_refl _) (by omega))]
  unfold m_X8_adds
  rw [nm_eq]
  exact loop 1000 0 (Nat.zero_le _) (by omega)
/-- the digest of a view, a text's length, a fraction -/
def dg1 (V : Vw) (t : Int32) : Int64 := adF (fun j => hm V t (nI j)) 1583 10
def dg2 (V : Vw) (t : Int32) : Int64 := adF (fun r => mo V r 0) (dg1 V t) 4
def sF (V : Vw) (j : Nat) : Int32 := if j % 3 = 0 then V (6 + j / 3) else if j % 3 = 1 then V (14 + j / 3) else V (22 + j / 3)
def lF (V : Vw) (j : Nat) : Int32 := if j % 3 = 0 then V (30 + j / 3) else if j % 3 = 1 then V (38 + j / 3) else V (41 + j / 3)
def dg (V : Vw) (t : Int32) (a b : Int64) : Int64 :=
  31 * (31 * adF (fun j => V (83 + j)) (adF (fun j => V (59 + j)) (adF (fun j => V (44 + j)) (adF (lF V) (adF (sF V) (dg2 V t) (nS V * 3)) (nL V * 3)) (nT V * 3)) (nN V * 4)) (nM V * 4) + a) + b
theorem m3 (s : Nat) : (s * 3 + 0) % 3 = 0 ∧ (s * 3 + 0) / 3 = s ∧ (s * 3 + 1) % 3 = 1 ∧ (s * 3 + 1) / 3 = s ∧ (s * 3 + 2) % 3 = 2 ∧ (s * 3 + 2) / 3 = s := by omega
theorem sF_3 (V : Vw) (s : Nat) : sF V (s * 3 + 0) = V (6 + s) ∧ sF V (s * 3 + 1) = V (14 + s) ∧ sF V (s * 3 + 2) = V (22 + s) := by
  obtain ⟨a, b, c, d, e, f⟩ := m3 s
  unfold sF
  rw [a, b, c, d, e, f]
  exact ⟨if_pos rfl, by rw [if_neg (by decide), if_pos rfl], by rw [if_neg (by decide), if_neg (by decide)]⟩
theorem lF_3 (V : Vw) (s : Nat) : lF V (s * 3 + 0) = V (30 + s) ∧ lF V (s * 3 + 1) = V (38 + s) ∧ lF V (s * 3 + 2) = V (41 + s) := by
  obtain ⟨a, b, c, d, e, f⟩ := m3 s
  unfold lF
  rw [a, b, c, d, e, f]
  exact ⟨if_pos rfl, by rw [if_neg (by decide), if_pos rfl], by rw [if_neg (by decide), if_neg (by decide)]⟩
theorem split3 {P : Nat → Prop} {n : Nat} (h : ∀ s, s < n → P (s * 3 + 0) ∧ P (s * 3 + 1) ∧ P (s * 3 + 2)) : ∀ j, j < n * 3 → P j := by
  intro j hj
  obtain ⟨h0, h1, h2⟩ := h (j / 3) (by omega)
  rcases (show j % 3 = 0 ∨ j % 3 = 1 ∨ j % 3 = 2 by omega) with q | q | q
  · rwa [show j / 3 * 3 + 0 = j by omega] at h0
  · rwa [show j / 3 * 3 + 1 = j by omega] at h1
  · rwa [show j / 3 * 3 + 2 = j by omega] at h2
theorem x_digest {σ : Sg} {V : Vw} (CL : CV σ V) : m_X7_digest σ = some (dg V (σ.1 62 3) (σ.2 67 0) (σ.2 67 1)) := by
  obtain ⟨hv, S, H⟩ := CL
  have CL : CV σ V := ⟨hv, S, H⟩
  obtain ⟨n0, n1, n2, n3, n4, n5, -⟩ := id hv
  have l1 : ∀ (kx : Int64 → Option Int64) F c, c ≤ 10 → 10 < c + F → m_X7_digest_L6 σ kx F (nI c) (adF (fun j => hm V (σ.1 62 3) (nI j)) 1583 c) = kx (dg1 V (σ.1 62 3)) := by
    intro kx F
    induction F with
    | zero => intro c h1 h2; exact absurd h2 (by omega)
    | succ F ih =>
      intro c h1 h2
      rw [m_X7_digest_L6.eq_2, show (10 : Int32) = nI 10 from rfl]
      rcases Nat.lt_or_ge c 10 with q | q
      · rw [if_neg (nI_ge q (by omega)), e_howMany CL, bd1_s, nm_eq, nI_1, nm_eq]
        exact ih (c + 1) (by omega) (by omega)
      · have : c = 10 := by omega
        subst this
        rw [if_pos (nI_le (Nat.le_refl _) (by omega))]
        rfl
  have l2 : ∀ (kx : Int64 → Option Int64) F c, c ≤ 4 → 4 < c + F → m_X7_digest_L33 σ kx F (nI c) (adF (fun r => mo V r 0) (dg1 V (σ.1 62 3)) c) = kx (dg2 V (σ.1 62 3)) := by
    intro kx F
    induction F with
    | zero => intro c h1 h2; exact absurd h2 (by omega)
    | succ F ih =>
      intro c h1 h2
      rw [m_X7_digest_L33.eq_2, show (4 : Int32) = nI 4 from rfl]
      rcases Nat.lt_or_ge c 4 with q | q
      · rw [if_neg (nI_ge q (by omega)), show m_X2_roomMinute 1 (nI c) 0 σ = _ from e_roomMinute (t := 0) S H hv.N (by omega) q (by omega), bd1_s, nm_eq, nI_1, nm_eq]
        exact ih (c + 1) (by omega) (by omega)
      · have : c = 4 := by omega
        subst this
        rw [if_pos (nI_le (Nat.le_refl _) (by omega))]
        rfl
  unfold m_X7_digest
  rw [nm_eq, nm_eq]
  refine (l1 _ 1000 0 (by omega) (by omega)).trans ?_
  rw [nm_eq]
  refine (l2 _ 1000 0 (by omega) (by omega)).trans ?_
  rw [e_mixed S.1 (H.1.1.trans n0.1) n0.2, bd1_s, e_mixed S.2.1 (H.1.2.1.trans n1.1) n1.2, bd1_s, e_mixed S.2.2.2.1 (H.1.2.2.1.trans n2.1) n2.2, bd1_s, e_mixed S.2.2.2.2.1 (H.1.2.2.2.1.trans n3.1) n3.2, bd1_s, e_mixed S.2.2.2.2.2.1 (H.1.2.2.2.2.1.trans n4.1) n4.2, bd1_s, nm_eq]
  unfold dg
  have c1 : adF (σ.1 (1 + 1 + 1)) (dg2 V (σ.1 62 3)) (nS V * 3) = adF (sF V) (dg2 V (σ.1 62 3)) (nS V * 3) := adF_cong (split3 (fun s hs => by
    obtain ⟨q1, q2, q3⟩ := sF_3 V s
    rw [q1, q2, q3]
    exact H.2.1 s hs))
  have c2 : ∀ h, adF (σ.1 (1 + 3 + 1)) h (nL V * 3) = adF (lF V) h (nL V * 3) := fun h => adF_cong (split3 (fun s hs => by
    obtain ⟨q1, q2, q3⟩ := lF_3 V s
    rw [q1, q2, q3]
    exact H.2.2.1 s hs))
  have c3 : ∀ h, adF (σ.1 (1 + 7 + 1)) h (nT V * 3) = adF (fun j => V (44 + j)) h (nT V * 3) := fun h => adF_cong (fun j hj => H.2.2.2.2.1 j hj)
  have c4 : ∀ h, adF (σ.1 (1 + 9 + 1)) h (nN V * 4) = adF (fun j => V (59 + j)) h (nN V * 4) := fun h => adF_cong (fun j hj => H.2.2.2.2.2.1 j hj)
  have c5 : ∀ h, adF (σ.1 (1 + 11 + 1)) h (nM V * 4) = adF (fun j => V (83 + j)) h (nM V * 4) := fun h => adF_cong (fun j hj => H.2.2.2.2.2.2.1 j hj)
  rw [← c1, ← c2, ← c3, ← c4, ← c5]
theorem y_digest {σ : Sg} {V : Vw} (L : LV σ V) : m_X8_digest σ = some (dg V (σ.1 68 9) (σ.2 68 22) (σ.2 68 23)) := by
  obtain ⟨hv, H⟩ := id L
  obtain ⟨n0, n1, n2, n3, n4, n5, -⟩ := id hv
  have h0 : nS V ≤ 8 := n0.2
  have h1 : nL V ≤ 3 := n1.2
  have h2 : nT V ≤ 5 := n2.2
  have h3 : nN V ≤ 6 := n3.2
  have h4 : nM V ≤ 6 := n4.2
  have l1 : ∀ (kx : Int64 → Option Int64) F c, c ≤ 10 → 10 < c + F → m_X8_digest_L6 σ kx F (nI c) (adF (fun j => hm V (σ.1 68 9) (nI j)) 1583 c) = kx (dg1 V (σ.1 68 9)) := by
    intro kx F
    induction F with
    | zero => intro c h1 h2; exact absurd h2 (by omega)
    | succ F ih =>
      intro c h1 h2
      rw [m_X8_digest_L6.eq_2, show (10 : Int32) = nI 10 from rfl]
      rcases Nat.lt_or_ge c 10 with q | q
      · rw [if_neg (nI_ge q (by omega)), e_counted L, bd1_s, nm_eq, nI_1, nm_eq]
        exact ih (c + 1) (by omega) (by omega)
      · have : c = 10 := by omega
        subst this
        rw [if_pos (nI_le (Nat.le_refl _) (by omega))]
        rfl
  have l2 : ∀ (kx : Int64 → Option Int64) F c, c ≤ 4 → 4 < c + F → m_X8_digest_L33 σ kx F (nI c) (adF (fun r => mo V r 0) (dg1 V (σ.1 68 9)) c) = kx (dg2 V (σ.1 68 9)) := by
    intro kx F
    induction F with
    | zero => intro c h1 h2; exact absurd h2 (by omega)
    | succ F ih =>
      intro c h1 h2
      rw [m_X8_digest_L33.eq_2, show (4 : Int32) = nI 4 from rfl]
      rcases Nat.lt_or_ge c 4 with q | q
      · rw [if_neg (nI_ge q (by omega)), e_minuteOf H q, bd1_s, nm_eq, nI_1, nm_eq]
        exact ih (c + 1) (by omega) (by omega)
      · have : c = 4 := by omega
        subst this
        rw [if_pos (nI_le (Nat.le_refl _) (by omega))]
        rfl
  have l3 : ∀ (h : Int64) (kx : Int64 → Option Int64) F c, c ≤ nS V → nS V < c + F → m_X8_digest_L59 σ kx F (nI c) (adF (sF V) h (c * 3)) = kx (adF (sF V) h (nS V * 3)) := by
    intro h kx F
    induction F with
    | zero => intro c h1 h2; exact absurd h2 (by omega)
    | succ F ih =>
      intro c q1 q2
      rw [m_X8_digest_L59.eq_2, H.1.1, n0.1]
      rcases Nat.lt_or_ge c (nS V) with q | q
      · rw [if_neg (nI_ge q (by omega)), ln_70, ln_71, ln_72, ix_if (by omega) (by omega), ix_if (by omega) (by omega), ix_if (by omega) (by omega), nI_clamp (by omega), H.2.1 c (by omega), H.2.2.1 c (by omega), H.2.2.2.1 c (by omega), nm_eq, nI_1, nm_eq]
        refine Eq.trans ?_ (ih (c + 1) (by omega) (by omega))
        have e : adF (sF V) h ((c + 1) * 3) = 31 * (31 * (31 * adF (sF V) h (c * 3) + (V (6 + c)).toInt64) + (V (14 + c)).toInt64) + (V (22 + c)).toInt64 := by
          obtain ⟨z1, z2, z3⟩ := sF_3 V c
          rw [← z1, ← z2, ← z3, show (c + 1) * 3 = c * 3 + 0 + 1 + 1 + 1 by omega]
          rfl
        rw [e]
      · have : c = nS V := by omega
        subst this
        rw [if_pos (nI_le (Nat.le_refl _) (show nS V < 2 ^ 31 by omega))]
  have l4 : ∀ (h : Int64) (kx : Int64 → Option Int64) F c, c ≤ nL V → nL V < c + F → m_X8_digest_L113 σ kx F (nI c) (adF (lF V) h (c * 3)) = kx (adF (lF V) h (nL V * 3)) := by
    intro h kx F
    induction F with
    | zero => intro c h1 h2; exact absurd h2 (by omega)
    | succ F ih =>
      intro c q1 q2
      rw [m_X8_digest_L113.eq_2, H.1.2.1, n1.1]
      rcases Nat.lt_or_ge c (nL V) with q | q
      · rw [if_neg (nI_ge q (by omega)), show (5 : Int32) = nI 5 from rfl, show (8 : Int32) = nI 8 from rfl, nI_add, nI_add, ln_73, ln_74, ix_if (by omega) (by omega), ix_if (by omega) (by omega), ix_if (by omega) (by omega), nI_clamp (by omega), nI_clamp (by omega), nI_clamp (by omega), H.2.2.2.2.1 c (by omega), H.2.2.2.2.2.1 (5 + c) (by omega), H.2.2.2.2.2.1 (8 + c) (by omega), show 33 + (5 + c) = 38 + c by omega, show 33 + (8 + c) = 41 + c by omega, nm_eq, nI_1, nm_eq]
        refine Eq.trans ?_ (ih (c + 1) (by omega) (by omega))
        have e : adF (lF V) h ((c + 1) * 3) = 31 * (31 * (31 * adF (lF V) h (c * 3) + (V (30 + c)).toInt64) + (V (38 + c)).toInt64) + (V (41 + c)).toInt64 := by
          obtain ⟨z1, z2, z3⟩ := lF_3 V c
          rw [← z1, ← z2, ← z3, show (c + 1) * 3 = c * 3 + 0 + 1 + 1 + 1 by omega]
          rfl
        rw [e]
      · have : c = nL V := by omega
        subst this
        rw [if_pos (nI_le (Nat.le_refl _) (show nL V < 2 ^ 31 by omega))]
  unfold m_X8_digest
  rw [nm_eq, nm_eq]
  refine (l1 _ 1000 0 (by omega) (by omega)).trans ?_
  rw [nm_eq]
  refine (l2 _ 1000 0 (by omega) (by omega)).trans ?_
  rw [nm_eq]
  have l3' := l3 (dg2 V (σ.1 68 9))
  refine (l3' _ 1000 0 (by omega) (by omega)).trans ?_
  rw [nm_eq]
  refine (l4 (adF (sF V) (dg2 V (σ.1 68 9)) (nS V * 3)) _ 1000 0 (by omega) (by omega)).trans ?_
  rw [H.1.2.2.1, H.1.2.2.2.1, H.1.2.2.2.2.1, n2.1, n3.1, n4.1, show (3 : Int32) = nI 3 from rfl, show (4 : Int32) = nI 4 from rfl, pk_mul, pk_mul, pk_mul]
  have a1 : ∀ h, m_X8_adds h 78 (nI (3 * nT V)) σ = some (adF (fun j => V (44 + j)) h (nT V * 3)) := fun h => by
    rw [e_adds (by rw [ln_78]; omega) (by rw [ln_78]; omega), show 3 * nT V = nT V * 3 by omega]
    exact congrArg some (adF_cong (fun j hj => H.2.2.2.2.2.2.1 j (by omega)))
  have a2 : ∀ h, m_X8_adds h 79 (nI (4 * nN V)) σ = some (adF (fun j => V (59 + j)) h (nN V * 4)) := fun h => by
    rw [e_adds (by rw [ln_79]; omega) (by rw [ln_79]; omega), show 4 * nN V = nN V * 4 by omega]
    exact congrArg some (adF_cong (fun j hj => H.2.2.2.2.2.2.2.1 j (by omega)))
  have a3 : ∀ h, m_X8_adds h 80 (nI (4 * nM V)) σ = some (adF (fun j => V (83 + j)) h (nM V * 4)) := fun h => by
    rw [e_adds (by rw [ln_80]; omega) (by rw [ln_80]; omega), show 4 * nM V = nM V * 4 by omega]
    exact congrArg some (adF_cong (fun j hj => H.2.2.2.2.2.2.2.2.1 j (by omega)))
  rw [a1, bd1_s, a2, bd1_s, a3, bd1_s]
  rfl
theorem sp_digest : Sp_digest Rel := by
  intro σ H
  obtain ⟨HR, V, HC⟩ := id H
  refine ⟨_, x_digest HC.C, ?_, H⟩
  rw [y_digest HC.L, txt_eq HR.2.2.2.1, HR.2.2.2.2.2.1, HR.2.2.2.2.2.2]
