/-! ===== PURE: copies of a house, images ===== -/
theorem e_copy {σ : Sg} {k0 k1 lim w : Nat} (R0 : RS σ k0 lim w) (R1 : RS σ k1 lim w) (h1 : k0 ≠ k1) (h2 : k0 + 1 ≠ k1) (h3 : k0 ≠ k1 + 1) : ∃ σ', m_X6_copy k0 k1 σ = some σ' ∧ σ'.2 = σ.2 ∧ (∀ a, a ≠ k0 → a ≠ k0 + 1 → σ'.1 a = σ.1 a) ∧ (∀ b, b ≠ 3 → σ'.1 k0 b = σ.1 k0 b) ∧ (∀ n, σ.1 k1 3 = nI n → n ≤ lim → σ'.1 k0 3 = nI n) ∧ ∀ j, j < lim * w → σ'.1 (k0 + 1) j = σ.1 (k1 + 1) j := by
  obtain ⟨r0, r1, r2, r3, r4, r5⟩ := id R0
  obtain ⟨s0, s1, s2, s3, s4, s5⟩ := id R1
  have loop : ∀ (kx : Sg → Option Sg) F v (σ' : Sg), v ≤ lim * w → lim * w < v + F → (σ'.2 = σ.2 ∧ (∀ a, a ≠ k0 + 1 → σ'.1 a = σ.1 a) ∧ ∀ j, j < v → σ'.1 (k0 + 1) j = σ.1 (k1 + 1) j) → ∃ σ'', m_X6_copy_L7 k0 k1 kx F (nI v) σ' = kx σ'' ∧ (σ''.2 = σ.2 ∧ (∀ a, a ≠ k0 + 1 → σ''.1 a = σ.1 a) ∧ ∀ j, j < lim * w → σ''.1 (k0 + 1) j = σ.1 (k1 + 1) j) := by
    intro kx F
    induction F with
    | zero => intro v σ' q1 q2; exact absurd q2 (by omega)
    | succ F ih =>
      intro v σ' q1 q2 ⟨i1, i2, i3⟩
      rw [m_X6_copy_L7.eq_2, r2, s2]
      rcases Nat.lt_or_ge v (lim * w) with q | q
      · rw [if_neg (nI_ge q (by omega)), if_neg (nI_ge q (by omega)), ix_if q (by omega), ix_if q (by omega), nI_clamp (by omega), nm_eq, nI_1, nm_eq, i2 (k1 + 1) (by omega)]
        refine ih (v + 1) _ (by omega) (by omega) ⟨i1, fun a ha => (si_row _ _ _ _ ha).trans (i2 a ha), fun j g1 => ?_⟩
        rw [si_1]
        by_cases e : j = v
        · subst e
          rw [if_pos ⟨rfl, rfl⟩]
        · rw [if_neg (fun z => e z.2)]
          exact i3 j (by omega)
      · rw [if_pos (nI_le q (by omega))]
        exact ⟨σ', rfl, i1, i2, fun j g => i3 j (by omega)⟩
  unfold m_X6_copy
  rw [nm_eq]
  obtain ⟨σ', e, i1, i2, i3⟩ := loop (fun σ4 =>
    nm (if (σ4.1 k0 0) < (σ4.1 k1 3) then (σ4.1 k0 0) else (σ4.1 k1 3)) (fun x5 =>
    nm (si σ4 k0 3 x5) (fun σ6 =>
    some σ6))) 1000 0 σ (by omega) (by omega) ⟨rfl, fun _ _ => rfl, fun j g => absurd g (by omega)⟩
  refine ⟨_, e, i1, fun a g1 g2 => (si_row _ _ _ _ g1).trans (i2 a g2), fun b hb => (si_off' _ _ _ _ _ hb).trans (by rw [i2 k0 (by omega)]), fun n hs hn => ?_, fun j hj => ?_⟩
  · rw [si_at, i2 k0 (by omega), i2 k1 (by omega), hs, r0, if_neg (nI_nlt hn (by omega))]
  · rw [si_row _ _ _ _ (by omega)]
    exact i3 j hj
theorem HS.keep2 {σ σ' : Sg} {h : Nat} (H : HS σ h) (hk : ∀ e, e < 15 → e % 2 = 1 → ∀ b, b < 2 → σ'.1 (h + e) b = σ.1 (h + e) b) : HS σ' h := by
  unfold HS RS at *
  rw [hk 1 (by omega) rfl 0 (by omega), hk 1 (by omega) rfl 1 (by omega), hk 3 (by omega) rfl 0 (by omega), hk 3 (by omega) rfl 1 (by omega), hk 5 (by omega) rfl 0 (by omega), hk 5 (by omega) rfl 1 (by omega), hk 7 (by omega) rfl 0 (by omega), hk 7 (by omega) rfl 1 (by omega), hk 9 (by omega) rfl 0 (by omega), hk 9 (by omega) rfl 1 (by omega), hk 11 (by omega) rfl 0 (by omega), hk 11 (by omega) rfl 1 (by omega), hk 13 (by omega) rfl 0 (by omega), hk 13 (by omega) rfl 1 (by omega)]
  exact H
/-- how long an array of a house is -/
def el (e : Nat) : Nat := if e = 2 then 24 else if e = 4 then 9 else if e = 6 then 4 else if e = 8 then 15 else if e = 10 then 24 else if e = 12 then 24 else if e = 14 then 88 else 0
theorem ro_even : ∀ j, j < 195 → ro j % 2 = 0 → (ro j = 0 ∧ co j = 0) ∨ (0 < ro j ∧ co j < el (ro j)) := by decide +kernel
theorem ro_5 : ∀ j, j < 195 → ro j ≠ 5 := by decide +kernel
/-- the first d rows are copied -/
def CPY (k0 k1 : Nat) (σ : Sg) (d : Nat) (σ' : Sg) : Prop :=
  HF k0 σ σ' ∧ HS σ' k0 ∧ ∀ e, e < d → e ≠ 5 → ∀ b, (e % 2 = 1 → b = 3) → (e = 0 → b = 0) → (e % 2 = 0 → 0 < e → b < el e) → σ'.1 (k0 + e) b = σ.1 (k1 + e) b
theorem CPY.row {k0 k1 d lim w : Nat} {σ σ' : Sg} (H : CPY k0 k1 σ d σ') (hk : k0 + 15 ≤ k1 ∨ k1 + 15 ≤ k0) (hd : d % 2 = 1) (hd2 : d + 1 < 15) (he : el (d + 1) = lim * w) (R0 : RS σ' (k0 + d) lim w) (R1 : RS σ (k1 + d) lim w) (hs : d = 5 ∨ ∃ n, σ.1 (k1 + d) 3 = nI n ∧ n ≤ lim) : ∃ σ'', m_X6_copy (k0 + d) (k1 + d) σ' = some σ'' ∧ CPY k0 k1 σ (d + 2) σ'' := by
  obtain ⟨hF, hS, hC⟩ := H
  have f1 : σ'.1 (k1 + d) = σ.1 (k1 + d) := hF.1 _ (by omega)
  have f2 : σ'.1 (k1 + d + 1) = σ.1 (k1 + d + 1) := hF.1 _ (by omega)
  obtain ⟨σ'', e, i1, i2, i3, i4, i5⟩ := e_copy R0 (R1.keep (by rw [f1]) (by rw [f1])) (by omega) (by omega) (by omega)
  refine ⟨σ'', e, ⟨fun a ha => (i2 a (by omega) (by omega)).trans (hF.1 a ha), i1.trans hF.2⟩, hS.keep2 (fun e he he2 b hb => ?_), fun e he5 hne b q1 q2 q3 => ?_⟩
  · by_cases c : e = d
    · subst c
      exact i3 b (by omega)
    · rw [i2 _ (by omega) (by omega)]
  · by_cases c : e = d
    · subst c
      obtain ⟨n, hn, hn2⟩ := hs.resolve_left hne
      rw [q1 hd, i4 n ((congrFun f1 3).trans hn) hn2, hn]
    · by_cases c2 : e = d + 1
      · subst c2
        have q := q3 (by omega) (by omega)
        rw [he] at q
        exact (i5 b q).trans (congrFun f2 b)
      · rw [i2 _ (by omega) (by omega)]
        exact hC e (by omega) hne b q1 q2 q3
theorem h_copy {k0 k1 B : Nat} {σ : Sg} {V : Vw} (S0 : HS σ k0) (S1 : HS σ k1) (H1 : HV σ k1 V) (ok : VOK V B) (hk : k0 + 15 ≤ k1 ∨ k1 + 15 ≤ k0) : ∃ σ', m_X2_copy k0 k1 σ = some σ' ∧ HT k0 σ σ' V := by
  obtain ⟨b0, b1, b2, b3, b4, b5, _⟩ := id ok
  have C0 : CPY k0 k1 σ 1 (si σ k0 0 (σ.1 k1 0)) := by
    refine ⟨(HF.rfl' _ _).set (Nat.le_refl _) (by omega) _ _, S0.keep2 (fun e he he2 b hb => by rw [si_row _ _ _ _ (by omega)]), fun e he hne b q1 q2 q3 => ?_⟩
    have : e = 0 := by omega
    subst this
    rw [q2 rfl]
    exact si_at _ _ _ _
  obtain ⟨σ1, e1, C1⟩ := C0.row hk rfl (by omega) (lim := 8) (w := 3) rfl C0.2.1.1 S1.1 (.inr ⟨_, H1.1.1.trans b0.1, b0.2⟩)
  obtain ⟨σ2, e2, C2⟩ := C1.row hk rfl (by omega) (lim := 3) (w := 3) rfl C1.2.1.2.1 S1.2.1 (.inr ⟨_, H1.1.2.1.trans b1.1, b1.2⟩)
  obtain ⟨σ3, e3, C3⟩ := C2.row hk rfl (by omega) (lim := 4) (w := 1) rfl C2.2.1.2.2.1 S1.2.2.1 (.inl rfl)
  obtain ⟨σ4, e4, C4⟩ := C3.row hk rfl (by omega) (lim := 5) (w := 3) rfl C3.2.1.2.2.2.1 S1.2.2.2.1 (.inr ⟨_, H1.1.2.2.1.trans b2.1, b2.2⟩)
  obtain ⟨σ5, e5, C5⟩ := C4.row hk rfl (by omega) (lim := 6) (w := 4) rfl C4.2.1.2.2.2.2.1 S1.2.2.2.2.1 (.inr ⟨_, H1.1.2.2.2.1.trans b3.1, b3.2⟩)
  obtain ⟨σ6, e6, C6⟩ := C5.row hk rfl (by omega) (lim := 6) (w := 4) rfl C5.2.1.2.2.2.2.2.1 S1.2.2.2.2.2.1 (.inr ⟨_, H1.1.2.2.2.2.1.trans b4.1, b4.2⟩)
  obtain ⟨σ7, e7, C7⟩ := C6.row hk rfl (by omega) (lim := 8) (w := 11) rfl C6.2.1.2.2.2.2.2.2 S1.2.2.2.2.2.2 (.inr ⟨_, H1.1.2.2.2.2.2.1.trans b5.1, b5.2⟩)
  refine ⟨σ7, ?_, HX.done ok ⟨C7.1, C7.2.1, fun j hj hl => ?_⟩⟩
  · unfold m_X2_copy
    rw [nm_eq, e1, bd1_s, e2, bd1_s, e3, bd1_s, e4, bd1_s, e5, bd1_s, e6, bd1_s, e7, bd1_s]
  · have h15 := ro_lt j hj
    refine (C7.2.2 (ro j) (by omega) (ro_5 j hj) (co j) (fun q => ro_odd j hj q) (fun q => ?_) (fun q1 q2 => ?_)).trans (HV_HW H1 j hj hl)
    · rcases ro_even j hj (by omega) with z | z
      · exact z.2
      · omega
    · rcases ro_even j hj q1 with z | z
      · omega
      · exact z.2
-- the model moves
/-- the first d of what an image keeps are moved: G was in the image, V lives, T is there in the end -/
def MV (off : Nat) (G V T : Vw) (σ0 : Sg) (d : Nat) (σ : Sg) : Prop :=
  ((∀ a, ¬ (a = 68 ∨ (70 ≤ a ∧ a ≤ 74) ∨ (77 ≤ a ∧ a ≤ 80)) → a ≠ 83 → σ.1 a = σ0.1 a) ∧ (∀ b, b = 9 ∨ b = 10 ∨ b = 11 → σ.1 68 b = σ0.1 68 b) ∧ σ.2 = σ0.2) ∧
  (∀ j, j < 195 → σ.1 (mr j) (mc j) = if j < d then T j else V j) ∧ (∀ j, j < 195 → σ.1 83 (off + j) = if j < d then T j else G j) ∧ ∀ b, b < off ∨ off + 195 ≤ b → σ.1 83 b = σ0.1 83 b
theorem MV.step {off d : Nat} {G V T : Vw} {σ0 σ : Sg} (H : MV off G V T σ0 d σ) (hd : d < 195) {a b : Nat} (ha : mr d = a) (hb : mc d = b) : MV off G V T σ0 (d + 1) (si (si σ 83 (off + d) (T d)) a b (T d)) := by
  subst ha hb
  obtain ⟨⟨h1, h2, h3⟩, h4, h5, h6⟩ := H
  have hm := mr_in d hd
  refine ⟨⟨fun a q1 q2 => ?_, fun b q => ?_, h3⟩, fun j hj => ?_, fun j hj => ?_, fun b q => ?_⟩
  · rw [si_row _ _ _ _ (by omega), si_row _ _ _ _ q2]
    exact h1 a q1 q2
  · rw [si_1, if_neg, si_row _ _ _ _ (by decide)]
    · exact h2 b q
    · intro z
      have := mc_68 d hd z.1.symm
      omega
  · rw [si_1]
    by_cases c : j = d
    · subst c
      rw [if_pos ⟨rfl, rfl⟩, if_pos (by omega)]
    · have := mr_in j hj
      rw [if_neg (fun q => c (mr_inj d hd j hj q.1 q.2)), si_row _ _ _ _ (by omega), h4 j hj]
      by_cases c2 : j < d
      · rw [if_pos c2, if_pos (by omega)]
      · rw [if_neg c2, if_neg (by omega)]
  · rw [si_row _ _ _ _ (by omega), si_1]
    by_cases c : j = d
    · subst c
      rw [if_pos ⟨rfl, rfl⟩, if_pos (by omega)]
    · rw [if_neg (by omega), h5 j hj]
      by_cases c2 : j < d
      · rw [if_pos c2, if_pos (by omega)]
      · rw [if_neg c2, if_neg (by omega)]
  · rw [si_row _ _ _ _ (by omega), si_1, if_neg (by omega)]
    exact h6 b q
section MOVE
variable {off : Nat} {G V T : Vw} {σ0 : Sg} {a1 : Int32}
theorem y_moves (hT : ∀ j, T j = if a1 = 0 then G j else V j) (ho : off + 195 ≤ 392) {d : Nat} {σ : Sg} (H : MV off G V T σ0 d σ) (hd : d < 195) {a b : Nat} (ha : mr d = a) (hb : mc d = b) : m_X8_moves a1 (nI (off + d)) (σ.1 a b) σ = some (T d, si σ 83 (off + d) (T d)) := by
  subst ha hb
  have h4 := H.2.1 d hd
  have h5 := H.2.2.1 d hd
  rw [if_neg (by omega)] at h4 h5
  unfold m_X8_moves
  rw [ln_83, ix_if (show off + d < 392 by omega) (by omega), nI_clamp (by omega), h4, h5]
  have e : (if a1 = 0 then some (G d) else some (V d)) = some (T d) := by
    rw [hT d]
    split <;> rfl
  rw [e, bd1_s, ix_ifc (show off + d < 392 by omega) (by omega), nm_eq, ix_ifc (show off + d < 392 by omega) (by omega), si_at]
theorem y_moveRow (hT : ∀ j, T j = if a1 = 0 then G j else V j) (ho : off + 195 ≤ 392) {base k3 L : Nat} (hL : base + L ≤ 195) (hk : ∀ v, v < L → mr (base + v) = k3 ∧ mc (base + v) = v) (hl : len k3 = L) {σ : Sg} (H : MV off G V T σ0 base σ) : ∃ σ', m_X8_moveRow a1 (nI (off + base)) k3 (nI L) σ = some σ' ∧ MV off G V T σ0 (base + L) σ' := by
  have loop : ∀ F v (σ : Sg), v ≤ L → L < v + F → MV off G V T σ0 (base + v) σ → ∃ σ', m_X8_moveRow_L3 k3 a1 (nI (off + base)) (nI L) (fun _ => none) F (nI v) σ = some σ' ∧ MV off G V T σ0 (base + L) σ' := by
    intro F
    induction F with
    | zero => intro v σ h1 h2; exact absurd h2 (by omega)
    | succ F ih =>
      intro v σ h1 h2 H
      rw [m_X8_moveRow_L3.eq_2, hl]
      rcases Nat.lt_or_ge v L with q | q
      · obtain ⟨e1, e2⟩ := hk v q
        rw [if_neg (nI_ge q (by omega)), ix_if q (by omega), nI_clamp (by omega), nI_add, show off + base + v = off + (base + v) by omega, y_moves hT ho H (by omega) e1 e2, bd2_s, ix_ifc q (by omega), nm_eq, nI_1, nm_eq]
        exact ih (v + 1) _ (by omega) (by omega) (H.step (by omega) e1 e2)
      · have : v = L := by omega
        subst this
        rw [if_pos (nI_le (Nat.le_refl _) (by omega))]
        exact ⟨σ, rfl, H⟩
  unfold m_X8_moveRow
  rw [nm_eq]
  exact loop 1000 0 σ (by omega) (by omega) H
theorem y_moveAll (hT : ∀ j, T j = if a1 = 0 then G j else V j) (ho : off + 195 ≤ 392) {σ : Sg} (H : MV off G V T σ0 0 σ) : ∃ σ', m_X8_moveAll a1 (nI off) σ = some σ' ∧ MV off G V T σ0 195 σ' := by
  have A : ∀ k, nI off + nI k = nI (off + k) := fun k => nI_add off k
  unfold m_X8_moveAll
  rw [show (1 : Int32) = nI 1 from rfl, show (2 : Int32) = nI 2 from rfl, show (3 : Int32) = nI 3 from rfl, show (4 : Int32) = nI 4 from rfl, show (5 : Int32) = nI 5 from rfl, show (6 : Int32) = nI 6 from rfl, show (14 : Int32) = nI 14 from rfl, show (22 : Int32) = nI 22 from rfl, show (30 : Int32) = nI 30 from rfl, show (33 : Int32) = nI 33 from rfl, show (44 : Int32) = nI 44 from rfl, show (59 : Int32) = nI 59 from rfl, show (83 : Int32) = nI 83 from rfl, show (107 : Int32) = nI 107 from rfl, A, A, A, A, A, A, A, A, A, A, A, A, A, A]
  rw [show m_X8_moves a1 (nI off) (σ.1 68 1) σ = _ from y_moves hT ho H (d := 0) (by omega) rfl rfl, bd2_s, nm_eq]
  have H1 := H.step (d := 0) (by omega) (show _ = 68 from rfl) (show _ = 1 from rfl)
  rw [y_moves hT ho H1 (by omega) (show _ = 68 from rfl) (show _ = 5 from rfl), bd2_s, nm_eq]
  have H2 := H1.step (by omega) (show _ = 68 from rfl) (show _ = 5 from rfl)
  rw [y_moves hT ho H2 (by omega) (show _ = 68 from rfl) (show _ = 16 from rfl), bd2_s, nm_eq]
  have H3 := H2.step (by omega) (show _ = 68 from rfl) (show _ = 16 from rfl)
  rw [y_moves hT ho H3 (by omega) (show _ = 68 from rfl) (show _ = 18 from rfl), bd2_s, nm_eq]
  have H4 := H3.step (by omega) (show _ = 68 from rfl) (show _ = 18 from rfl)
  rw [y_moves hT ho H4 (by omega) (show _ = 68 from rfl) (show _ = 20 from rfl), bd2_s, nm_eq]
  have H5 := H4.step (by omega) (show _ = 68 from rfl) (show _ = 20 from rfl)
  rw [y_moves hT ho H5 (by omega) (show _ = 68 from rfl) (show _ = 14 from rfl), bd2_s, nm_eq]
  have H6 := H5.step (by omega) (show _ = 68 from rfl) (show _ = 14 from rfl)
  obtain ⟨s1, e1, H7⟩ := y_moveRow hT ho (by omega) m_kind ln_70 H6
  obtain ⟨s2, e2, H8⟩ := y_moveRow hT ho (by omega) m_spot ln_71 H7
  obtain ⟨s3, e3, H9⟩ := y_moveRow hT ho (by omega) m_force ln_72 H8
  obtain ⟨s4, e4, H10⟩ := y_moveRow hT ho (by omega) m_sort ln_73 H9
  obtain ⟨s5, e5, H11⟩ := y_moveRow hT ho (by omega) m_now ln_74 H10
  obtain ⟨s6, e6, H12⟩ := y_moveRow hT ho (by omega) m_told ln_78 H11
  obtain ⟨s7, e7, H13⟩ := y_moveRow hT ho (by omega) m_note ln_79 H12
  obtain ⟨s8, e8, H14⟩ := y_moveRow hT ho (by omega) m_mark ln_80 H13
  obtain ⟨s9, e9, H15⟩ := y_moveRow hT ho (by omega) m_undo ln_77 H14
  refine ⟨s9, ?_, H15⟩
  refine (congrArg (fun z => bd1 z _) e1).trans ?_
  rw [bd1_s]
  refine (congrArg (fun z => bd1 z _) e2).trans ?_
  rw [bd1_s]
  refine (congrArg (fun z => bd1 z _) e3).trans ?_
  rw [bd1_s]
  refine (congrArg (fun z => bd1 z _) e4).trans ?_
  rw [bd1_s]
  refine (congrArg (fun z => bd1 z _) e5).trans ?_
  rw [bd1_s]
  refine (congrArg (fun z => bd1 z _) e6).trans ?_
  rw [bd1_s]
  refine (congrArg (fun z => bd1 z _) e7).trans ?_
  rw [bd1_s]
  refine (congrArg (fun z => bd1 z _) e8).trans ?_
  rw [bd1_s]
  refine (congrArg (fun z => bd1 z _) e9).trans ?_
  rw [bd1_s]
end MOVE
