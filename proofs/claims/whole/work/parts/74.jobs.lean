/-! ===== PURE: jobs ===== -/
def JX (X : Nat) : Nat := (X * 1103515245 + 12345) % 2147483648
theorem JX_lt (X : Nat) : JX X < 2147483648 := Nat.mod_lt _ (by decide)
theorem j_next {X : Nat} (hX : X < 2147483648) : (lN X * (1103515245 : Int64) + (12345 : Int64)) - (lN X * (1103515245 : Int64) + (12345 : Int64)) / (2147483648 : Int64) * (2147483648 : Int64) = lN (JX X) := by
  rw [show (1103515245 : Int64) = lN 1103515245 from rfl, show (12345 : Int64) = lN 12345 from rfl, show (2147483648 : Int64) = lN 2147483648 from rfl, lN_mul, lN_add, pk_lRem (by omega) (by decide) (by decide)]
  rfl
theorem j_ear {X : Nat} (hX : X < 2147483648) : Int64.toInt32 ((lN X / (65536 : Int64)) - (lN X / (65536 : Int64)) / (3 : Int64) * (3 : Int64)) = nI (X / 65536 % 3) := by
  rw [show (65536 : Int64) = lN 65536 from rfl, show (3 : Int64) = lN 3 from rfl, pk_lDiv (by omega) (by decide) (by decide), pk_lRem (by omega) (by decide) (by decide), lN_i]
theorem j_room {X : Nat} (hX : X < 2147483648) : Int64.toInt32 ((lN X / (1048576 : Int64)) - (lN X / (1048576 : Int64)) / (4 : Int64) * (4 : Int64)) = nI (X / 1048576 % 4) := by
  rw [show (1048576 : Int64) = lN 1048576 from rfl, show (4 : Int64) = lN 4 from rfl, pk_lDiv (by omega) (by decide) (by decide), pk_lRem (by omega) (by decide) (by decide), lN_i]
/-- a job: listener i goes to room r -/
def vJob (V : Vw) (l i r : Nat) : Vw := if i < l then (if mo (vu V (38 + i) (nI r)) r 0 = -1 then vu (vu V (38 + i) (nI r)) (34 + r) (vu V (38 + i) (nI r) 33) else vu V (38 + i) (nI r)) else V
def vJobs (l : Nat) : Nat → Nat → Vw → Vw
  | 0, _, V => V
  | k + 1, X, V => vJobs l k (JX X) (vTick (vJob V l (JX X / 65536 % 3) (JX X / 1048576 % 4)) l)
theorem vJob_off {V : Vw} {l i r j : Nat} (hi : i < 3) (hr : r < 4) (h : j < 33 ∨ 44 ≤ j) : vJob V l i r j = V j := by
  unfold vJob
  split
  · split
    · rw [vu_off _ _ (by omega), vu_off _ _ (by omega)]
    · rw [vu_off _ _ (by omega)]
  · rfl
theorem vJobs_off {l j : Nat} (hl : l ≤ 3) (h : j < 33 ∨ 44 ≤ j) : ∀ k X (V : Vw), vJobs l k X V j = V j := by
  intro k
  induction k with
  | zero => intro X V; rfl
  | succ k ih =>
    intro X V
    unfold vJobs
    rw [ih]
    show (if j = 33 then _ else if 41 ≤ j ∧ j < 41 + l then _ else _) = _
    rw [if_neg (by omega), if_neg (by omega), vJob_off (by omega) (by omega) h]
section JOBS
variable {h : Nat} {σ0 σ : Sg} {V : Vw} {s l t n m p B : Nat}
theorem VK.job (K : VK V s l t n m p B) {i r : Nat} (hi : i < 3) (hr : r < 4) : VK (vJob V l i r) s l t n m p B := by
  unfold vJob
  split
  · split
    · exact (K.go hi hr).strip hr (.inr rfl)
    · exact K.go hi hr
  · exact K
theorem h_tick (hB : B ≤ 20000) (T : HT h σ0 σ V) (K : VK V s l t n m p B) : ∃ σ', m_X2_passMinutes h 1 1000000 σ = some σ' ∧ HT h σ0 σ' (vTick V l) := by
  have em : σ.1 h 0 = V 33 := T.2.2.1.2.2.2.2.2.2
  obtain ⟨⟨mi, n1, n2, n3⟩, n4, n5, n6⟩ := K.2.2.2.1
  have n2' : V 33 = nI mi := n2
  have hno : ¬ (1000000 : Int32) ≤ V 33 := by
    rw [n2', le_I, nI_toInt (by omega)]
    have : (1000000 : Int32).toInt = 1000000 := rfl
    omega
  have b := K.1.B
  have main : ∀ F, ∃ σ', m_X2_passMinutes_L2 h (nI 1) 1000000 (fun _ => none) (F + 1 + 1) (nI 0) σ = some σ' ∧ HT h σ0 σ' (vTick V l) := by
    intro F
    rw [m_X2_passMinutes_L2.eq_2, if_neg (nI_ge (by omega) (by omega)), em, if_neg hno, nm_eq]
    have T0 : HT h σ0 σ (vHear V 0) := HX.fin (K.hear (Nat.zero_le _)).1 ((T.K K.1).out (fun k _ hk => hk) (fun k _ _ => if_neg (by omega)))
    obtain ⟨σ1, e1, T1⟩ := h_hear hB K (nI 1) 1000000 (nI 0) (fun σ14 =>
      nm (si σ14 h 0 ((σ14.1 h 0) + (1 : Int32))) (fun σ15 =>
      nm ((nI 0) + (1 : Int32)) (fun x16 =>
      m_X2_passMinutes_L2 h (nI 1) 1000000 (fun _ => none) (F + 1) x16 σ15))) 1000 0 σ (Nat.zero_le _) (by omega) T0
    have em1 : σ1.1 h 0 = V 33 := (T1.2.2.1.2.2.2.2.2.2).trans (if_neg (by omega))
    have X := (T1.K (K.hear (Nat.le_refl _)).1).set 33 (by omega) (x := V 33 + 1) (show h = _ from rfl) (show 0 = _ from rfl) (tr_f rfl).symm
    have Kt := K.tick hB
    have T2 : HT h σ0 (si σ1 h 0 (V 33 + 1)) (vTick V l) := HX.fin Kt.1 (X.out (fun k _ hk => .inl hk) (fun k _ hk => by
      by_cases c : k = 33
      · subst c
        rw [vu_at]
        (try simp only [vSay, vEar, vTold, vNote, vMark, vReset, vShift, vPush, vPop, vTick, vu]; repeat (first | rw [if_pos trivial] | rw [if_pos (by omega)] | rw [if_neg (by omega)]))
      · rw [vu_off _ _ c]
        show (if _ then _ else _) = (if _ then _ else _)
        rw [if_neg c]))
    refine ⟨_, e1.trans ?_, T2⟩
    rw [nm_eq, nm_eq, em1, nI_1, m_X2_passMinutes_L2.eq_2, if_pos (nI_le (by omega) (by omega))]
  unfold m_X2_passMinutes
  rw [nm_eq]
  exact main 998
theorem h_job (hB : B ≤ 20000) (T : HT h σ0 σ V) (K : VK V s l t n m p B) {i r : Nat} (hi : i < 3) (hr : r < 4) {β : Type} (kk : Sg → Option β) : ∃ σ', bd1 (
    if (σ.1 (h + 3) 3) ≤ nI i then
    (some (σ))
    else
    (bd1 (m_X6_set (h + 3) (nI i) (1 : Int32) (nI r) σ) (fun σ11 =>
    bd1 (m_X2_roomMinute h (nI r) (0 : Int32) σ11) (fun r13 =>
    if r13 = (-1 : Int32) then
    (bd1 (m_X2_strip h (nI r) σ11) (fun σ15 =>
    some (σ15)))
    else
    (some (σ11)))))) kk = kk σ' ∧ HT h σ0 σ' (vJob V l i r) := by
  have b := K.1.B
  have el : σ.1 (h + 3) 3 = nI l := (T.2.2.1.2.1).trans K.1.1.2.1
  unfold vJob
  rw [el]
  rcases Nat.lt_or_ge i l with q | q
  · obtain ⟨σ1, e1, T1⟩ := h_go T K hi hr
    have K1 := K.go hi hr
    rw [if_neg (nI_ge q (by omega)), if_pos q, e1, bd1_s, show m_X2_roomMinute h (nI r) (0 : Int32) σ1 = some (mo (vu V (38 + i) (nI r)) r 0) from e_roomMinute (t := 0) T1.2.1 T1.2.2 K1.ok.N hB hr (by omega), bd1_s]
    by_cases c : mo (vu V (38 + i) (nI r)) r 0 = -1
    · obtain ⟨σ2, e2, T2⟩ := h_strip T1 K1 hr
      rw [if_pos c, if_pos c, e2, bd1_s, bd1_s]
      exact ⟨σ2, rfl, T2⟩
    · rw [if_neg c, if_neg c, bd1_s]
      exact ⟨σ1, rfl, T1⟩
  · rw [if_pos (nI_le q (by omega)), if_neg (by omega), bd1_s]
    exact ⟨σ, rfl, T⟩
theorem h_jobs {N : Nat} (hN : N ≤ 60) (kx : Sg → Option Sg) : ∀ F k X (σ : Sg) (V : Vw), k ≤ N → N < k + F → X < 2147483648 → HT h σ0 σ V → VK V s l t n m p (9999 + k) → ∃ σ', m_X4_workJobs_L6 h (nI N) kx F (nI k) (lN X) σ = some σ' ∧ HT h σ0 σ' (vJobs l (N - k) X V) ∧ VK (vJobs l (N - k) X V) s l t n m p (9999 + N) := by
  intro F
  induction F with
  | zero => intro k X σ V h1 h2; exact absurd h2 (by omega)
  | succ F ih =>
    intro k X σ V h1 h2 hX T K
    rw [m_X4_workJobs_L6.eq_2]
    rcases Nat.lt_or_ge k N with q | q
    · have hJ := JX_lt X
      have hi : JX X / 65536 % 3 < 3 := by omega
      have hr : JX X / 1048576 % 4 < 4 := by omega
      rw [if_neg (nI_ge q (by omega)), j_next hX, nm_eq, j_ear hJ, nm_eq, j_room hJ, nm_eq]
      obtain ⟨σ1, e1, T1⟩ := h_job (by omega) T K hi hr (fun σ7 =>
        bd1 (m_X2_passMinutes h (1 : Int32) (1000000 : Int32) σ7) (fun σ8 =>
        nm (nI k + (1 : Int32)) (fun x10 =>
        m_X4_workJobs_L6 h (nI N) kx F x10 (lN (JX X)) σ8)))
      have K1 := K.job hi hr
      obtain ⟨σ2, e2, T2⟩ := h_tick (by omega) T1 K1
      have K2 := K1.tick (by omega)
      obtain ⟨σ3, e3, T3⟩ := ih (k + 1) (JX X) σ2 _ (by omega) (by omega) hJ T2 K2
      rw [show N - k = N - (k + 1) + 1 by omega]
      refine ⟨σ3, e1.trans ?_, T3⟩
      rw [e2, bd1_s, nI_1, nm_eq]
      exact e3
    · have : k = N := by omega
      subst this
      rw [if_pos (nI_le (Nat.le_refl _) (by omega)), Nat.sub_self]
      exact ⟨σ, rfl, T, K⟩
theorem y_isL2 (H : Live σ V) (hL : CN (V 1) 3) (a : Int32) : m_X8_isEar a σ = some (b01 (rng a 0 ((nL V : Int) - 1))) := by
  have h3 : nL V ≤ 3 := hL.2
  unfold m_X8_isEar
  rw [e_in32, bd1_s, b01_g, H.1.2.1, hL.1, Int32.toInt_toInt64, toInt_pred (show _ ≤ 200 from Nat.le_trans h3 (by decide))]
  rfl
theorem m_job (X : LX σ0 σ V) (K : VK V s l t n m p B) {i r : Nat} (hi : i < 3) (hr : r < 4) {β : Type} (kk : Sg → Option β) : ∃ σ', bd1 (m_X8_isEar (nI i) σ) (fun r17 =>
    bd1 (
    if r17 = 0 then
    (some (σ))
    else
    (if (((5 : Int32) + nI i) < 0 ∨ len 74 ≤ ((5 : Int32) + nI i).toNatClampNeg) then none else
    (nm (si σ 74 ((5 : Int32) + nI i).toNatClampNeg (nI r)) (fun σ24 =>
    bd1 (m_X8_minuteOf (nI r) σ24) (fun r25 =>
    bd1 (
    if r25 = (-1 : Int32) then
    (if ((0 : Int32) < 0 ∨ len 74 ≤ (0 : Int32).toNatClampNeg) then none else
    (some ((σ24.1 74 (0 : Int32).toNatClampNeg))))
    else
    (if (((1 : Int32) + nI r) < 0 ∨ len 74 ≤ ((1 : Int32) + nI r).toNatClampNeg) then none else
    (some ((σ24.1 74 ((1 : Int32) + nI r).toNatClampNeg))))) (fun o28 =>
    if (((1 : Int32) + nI r) < 0 ∨ len 74 ≤ ((1 : Int32) + nI r).toNatClampNeg) then none else
    (nm (si σ24 74 ((1 : Int32) + nI r).toNatClampNeg o28) (fun σ29 =>
    some (σ29))))))))) kk) = kk σ' ∧ LX σ0 σ' (vJob V l i r) := by
  have b := K.1.B
  have hn := K.1.N
  have hc : rng (nI i) 0 ((nL V : Int) - 1) ↔ i < l := by
    rw [nI_rng (by omega), hn.2.1]
    omega
  have e51 : (5 : Int32) + nI i = nI (5 + i) := nI_add 5 i
  have e11 : (1 : Int32) + nI r = nI (1 + r) := nI_add 1 r
  have e0 : (0 : Int32).toNatClampNeg = 0 := rfl
  unfold vJob
  rw [y_isL2 X.2 K.ok.2.1, bd1_s, b01_z, e51, e11]
  rcases Nat.lt_or_ge i l with q | q
  · have X1 := X.set (33 + (5 + i)) (by omega) (x := nI r) (m_now (5 + i) (by omega)).1 (m_now (5 + i) (by omega)).2
    have X2 : LX σ0 (si σ 74 (5 + i) (nI r)) (vu V (38 + i) (nI r)) := X1.out (fun k hk => by rw [show 38 + i = 33 + (5 + i) by omega])
    rw [if_pos (hc.mpr q), if_pos q, ln_74, ix_if (show 5 + i < 11 by omega) (by omega), nI_clamp (show 5 + i < 2 ^ 31 by omega), nm_eq, e_minuteOf X2.2 hr, bd1_s, nI_clamp (show 1 + r < 2 ^ 31 by omega)]
    by_cases c : mo (vu V (38 + i) (nI r)) r 0 = -1
    · have h0 : (si σ 74 (5 + i) (nI r)).1 74 0 = vu V (38 + i) (nI r) 33 := X2.2.2.2.2.2.2.1 0 (by omega)
      rw [if_pos c, if_pos c, if_neg (show ¬ ((0 : Int32) < 0 ∨ 11 ≤ (0 : Int32).toNatClampNeg) by decide), e0, h0, bd1_s, ix_ifc (show 1 + r < 11 by omega) (by omega), nm_eq, bd1_s]
      have X3 := X2.set (33 + (1 + r)) (by omega) (x := vu V (38 + i) (nI r) 33) (m_now (1 + r) (by omega)).1 (m_now (1 + r) (by omega)).2
      exact ⟨_, rfl, X3.out (fun k hk => by rw [show 34 + r = 33 + (1 + r) by omega])⟩
    · have h1 : (si σ 74 (5 + i) (nI r)).1 74 (1 + r) = vu V (38 + i) (nI r) (34 + r) := (X2.2.2.2.2.2.2.1 (1 + r) (by omega)).trans (by rw [show 33 + (1 + r) = 34 + r by omega])
      rw [if_neg c, if_neg c, ix_ifc (show 1 + r < 11 by omega) (by omega), h1, bd1_s, ix_ifc (show 1 + r < 11 by omega) (by omega), nm_eq, bd1_s]
      have X3 := X2.set (33 + (1 + r)) (by omega) (x := vu V (38 + i) (nI r) (34 + r)) (m_now (1 + r) (by omega)).1 (m_now (1 + r) (by omega)).2
      refine ⟨_, rfl, X3.out (fun k hk => ?_)⟩
      by_cases c2 : k = 33 + (1 + r)
      · subst c2
        rw [vu_at, show 33 + (1 + r) = 34 + r by omega]
      · rw [vu_off _ _ c2]
  · rw [if_neg (fun z => absurd (hc.mp z) (by omega)), if_neg (by omega), bd1_s]
    exact ⟨σ, rfl, X⟩
theorem m_jobs {N : Nat} (hN : N ≤ 60) {β : Type} (kx : Sg → Option β) : ∀ F k X (σ : Sg) (V : Vw), k ≤ N → N < k + F → X < 2147483648 → LX σ0 σ V → VK V s l t n m p (9999 + k) → ∃ σ', m_X8_jobs_L61 (nI N) kx F (nI k) (lN X) σ = kx σ' ∧ LX σ0 σ' (vJobs l (N - k) X V) := by
  intro F
  induction F with
  | zero => intro k X σ V h1 h2; exact absurd h2 (by omega)
  | succ F ih =>
    intro k X σ V h1 h2 hX L K
    rw [m_X8_jobs_L61.eq_2]
    rcases Nat.lt_or_ge k N with q | q
    · have hJ := JX_lt X
      have hi : JX X / 65536 % 3 < 3 := by omega
      have hr : JX X / 1048576 % 4 < 4 := by omega
      rw [if_neg (nI_ge q (by omega)), j_next hX, nm_eq, j_ear hJ, nm_eq, j_room hJ, nm_eq]
      obtain ⟨σ1, e1, L1⟩ := m_job L K hi hr (fun σ20 =>
        bd1 (m_X8_goesBy σ20) (fun σ21 =>
        nm (nI k + (1 : Int32)) (fun x23 =>
        m_X8_jobs_L61 (nI N) kx F x23 (lN (JX X)) σ21)))
      have K1 := K.job hi hr
      obtain ⟨σ2, e2, L2⟩ := m_goesBy L1 K1
      have K2 := K1.tick (by omega)
      obtain ⟨σ3, e3, L3⟩ := ih (k + 1) (JX X) σ2 _ (by omega) (by omega) hJ L2 K2
      rw [show N - k = N - (k + 1) + 1 by omega]
      refine ⟨σ3, e1.trans ?_, L3⟩
      rw [e2, bd1_s, nI_1, nm_eq]
      exact e3
    · have : k = N := by omega
      subst this
      rw [if_pos (nI_le (Nat.le_refl _) (by omega)), Nat.sub_self]
      exact ⟨σ, rfl, L⟩
theorem m_save (c1 c2 : Int32) (H : Live σ V) {β : Type} (kx : Sg → Option β) : ∃ σ', m_X8_jobs_L31 c1 c2 kx 1000 0 σ = kx σ' ∧ FR 82 σ σ' ∧ ∀ j, j < 11 → σ'.1 82 j = V (33 + j) := by
  have loop : ∀ F v (σ' : Sg), v ≤ 11 → 11 < v + F → FR 82 σ σ' → (∀ j, j < v → σ'.1 82 j = V (33 + j)) → ∃ σ'', m_X8_jobs_L31 c1 c2 kx F (nI v) σ' = kx σ'' ∧ FR 82 σ σ'' ∧ ∀ j, j < 11 → σ''.1 82 j = V (33 + j) := by
    intro F
    induction F with
    | zero => intro v σ' h1 h2; exact absurd h2 (by omega)
    | succ F ih =>
      intro v σ' h1 h2 hF hv
      rw [m_X8_jobs_L31.eq_2, show (11 : Int32) = nI 11 from rfl]
      rcases Nat.lt_or_ge v 11 with q | q
      · have h74 : σ'.1 74 v = V (33 + v) := (congrFun (hF.1 74 (by omega)) v).trans (H.2.2.2.2.2.1 v q)
        rw [if_neg (nI_ge q (by omega)), ln_74, ln_82, ix_if q (by omega), ix_if q (by omega), nI_clamp (by omega), h74, nm_eq, nI_1, nm_eq]
        refine ih (v + 1) _ (by omega) (by omega) (hF.set _ _) (fun j hj => ?_)
        rw [si_1]
        by_cases c : j = v
        · subst c
          rw [if_pos ⟨rfl, rfl⟩]
        · rw [if_neg (fun z => c z.2)]
          exact hv j (by omega)
      · have : v = 11 := by omega
        subst this
        rw [if_pos (nI_le (Nat.le_refl _) (by omega))]
        exact ⟨σ', rfl, hF, hv⟩
  exact loop 1000 0 σ (by omega) (by omega) ⟨fun _ _ => rfl, rfl⟩ (fun j hj => absurd hj (by omega))
theorem m_restore (c5 : Int32) {V' : Vw} (X : LX σ0 σ V') (h82 : ∀ j, j < 11 → σ0.1 82 j = V (33 + j)) (hV : ∀ j, j < 33 ∨ 44 ≤ j → V' j = V j) : ∃ σ', m_X8_jobs_L181 c5 (fun _ => none) 1000 0 σ = some (c5, σ') ∧ LX σ0 σ' V := by
  have loop : ∀ F v (σ : Sg), v ≤ 11 → 11 < v + F → LX σ0 σ (fun k => if 33 ≤ k ∧ k < 33 + v then V k else V' k) → ∃ σ', m_X8_jobs_L181 c5 (fun _ => none) F (nI v) σ = some (c5, σ') ∧ LX σ0 σ' (fun k => if 33 ≤ k ∧ k < 33 + 11 then V k else V' k) := by
    intro F
    induction F with
    | zero => intro v σ h1 h2; exact absurd h2 (by omega)
    | succ F ih =>
      intro v σ h1 h2 X
      rw [m_X8_jobs_L181.eq_2, show (11 : Int32) = nI 11 from rfl]
      rcases Nat.lt_or_ge v 11 with q | q
      · have h : σ.1 82 v = V (33 + v) := (congrFun (X.1.1 82 (by omega)) v).trans (h82 v q)
        rw [if_neg (nI_ge q (by omega)), ln_74, ln_82, ix_if q (by omega), ix_if q (by omega), nI_clamp (by omega), h, nm_eq, nI_1, nm_eq]
        refine ih (v + 1) _ (by omega) (by omega) ((X.set (33 + v) (by omega) (x := V (33 + v)) (m_now v q).1 (m_now v q).2).out (fun k hk => ?_))
        by_cases c : k = 33 + v
        · subst c
          rw [vu_at, if_pos (by omega)]
        · rw [vu_off _ _ c]
          by_cases c2 : 33 ≤ k ∧ k < 33 + v
          · rw [if_pos c2, if_pos (by omega)]
          · rw [if_neg c2, if_neg (by omega)]
      · have : v = 11 := by omega
        subst this
        rw [if_pos (nI_le (Nat.le_refl _) (by omega))]
        exact ⟨σ, rfl, X⟩
  obtain ⟨σ', e, X'⟩ := loop 1000 0 σ (by omega) (by omega) (X.out (fun k hk => if_neg (by omega)))
  refine ⟨σ', e, X'.out (fun k hk => ?_)⟩
  by_cases c : 33 ≤ k ∧ k < 33 + 11
  · rw [if_pos c]
  · rw [if_neg c]
    exact (hV k (by omega)).symm
end JOBS
theorem sp_jobs : Sp_jobs Rel := by
  intro σ H a1 a2
  obtain ⟨HR, V, HC⟩ := id H
  obtain ⟨s, l, t, n, m, p, K⟩ := HC.1.vk
  by_cases c : rng a1 0 999999 ∧ rng a2 0 60
  · obtain ⟨X, hX, rfl⟩ := rng_nI (n := 999999) (by omega) c.1
    obtain ⟨N, hN, rfl⟩ := rng_nI (n := 60) (by omega) c.2
    have b := K.1.B
    obtain ⟨σ1, e1, T1⟩ := h_copy HR.1.1 HC.2.1 HC.2.2.1 HC.1 (by omega)
    obtain ⟨σ2, e2, T2, K2⟩ := h_jobs hN (fun _ => none) 1000 0 X σ1 V (by omega) (by omega) (by omega) T1 K
    rw [Nat.sub_zero] at T2 K2
    have k2 : ∀ a, ¬ (16 ≤ a ∧ a < 31) → σ2.1 a = σ.1 a := fun a ha => T2.1.1 a (by omega)
    have L2 : Live σ2 V := HC.2.2.2.keep (fun j _ _ _ => by rw [k2 68 (by omega)]) (fun a h1 h2 => k2 a (by omega)) (fun a h1 h2 => k2 a (by omega))
    obtain ⟨τ1, f1, F1, h82⟩ := m_save (nI X) (nI N) L2 (fun σ11 =>
      nm ((Int32.toInt64 (nI X))) (fun x12 =>
      nm ((0 : Int32)) (fun x13 =>
      m_X8_jobs_L61 (nI N) (fun σ30 =>
      bd1 (m_X8_knownByAll σ30) (fun r31 =>
      nm ((0 : Int32)) (fun x33 =>
      m_X8_jobs_L181 r31 (fun _ => none) 1000 x33 σ30))) 1000 x13 x12 σ11)))
    have L3 : Live τ1 V := L2.keep (fun j _ _ _ => by rw [F1.1 68 (by omega)]) (fun a h1 h2 => F1.1 a (by omega)) (fun a h1 h2 => F1.1 a (by omega))
    obtain ⟨τ2, f2, X2⟩ := m_jobs hN (fun σ30 =>
      bd1 (m_X8_knownByAll σ30) (fun r31 =>
      nm ((0 : Int32)) (fun x33 =>
      m_X8_jobs_L181 r31 (fun _ => none) 1000 x33 σ30))) 1000 0 X τ1 V (by omega) (by omega) (by omega) (LX.of L3) K
    rw [Nat.sub_zero] at X2
    obtain ⟨τ3, f3, X3⟩ := m_restore (bc (kn (vJobs l N X V))) X2 h82 (fun j hj => vJobs_off (by omega) hj N X V)
    have k3 : ∀ a, ¬ (16 ≤ a ∧ a < 31) → a ≠ 82 → ¬ (a = 68 ∨ (70 ≤ a ∧ a ≤ 74) ∨ (77 ≤ a ∧ a ≤ 80)) → τ3.1 a = σ.1 a := fun a h1 h2 h3 => by
      rw [X3.1.1 a h3, F1.1 a h2, k2 a h1]
    refine ⟨bc (kn (vJobs l N X V)), σ2, τ3, ?_, ?_, ?_, V, HC.1, HC.2.1.keep (fun a h1 h2 => k3 a (by omega) (by omega) (by omega)), HC.2.2.1.keep (fun a h1 h2 => k3 a (by omega) (by omega) (by omega)), X3.2⟩
    · unfold m_X7_jobs m_X4_workJobs
      rw [ew_0_999999, bd1_s, b01_z, if_pos c.1, ew_0_60, bd1_s, b01_z, if_pos c.2, e1, bd1_s, nm_eq, nm_eq, nI_l (by omega), show (0 : Int32) = nI 0 from rfl, e2, bd1_s, e_known T2.2.1 T2.2.2 K2.ok.2.1 K2.ok.N, bd1_s]
    · unfold m_X8_jobs
      rw [ei_0_999999, bd1_s, b01_z, if_pos c.1, ei_0_60, bd1_s, b01_z, if_pos c.2, nm_eq]
      refine f1.trans ?_
      rw [nm_eq, nm_eq, nI_l (by omega), show (0 : Int32) = nI 0 from rfl]
      refine f2.trans ?_
      rw [e_knownAll X2.2 K2.ok.N, bd1_s, nm_eq]
      exact f3
    · refine HR.keep (fun j => by rw [k3 0 (by omega) (by omega) (by omega)]) (fun a h1 h2 h3 h4 => k3 a h4 (by omega) (by omega)) (fun q => T2.2.1.keep (fun a h1 h2 => by rw [X3.1.1 a (by omega), F1.1 a (by omega)])) (fun j hj => by rw [k3 65 (by omega) (by omega) (by omega)]) ?_ (k3 69 (by omega) (by omega) (by omega)) (k3 75 (by omega) (by omega) (by omega)) (k3 83 (by omega) (by omega) (by omega)) (k3 84 (by omega) (by omega) (by omega)) ?_
      · rw [X3.1.2.1 9 (by omega), F1.1 68 (by omega), k2 68 (by omega)]
      · rw [X3.1.2.2, F1.2, T2.1.2]
        exact ⟨rfl, rfl⟩
  · refine r_bad H ?_ (fun σ1 e1 => ?_)
    · unfold m_X7_jobs
      simp only [ew_0_999999, ew_0_60, bd1_s, b01_z, bd2_id]
      rw [if_n2 c]
    · unfold m_X8_jobs
      simp only [ei_0_999999, ei_0_60, bd1_s, b01_z, bd2_id]
      rw [if_n2 c]
