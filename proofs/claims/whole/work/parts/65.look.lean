/-! ===== PURE: look, ask ===== -/
/-- of the set, how many below n are as loud as k -/
def AL (a : Nat) (x y : Int32) (k : Nat) : Nat → Nat
  | 0 => 0
  | n + 1 => if bit (nI a) n then (if LB (nI n) x y = LB (nI k) x y then AL a x y k n + 1 else AL a x y k n) else AL a x y k n
theorem AL_le (a : Nat) (x y : Int32) (k : Nat) : ∀ n, AL a x y k n ≤ n := by
  intro n
  induction n with
  | zero => exact Nat.le_refl _
  | succ n ih =>
    unfold AL
    split
    · split <;> omega
    · omega
def MA (a : Nat) (x y : Int32) : Nat → Nat
  | 0 => 0
  | k + 1 => if bit (nI a) k then (if MA a x y k < AL a x y k 6 then AL a x y k 6 else MA a x y k) else MA a x y k
theorem MA_le (a : Nat) (x y : Int32) : ∀ n, MA a x y n ≤ 6 := by
  intro n
  induction n with
  | zero => exact Nat.zero_le _
  | succ n ih =>
    unfold MA
    have := AL_le a x y n 6
    split
    · split <;> omega
    · omega
/-- the smallest so far of f, and where -/
def ML (f : Nat → Nat) (st : Nat) : Nat → Nat × Int32
  | 0 => (st, -1)
  | n + 1 => if (ML f st n).1 ≤ f n then ML f st n else (f n, nI n)
theorem ML_le (f : Nat → Nat) (st : Nat) : ∀ n, (ML f st n).1 ≤ st := by
  intro n
  induction n with
  | zero => exact Nat.le_refl _
  | succ n ih =>
    unfold ML
    split
    · exact ih
    · rename_i h
      show f n ≤ st
      omega
theorem ML_st (f : Nat → Nat) (h : f 0 ≤ 6) : ∀ n, ML f 7 (n + 1) = ML f 99 (n + 1) := by
  intro n
  induction n with
  | zero =>
    have h7 : ¬ 7 ≤ f 0 := by omega
    have h9 : ¬ 99 ≤ f 0 := by omega
    simp [ML, h7, h9]
  | succ n ih =>
    conv => lhs; unfold ML
    conv => rhs; unfold ML
    rw [ih]
theorem both_64 : ∀ a, a < 64 → ∀ t, t < 6 → ∀ u, u < 6 → (((nI a >>> (nI t &&& 31)) &&& (nI a >>> (nI u &&& 31))) &&& 1 = 1 ↔ bit (nI a) t ∧ bit (nI a) u) := by decide +kernel
theorem e_isIn' (a : Int32) (k : Nat) (σ : Sg) : m_X7_isIn a (nI k) σ = some (b01 (bit a k)) := e_isIn a (nI k) σ
section LOOK
variable {σ : Sg} {V : Vw}
theorem x_asLoud (a : Nat) (x y : Int32) (k : Nat) : m_X0_asLoudAs (nI k) (nI a) x y σ = some (nI (AL a x y k 6)) := by
  have loop : ∀ F n, n ≤ 6 → 6 < n + F → m_X0_asLoudAs_L14 (LB (nI k) x y) (nI a) x y σ (fun _ => none) F (nI n) (nI (AL a x y k n)) = some (nI (AL a x y k 6)) := by
    intro F
    induction F with
    | zero => intro s h1 h2; exact absurd h2 (by omega)
    | succ F ih =>
      intro n h1 h2
      rw [m_X0_asLoudAs_L14.eq_2, show (6 : Int32) = nI 6 from rfl]
      rcases Nat.lt_or_ge n 6 with q | q
      · rw [if_neg (nI_ge q (by omega)), e_isIn', bd1_s, b01_z]
        refine Eq.trans ?_ (ih (n + 1) (by omega) (by omega))
        conv => rhs; unfold AL
        by_cases c : bit (nI a) n
        · rw [if_pos c, if_pos c, e_loudness, bd1_s]
          by_cases c2 : LB (nI n) x y = LB (nI k) x y
          · rw [if_pos c2, if_pos c2, nI_1, nm_eq, bd1_s, nI_1, nm_eq]
          · rw [if_neg c2, if_neg c2, bd1_s, nI_1, nm_eq]
        · rw [if_neg c, if_neg c, bd1_s, nI_1, nm_eq]
      · have : n = 6 := by omega
        subst this
        rw [if_pos (nI_le (Nat.le_refl _) (by omega))]
  unfold m_X0_asLoudAs
  rw [e_loudness, bd1_s, nm_eq, nm_eq]
  exact loop 1000 0 (Nat.zero_le _) (by omega)
theorem x_most (a : Nat) (x y : Int32) : m_X0_mostAlike (nI a) x y σ = some (nI (MA a x y 6)) := by
  have loop : ∀ F n, n ≤ 6 → 6 < n + F → m_X0_mostAlike_L5 (nI a) x y σ (fun _ => none) F (nI n) (nI (MA a x y n)) = some (nI (MA a x y 6)) := by
    intro F
    induction F with
    | zero => intro s h1 h2; exact absurd h2 (by omega)
    | succ F ih =>
      intro n h1 h2
      rw [m_X0_mostAlike_L5.eq_2, show (6 : Int32) = nI 6 from rfl]
      rcases Nat.lt_or_ge n 6 with q | q
      · have hA := AL_le a x y n 6
        have hM := MA_le a x y n
        rw [if_neg (nI_ge q (by omega)), e_isIn', bd1_s, b01_z]
        refine Eq.trans ?_ (ih (n + 1) (by omega) (by omega))
        conv => rhs; unfold MA
        by_cases c : bit (nI a) n
        · rw [if_pos c, if_pos c, x_asLoud, bd1_s, nm_eq, bd1_s, nI_1, nm_eq]
          by_cases c2 : MA a x y n < AL a x y n 6
          · rw [if_pos c2, if_pos (nI_lt c2 (by omega))]
          · rw [if_neg c2, if_neg (nI_nlt (by omega) (by omega))]
        · rw [if_neg c, if_neg c, bd1_s, nI_1, nm_eq]
      · have : n = 6 := by omega
        subst this
        rw [if_pos (nI_le (Nat.le_refl _) (by omega))]
  unfold m_X0_mostAlike
  rw [nm_eq, nm_eq]
  exact loop 1000 0 (Nat.zero_le _) (by omega)
/-- look's answer -/
def lk (V : Vw) (s : Nat) : Int32 := if kS V (nI s) = 0 then -1 else (ML (fun m => MA (kS V (nI s)) (V (22 + s)) (nI m) 6) 99 30).2
theorem x_look (CL : CV σ V) {s : Nat} (hs : s < nS V) : m_X0_nextLook 1 (nI s) σ = some (lk V s) := by
  obtain ⟨hv, S, H⟩ := id CL
  have h8 : nS V ≤ 8 := hv.1.2
  have loop : ∀ (a : Nat) (x : Int32) F n, n ≤ 30 → 30 < n + F → m_X0_nextLook_L32 1 x (nI a) σ (fun _ => none) F (nI n) (ML (fun m => MA a x (nI m) 6) 7 n).2 (nI (ML (fun m => MA a x (nI m) 6) 7 n).1) = some (ML (fun m => MA a x (nI m) 6) 7 30).2 := by
    intro a x F
    induction F with
    | zero => intro s h1 h2; exact absurd h2 (by omega)
    | succ F ih =>
      intro n h1 h2
      rw [m_X0_nextLook_L32.eq_2, show (30 : Int32) = nI 30 from rfl]
      rcases Nat.lt_or_ge n 30 with q | q
      · have hM := MA_le a x (nI n) 6
        have hL := ML_le (fun m => MA a x (nI m) 6) 7 n
        rw [if_neg (nI_ge q (by omega)), x_most, bd1_s]
        refine Eq.trans ?_ (ih (n + 1) (by omega) (by omega))
        conv => rhs; unfold ML
        by_cases c : (ML (fun m => MA a x (nI m) 6) 7 n).1 ≤ MA a x (nI n) 6
        · rw [if_pos (nI_le c (by omega)), bd2_s, nI_1, nm_eq, if_pos c]
        · rw [if_neg (nI_ge (by omega) (by omega)), bd2_s, nI_1, nm_eq, if_neg c]
      · have : n = 30 := by omega
        subst this
        rw [if_pos (nI_le (Nat.le_refl _) (by omega))]
  unfold m_X0_nextLook lk
  rw [x_kS CL, bd1_s]
  have hk := kS_lt V (nI s)
  by_cases c : kS V (nI s) = 0
  · rw [if_pos c, if_pos (show nI (kS V (nI s)) = 0 by rw [c]; rfl)]
  · have hf : σ.1 (1 + 1 + 1) (s * 3 + 2) = V (22 + s) := (H.2.1 s hs).2.2
    rw [if_neg c, if_neg (show ¬ nI (kS V (nI s)) = 0 from nz (b := 0) (by omega) (by omega) c), show (2 : Int32) = nI 2 from rfl, g_ok S.1 (show s < 8 by omega) (by omega), bd1_s, hf, nm_eq, nm_eq, nm_eq]
    refine (loop (kS V (nI s)) (V (22 + s)) 1000 0 (by omega) (by omega)).trans ?_
    exact congrArg (fun z => some z.2) (ML_st (fun m => MA (kS V (nI s)) (V (22 + s)) (nI m) 6) (MA_le _ _ _ _) 29)
theorem y_look {σ : Sg} {V : Vw} (L : LV σ V) {s : Nat} (hs : s < nS V) : m_X8_look (nI s) σ = some (lk V s, σ) := by
  obtain ⟨hv, H⟩ := id L
  have h8 : nS V ≤ 8 := hv.1.2
  have hf : σ.1 72 s = V (22 + s) := H.2.2.2.1 s (by omega)
  have ha : kS V (nI s) < 64 := kS_lt V (nI s)
  have l3 : ∀ (y v3 v4 v6 : Int32) (t : Nat), t < 6 → ∀ (kx : Int32 → Option (Int32 × Sg)) F u, u ≤ 6 → 6 < u + F → m_X8_look_L58 (nI t) v6 y v4 v3 (nI (kS V (nI s))) (nI s) σ kx F (nI u) (nI (if bit (nI (kS V (nI s))) t then AL (kS V (nI s)) (V (22 + s)) y t u else 0)) = kx (nI (if bit (nI (kS V (nI s))) t then AL (kS V (nI s)) (V (22 + s)) y t 6 else 0)) := by
    intro y v3 v4 v6 t ht kx F
    induction F with
    | zero => intro s h1 h2; exact absurd h2 (by omega)
    | succ F ih =>
      intro u h1 h2
      rw [m_X8_look_L58.eq_2, show (6 : Int32) = nI 6 from rfl]
      rcases Nat.lt_or_ge u 6 with q | q
      · rw [if_neg (nI_ge q (by omega))]
        refine Eq.trans ?_ (ih (u + 1) (by omega) (by omega))
        by_cases ct : bit (nI (kS V (nI s))) t
        · rw [if_pos ct, if_pos ct]
          conv => rhs; unfold AL
          by_cases cu : bit (nI (kS V (nI s))) u
          · rw [if_pos ((both_64 _ ha t ht u q).mpr ⟨ct, cu⟩), if_pos cu, ln_72, ix_if (by omega) (by omega), nI_clamp (by omega), hf, e_loudBy ht, bd1_s, ix_ifc (by omega) (by omega), e_loudBy q, bd1_s]
            by_cases c2 : LB (nI u) (V (22 + s)) y = LB (nI t) (V (22 + s)) y
            · rw [if_pos c2, if_pos c2.symm, bd1_s, nm_eq, nI_1, nI_1, nm_eq]
            · rw [if_neg c2, if_neg (fun z => c2 z.symm), bd1_s, Int32.add_zero, nm_eq, nI_1, nm_eq]
          · rw [if_neg (fun z => cu ((both_64 _ ha t ht u q).mp z).2), if_neg cu, bd1_s, Int32.add_zero, nm_eq, nI_1, nm_eq]
        · rw [if_neg ct, if_neg ct, if_neg (fun z => ct ((both_64 _ ha t ht u q).mp z).1), bd1_s, Int32.add_zero, nm_eq, nI_1, nm_eq]
      · have : u = 6 := by omega
        subst this
        rw [if_pos (nI_le (Nat.le_refl _) (by omega))]
  have l2 : ∀ (y v3 v4 : Int32) (kx : Int32 → Option (Int32 × Sg)) F t, t ≤ 6 → 6 < t + F → m_X8_look_L45 y v4 v3 (nI (kS V (nI s))) (nI s) σ kx F (nI t) (nI (MA (kS V (nI s)) (V (22 + s)) y t)) = kx (nI (MA (kS V (nI s)) (V (22 + s)) y 6)) := by
    intro y v3 v4 kx F
    induction F with
    | zero => intro s h1 h2; exact absurd h2 (by omega)
    | succ F ih =>
      intro t h1 h2
      rw [m_X8_look_L45.eq_2, show (6 : Int32) = nI 6 from rfl]
      rcases Nat.lt_or_ge t 6 with q | q
      · have hA := AL_le (kS V (nI s)) (V (22 + s)) y t 6
        have hM := MA_le (kS V (nI s)) (V (22 + s)) y t
        rw [if_neg (nI_ge q (by omega)), nm_eq, nm_eq]
        refine Eq.trans ?_ (ih (t + 1) (by omega) (by omega))
        have e0 : (0 : Int32) = nI (if bit (nI (kS V (nI s))) t then AL (kS V (nI s)) (V (22 + s)) y t 0 else 0) := by
          split <;> rfl
        have := l3 y v3 v4 (nI (MA (kS V (nI s)) (V (22 + s)) y t)) t q (fun x20 =>
          bd1 (
          if x20 ≤ (nI (MA (kS V (nI s)) (V (22 + s)) y t)) then
          (some (nI (MA (kS V (nI s)) (V (22 + s)) y t)))
          else
          (some (x20))) (fun o22 =>
          nm (nI t + (1 : Int32)) (fun x23 =>
          m_X8_look_L45 y v4 v3 (nI (kS V (nI s))) (nI s) σ kx F x23 o22))) 1000 0 (by omega) (by omega)
        rw [← e0] at this
        refine Eq.trans this ?_
        conv => rhs; unfold MA
        by_cases ct : bit (nI (kS V (nI s))) t
        · rw [if_pos ct, if_pos ct]
          by_cases c2 : MA (kS V (nI s)) (V (22 + s)) y t < AL (kS V (nI s)) (V (22 + s)) y t 6
          · rw [if_pos c2, if_neg (nI_ge c2 (by omega)), bd1_s, nI_1, nm_eq]
          · rw [if_neg c2, if_pos (nI_le (by omega) (by omega)), bd1_s, nI_1, nm_eq]
        · rw [if_neg ct, if_neg ct, if_pos (nI_le (Nat.zero_le _) (by omega)), bd1_s, nI_1, nm_eq]
      · have : t = 6 := by omega
        subst this
        rw [if_pos (nI_le (Nat.le_refl _) (by omega))]
  have l1 : kS V (nI s) ≠ 0 → ∀ F n, n ≤ 30 → 30 < n + F → m_X8_look_L28 (nI (kS V (nI s))) (nI s) σ (fun _ => none) F (nI n) (nI (ML (fun m => MA (kS V (nI s)) (V (22 + s)) (nI m) 6) 99 n).1) (ML (fun m => MA (kS V (nI s)) (V (22 + s)) (nI m) 6) 99 n).2 = some ((ML (fun m => MA (kS V (nI s)) (V (22 + s)) (nI m) 6) 99 30).2, σ) := by
    intro hne F
    induction F with
    | zero => intro s h1 h2; exact absurd h2 (by omega)
    | succ F ih =>
      intro n h1 h2
      rw [m_X8_look_L28.eq_2, show (30 : Int32) = nI 30 from rfl]
      rcases Nat.lt_or_ge n 30 with q | q
      · have hM := MA_le (kS V (nI s)) (V (22 + s)) (nI n) 6
        have hL := ML_le (fun m => MA (kS V (nI s)) (V (22 + s)) (nI m) 6) 99 n
        rw [if_neg (nI_ge q (by omega)), if_neg (show ¬ nI (kS V (nI s)) = 0 from nz (b := 0) (by omega) (by omega) hne), nm_eq, nm_eq]
        refine Eq.trans (l2 (nI n) _ _ _ 1000 0 (by omega) (by omega)) ?_
        refine Eq.trans ?_ (ih (n + 1) (by omega) (by omega))
        conv => rhs; unfold ML
        by_cases c : (ML (fun m => MA (kS V (nI s)) (V (22 + s)) (nI m) 6) 99 n).1 ≤ MA (kS V (nI s)) (V (22 + s)) (nI n) 6
        · rw [if_pos (nI_le c (by omega)), if_pos (nI_le c (by omega)), bd1_s, bd1_s, nI_1, nm_eq, if_pos c]
        · rw [if_neg (nI_ge (by omega) (by omega)), if_neg (nI_ge (by omega) (by omega)), bd1_s, bd1_s, nI_1, nm_eq, if_neg c]
      · have : n = 30 := by omega
        subst this
        rw [if_pos (nI_le (Nat.le_refl _) (by omega))]
  have hr : rng (nI s) 0 ((nS V : Int) - 1) := (nI_rng (by omega)).mpr ⟨by omega, by omega⟩
  unfold m_X8_look lk
  rw [y_isS L, bd1_s, b01_z, if_pos hr, y_kS L, bd1_s, nm_eq, nm_eq, nm_eq]
  by_cases c : kS V (nI s) = 0
  · rw [if_pos c, c, m_X8_look_L28.eq_2, if_neg (show ¬ (30 : Int32) ≤ 0 by decide), if_pos (show nI 0 = 0 from rfl)]
  · rw [if_neg c]
    exact l1 c 1000 0 (by omega) (by omega)
/-- of the set, how many below n hear -/
def HA (a : Nat) (x y : Int32) : Nat → Nat
  | 0 => 0
  | n + 1 => if bit (nI a) n then (if hb (nI n) x y = 0 then HA a x y n else HA a x y n + 1) else HA a x y n
theorem HA_le (a : Nat) (x y : Int32) : ∀ n, HA a x y n ≤ n := by
  intro n
  induction n with
  | zero => exact Nat.le_refl _
  | succ n ih =>
    unfold HA
    split
    · split <;> omega
    · omega
def pc (a : Nat) : Nat := cnt (bc (nI a))
theorem pc_64 : ∀ a, a < 64 → bc (nI a) = nI (pc a) ∧ pc a ≤ 6 := by decide +kernel
/-- the greater part of b of which c hear -/
def gp (c b : Nat) : Nat := if c < b - c then b - c else c
theorem gp_1 : ∀ c, c < 7 → ∀ b, b < 7 → (if nI c < nI b - nI c then nI b - nI c else nI c) = nI (gp c b) ∧ gp c b ≤ 6 := by decide +kernel
theorem gp_2 : ∀ c, c < 7 → ∀ b, b < 7 → (if (2 : Int32) * nI c ≤ nI b then nI b - nI c else nI c) = nI (gp c b) := by decide +kernel
def GP (a v : Nat) : Nat := gp (HA a (nI (v / 100)) (nI (v % 100)) 6) (pc a)
theorem GP_le {a : Nat} (ha : a < 64) (v : Nat) : GP a v ≤ 6 := (gp_1 _ (by have := HA_le a (nI (v / 100)) (nI (v % 100)) 6; omega) _ (by have := (pc_64 a ha).2; omega)).2
/-- the smallest so far, where minutes go to 60 -/
def QL (f : Nat → Nat) (st : Nat) : Nat → Nat × Int32
  | 0 => (st, -1)
  | n + 1 => if 60 < n % 100 then QL f st n else if (QL f st n).1 ≤ f n then QL f st n else (f n, nI n)
theorem QL_le (f : Nat → Nat) (st : Nat) : ∀ n, (QL f st n).1 ≤ st := by
  intro n
  induction n with
  | zero => exact Nat.le_refl _
  | succ n ih =>
    unfold QL
    split
    · exact ih
    · split
      · exact ih
      · rename_i h
        show f n ≤ st
        omega
theorem QL_st (f : Nat → Nat) (h : f 0 ≤ 6) : ∀ n, QL f 7 (n + 1) = QL f 99 (n + 1) := by
  intro n
  induction n with
  | zero =>
    have h7 : ¬ 7 ≤ f 0 := by omega
    have h9 : ¬ 99 ≤ f 0 := by omega
    simp [QL, h7, h9]
  | succ n ih =>
    conv => lhs; unfold QL
    conv => rhs; unfold QL
    rw [ih]
theorem QL_skip (f : Nat → Nat) (st x : Nat) : ∀ d, d ≤ 39 → QL f st (100 * x + 61 + d) = QL f st (100 * x + 61) := by
  intro d
  induction d with
  | zero => intro _; rfl
  | succ d ih =>
    intro h
    rw [show 100 * x + 61 + (d + 1) = 100 * x + 61 + d + 1 by omega]
    conv => lhs; unfold QL
    rw [if_pos (by omega)]
    exact ih (by omega)
def qk (V : Vw) (i : Nat) : Int32 := if kM V (nI i) = 0 then -1 else (QL (GP (kM V (nI i))) 99 961).2
theorem x_gp {a : Nat} (ha : a < 64) (x y : Int32) : m_X0_greaterPart (nI a) x y σ = some (nI (gp (HA a x y 6) (pc a))) := by
  have loop : ∀ (kx : Int32 → Option Int32) F n, n ≤ 6 → 6 < n + F → m_X0_greaterPart_L5 (nI a) x y σ kx F (nI n) (nI (HA a x y n)) = kx (nI (HA a x y 6)) := by
    intro kx F
    induction F with
    | zero => intro s h1 h2; exact absurd h2 (by omega)
    | succ F ih =>
      intro n h1 h2
      rw [m_X0_greaterPart_L5.eq_2, show (6 : Int32) = nI 6 from rfl]
      rcases Nat.lt_or_ge n 6 with q | q
      · rw [if_neg (nI_ge q (by omega)), e_isIn', bd1_s, b01_z]
        refine Eq.trans ?_ (ih (n + 1) (by omega) (by omega))
        conv => rhs; unfold HA
        by_cases c : bit (nI a) n
        · rw [if_pos c, if_pos c, e_hears, bd1_s]
          by_cases c2 : hb (nI n) x y = 0
          · rw [if_pos c2, if_pos c2, bd1_s, nI_1, nm_eq]
          · rw [if_neg c2, if_neg c2, nI_1, nm_eq, bd1_s, nI_1, nm_eq]
        · rw [if_neg c, if_neg c, bd1_s, nI_1, nm_eq]
      · have : n = 6 := by omega
        subst this
        rw [if_pos (nI_le (Nat.le_refl _) (by omega))]
  unfold m_X0_greaterPart
  rw [nm_eq, nm_eq]
  refine (loop _ 1000 0 (Nat.zero_le _) (by omega)).trans ?_
  have hp := pc_64 a ha
  rw [e_bc, bd1_s, nm_eq, hp.1, (gp_1 _ (by have := HA_le a x y 6; omega) _ (show pc a < 7 by have := hp.2; omega)).1]
theorem x_ask (CL : CV σ V) (i : Nat) : m_X0_nextQuestion 1 (nI i) σ = some (qk V i) := by
  have ha := kM_lt V (nI i)
  have l2 : ∀ (x : Nat), x < 10 → ∀ (kx : Int32 → Int32 → Option Int32) F y, y ≤ 61 → 61 < y + F → m_X0_nextQuestion_L31 1 (nI x) (nI (kM V (nI i))) σ kx F (nI y) (QL (GP (kM V (nI i))) 7 (100 * x + y)).2 (nI (QL (GP (kM V (nI i))) 7 (100 * x + y)).1) = kx (QL (GP (kM V (nI i))) 7 (100 * x + 61)).2 (nI (QL (GP (kM V (nI i))) 7 (100 * x + 61)).1) := by
    intro x hx kx F
    induction F with
    | zero => intro s h1 h2; exact absurd h2 (by omega)
    | succ F ih =>
      intro y h1 h2
      rw [m_X0_nextQuestion_L31.eq_2, show (60 : Int32) = nI 60 from rfl]
      rcases Nat.lt_or_ge y 61 with q | q
      · have hL := QL_le (GP (kM V (nI i))) 7 (100 * x + y)
        have hG := GP_le ha (100 * x + y)
        have eG : GP (kM V (nI i)) (100 * x + y) = gp (HA (kM V (nI i)) (nI x) (nI y) 6) (pc (kM V (nI i))) := by
          unfold GP
          rw [show (100 * x + y) / 100 = x by omega, show (100 * x + y) % 100 = y by omega]
        rw [if_neg (nI_nlt (show y ≤ 60 by omega) (by omega)), x_gp ha, bd1_s, ← eG]
        refine Eq.trans ?_ (ih (y + 1) (by omega) (by omega))
        rw [show 100 * x + (y + 1) = 100 * x + y + 1 by omega]
        conv => rhs; unfold QL
        rw [if_neg (show ¬ 60 < (100 * x + y) % 100 by omega)]
        by_cases c : (QL (GP (kM V (nI i))) 7 (100 * x + y)).1 ≤ GP (kM V (nI i)) (100 * x + y)
        · rw [if_pos c, if_pos (nI_le c (by omega)), bd2_s, nI_1, nm_eq]
        · rw [if_neg c, if_neg (nI_ge (by omega) (by omega)), show (100 : Int32) = nI 100 from rfl, pk_mul, nI_add, nm_eq, bd2_s, nI_1, nm_eq]
      · have : y = 61 := by omega
        subst this
        rw [if_pos (nI_lt (show 60 < 61 by omega) (by omega))]
  have l1 : ∀ F x, x ≤ 10 → 10 < x + F → m_X0_nextQuestion_L21 1 (nI (kM V (nI i))) σ (fun _ => none) F (nI x) (QL (GP (kM V (nI i))) 7 (100 * x)).2 (nI (QL (GP (kM V (nI i))) 7 (100 * x)).1) = some (QL (GP (kM V (nI i))) 7 1000).2 := by
    intro F
    induction F with
    | zero => intro s h1 h2; exact absurd h2 (by omega)
    | succ F ih =>
      intro x h1 h2
      rw [m_X0_nextQuestion_L21.eq_2, show (9 : Int32) = nI 9 from rfl]
      rcases Nat.lt_or_ge x 10 with q | q
      · rw [if_neg (nI_nlt (show x ≤ 9 by omega) (by omega)), nm_eq]
        refine Eq.trans (l2 x q _ 1000 0 (by omega) (by omega)) ?_
        rw [nI_1, nm_eq, ← QL_skip _ 7 x 39 (by omega)]
        exact ih (x + 1) (by omega) (by omega)
      · have : x = 10 := by omega
        subst this
        rw [if_pos (nI_lt (show 9 < 10 by omega) (by omega))]
  unfold m_X0_nextQuestion qk
  rw [x_kM CL, bd1_s]
  by_cases c : kM V (nI i) = 0
  · rw [if_pos c, if_pos (show nI (kM V (nI i)) = 0 by rw [c]; rfl)]
  · rw [if_neg c, if_neg (show ¬ nI (kM V (nI i)) = 0 from nz (b := 0) (by omega) (by omega) c), nm_eq, nm_eq, nm_eq]
    refine (l1 1000 0 (by omega) (by omega)).trans ?_
    rw [show QL (GP (kM V (nI i))) 7 1000 = QL (GP (kM V (nI i))) 7 961 from QL_skip _ 7 9 39 (by omega), QL_st _ (GP_le ha 0) 960]
theorem div_961 : ∀ v, v < 961 → nI v / 100 = nI (v / 100) ∧ nI v - nI v / 100 * 100 = nI (v % 100) := by decide +kernel
theorem y_ask {σ : Sg} {V : Vw} (L : LV σ V) {i : Nat} (hi : i < nL V) : m_X8_ask (nI i) σ = some (qk V i, σ) := by
  obtain ⟨hv, H⟩ := id L
  have h3 : nL V ≤ 3 := hv.2.1.2
  have ha := kM_lt V (nI i)
  have hp := pc_64 _ ha
  have l2 : ∀ (v : Nat), v < 961 → ∀ (v3 v4 : Int32) (kx : Int32 → Option (Int32 × Int32)) F n, n ≤ 6 → 6 < n + F → m_X8_ask_L56 (nI v) v4 v3 (nI (kM V (nI i))) σ kx F (nI n) (nI (HA (kM V (nI i)) (nI (v / 100)) (nI (v % 100)) n)) = kx (nI (HA (kM V (nI i)) (nI (v / 100)) (nI (v % 100)) 6)) := by
    intro v hv v3 v4 kx F
    induction F with
    | zero => intro s h1 h2; exact absurd h2 (by omega)
    | succ F ih =>
      intro n h1 h2
      rw [m_X8_ask_L56.eq_2, show (6 : Int32) = nI 6 from rfl]
      rcases Nat.lt_or_ge n 6 with q | q
      · rw [if_neg (nI_ge q (by omega)), (div_961 v hv).2, (div_961 v hv).1, e_hearsBy q, bd1_s]
        refine Eq.trans ?_ (ih (n + 1) (by omega) (by omega))
        conv => rhs; unfold HA
        by_cases c : bit (nI (kM V (nI i))) n
        · rw [if_pos c, if_pos c]
          by_cases c2 : hb (nI n) (nI (v / 100)) (nI (v % 100)) = 0
          · rw [if_pos c2, if_pos c2, bd1_s, Int32.add_zero, nm_eq, nI_1, nm_eq]
          · rw [if_neg c2, if_neg c2, bd1_s, nI_1, nm_eq, nI_1, nm_eq]
        · rw [if_neg c, if_neg c, bd1_s, Int32.add_zero, nm_eq, nI_1, nm_eq]
      · have : n = 6 := by omega
        subst this
        rw [if_pos (nI_le (Nat.le_refl _) (by omega))]
  have l1 : kM V (nI i) ≠ 0 → ∀ F n, n ≤ 961 → 961 < n + F → m_X8_ask_L28 (nI (kM V (nI i))) σ (fun _ => none) F (nI n) (nI (QL (GP (kM V (nI i))) 99 n).1) (QL (GP (kM V (nI i))) 99 n).2 = some ((QL (GP (kM V (nI i))) 99 961).2, σ) := by
    intro hne F
    induction F with
    | zero => intro s h1 h2; exact absurd h2 (by omega)
    | succ F ih =>
      intro n h1 h2
      rw [m_X8_ask_L28.eq_2, show (961 : Int32) = nI 961 from rfl]
      rcases Nat.lt_or_ge n 961 with q | q
      · have hG := GP_le ha n
        have hL := QL_le (GP (kM V (nI i))) 99 n
        rw [if_neg (nI_ge q (by omega)), if_neg (show ¬ nI (kM V (nI i)) = 0 from nz (b := 0) (by omega) (by omega) hne), (div_961 n q).2, show (60 : Int32) = nI 60 from rfl]
        refine Eq.trans ?_ (ih (n + 1) (by omega) (by omega))
        conv => rhs; unfold QL
        by_cases c0 : 60 < n % 100
        · rw [if_pos (nI_lt c0 (by omega)), if_pos c0, bd2_s, nI_1, nm_eq]
        · rw [if_neg (nI_nlt (by omega) (by omega)), if_neg c0, nm_eq, nm_eq, show m_X8_ask_L56 (nI n) _ _ (nI (kM V (nI i))) σ _ 1000 0 0 = _ from l2 n q _ _ _ 1000 0 (by omega) (by omega), e_many (show kM V (nI i) < 256 by omega), bd1_s, bd1_s, hp.1, some_if, bd1_s, gp_2 _ (by have := HA_le (kM V (nI i)) (nI (n / 100)) (nI (n % 100)) 6; omega) _ (show pc (kM V (nI i)) < 7 by have := hp.2; omega), show nI (gp (HA (kM V (nI i)) (nI (n / 100)) (nI (n % 100)) 6) (pc (kM V (nI i)))) = nI (GP (kM V (nI i)) n) from rfl]
          by_cases c : (QL (GP (kM V (nI i))) 99 n).1 ≤ GP (kM V (nI i)) n
          · rw [if_pos c, if_pos (nI_le c (by omega)), if_pos (nI_le c (by omega)), bd1_s, bd1_s, bd2_s, nI_1, nm_eq]
          · rw [if_neg c, if_neg (nI_ge (by omega) (by omega)), if_neg (nI_ge (by omega) (by omega)), bd1_s, bd1_s, bd2_s, nI_1, nm_eq]
      · have : n = 961 := by omega
        subst this
        rw [if_pos (nI_le (Nat.le_refl _) (by omega))]
  have hr : rng (nI i) 0 ((nL V : Int) - 1) := (nI_rng (by omega)).mpr ⟨by omega, by omega⟩
  unfold m_X8_ask qk
  rw [y_isL L, bd1_s, b01_z, if_pos hr, y_kM L, bd1_s, nm_eq, nm_eq, nm_eq]
  by_cases c : kM V (nI i) = 0
  · rw [if_pos c, c, m_X8_ask_L28.eq_2, if_neg (show ¬ (961 : Int32) ≤ 0 by decide), if_pos (show nI 0 = 0 from rfl)]
  · rw [if_neg c]
    exact l1 c 1000 0 (by omega) (by omega)
end LOOK
theorem sp_look : Sp_look Rel := by
  intro σ H a1
  obtain ⟨HR, V, HC⟩ := id H
  have h8 : nS V ≤ 8 := HC.1.1.2
  refine q_pair H HC (rng a1 0 ((nS V : Int) - 1)) (lk V (cnt a1)) (fun c => ?_) (fun c => ?_) (fun c => ?_) (fun c σ' L => ?_)
  · obtain ⟨s, hs, rfl⟩ := rng_idx c (by omega)
    unfold m_X7_look
    rw [x_isS HC.C, bd1_s, b01_z, if_pos c, x_look HC.C hs, bd1_s, cnt_nI (by omega)]
  · unfold m_X7_look
    rw [x_isS HC.C, bd1_s, b01_z, if_neg c, bd2_id]
  · obtain ⟨s, hs, rfl⟩ := rng_idx c (by omega)
    rw [y_look HC.L hs, cnt_nI (by omega)]
  · unfold m_X8_look
    rw [y_isS L, bd1_s, b01_z, if_neg c, bd2_id]
theorem sp_ask : Sp_ask Rel := by
  intro σ H a1
  obtain ⟨HR, V, HC⟩ := id H
  have h3 : nL V ≤ 3 := HC.1.2.1.2
  refine q_pair H HC (rng a1 0 ((nL V : Int) - 1)) (qk V (cnt a1)) (fun c => ?_) (fun c => ?_) (fun c => ?_) (fun c σ' L => ?_)
  · obtain ⟨s, hs, rfl⟩ := rng_idx c (by omega)
    unfold m_X7_ask
    rw [x_isL HC.C, bd1_s, b01_z, if_pos c, x_ask HC.C, bd1_s, cnt_nI (by omega)]
  · unfold m_X7_ask
    rw [x_isL HC.C, bd1_s, b01_z, if_neg c, bd2_id]
  · obtain ⟨s, hs, rfl⟩ := rng_idx c (by omega)
    rw [y_ask HC.L hs, cnt_nI (by omega)]
  · unfold m_X8_ask
    rw [y_isL L, bd1_s, b01_z, if_neg c, bd2_id]
