/-! ===== PURE: brothers ===== -/
/-- what one of the two gets in a with the other in b -/
def gN (f : Nat → Nat → Int32) (i a b : Nat) : Int32 := if a = b then f i a - 1 else f i a
def wR (f : Nat → Nat → Int32) (i a b : Nat) : Prop := ∀ r, r < 4 → gN f i r b ≤ gN f i a b
noncomputable def wP (f : Nat → Nat → Int32) (n : Nat) : Bool := @decide (wR f 0 (n / 4) (n % 4) ∧ wR f 1 (n % 4) (n / 4)) (Classical.propDecidable _)
theorem wP_t {f : Nat → Nat → Int32} {n : Nat} : wP f n = true ↔ wR f 0 (n / 4) (n % 4) ∧ wR f 1 (n % 4) (n / 4) := by
  unfold wP
  simp
/-- how many of the first n are so -/
def CR (P : Nat → Bool) : Nat → Nat
  | 0 => 0
  | n + 1 => if P n = true then CR P n + 1 else CR P n
/-- the code of the one behind k others -/
def RV (P : Nat → Bool) (k : Int32) : Nat → Int32
  | 0 => -5
  | n + 1 => if P n = true then (if nI (CR P n) = k then nI (10 * (n / 4) + n % 4) else RV P k n) else RV P k n
def BR (P : Nat → Bool) (k : Int32) : Int32 := if k = -1 then nI (CR P 16) else RV P k 16
theorem CR_le (P : Nat → Bool) : ∀ n, CR P n ≤ n := by
  intro n
  induction n with
  | zero => exact Nat.le_refl _
  | succ n ih =>
    unfold CR
    split <;> omega
theorem CR_mono (P : Nat → Bool) {a : Nat} : ∀ b, a ≤ b → CR P a ≤ CR P b := by
  intro b
  induction b with
  | zero => intro h; rw [show a = 0 by omega]; exact Nat.le_refl _
  | succ b ih =>
    intro h
    rcases Nat.lt_or_ge a (b + 1) with q | q
    · have := ih (by omega)
      conv => rhs; unfold CR
      split <;> omega
    · rw [show a = b + 1 by omega]
      exact Nat.le_refl _
theorem RV_stay {P : Nat → Bool} {k : Int32} {n : Nat} (hP : P n = true) (hk : nI (CR P n) = k) (hn : n < 16) : ∀ m, n < m → m ≤ 16 → RV P k m = nI (10 * (n / 4) + n % 4) := by
  intro m
  induction m with
  | zero => intro h; exact absurd h (by omega)
  | succ m ih =>
    intro h1 h2
    unfold RV
    rcases Nat.lt_or_ge n m with q | q
    · have h3 := CR_mono P (a := n + 1) m q
      have h4 : CR P (n + 1) = CR P n + 1 := by
        conv => lhs; unfold CR
        rw [if_pos hP]
      have hb := CR_le P m
      have hc := CR_le P n
      have hne : ¬ nI (CR P m) = k := by
        rw [← hk]
        intro z
        have := (nI_eq (by omega) (by omega)).mp z
        omega
      rw [if_neg hne]
      split <;> exact ih q (by omega)
    · have : n = m := by omega
      subst this
      rw [if_pos hP, if_pos hk]
theorem RV_none {P : Nat → Bool} {k : Int32} : ∀ n, (∀ m, m < n → P m = true → ¬ nI (CR P m) = k) → RV P k n = -5 := by
  intro n
  induction n with
  | zero => intro _; rfl
  | succ n ih =>
    intro h
    unfold RV
    have h1 := ih (fun m hm => h m (by omega))
    by_cases c : P n = true
    · rw [if_pos c, if_neg (h n (by omega) c), h1]
    · rw [if_neg c, h1]
theorem BR_found {P : Nat → Bool} {k : Int32} {n : Nat} (hP : P n = true) (hk : nI (CR P n) = k) (hn : n < 16) : BR P k = nI (10 * (n / 4) + n % 4) := by
  unfold BR
  have hb := CR_le P n
  have hne : ¬ k = -1 := by
    rintro rfl
    have := congrArg Int32.toInt hk
    rw [nI_toInt (by omega)] at this
    have h1 : (-1 : Int32).toInt = -1 := rfl
    omega
  rw [if_neg hne]
  exact RV_stay hP hk hn 16 hn (Nat.le_refl _)
section BRO
variable {σ : Sg} {f : Nat → Nat → Int32}
theorem x_gain (hR : RS σ 65 2 4) (hB : B2 σ f 4) {i a b : Nat} (hi : i < 2) (ha : a < 4) (hb : b < 4) : m_X4_gain (nI i) (nI a) (nI b) σ = some (gN f i a b) := by
  unfold m_X4_gain gN
  rw [g_ok hR hi ha, bd1_s, show σ.1 (65 + 1) (i * 4 + a) = f i a from hB i hi a ha]
  by_cases c : a = b
  · subst c
    rw [if_pos rfl, if_pos rfl]
  · rw [if_neg (fun z => c ((nI_eq (by omega) (by omega)).mp z)), if_neg c]
theorem x_would (hR : RS σ 65 2 4) (hB : B2 σ f 4) {i a b : Nat} (hi : i < 2) (ha : a < 4) (hb : b < 4) : (wR f i a b ∧ m_X4_wouldRest (nI i) (nI a) (nI b) σ = some 1) ∨ (¬ wR f i a b ∧ m_X4_wouldRest (nI i) (nI a) (nI b) σ = some 0) := by
  have loop : ∀ F r, r ≤ 4 → 4 < r + F → (∀ u, u < r → gN f i u b ≤ gN f i a b) → (wR f i a b ∧ m_X4_wouldRest_L12 (gN f i a b) (nI i) (nI b) σ (fun _ => none) F (nI r) = some 1) ∨ (¬ wR f i a b ∧ m_X4_wouldRest_L12 (gN f i a b) (nI i) (nI b) σ (fun _ => none) F (nI r) = some 0) := by
    intro F
    induction F with
    | zero => intro r h1 h2; exact absurd h2 (by omega)
    | succ F ih =>
      intro r h1 h2 h3
      rw [m_X4_wouldRest_L12.eq_2, show (4 : Int32) = nI 4 from rfl]
      rcases Nat.lt_or_ge r 4 with q | q
      · rw [if_neg (nI_ge q (by omega)), x_gain hR hB hi q hb, bd1_s]
        by_cases c : gN f i r b ≤ gN f i a b
        · rw [if_pos c, nI_1, nm_eq]
          refine ih (r + 1) (by omega) (by omega) (fun u hu => ?_)
          by_cases e : u = r
          · subst e
            exact c
          · exact h3 u (by omega)
        · rw [if_neg c]
          exact .inr ⟨fun z => c (z r q), rfl⟩
      · have : r = 4 := by omega
        subst this
        rw [if_pos (nI_le (Nat.le_refl _) (by omega))]
        exact .inl ⟨h3, rfl⟩
  unfold m_X4_wouldRest
  rw [x_gain hR hB hi ha hb, bd1_s, nm_eq]
  exact loop 1000 0 (by omega) (by omega) (fun u hu => absurd hu (by omega))
theorem x_pairs (hR : RS σ 65 2 4) (hB : B2 σ f 4) (k : Int32) : m_X4_restingPair_L66 1 k σ (fun x31 =>
    if k = (-1 : Int32) then
    (some (x31, σ))
    else
    (some ((-5 : Int32), σ))) 1000 0 0 = some (BR (wP f) k, σ) := by
  have l3 : ∀ x, x < 4 → ∀ (kx : Int32 → Option (Int32 × Sg)), ((∀ m, m < 4 * (x + 1) → wP f m = true → ¬ nI (CR (wP f) m) = k) → kx (nI (CR (wP f) (4 * (x + 1)))) = some (BR (wP f) k, σ)) → ∀ F y, y ≤ 4 → 4 < y + F → (∀ m, m < 4 * x + y → wP f m = true → ¬ nI (CR (wP f) m) = k) → m_X4_restingPair_L75 1 (nI x) k σ kx F (nI y) (nI (CR (wP f) (4 * x + y))) = some (BR (wP f) k, σ) := by
    intro x hx kx hk F
    induction F with
    | zero => intro y h1 h2; exact absurd h2 (by omega)
    | succ F ih =>
      intro y h1 h2 h3
      rw [m_X4_restingPair_L75.eq_2, show (4 : Int32) = nI 4 from rfl]
      rcases Nat.lt_or_ge y 4 with q | q
      · have e1 : (4 * x + y) / 4 = x := by omega
        have e2 : (4 * x + y) % 4 = y := by omega
        have hp := @wP_t f (4 * x + y)
        rw [e1, e2] at hp
        have hs : CR (wP f) (4 * x + (y + 1)) = if wP f (4 * x + y) = true then CR (wP f) (4 * x + y) + 1 else CR (wP f) (4 * x + y) := by
          rw [show 4 * x + (y + 1) = 4 * x + y + 1 by omega]
          rfl
        have no : ¬ wP f (4 * x + y) = true → m_X4_restingPair_L75 1 (nI x) k σ kx F (nI (y + 1)) (nI (CR (wP f) (4 * x + y))) = some (BR (wP f) k, σ) := fun hn => by
          have := ih (y + 1) (by omega) (by omega) (fun m hm hP => by
            by_cases e : m = 4 * x + y
            · subst e
              exact absurd hP hn
            · exact h3 m (by omega) hP)
          rw [hs, if_neg hn] at this
          exact this
        rw [if_neg (nI_ge q (by omega))]
        rcases x_would hR hB (show 0 < 2 by omega) hx q with ⟨w1, w2⟩ | ⟨w1, w2⟩
        · rw [show m_X4_wouldRest (0 : Int32) (nI x) (nI y) σ = some 1 from w2, bd1_s, if_neg (by decide)]
          rcases x_would hR hB (show 1 < 2 by omega) q hx with ⟨v1, v2⟩ | ⟨v1, v2⟩
          · have hP := hp.mpr ⟨w1, v1⟩
            rw [show m_X4_wouldRest (1 : Int32) (nI y) (nI x) σ = some 1 from v2, bd1_s, if_neg (by decide)]
            by_cases c : nI (CR (wP f) (4 * x + y)) = k
            · rw [if_pos c, code_4, BR_found hP c (by omega), e1, e2]
            · rw [if_neg c, nI_1, nm_eq, nI_1, nm_eq]
              have := ih (y + 1) (by omega) (by omega) (fun m hm hP => by
                by_cases e : m = 4 * x + y
                · subst e
                  exact c
                · exact h3 m (by omega) hP)
              rw [hs, if_pos hP] at this
              exact this
          · rw [show m_X4_wouldRest (1 : Int32) (nI y) (nI x) σ = some 0 from v2, bd1_s, if_pos rfl, nI_1, nm_eq]
            exact no (fun z => v1 (hp.mp z).2)
        · rw [show m_X4_wouldRest (0 : Int32) (nI x) (nI y) σ = some 0 from w2, bd1_s, if_pos rfl, nI_1, nm_eq]
          exact no (fun z => w1 (hp.mp z).1)
      · have : y = 4 := by omega
        subst this
        rw [if_pos (nI_le (Nat.le_refl _) (by omega)), show 4 * x + 4 = 4 * (x + 1) by omega]
        exact hk (fun m hm => h3 m (by omega))
  have l2 : ∀ F x, x ≤ 4 → 4 < x + F → (∀ m, m < 4 * x → wP f m = true → ¬ nI (CR (wP f) m) = k) → m_X4_restingPair_L66 1 k σ (fun x31 =>
      if k = (-1 : Int32) then
      (some (x31, σ))
      else
      (some ((-5 : Int32), σ))) F (nI x) (nI (CR (wP f) (4 * x))) = some (BR (wP f) k, σ) := by
    intro F
    induction F with
    | zero => intro y h1 h2; exact absurd h2 (by omega)
    | succ F ih =>
      intro x h1 h2 h3
      rw [m_X4_restingPair_L66.eq_2, show (4 : Int32) = nI 4 from rfl]
      rcases Nat.lt_or_ge x 4 with q | q
      · rw [if_neg (nI_ge q (by omega)), nm_eq]
        refine l3 x q _ (fun hn => ?_) 1000 0 (by omega) (by omega) h3
        rw [nI_1, nm_eq]
        exact ih (x + 1) (by omega) (by omega) hn
      · have : x = 4 := by omega
        subst this
        rw [if_pos (nI_le (Nat.le_refl _) (by omega))]
        unfold BR
        by_cases c : k = -1
        · rw [if_pos c, if_pos c]
        · rw [if_neg c, if_neg c, RV_none 16 h3]
  exact l2 1000 0 (by omega) (by omega) (fun m hm => absurd hm (by omega))
/-- the model's board -/
def B8 (σ : Sg) (f : Nat → Nat → Int32) (n : Nat) : Prop := ∀ j, j < n → σ.1 81 j = f (j / 4) (j % 4)
theorem y_gain (hB : B8 σ f 8) {i a b : Nat} (hi : i < 2) (ha : a < 4) (hb : b < 4) : m_X8_gain (nI i) (nI a) (nI b) σ = some (gN f i a b) := by
  unfold m_X8_gain gN
  rw [show (4 : Int32) = nI 4 from rfl, pk_mul, nI_add, show len 81 = 8 from rfl, ix_if (by omega) (by omega), nI_clamp (by omega), hB (4 * i + a) (by omega), show (4 * i + a) / 4 = i by omega, show (4 * i + a) % 4 = a by omega]
  by_cases c : a = b
  · subst c
    rw [if_pos rfl, if_pos rfl, bd1_s]
  · rw [if_neg (fun z => c ((nI_eq (by omega) (by omega)).mp z)), if_neg c, bd1_s, Int32.sub_zero]
theorem y_rests (hB : B8 σ f 8) {n : Nat} (hn : n < 16) : m_X8_rests (nI (n / 4)) (nI (n % 4)) σ = some (if wP f n = true then 1 else 0) := by
  have ha : n / 4 < 4 := by omega
  have hb : n % 4 < 4 := by omega
  have loop : ∀ F r (v : Int32), r ≤ 4 → 4 < r + F → ((v = 1 ∧ ∀ u, u < r → gN f 0 u (n % 4) ≤ gN f 0 (n / 4) (n % 4) ∧ gN f 1 u (n / 4) ≤ gN f 1 (n % 4) (n / 4)) ∨ (v = 0 ∧ ¬ wP f n = true)) → m_X8_rests_L5 (nI (n / 4)) (nI (n % 4)) σ (fun _ => none) F (nI r) v = some (if wP f n = true then 1 else 0) := by
    intro F
    induction F with
    | zero => intro r v h1 h2; exact absurd h2 (by omega)
    | succ F ih =>
      intro r v h1 h2 h3
      rw [m_X8_rests_L5.eq_2, show (4 : Int32) = nI 4 from rfl]
      rcases Nat.lt_or_ge r 4 with q | q
      · rw [if_neg (nI_ge q (by omega))]
        rcases h3 with ⟨rfl, h3⟩ | ⟨rfl, h3⟩
        · rw [if_neg (by decide), show m_X8_gain (0 : Int32) (nI r) (nI (n % 4)) σ = _ from y_gain hB (show 0 < 2 by omega) q hb, bd1_s, show m_X8_gain (0 : Int32) (nI (n / 4)) (nI (n % 4)) σ = _ from y_gain hB (show 0 < 2 by omega) ha hb, bd1_s, show m_X8_gain (1 : Int32) (nI r) (nI (n / 4)) σ = _ from y_gain hB (show 1 < 2 by omega) q ha, bd1_s, show m_X8_gain (1 : Int32) (nI (n % 4)) (nI (n / 4)) σ = _ from y_gain hB (show 1 < 2 by omega) hb ha, bd1_s]
          by_cases c : gN f 0 (n / 4) (n % 4) < gN f 0 r (n % 4)
          · rw [if_pos c, bd1_s, nI_1, nm_eq]
            refine ih (r + 1) 0 (by omega) (by omega) (.inr ⟨rfl, fun z => ?_⟩)
            have := (wP_t.mp z).1 r q
            rw [lt_I] at c
            rw [le_I] at this
            omega
          · rw [if_neg c]
            by_cases c2 : gN f 1 (n % 4) (n / 4) < gN f 1 r (n / 4)
            · rw [if_pos c2, bd1_s, nI_1, nm_eq]
              refine ih (r + 1) 0 (by omega) (by omega) (.inr ⟨rfl, fun z => ?_⟩)
              have := (wP_t.mp z).2 r q
              rw [lt_I] at c2
              rw [le_I] at this
              omega
            · rw [if_neg c2, bd1_s, nI_1, nm_eq]
              refine ih (r + 1) 1 (by omega) (by omega) (.inl ⟨rfl, fun u hu => ?_⟩)
              by_cases e : u = r
              · subst e
                rw [le_I, le_I]
                rw [lt_I] at c c2
                omega
              · exact h3 u (by omega)
        · rw [if_pos rfl, bd1_s, nI_1, nm_eq]
          exact ih (r + 1) 0 (by omega) (by omega) (.inr ⟨rfl, h3⟩)
      · have : r = 4 := by omega
        subst this
        rw [if_pos (nI_le (Nat.le_refl _) (by omega))]
        rcases h3 with ⟨rfl, h3⟩ | ⟨rfl, h3⟩
        · rw [if_neg (by decide), if_pos (wP_t.mpr ⟨fun r hr => (h3 r hr).1, fun r hr => (h3 r hr).2⟩)]
        · rw [if_neg (by decide), if_neg h3]
  unfold m_X8_rests
  rw [nm_eq, nm_eq]
  exact loop 1000 0 1 (by omega) (by omega) (.inl ⟨rfl, fun u hu => absurd hu (by omega)⟩)
theorem y_pairs (hB : B8 σ f 8) (k : Int32) : m_X8_brothers_L79 k σ (fun x23 x24 =>
    if k = (-1 : Int32) then
    (some (x24, σ))
    else
    (some (x23, σ))) 1000 0 (-5) 0 = some (BR (wP f) k, σ) := by
  have loop : ∀ (kx : Int32 → Int32 → Option (Int32 × Sg)) F n, n ≤ 16 → 16 < n + F → m_X8_brothers_L79 k σ kx F (nI n) (RV (wP f) k n) (nI (CR (wP f) n)) = kx (RV (wP f) k 16) (nI (CR (wP f) 16)) := by
    intro kx F
    induction F with
    | zero => intro y h1 h2; exact absurd h2 (by omega)
    | succ F ih =>
      intro n h1 h2
      rw [m_X8_brothers_L79.eq_2, show (16 : Int32) = nI 16 from rfl]
      rcases Nat.lt_or_ge n 16 with q | q
      · obtain ⟨d1, d2⟩ := n4_16 n q
        rw [if_neg (nI_ge q (by omega)), d2, d1, y_rests hB q, bd1_s]
        refine Eq.trans ?_ (ih (n + 1) (by omega) (by omega))
        have eR : RV (wP f) k (n + 1) = if wP f n = true then (if nI (CR (wP f) n) = k then nI (10 * (n / 4) + n % 4) else RV (wP f) k n) else RV (wP f) k n := rfl
        have eC : CR (wP f) (n + 1) = if wP f n = true then CR (wP f) n + 1 else CR (wP f) n := rfl
        rw [eR, eC]
        by_cases c : wP f n = true
        · rw [if_pos c, if_pos c, if_pos c, if_neg (by decide)]
          by_cases c2 : nI (CR (wP f) n) = k
          · rw [if_pos c2, if_pos c2, bd1_s, code_4, nI_1, nm_eq, bd2_s, nI_1, nm_eq]
          · rw [if_neg c2, if_neg c2, bd1_s, nI_1, nm_eq, bd2_s, nI_1, nm_eq]
        · rw [if_neg c, if_neg c, if_neg c, if_pos rfl, bd2_s, nI_1, nm_eq]
      · have : n = 16 := by omega
        subst this
        rw [if_pos (nI_le (Nat.le_refl _) (by omega))]
  refine (loop _ 1000 0 (by omega) (by omega)).trans ?_
  unfold BR
  split <;> rfl
end BRO
/-- how many sayings one of the two hears there now -/
abbrev fG (V : Vw) (i x : Nat) : Int32 := bc (hd V (V (30 + i)) (nI x) (mo V x 0))
section BRO2
variable {σ : Sg} {V : Vw}
theorem x_brothers (CL : CV σ V) (h65 : RS σ 65 2 4) (hl : 2 ≤ nL V) (k : Int32) : ∃ σ', m_X4_restingPair 1 k σ = some (BR (wP (fG V)) k, σ') ∧ FR 66 σ σ' := by
  have hv := CL.1
  have l1 : ∀ (kx : Sg → Option (Int32 × Sg)) F r (σ' : Sg), r ≤ 4 → 4 < r + F → FR 66 σ σ' → B2 σ' (fG V) r → ∃ σ'', m_X4_restingPair_L2 1 k kx F (nI r) σ' = kx σ'' ∧ FR 66 σ σ'' ∧ B2 σ'' (fG V) 4 := by
    intro kx F
    induction F with
    | zero => intro r σ' h1 h2; exact absurd h2 (by omega)
    | succ F ih =>
      intro r σ' h1 h2 hF hB
      rw [m_X4_restingPair_L2.eq_2, show (4 : Int32) = nI 4 from rfl]
      rcases Nat.lt_or_ge r 4 with q | q
      · have C' := CL.fr hF
        have R1 : RS σ' 65 2 4 := h65.keep (by rw [hF.1 65 (by omega)]) (by rw [hF.1 65 (by omega)])
        have F1 := hF.set (0 * 4 + r) (fG V 0 r)
        have C2 := CL.fr F1
        have R2 : RS (si σ' (65 + 1) (0 * 4 + r) (fG V 0 r)) 65 2 4 := R1.keep (by rw [si_row _ _ _ _ (by omega)]) (by rw [si_row _ _ _ _ (by omega)])
        have ms := mo_sign hv.N (by omega) q (show 0 ≤ 1000 by omega)
        rw [if_neg (nI_ge q (by omega)), show m_X2_roomMinute 1 (nI r) (0 : Int32) σ' = some (mo V r 0) from e_roomMinute (t := 0) C'.2.1 C'.2.2 hv.N (by omega) q (by omega), bd1_s, show m_X2_heardIn 1 (0 : Int32) (nI r) (mo V r 0) σ' = _ from e_heardIn C'.2.1 C'.2.2 hv.1 hv.2.1 (show 0 < nL V by omega) _ _ ms, bd1_s, e_bc, bd1_s, show m_X6_set 65 (0 : Int32) (nI r) (bc (hd V (V (30 + 0)) (nI r) (mo V r 0))) σ' = some (si σ' (65 + 1) (0 * 4 + r) (fG V 0 r)) from s_ok R1 (show 0 < 2 by omega) q, bd1_s, show m_X2_heardIn 1 (1 : Int32) (nI r) (mo V r 0) (si σ' (65 + 1) (0 * 4 + r) (fG V 0 r)) = _ from e_heardIn C2.2.1 C2.2.2 hv.1 hv.2.1 (show 1 < nL V by omega) _ _ ms, bd1_s, e_bc, bd1_s, show m_X6_set 65 (1 : Int32) (nI r) (bc (hd V (V (30 + 1)) (nI r) (mo V r 0))) (si σ' (65 + 1) (0 * 4 + r) (fG V 0 r)) = some (si (si σ' (65 + 1) (0 * 4 + r) (fG V 0 r)) (65 + 1) (1 * 4 + r) (fG V 1 r)) from s_ok R2 (show 1 < 2 by omega) q, bd1_s, nI_1, nm_eq]
        exact ih (r + 1) _ (by omega) (by omega) (F1.set _ _) (hB.set q)
      · have : r = 4 := by omega
        subst this
        rw [if_pos (nI_le (Nat.le_refl _) (by omega))]
        exact ⟨σ', rfl, hF, hB⟩
  unfold m_X4_restingPair
  rw [nm_eq]
  obtain ⟨σ1, e1, hF, hB⟩ := l1 (fun σ17 =>
    nm ((0 : Int32)) (fun x18 =>
    nm ((0 : Int32)) (fun x19 =>
    m_X4_restingPair_L66 1 k σ17 (fun x31 =>
    if k = (-1 : Int32) then
    (some (x31, σ17))
    else
    (some ((-5 : Int32), σ17))) 1000 x19 x18))) 1000 0 σ (by omega) (by omega) ⟨fun _ _ => rfl, rfl⟩ (fun i _ x hx => absurd hx (by omega))
  refine ⟨σ1, e1.trans ?_, hF⟩
  rw [nm_eq, nm_eq]
  exact x_pairs (h65.keep (by rw [hF.1 65 (by omega)]) (by rw [hF.1 65 (by omega)])) hB k
theorem y_brothers (L : LV σ V) (hl : 2 ≤ nL V) (k : Int32) : ∃ σ', m_X8_brothers_L33 k (fun σ10 =>
    nm ((0 : Int32)) (fun x11 =>
    nm ((-5 : Int32)) (fun x12 =>
    nm ((0 : Int32)) (fun x13 =>
    m_X8_brothers_L79 k σ10 (fun x23 x24 =>
    if k = (-1 : Int32) then
    (some (x24, σ10))
    else
    (some (x23, σ10))) 1000 x13 x12 x11)))) 1000 0 σ = some (BR (wP (fG V)) k, σ') ∧ FR 81 σ σ' := by
  have hv := L.1
  have l1 : ∀ (kx : Sg → Option (Int32 × Sg)) F n (σ' : Sg), n ≤ 8 → 8 < n + F → FR 81 σ σ' → B8 σ' (fG V) n → ∃ σ'', m_X8_brothers_L33 k kx F (nI n) σ' = kx σ'' ∧ FR 81 σ σ'' ∧ B8 σ'' (fG V) 8 := by
    intro kx F
    induction F with
    | zero => intro r σ' h1 h2; exact absurd h2 (by omega)
    | succ F ih =>
      intro n σ' h1 h2 hF hB
      rw [m_X8_brothers_L33.eq_2, show (8 : Int32) = nI 8 from rfl]
      rcases Nat.lt_or_ge n 8 with q | q
      · obtain ⟨d1, d2⟩ := n4_16 n (by omega)
        have L' := L.fr hF (.inr rfl)
        obtain ⟨w, hw, ew⟩ := hd_lt V (V (30 + n / 4)) (nI (n % 4)) (mo V (n % 4) 0) hv.1.2
        have em : m_X8_many (hd V (V (30 + n / 4)) (nI (n % 4)) (mo V (n % 4) 0)) σ' = some (fG V (n / 4) (n % 4)) := by
          show _ = some (bc _)
          rw [ew]
          exact e_many hw σ'
        rw [if_neg (nI_ge q (by omega)), d2, d1, e_minuteOf L'.2 (show n % 4 < 4 by omega), bd1_s, e_mHeardIn L'.2 hv.1 hv.2.1 hv.K (show n / 4 < nL V by omega), bd1_s, em, bd1_s, show len 81 = 8 from rfl, ix_if q (by omega), nI_clamp (by omega), nm_eq, nI_1, nm_eq]
        refine ih (n + 1) _ (by omega) (by omega) (hF.set _ _) (fun j hj => ?_)
        rw [si_1]
        by_cases e : j = n
        · subst e
          rw [if_pos ⟨rfl, rfl⟩]
        · rw [if_neg (fun z => e z.2)]
          exact hB j (by omega)
      · have : n = 8 := by omega
        subst this
        rw [if_pos (nI_le (Nat.le_refl _) (by omega))]
        exact ⟨σ', rfl, hF, hB⟩
  obtain ⟨σ1, e1, hF, hB⟩ := l1 (fun σ10 =>
    nm ((0 : Int32)) (fun x11 =>
    nm ((-5 : Int32)) (fun x12 =>
    nm ((0 : Int32)) (fun x13 =>
    m_X8_brothers_L79 k σ10 (fun x23 x24 =>
    if k = (-1 : Int32) then
    (some (x24, σ10))
    else
    (some (x23, σ10))) 1000 x13 x12 x11)))) 1000 0 σ (by omega) (by omega) ⟨fun _ _ => rfl, rfl⟩ (fun j hj => absurd hj (by omega))
  refine ⟨σ1, e1.trans ?_, hF⟩
  rw [nm_eq, nm_eq, nm_eq]
  exact y_pairs hB k
end BRO2
theorem sp_brothers : Sp_brothers Rel := by
  intro σ H a1
  obtain ⟨HR, V, HC⟩ := id H
  have h3 : nL V ≤ 3 := HC.1.2.1.2
  by_cases c : (-1 : Int32) ≤ a1
  · by_cases hl : 2 ≤ nL V
    · obtain ⟨σ1, e1, hF⟩ := x_brothers HC.C HR.1.2.2.2 hl a1
      have L := HC.L.fr hF (.inl rfl)
      obtain ⟨σ2, e2, hF2⟩ := y_brothers L hl a1
      refine ⟨BR (wP (fG V)) a1, σ1, σ2, ?_, ?_, H.free (fun a h1 h2 => (hF2.1 a h2).trans (hF.1 a h1)) (hF2.2.trans hF.2)⟩
      · unfold m_X7_brothers
        simp only [x_areBro HC.C, bd1_s, b01_z, bd2_id]
        rw [if_pos c, if_pos hl, e1]
      · unfold m_X8_brothers
        simp only [bd2_id]
        rw [if_pos c, if_pos (show (2 : Int32) ≤ σ1.1 68 5 by rw [L.2.1.2.1, L.1.2.1.1]; exact nI_le (a := 2) hl (show nL V < 2 ^ 31 by omega)), nm_eq]
        exact e2
    · refine r_no H ?_ (fun σ1 e1 => ?_)
      · unfold m_X7_brothers
        simp only [x_areBro HC.C, bd1_s, b01_z, bd2_id]
        rw [if_pos c, if_neg hl]
      · have L : LV σ1 V := by rw [e1]; exact HC.L.si0 _ _
        unfold m_X8_brothers
        simp only [bd2_id]
        rw [if_pos c, if_neg (show ¬ (2 : Int32) ≤ σ1.1 68 5 by rw [L.2.1.2.1, L.1.2.1.1]; exact nI_ge (b := 2) (show nL V < 2 by omega) (by omega))]
  · refine ⟨-10, si σ 0 9 (σ.1 0 9 + 1), _, ?_, ?_, H.ref 0 (by omega)⟩
    · unfold m_X7_brothers
      rw [if_neg c, x_bad, bd2_s]
    · unfold m_X8_brothers
      rw [if_neg c, ln_69, if_neg (by decide), if_neg (by decide), nm_eq, si_row _ _ _ _ (show 69 ≠ 0 by omega)]
      rfl
