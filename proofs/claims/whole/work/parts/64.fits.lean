/-! ===== PURE: is, kinds ===== -/
/-- does kind k fit the first n rows about w -/
def fN (who : Nat → Int32) (w : Int32) (fit : Nat → Nat → Bool) (k : Nat) : Nat → Bool
  | 0 => true
  | n + 1 => fN who w fit k n && (!(decide (who n = w)) || fit k n)
theorem fN_off {who : Nat → Int32} {w : Int32} {fit : Nat → Nat → Bool} {k t : Nat} (h : fN who w fit k t = false) : ∀ n, t ≤ n → fN who w fit k n = false := by
  intro n
  induction n with
  | zero => intro h1; rwa [show t = 0 by omega] at h
  | succ n ih =>
    intro h1
    rcases Nat.lt_or_ge t (n + 1) with q | q
    · unfold fN
      rw [ih (by omega)]
      rfl
    · rwa [show t = n + 1 by omega] at h
/-- the kinds below n for which f -/
def KS (f : Nat → Bool) : Nat → Nat
  | 0 => 0
  | n + 1 => if f n = true then KS f n ||| 2 ^ n else KS f n
theorem KS_lt (f : Nat → Bool) : ∀ n, KS f n < 2 ^ n := by
  intro n
  induction n with
  | zero => exact Nat.zero_lt_one
  | succ n ih =>
    unfold KS
    have h2 : 2 ^ n < 2 ^ (n + 1) := Nat.pow_lt_pow_right (by omega) (by omega)
    split
    · exact Nat.or_lt_two_pow (by omega) h2
    · omega
theorem KS_bit (f : Nat → Bool) (i : Nat) : ∀ n, i < n → (KS f n).testBit i = f i := by
  intro n
  induction n with
  | zero => intro h; omega
  | succ n ih =>
    intro h
    unfold KS
    rcases Nat.lt_or_ge i n with c | c
    · split
      · rw [Nat.testBit_or, ih c, Nat.testBit_two_pow, show decide (n = i) = false from decide_eq_false (by omega), Bool.or_false]
      · exact ih c
    · have : i = n := by omega
      subst this
      have h0 : (KS f i).testBit i = false := Nat.testBit_lt_two_pow (KS_lt f i)
      split
      · rename_i hf
        rw [Nat.testBit_or, h0, Nat.testBit_two_pow_self, hf, Bool.false_or]
      · rename_i hf
        rw [h0]
        exact (Bool.eq_false_iff.mpr hf).symm
theorem bits_64 : ∀ a, a < 64 → ∀ b, b < 64 → (∀ i, i < 6 → a.testBit i = b.testBit i) → a = b := by decide +kernel
theorem clr_64 : ∀ a, a < 64 → ∀ k, k < 6 → nI a &&& (one k ^^^ (-1)) = nI (a &&& (63 ^^^ 2 ^ k)) ∧ a &&& (63 ^^^ 2 ^ k) < 64 ∧ ∀ i, i < 6 → (a &&& (63 ^^^ 2 ^ k)).testBit i = (a.testBit i && !(i == k)) := by decide +kernel
theorem all_64 : ∀ a, a < 64 → nI a &&& (63 : Int32) = nI a := by decide +kernel
theorem or1_64 : ∀ k, k < 6 → one k = nI (2 ^ k) := by decide +kernel
theorem bitN {a k : Nat} (ha : a < 64) (hk : k < 6) : bit (nI a) k ↔ a.testBit k = true := bit_nI (by omega) (by omega)
abbrev whoN (V : Vw) (t : Nat) : Int32 := V (59 + (t * 4 + 0))
abbrev fitN (V : Vw) (k t : Nat) : Bool := decide (LB (nI k) (V (59 + (t * 4 + 1))) (V (59 + (t * 4 + 2))) = V (59 + (t * 4 + 3)))
abbrev whoM (V : Vw) (t : Nat) : Int32 := V (83 + (t * 4 + 0))
abbrev fitM (V : Vw) (k t : Nat) : Bool := decide (hb (nI k) (V (83 + (t * 4 + 1))) (V (83 + (t * 4 + 2))) = if V (83 + (t * 4 + 3)) = 1 then 1 else 0)
/-- the kinds that a saying, a listener may be of -/
def kS (V : Vw) (w : Int32) : Nat := KS (fun k => fN (whoN V) w (fitN V) k (nN V)) 6
def kM (V : Vw) (w : Int32) : Nat := KS (fun k => fN (whoM V) w (fitM V) k (nM V)) 6
theorem kS_lt (V : Vw) (w : Int32) : kS V w < 64 := KS_lt _ 6
theorem kM_lt (V : Vw) (w : Int32) : kM V w < 64 := KS_lt _ 6
theorem kS_bit (V : Vw) (w : Int32) {i : Nat} (hi : i < 6) : (kS V w).testBit i = fN (whoN V) w (fitN V) i (nN V) := KS_bit (fun k => fN (whoN V) w (fitN V) k (nN V)) i 6 hi
theorem kM_bit (V : Vw) (w : Int32) {i : Nat} (hi : i < 6) : (kM V w).testBit i = fN (whoM V) w (fitM V) i (nM V) := KS_bit (fun k => fN (whoM V) w (fitM V) k (nM V)) i 6 hi
section FITS
variable {σ : Sg} {V : Vw}
theorem x_fitsN (CL : CV σ V) (w : Int32) (k : Nat) : m_X0_fitsNotes 1 w (nI k) σ = some (if fN (whoN V) w (fitN V) k (nN V) = true then 1 else 0) := by
  obtain ⟨hv, S, H⟩ := CL
  have h6 : nN V ≤ 6 := hv.2.2.2.1.2
  have loop : ∀ F t, t ≤ nN V → nN V < t + F → fN (whoN V) w (fitN V) k t = true → m_X0_fitsNotes_L2 1 w (nI k) σ (fun _ => none) F (nI t) = some (if fN (whoN V) w (fitN V) k (nN V) = true then 1 else 0) := by
    intro F
    induction F with
    | zero => intro s h1 h2; exact absurd h2 (by omega)
    | succ F ih =>
      intro t h1 h2 h3
      rw [m_X0_fitsNotes_L2.eq_2, H.1.2.2.2.1, hv.2.2.2.1.1]
      rcases Nat.lt_or_ge t (nN V) with q | q
      · have g : ∀ c, c < 4 → m_X6_get (1 + 9) (nI t) (nI c) σ = some (V (59 + (t * 4 + c))) := fun c hc => (g_ok S.2.2.2.2.1 (by omega) hc).trans (congrArg some (H.2.2.2.2.2.1 _ (by omega)))
        rw [if_neg (nI_ge q (by omega)), show (1 : Int32) = nI 1 from rfl, show (2 : Int32) = nI 2 from rfl, show (3 : Int32) = nI 3 from rfl, show (0 : Int32) = nI 0 from rfl, g 1 (by omega), bd1_s, g 2 (by omega), bd1_s, e_loudness, bd1_s, g 0 (by omega), bd1_s, nI_add, nm_eq, g 3 (by omega), bd1_s]
        have e : fN (whoN V) w (fitN V) k (t + 1) = (!(decide (V (59 + (t * 4 + 0)) = w)) || fitN V k t) := by
          conv => lhs; unfold fN
          rw [h3, Bool.true_and]
        by_cases c1 : V (59 + (t * 4 + 0)) = w
        · rw [if_pos c1]
          by_cases c2 : LB (nI k) (V (59 + (t * 4 + 1))) (V (59 + (t * 4 + 2))) = V (59 + (t * 4 + 3))
          · rw [if_pos c2]
            exact ih (t + 1) (by omega) (by omega) (by rw [e, show fitN V k t = true from decide_eq_true c2, Bool.or_true])
          · rw [if_neg c2, fN_off (t := t + 1) (by rw [e, show fitN V k t = false from decide_eq_false c2, Bool.or_false, decide_eq_true c1]; rfl) _ (by omega)]
            rfl
        · rw [if_neg c1]
          exact ih (t + 1) (by omega) (by omega) (by rw [e, decide_eq_false c1]; rfl)
      · have : t = nN V := by omega
        subst this
        rw [if_pos (nI_le (Nat.le_refl _) (show nN V < 2 ^ 31 by omega)), h3, if_pos rfl]
  unfold m_X0_fitsNotes
  rw [nm_eq]
  exact loop 1000 0 (Nat.zero_le _) (by omega) rfl
theorem x_fitsM (CL : CV σ V) (w : Int32) (k : Nat) : m_X0_fitsMarks 1 w (nI k) σ = some (if fN (whoM V) w (fitM V) k (nM V) = true then 1 else 0) := by
  obtain ⟨hv, S, H⟩ := CL
  have h6 : nM V ≤ 6 := hv.2.2.2.2.1.2
  have loop : ∀ F t, t ≤ nM V → nM V < t + F → fN (whoM V) w (fitM V) k t = true → m_X0_fitsMarks_L2 1 w (nI k) σ (fun _ => none) F (nI t) = some (if fN (whoM V) w (fitM V) k (nM V) = true then 1 else 0) := by
    intro F
    induction F with
    | zero => intro s h1 h2; exact absurd h2 (by omega)
    | succ F ih =>
      intro t h1 h2 h3
      rw [m_X0_fitsMarks_L2.eq_2, H.1.2.2.2.2.1, hv.2.2.2.2.1.1]
      rcases Nat.lt_or_ge t (nM V) with q | q
      · have g : ∀ c, c < 4 → m_X6_get (1 + 11) (nI t) (nI c) σ = some (V (83 + (t * 4 + c))) := fun c hc => (g_ok S.2.2.2.2.2.1 (by omega) hc).trans (congrArg some (H.2.2.2.2.2.2.1 _ (by omega)))
        rw [if_neg (nI_ge q (by omega)), show m_X6_get (1 + 11) (nI t) (1 : Int32) σ = _ from g 1 (by omega), bd1_s, show m_X6_get (1 + 11) (nI t) (2 : Int32) σ = _ from g 2 (by omega), bd1_s, e_hears, bd1_s, show m_X6_get (1 + 11) (nI t) (3 : Int32) σ = _ from g 3 (by omega), bd1_s, some_if, bd1_s, show m_X6_get (1 + 11) (nI t) (0 : Int32) σ = _ from g 0 (by omega), bd1_s, nI_1, nm_eq]
        have e : fN (whoM V) w (fitM V) k (t + 1) = (!(decide (V (83 + (t * 4 + 0)) = w)) || fitM V k t) := by
          conv => lhs; unfold fN
          rw [h3, Bool.true_and]
        by_cases c1 : V (83 + (t * 4 + 0)) = w
        · rw [if_pos c1]
          by_cases c2 : hb (nI k) (V (83 + (t * 4 + 1))) (V (83 + (t * 4 + 2))) = if V (83 + (t * 4 + 3)) = 1 then 1 else 0
          · rw [if_pos c2]
            exact ih (t + 1) (by omega) (by omega) (by rw [e, show fitM V k t = true from decide_eq_true c2, Bool.or_true])
          · rw [if_neg c2, fN_off (t := t + 1) (by rw [e, show fitM V k t = false from decide_eq_false c2, Bool.or_false, decide_eq_true c1]; rfl) _ (by omega)]
            rfl
        · rw [if_neg c1]
          exact ih (t + 1) (by omega) (by omega) (by rw [e, decide_eq_false c1]; rfl)
      · have : t = nM V := by omega
        subst this
        rw [if_pos (nI_le (Nat.le_refl _) (show nM V < 2 ^ 31 by omega)), h3, if_pos rfl]
  unfold m_X0_fitsMarks
  rw [nm_eq]
  exact loop 1000 0 (Nat.zero_le _) (by omega) rfl
theorem x_kS (CL : CV σ V) (w : Int32) : m_X0_sayingKinds 1 w σ = some (nI (kS V w)) := by
  have loop : ∀ F k, k ≤ 6 → 6 < k + F → m_X0_sayingKinds_L4 1 w σ (fun _ => none) F (nI k) (nI (KS (fun k => fN (whoN V) w (fitN V) k (nN V)) k)) = some (nI (kS V w)) := by
    intro F
    induction F with
    | zero => intro s h1 h2; exact absurd h2 (by omega)
    | succ F ih =>
      intro k h1 h2
      rw [m_X0_sayingKinds_L4.eq_2, show (6 : Int32) = nI 6 from rfl]
      rcases Nat.lt_or_ge k 6 with q | q
      · rw [if_neg (nI_ge q (by omega)), x_fitsN CL, bd1_s]
        refine Eq.trans ?_ (ih (k + 1) (by omega) (by omega))
        conv => rhs; unfold KS
        by_cases c : fN (whoN V) w (fitN V) k (nN V) = true
        · rw [if_pos c, if_pos c, if_neg (by decide), nm_eq, bd1_s, nI_1, nm_eq, show (1 : Int32) <<< (nI k &&& 31) = _ from or1_64 k q, or_nI]
        · rw [if_neg c, if_neg c, if_pos rfl, bd1_s, nI_1, nm_eq]
      · have : k = 6 := by omega
        subst this
        rw [if_pos (nI_le (Nat.le_refl _) (by omega))]
        rfl
  unfold m_X0_sayingKinds
  rw [nm_eq, nm_eq]
  exact loop 1000 0 (Nat.zero_le _) (by omega)
theorem x_kM (CL : CV σ V) (w : Int32) : m_X0_listenerKinds 1 w σ = some (nI (kM V w)) := by
  have loop : ∀ F k, k ≤ 6 → 6 < k + F → m_X0_listenerKinds_L4 1 w σ (fun _ => none) F (nI k) (nI (KS (fun k => fN (whoM V) w (fitM V) k (nM V)) k)) = some (nI (kM V w)) := by
    intro F
    induction F with
    | zero => intro s h1 h2; exact absurd h2 (by omega)
    | succ F ih =>
      intro k h1 h2
      rw [m_X0_listenerKinds_L4.eq_2, show (6 : Int32) = nI 6 from rfl]
      rcases Nat.lt_or_ge k 6 with q | q
      · rw [if_neg (nI_ge q (by omega)), x_fitsM CL, bd1_s]
        refine Eq.trans ?_ (ih (k + 1) (by omega) (by omega))
        conv => rhs; unfold KS
        by_cases c : fN (whoM V) w (fitM V) k (nM V) = true
        · rw [if_pos c, if_pos c, if_neg (by decide), nm_eq, bd1_s, nI_1, nm_eq, show (1 : Int32) <<< (nI k &&& 31) = _ from or1_64 k q, or_nI]
        · rw [if_neg c, if_neg c, if_pos rfl, bd1_s, nI_1, nm_eq]
      · have : k = 6 := by omega
        subst this
        rw [if_pos (nI_le (Nat.le_refl _) (by omega))]
        rfl
  unfold m_X0_listenerKinds
  rw [nm_eq, nm_eq]
  exact loop 1000 0 (Nat.zero_le _) (by omega)
theorem y_kS (L : LV σ V) (w : Int32) : m_X8_kindsOf w σ = some (nI (kS V w)) := by
  obtain ⟨hv, H⟩ := L
  have h6 : nN V ≤ 6 := hv.2.2.2.1.2
  have hT : ∀ j, j < 24 → σ.1 79 j = V (59 + j) := H.2.2.2.2.2.2.2.1
  have inner : ∀ (t : Nat), t < 6 → whoN V t = w → ∀ (kx : Int32 → Option Int32) F k a, k ≤ 6 → 6 < k + F → a < 64 → ∃ a', a' < 64 ∧ m_X8_kindsOf_L16 (nI t) w σ kx F (nI k) (nI a) = kx (nI a') ∧ ∀ i, i < 6 → a'.testBit i = (a.testBit i && (decide (i < k) || fitN V i t)) := by
    intro t ht hw kx F
    induction F with
    | zero => intro k a h1 h2; exact absurd h2 (by omega)
    | succ F ih =>
      intro k a h1 h2 ha
      rw [m_X8_kindsOf_L16.eq_2, show (6 : Int32) = nI 6 from rfl]
      rcases Nat.lt_or_ge k 6 with q | q
      · rw [if_neg (nI_ge q (by omega)), show (4 : Int32) = nI 4 from rfl, pk_mul, ln_79, show 4 * t = t * 4 by omega, ix_if (by omega) (by omega), nI_clamp (by omega), hT _ (by omega), if_pos (show V (59 + t * 4) = w from hw), show nI (t * 4) + (1 : Int32) = nI (t * 4 + 1) from nI_add _ 1, show nI (t * 4) + (2 : Int32) = nI (t * 4 + 2) from nI_add _ 2, show nI (t * 4) + (3 : Int32) = nI (t * 4 + 3) from nI_add _ 3, ix_if (by omega) (by omega), ix_if (by omega) (by omega), nI_clamp (by omega), nI_clamp (by omega), hT _ (by omega), hT _ (by omega), e_loudBy q, bd1_s, ix_if (by omega) (by omega), nI_clamp (by omega), hT _ (by omega)]
        obtain ⟨b1, b2, b3⟩ := clr_64 a ha k q
        by_cases c : LB (nI k) (V (59 + (t * 4 + 1))) (V (59 + (t * 4 + 2))) = V (59 + (t * 4 + 3))
        · rw [if_pos c, bd1_s, all_64 a ha, nm_eq, nI_1, nm_eq]
          obtain ⟨a', h3, h4, h5⟩ := ih (k + 1) a (by omega) (by omega) ha
          refine ⟨a', h3, h4, fun i hi => ?_⟩
          rw [h5 i hi]
          by_cases e : i = k
          · subst e
            rw [show fitN V i t = true from decide_eq_true c, Bool.or_true, Bool.or_true]
          · rw [show decide (i < k + 1) = decide (i < k) by by_cases z : i < k; (· rw [decide_eq_true z, decide_eq_true (by omega)]); (· rw [decide_eq_false z, decide_eq_false (by omega)])]
        · rw [if_neg c, bd1_s, show (1 : Int32) <<< (nI k &&& 31) = one k from rfl, b1, nm_eq, nI_1, nm_eq]
          obtain ⟨a', h3, h4, h5⟩ := ih (k + 1) _ (by omega) (by omega) b2
          refine ⟨a', h3, h4, fun i hi => ?_⟩
          rw [h5 i hi, b3 i hi]
          by_cases e : i = k
          · subst e
            rw [show fitN V i t = false from decide_eq_false c, show (i == i) = true from beq_self_eq_true i, show decide (i < i) = false from decide_eq_false (by omega)]
            simp
          · rw [show decide (i < k + 1) = decide (i < k) by by_cases z : i < k; (· rw [decide_eq_true z, decide_eq_true (by omega)]); (· rw [decide_eq_false z, decide_eq_false (by omega)])]
            rw [show (i == k) = false from beq_eq_false_iff_ne.mpr e]
            simp
      · have : k = 6 := by omega
        subst this
        rw [if_pos (nI_le (Nat.le_refl _) (by omega))]
        exact ⟨a, ha, rfl, fun i hi => by rw [decide_eq_true hi, Bool.true_or, Bool.and_true]⟩
  have outer : ∀ F t a, t ≤ nN V → nN V < t + F → a < 64 → (∀ i, i < 6 → a.testBit i = fN (whoN V) w (fitN V) i t) → m_X8_kindsOf_L5 w σ (fun _ => none) F (nI t) (nI a) = some (nI (kS V w)) := by
    intro F
    induction F with
    | zero => intro t a h1 h2; exact absurd h2 (by omega)
    | succ F ih =>
      intro t a h1 h2 ha hb
      rw [m_X8_kindsOf_L5.eq_2, H.1.2.2.2.1, hv.2.2.2.1.1]
      rcases Nat.lt_or_ge t (nN V) with q | q
      · rw [if_neg (nI_ge q (by omega)), nm_eq]
        by_cases c : whoN V t = w
        · obtain ⟨a', h3, h4, h5⟩ := inner t (by omega) c (fun x10 =>
            nm (nI t + (1 : Int32)) (fun x11 =>
            m_X8_kindsOf_L5 w σ (fun _ => none) F x11 x10)) 1000 0 a (by omega) (by omega) ha
          refine h4.trans ?_
          rw [nI_1, nm_eq]
          refine ih (t + 1) a' (by omega) (by omega) h3 (fun i hi => ?_)
          rw [h5 i hi, hb i hi]
          conv => rhs; unfold fN
          rw [decide_eq_true c, show decide (i < 0) = false from decide_eq_false (by omega)]
          rfl
        · rw [m_X8_kindsOf_L16.eq_2, if_neg (show ¬ (6 : Int32) ≤ 0 by decide), show (4 : Int32) = nI 4 from rfl, pk_mul, ln_79, show 4 * t = t * 4 by omega, ix_if (by omega) (by omega), nI_clamp (by omega), hT _ (by omega), if_neg (show ¬ V (59 + t * 4) = w from c), nI_1, nm_eq]
          refine ih (t + 1) a (by omega) (by omega) ha (fun i hi => ?_)
          rw [hb i hi]
          conv => rhs; unfold fN
          rw [decide_eq_false c]
          simp
      · have : t = nN V := by omega
        subst this
        rw [if_pos (nI_le (Nat.le_refl _) (show nN V < 2 ^ 31 by omega))]
        exact congrArg some (congrArg nI (bits_64 a ha _ (kS_lt V w) (fun i hi => (hb i hi).trans (kS_bit V w hi).symm)))
  unfold m_X8_kindsOf
  rw [nm_eq, nm_eq]
  exact outer 1000 0 63 (Nat.zero_le _) (by omega) (by omega) (fun i hi => by
    have : ∀ i, i < 6 → (63 : Nat).testBit i = true := by decide
    exact this i hi)
theorem y_kM (L : LV σ V) (w : Int32) : m_X8_sortsOf w σ = some (nI (kM V w)) := by
  obtain ⟨hv, H⟩ := L
  have h6 : nM V ≤ 6 := hv.2.2.2.2.1.2
  have hT : ∀ j, j < 24 → σ.1 80 j = V (83 + j) := H.2.2.2.2.2.2.2.2.1
  have inner : ∀ (t : Nat), t < 6 → whoM V t = w → ∀ (kx : Int32 → Option Int32) F k a, k ≤ 6 → 6 < k + F → a < 64 → ∃ a', a' < 64 ∧ m_X8_sortsOf_L16 (nI t) w σ kx F (nI k) (nI a) = kx (nI a') ∧ ∀ i, i < 6 → a'.testBit i = (a.testBit i && (decide (i < k) || fitM V i t)) := by
    intro t ht hw kx F
    induction F with
    | zero => intro k a h1 h2; exact absurd h2 (by omega)
    | succ F ih =>
      intro k a h1 h2 ha
      rw [m_X8_sortsOf_L16.eq_2, show (6 : Int32) = nI 6 from rfl]
      rcases Nat.lt_or_ge k 6 with q | q
      · rw [if_neg (nI_ge q (by omega)), show (4 : Int32) = nI 4 from rfl, pk_mul, ln_80, show 4 * t = t * 4 by omega, ix_if (by omega) (by omega), nI_clamp (by omega), hT _ (by omega), if_pos (show V (83 + t * 4) = w from hw), show nI (t * 4) + (1 : Int32) = nI (t * 4 + 1) from nI_add _ 1, show nI (t * 4) + (2 : Int32) = nI (t * 4 + 2) from nI_add _ 2, show nI (t * 4) + (3 : Int32) = nI (t * 4 + 3) from nI_add _ 3, ix_if (by omega) (by omega), ix_if (by omega) (by omega), nI_clamp (by omega), nI_clamp (by omega), hT _ (by omega), hT _ (by omega), e_hearsBy q, bd1_s, ix_if (by omega) (by omega), nI_clamp (by omega), hT _ (by omega), some_if, bd1_s]
        obtain ⟨b1, b2, b3⟩ := clr_64 a ha k q
        by_cases c : hb (nI k) (V (83 + (t * 4 + 1))) (V (83 + (t * 4 + 2))) = if V (83 + (t * 4 + 3)) = 1 then 1 else 0
        · rw [if_pos c, bd1_s, all_64 a ha, nm_eq, nI_1, nm_eq]
          obtain ⟨a', h3, h4, h5⟩ := ih (k + 1) a (by omega) (by omega) ha
          refine ⟨a', h3, h4, fun i hi => ?_⟩
          rw [h5 i hi]
          by_cases e : i = k
          · subst e
            rw [show fitM V i t = true from decide_eq_true c, Bool.or_true, Bool.or_true]
          · rw [show decide (i < k + 1) = decide (i < k) by by_cases z : i < k; (· rw [decide_eq_true z, decide_eq_true (by omega)]); (· rw [decide_eq_false z, decide_eq_false (by omega)])]
        · rw [if_neg c, bd1_s, show (1 : Int32) <<< (nI k &&& 31) = one k from rfl, b1, nm_eq, nI_1, nm_eq]
          obtain ⟨a', h3, h4, h5⟩ := ih (k + 1) _ (by omega) (by omega) b2
          refine ⟨a', h3, h4, fun i hi => ?_⟩
          rw [h5 i hi, b3 i hi]
          by_cases e : i = k
          · subst e
            rw [show fitM V i t = false from decide_eq_false c, show (i == i) = true from beq_self_eq_true i, show decide (i < i) = false from decide_eq_false (by omega)]
            simp
          · rw [show decide (i < k + 1) = decide (i < k) by by_cases z : i < k; (· rw [decide_eq_true z, decide_eq_true (by omega)]); (· rw [decide_eq_false z, decide_eq_false (by omega)])]
            rw [show (i == k) = false from beq_eq_false_iff_ne.mpr e]
            simp
      · have : k = 6 := by omega
        subst this
        rw [if_pos (nI_le (Nat.le_refl _) (by omega))]
        exact ⟨a, ha, rfl, fun i hi => by rw [decide_eq_true hi, Bool.true_or, Bool.and_true]⟩
  have outer : ∀ F t a, t ≤ nM V → nM V < t + F → a < 64 → (∀ i, i < 6 → a.testBit i = fN (whoM V) w (fitM V) i t) → m_X8_sortsOf_L5 w σ (fun _ => none) F (nI t) (nI a) = some (nI (kM V w)) := by
    intro F
    induction F with
    | zero => intro t a h1 h2; exact absurd h2 (by omega)
    | succ F ih =>
      intro t a h1 h2 ha hb
      rw [m_X8_sortsOf_L5.eq_2, H.1.2.2.2.2.1, hv.2.2.2.2.1.1]
      rcases Nat.lt_or_ge t (nM V) with q | q
      · rw [if_neg (nI_ge q (by omega)), nm_eq]
        by_cases c : whoM V t = w
        · obtain ⟨a', h3, h4, h5⟩ := inner t (by omega) c (fun x10 =>
            nm (nI t + (1 : Int32)) (fun x11 =>
            m_X8_sortsOf_L5 w σ (fun _ => none) F x11 x10)) 1000 0 a (by omega) (by omega) ha
          refine h4.trans ?_
          rw [nI_1, nm_eq]
          refine ih (t + 1) a' (by omega) (by omega) h3 (fun i hi => ?_)
          rw [h5 i hi, hb i hi]
          conv => rhs; unfold fN
          rw [decide_eq_true c, show decide (i < 0) = false from decide_eq_false (by omega)]
          rfl
        · rw [m_X8_sortsOf_L16.eq_2, if_neg (show ¬ (6 : Int32) ≤ 0 by decide), show (4 : Int32) = nI 4 from rfl, pk_mul, ln_80, show 4 * t = t * 4 by omega, ix_if (by omega) (by omega), nI_clamp (by omega), hT _ (by omega), if_neg (show ¬ V (83 + t * 4) = w from c), nI_1, nm_eq]
          refine ih (t + 1) a (by omega) (by omega) ha (fun i hi => ?_)
          rw [hb i hi]
          conv => rhs; unfold fN
          rw [decide_eq_false c]
          simp
      · have : t = nM V := by omega
        subst this
        rw [if_pos (nI_le (Nat.le_refl _) (show nM V < 2 ^ 31 by omega))]
        exact congrArg some (congrArg nI (bits_64 a ha _ (kM_lt V w) (fun i hi => (hb i hi).trans (kM_bit V w hi).symm)))
  unfold m_X8_sortsOf
  rw [nm_eq, nm_eq]
  exact outer 1000 0 63 (Nat.zero_le _) (by omega) (by omega) (fun i hi => by
    have : ∀ i, i < 6 → (63 : Nat).testBit i = true := by decide
    exact this i hi)
end FITS
theorem sp_is : Sp_is Rel := by
  intro σ H a1
  obtain ⟨HR, V, HC⟩ := id H
  refine q_pair H HC (rng a1 0 ((nS V : Int) - 1)) (nI (kS V a1)) (fun c => ?_) (fun c => ?_) (fun c => ?_) (fun c σ' L => ?_)
  · unfold m_X7_is
    rw [x_isS HC.C, bd1_s, b01_z, if_pos c, x_kS HC.C, bd1_s]
  · unfold m_X7_is
    rw [x_isS HC.C, bd1_s, b01_z, if_neg c, bd2_id]
  · unfold m_X8_is
    rw [y_isS HC.L, bd1_s, b01_z, if_pos c, y_kS HC.L, bd1_s]
  · unfold m_X8_is
    rw [y_isS L, bd1_s, b01_z, if_neg c, bd2_id]
theorem sp_kinds : Sp_kinds Rel := by
  intro σ H a1
  obtain ⟨HR, V, HC⟩ := id H
  refine q_pair H HC (rng a1 0 ((nL V : Int) - 1)) (nI (kM V a1)) (fun c => ?_) (fun c => ?_) (fun c => ?_) (fun c σ' L => ?_)
  · unfold m_X7_kinds
    rw [x_isL HC.C, bd1_s, b01_z, if_pos c, x_kM HC.C, bd1_s]
  · unfold m_X7_kinds
    rw [x_isL HC.C, bd1_s, b01_z, if_neg c, bd2_id]
  · unfold m_X8_kinds
    rw [y_isL HC.L, bd1_s, b01_z, if_pos c, y_kM HC.L, bd1_s]
  · unfold m_X8_kinds
    rw [y_isL L, bd1_s, b01_z, if_neg c, bd2_id]
