/-! ===== PURE: stay ===== -/
theorem if_n4' {α : Type} {p q r s : Prop} [Decidable p] [Decidable q] [Decidable r] [Decidable s] (a b : α) : (if p then (if q then (if r then (if s then a else b) else b) else b) else b) = if p ∧ q ∧ r ∧ s then a else b := by
  by_cases h : p ∧ q ∧ r ∧ s
  · rw [if_pos h, if_pos h.1, if_pos h.2.1, if_pos h.2.2.1, if_pos h.2.2.2]
  · rw [if_neg h, if_n4 h]
theorem o4c (p q r s : Prop) [Decidable p] [Decidable q] [Decidable r] [Decidable s] : (if p then (if q then (if r then (if s then some (1 : Int32) else some 0) else some 0) else some 0) else some 0) = some (b01 (p ∧ q ∧ r ∧ s)) := by
  rw [if_n4']
  unfold b01
  split <;> rfl
/-- what is heard in a room by minute t -/
def HO (V : Vw) (k r x0 : Int32) : Nat → Int32
  | 0 => x0
  | t + 1 => HO V k r x0 t ||| hd V k r (nI t)
theorem HO_lt {V : Vw} (hn : nS V ≤ 8) (k r : Int32) {w0 : Nat} (hw : w0 < 256) : ∀ t, ∃ w, w < 256 ∧ HO V k r (nI w0) t = nI w := by
  intro t
  induction t with
  | zero => exact ⟨w0, hw, rfl⟩
  | succ t ih =>
    obtain ⟨w, h1, h2⟩ := ih
    obtain ⟨w2, h3, h4⟩ := hd_lt V k r (nI t) hn
    exact ⟨w ||| w2, or_lt h1 h3, by unfold HO; rw [h2, h4, or_nI]⟩
theorem or_and_0 {a b c : Int32} (h : (a ||| b) &&& c = 0) : a &&& c = 0 := by
  apply Int32.toBitVec_inj.mp
  have h2 := congrArg Int32.toBitVec h
  apply BitVec.eq_of_getLsbD_eq
  intro i hi
  have h3 := congrArg (fun z => z.getLsbD i) h2
  have h0 : (0 : Int32).toBitVec.getLsbD i = false := BitVec.getLsbD_zero
  simp only [Int32.toBitVec_and, Int32.toBitVec_or, BitVec.getLsbD_and, BitVec.getLsbD_or, h0] at h3 ⊢
  revert h3
  cases a.toBitVec.getLsbD i <;> cases b.toBitVec.getLsbD i <;> cases c.toBitVec.getLsbD i <;> decide
theorem and_c (a b : Int32) : a &&& b = b &&& a := by
  apply Int32.toBitVec_inj.mp
  rw [Int32.toBitVec_and, Int32.toBitVec_and, BitVec.and_comm]
theorem HO_mono {V : Vw} {k r x0 c : Int32} {t : Nat} (h : HO V k r x0 t &&& c ≠ 0) : ∀ u, t ≤ u → HO V k r x0 u &&& c ≠ 0 := by
  intro u
  induction u with
  | zero => intro h1; rwa [show t = 0 by omega] at h
  | succ u ih =>
    intro h1
    rcases Nat.lt_or_ge t (u + 1) with q | q
    · intro z
      exact ih (by omega) (or_and_0 z)
    · rwa [show t = u + 1 by omega] at h
abbrev pS (V : Vw) (i : Nat) (a b r : Int32) (t : Nat) : Bool := decide ((V (41 + i) ||| HO V (V (30 + i)) r 0 t) &&& a = a ∧ HO V (V (30 + i)) r 0 t &&& b = 0)
/-- how long to stay in r -/
def sy (V : Vw) (i : Nat) (a b r : Int32) : Int32 := FF (pS V i a b r) 31 0
theorem pow_9 : ∀ s, s < 9 → (1 : Int32) <<< (nI s &&& 31) = nI (2 ^ s) ∧ (1 : Int32) <<< (nI s &&& 31) - 1 = nI (2 ^ s - 1) ∧ 2 ^ s ≤ 256 ∧ 1 ≤ 2 ^ s := by decide +kernel
section STAY
variable {σ : Sg} {V : Vw}
theorem x_isSet (CL : CV σ V) (a : Int32) : m_X7_isSet a σ = some (b01 (rng a 0 ((2 ^ nS V : Nat) - 1 : Int))) := by
  obtain ⟨hv, S, H⟩ := CL
  have h8 : nS V ≤ 8 := hv.1.2
  obtain ⟨p1, p2, p3, p4⟩ := pow_9 (nS V) (by omega)
  unfold m_X7_isSet
  rw [show σ.1 (1 + 1) 3 = nI (nS V) from H.1.1.trans hv.1.1, p1, if01]
  refine congrArg some (b01_cong ?_)
  rw [lt_I, le_I, nI_toInt (by omega)]
  have : (0 : Int32).toInt = 0 := rfl
  unfold rng
  omega
theorem y_isSet {n : Nat} (hn : 1 ≤ n) (hn2 : n ≤ 256) (a : Int32) : m_X8_in a.toInt64 0 (nI (n - 1)).toInt64 σ = some (b01 (rng a 0 ((n : Nat) - 1 : Int))) := by
  rw [e_in]
  refine congrArg some (b01_cong ?_)
  rw [Int32.toInt_toInt64, Int32.toInt_toInt64, nI_toInt (by omega)]
  have : (0 : Int64).toInt = 0 := rfl
  unfold rng
  omega
theorem x_stays (CL : CV σ V) {i : Nat} (hi : i < nL V) (a b r : Int32) : m_X4_stayIn 1 (nI i) a b r σ = some (sy V i a b r) := by
  obtain ⟨hv, S, H⟩ := CL
  have h3 : nL V ≤ 3 := hv.2.1.2
  have loop : ∀ F t acc, t ≤ 31 → 31 < t + F → (t ≤ 30 → acc = HO V (V (30 + i)) r 0 t) → m_X4_stayIn_L17 1 (V (41 + i)) (nI i) a b r σ (fun _ => none) F (nI t) acc = some (FF (pS V i a b r) (31 - t) t) := by
    intro F
    induction F with
    | zero => intro t acc h1 h2; exact absurd h2 (by omega)
    | succ F ih =>
      intro t acc h1 h2 ha
      rw [m_X4_stayIn_L17.eq_2, show (30 : Int32) = nI 30 from rfl]
      rcases Nat.lt_or_ge t 31 with q | q
      · have ha := ha (by omega)
        subst ha
        rw [if_neg (nI_nlt (show t ≤ 30 by omega) (by omega)), show 31 - t = (31 - (t + 1)) + 1 by omega]
        by_cases c1 : HO V (V (30 + i)) r 0 t &&& b = 0
        · rw [if_pos c1]
          unfold FF
          by_cases c2 : (V (41 + i) ||| HO V (V (30 + i)) r 0 t) &&& a = a
          · rw [if_pos c2, if_pos (show pS V i a b r t = true from decide_eq_true ⟨c2, c1⟩)]
          · have pf : pS V i a b r t = false := decide_eq_false (fun z => c2 z.1)
            rw [if_neg c2, if_neg (show ¬ pS V i a b r t = true by rw [pf]; decide)]
            rcases Nat.lt_or_ge t 30 with q2 | q2
            · rw [if_neg (nI_ge q2 (by omega)), bd1_s, e_heardIn S H hv.1 hv.2.1 hi _ _ (.inr (nI_pos (by omega))), bd1_s, nm_eq, nI_1, nm_eq]
              exact ih (t + 1) _ (by omega) (by omega) (fun _ => rfl)
            · rw [if_pos (nI_le q2 (by omega)), bd1_s, e_heardIn S H hv.1 hv.2.1 hi _ _ (.inl rfl), bd1_s, nm_eq, nI_1, nm_eq]
              exact ih (t + 1) _ (by omega) (by omega) (fun z => absurd z (by omega))
        · rw [if_neg c1, FF_none _ t (fun u hu => decide_eq_false (fun z => HO_mono c1 u hu z.2))]
      · have : t = 31 := by omega
        subst this
        rw [if_pos (nI_lt (show 30 < 31 by omega) (by omega))]
        rfl
  have hk : σ.1 (1 + 3 + 1) (i * 3 + 2) = V (41 + i) := (H.2.2.1 i hi).2.2
  unfold m_X4_stayIn
  rw [show (2 : Int32) = nI 2 from rfl, g_ok S.2.1 (show i < 3 by omega) (by omega), bd1_s, hk, nm_eq, nm_eq]
  exact loop 1000 0 0 (by omega) (by omega) (fun _ => rfl)
theorem y_stays {σ : Sg} {V : Vw} (L : LV σ V) {i : Nat} (hi : i < nL V) (a b r : Int32) : m_X8_stays (nI i) a b r σ = some (sy V i a b r) := by
  obtain ⟨hv, H⟩ := id L
  have h3 : nL V ≤ 3 := hv.2.1.2
  have loop : ∀ F t acc, t ≤ 31 → 31 < t + F → (t ≤ 30 → acc = HO V (V (30 + i)) r 0 t) → m_X8_stays_L9 (nI i) a b r σ (fun _ => none) F (nI t) (-1) acc = some (FF (pS V i a b r) (31 - t) t) := by
    intro F
    induction F with
    | zero => intro t acc h1 h2; exact absurd h2 (by omega)
    | succ F ih =>
      intro t acc h1 h2 ha
      rw [m_X8_stays_L9.eq_2, show (31 : Int32) = nI 31 from rfl]
      rcases Nat.lt_or_ge t 31 with q | q
      · have ha := ha (by omega)
        subst ha
        have hk : σ.1 74 (8 + i) = V (41 + i) := (H.2.2.2.2.2.1 (8 + i) (by omega)).trans (by rw [show 33 + (8 + i) = 41 + i by omega])
        have eo : (if (30 : Int32) ≤ nI t then some (0 : Int32) else bd1 (m_X8_heardIn (nI i) r (nI t) σ) (fun r10 => some r10)) = some (if 30 ≤ t then 0 else hd V (V (30 + i)) r (nI t)) := by
          rcases Nat.lt_or_ge t 30 with q2 | q2
          · rw [if_neg (show ¬ (30 : Int32) ≤ nI t from nI_ge (b := 30) q2 (by omega)), e_mHeardIn H hv.1 hv.2.1 hv.K hi, bd1_s, if_neg (by omega)]
          · rw [if_pos (show (30 : Int32) ≤ nI t from nI_le (a := 30) q2 (by omega)), if_pos q2]
        rw [if_neg (nI_ge q (by omega)), if_pos rfl, show (8 : Int32) = nI 8 from rfl, nI_add, ln_74, ix_if (by omega) (by omega), nI_clamp (by omega), hk, eo, show 31 - t = (31 - (t + 1)) + 1 by omega]
        unfold FF
        by_cases c : (V (41 + i) ||| HO V (V (30 + i)) r 0 t) &&& a = a ∧ HO V (V (30 + i)) r 0 t &&& b = 0
        · have c1 : a &&& ((V (41 + i) ||| HO V (V (30 + i)) r 0 t) ^^^ (-1)) = 0 := (and_not _ _).mp (by rw [and_c]; exact c.1)
          have c2 : b &&& HO V (V (30 + i)) r 0 t = 0 := by rw [and_c]; exact c.2
          rw [if_pos c1, if_pos c2, bd1_s, bd1_s, nm_eq, nI_1, nm_eq, if_pos (show pS V i a b r t = true from decide_eq_true c)]
          obtain ⟨F', rfl⟩ : ∃ F', F = F' + 1 := ⟨F - 1, by omega⟩
          rw [m_X8_stays_L9.eq_2, show (31 : Int32) = nI 31 from rfl]
          have hne : ¬ nI t = -1 := by
            intro z
            have := congrArg Int32.toInt z
            rw [nI_toInt (by omega)] at this
            have e : (-1 : Int32).toInt = -1 := rfl
            omega
          rw [if_neg hne]
          split <;> rfl
        · have pf : pS V i a b r t = false := decide_eq_false c
          have e5 : (if a &&& ((V (41 + i) ||| HO V (V (30 + i)) r 0 t) ^^^ (-1)) = 0 then (if b &&& HO V (V (30 + i)) r 0 t = 0 then some (nI t) else some (-1 : Int32)) else some (-1)) = some (-1) := by
            by_cases c1 : a &&& ((V (41 + i) ||| HO V (V (30 + i)) r 0 t) ^^^ (-1)) = 0
            · rw [if_pos c1, if_neg]
              intro z
              exact c ⟨by rw [and_c]; exact (and_not _ _).mpr c1, by rw [and_c]; exact z⟩
            · rw [if_neg c1]
          rw [e5, bd1_s, bd1_s, nm_eq, nI_1, nm_eq, if_neg (show ¬ pS V i a b r t = true by rw [pf]; decide)]
          refine ih (t + 1) _ (by omega) (by omega) (fun z => ?_)
          rw [if_neg (by omega)]
          rfl
      · have : t = 31 := by omega
        subst this
        rw [if_pos (nI_le (Nat.le_refl _) (by omega))]
        rfl
  unfold m_X8_stays
  rw [nm_eq, nm_eq, nm_eq]
  exact loop 1000 0 0 (by omega) (by omega) (fun _ => rfl)
end STAY
/-- a stay's length; 31: none -/
def sw (S : Nat → Int32) (r : Nat) : Nat := if S r = -1 then 31 else cnt (S r)
/-- the best of the first n rooms, of the last n -/
def CB (w : Nat → Nat) : Nat → Nat × Nat
  | 0 => (31, 0)
  | n + 1 => if w n < (CB w n).1 then (w n, n) else CB w n
def MB (w : Nat → Nat) : Nat → Nat × Nat
  | 0 => (31, 0)
  | n + 1 => if w (3 - n) < 31 ∧ w (3 - n) ≤ (MB w n).1 then (w (3 - n), 3 - n) else MB w n
theorem CB_ok (w : Nat → Nat) (hw : ∀ r, w r ≤ 31) : ∀ n, ((CB w n).1 = 31 ∧ ∀ r, r < n → w r = 31) ∨ ((CB w n).1 < 31 ∧ (CB w n).2 < n ∧ w (CB w n).2 = (CB w n).1 ∧ ∀ r, r < n → (CB w n).1 ≤ w r ∧ (r < (CB w n).2 → (CB w n).1 < w r)) := by
  intro n
  induction n with
  | zero => exact .inl ⟨rfl, fun r h => absurd h (by omega)⟩
  | succ n ih =>
    unfold CB
    have hn := hw n
    by_cases c : w n < (CB w n).1
    · rw [if_pos c]
      rcases ih with ⟨h1, h2⟩ | ⟨h1, h2, h3, h4⟩
      · refine .inr ⟨by show w n < 31; omega, Nat.lt_succ_self n, rfl, fun r hr => ?_⟩
        show w n ≤ w r ∧ (r < n → w n < w r)
        by_cases e : r = n
        · subst e
          exact ⟨Nat.le_refl _, fun z => absurd z (by omega)⟩
        · have := h2 r (by omega)
          exact ⟨by omega, fun _ => by omega⟩
      · refine .inr ⟨by show w n < 31; omega, Nat.lt_succ_self n, rfl, fun r hr => ?_⟩
        show w n ≤ w r ∧ (r < n → w n < w r)
        by_cases e : r = n
        · subst e
          exact ⟨Nat.le_refl _, fun z => absurd z (by omega)⟩
        · have := (h4 r (by omega)).1
          exact ⟨by omega, fun _ => by omega⟩
    · rw [if_neg c]
      rcases ih with ⟨h1, h2⟩ | ⟨h1, h2, h3, h4⟩
      · refine .inl ⟨h1, fun r hr => ?_⟩
        by_cases e : r = n
        · subst e
          omega
        · exact h2 r (by omega)
      · refine .inr ⟨h1, by omega, h3, fun r hr => ?_⟩
        by_cases e : r = n
        · subst e
          exact ⟨by omega, fun z => absurd z (by omega)⟩
        · exact h4 r (by omega)
theorem MB_ok (w : Nat → Nat) (hw : ∀ r, w r ≤ 31) : ∀ n, n ≤ 4 → ((MB w n).1 = 31 ∧ ∀ r, 4 - n ≤ r → r < 4 → w r = 31) ∨ ((MB w n).1 < 31 ∧ 4 - n ≤ (MB w n).2 ∧ (MB w n).2 < 4 ∧ w (MB w n).2 = (MB w n).1 ∧ ∀ r, 4 - n ≤ r → r < 4 → (MB w n).1 ≤ w r ∧ (r < (MB w n).2 → (MB w n).1 < w r)) := by
  intro n
  induction n with
  | zero => intro _; exact .inl ⟨rfl, fun r h1 h2 => absurd h1 (by omega)⟩
  | succ n ih =>
    intro hn4
    have ih := ih (by omega)
    unfold MB
    have hn := hw (3 - n)
    by_cases c : w (3 - n) < 31 ∧ w (3 - n) ≤ (MB w n).1
    · rw [if_pos c]
      refine .inr ⟨c.1, by show 4 - (n + 1) ≤ 3 - n; omega, by show 3 - n < 4; omega, rfl, fun r hr hr4 => ?_⟩
      show w (3 - n) ≤ w r ∧ (r < 3 - n → w (3 - n) < w r)
      refine ⟨?_, fun z => absurd z (by omega)⟩
      by_cases e : r = 3 - n
      · subst e
        exact Nat.le_refl _
      · rcases ih with ⟨h1, h2⟩ | ⟨h1, h2, h3, h4, h5⟩
        · have := h2 r (by omega) hr4
          omega
        · have := (h5 r (by omega) hr4).1
          omega
    · rw [if_neg c]
      rcases ih with ⟨h1, h2⟩ | ⟨h1, h2, h3, h4, h5⟩
      · refine .inl ⟨h1, fun r hr hr4 => ?_⟩
        by_cases e : r = 3 - n
        · subst e
          omega
        · exact h2 r (by omega) hr4
      · refine .inr ⟨h1, by omega, h3, h4, fun r hr hr4 => ?_⟩
        by_cases e : r = 3 - n
        · subst e
          have : ¬ w (3 - n) ≤ (MB w n).1 ∨ 31 ≤ w (3 - n) := by omega
          exact ⟨by omega, fun _ => by omega⟩
        · exact h5 r (by omega) hr4
/-- the best room and its minutes as they are answered -/
def sbA (w : Nat → Nat) : Int32 := if (MB w 4).1 = 31 then -1 else nI (100 * (MB w 4).1 + (MB w 4).2)
theorem CB_MB (w : Nat → Nat) (hw : ∀ r, w r ≤ 31) : (if (CB w 4).1 = 31 then (-1 : Int32) else nI (100 * (CB w 4).1 + (CB w 4).2)) = sbA w := by
  unfold sbA
  rcases CB_ok w hw 4 with ⟨h1, h2⟩ | ⟨h1, h2, h3, h4⟩
  · rcases MB_ok w hw 4 (by omega) with ⟨g1, g2⟩ | ⟨g1, g2, g3, g4, g5⟩
    · rw [if_pos h1, if_pos g1]
    · have := h2 _ g3
      omega
  · rcases MB_ok w hw 4 (by omega) with ⟨g1, g2⟩ | ⟨g1, g2, g3, g4, g5⟩
    · have := g2 _ (by omega) h2
      omega
    · have a1 := h4 _ g3
      have a2 := g5 _ (by omega) h2
      have e1 : (CB w 4).1 = (MB w 4).1 := by omega
      have e2 : (CB w 4).2 = (MB w 4).2 := by omega
      rw [if_neg (by omega), if_neg (by omega), e1, e2]
theorem div_100 : ∀ w, w < 31 → ∀ r, r < 4 → nI (100 * w + r) / 100 = nI w := by decide +kernel
theorem n_m1 {n : Nat} (h : n < 2 ^ 31) : ¬ nI n = -1 := by
  intro z
  have := congrArg Int32.toInt z
  rw [nI_toInt h] at this
  have e : (-1 : Int32).toInt = -1 := rfl
  omega
section STAY2
variable {σ : Sg} {V : Vw}
theorem sy_val (V : Vw) (i : Nat) (a b r : Int32) : sy V i a b r = -1 ∨ ∃ u, u < 31 ∧ sy V i a b r = nI u := by
  rcases FF_val (p := pS V i a b r) 31 0 with e | ⟨u, h1, h2, e⟩
  · exact .inl e
  · exact .inr ⟨u, by omega, e⟩
abbrev swV (V : Vw) (i : Nat) (a b : Int32) (r : Nat) : Nat := sw (fun r => sy V i a b (nI r)) r
theorem sw_val (V : Vw) (i : Nat) (a b : Int32) (r : Nat) : (sy V i a b (nI r) = -1 ∧ swV V i a b r = 31) ∨ (sy V i a b (nI r) = nI (swV V i a b r) ∧ swV V i a b r < 31) := by
  rcases sy_val V i a b (nI r) with e | ⟨u, h1, e⟩
  · exact .inl ⟨e, if_pos e⟩
  · have : swV V i a b r = u := by
      show (if sy V i a b (nI r) = -1 then 31 else cnt (sy V i a b (nI r))) = u
      rw [e, if_neg (n_m1 (by omega)), cnt_nI (by omega)]
    rw [this]
    exact .inr ⟨e, h1⟩
theorem sw_le (V : Vw) (i : Nat) (a b : Int32) (r : Nat) : swV V i a b r ≤ 31 := by
  rcases sw_val V i a b r with ⟨_, h⟩ | ⟨_, h⟩ <;> omega
theorem x_best (CL : CV σ V) {i : Nat} (hi : i < nL V) (a b : Int32) : m_X4_bestStay 1 (nI i) a b σ = some (sbA (swV V i a b)) := by
  have hb : ∀ n, (CB (swV V i a b) n).1 ≤ 31 := fun n => by
    rcases CB_ok _ (sw_le V i a b) n with ⟨h, _⟩ | ⟨h, _⟩ <;> omega
  have loop : ∀ (kx : Int32 → Int32 → Option Int32) F n, n ≤ 4 → 4 < n + F → m_X4_bestStay_L10 1 (nI i) a b σ kx F (nI n) (if (CB (swV V i a b) n).1 = 31 then -1 else nI (CB (swV V i a b) n).2) (nI (CB (swV V i a b) n).1) = kx (if (CB (swV V i a b) 4).1 = 31 then -1 else nI (CB (swV V i a b) 4).2) (nI (CB (swV V i a b) 4).1) := by
    intro kx F
    induction F with
    | zero => intro s h1 h2; exact absurd h2 (by omega)
    | succ F ih =>
      intro n h1 h2
      rw [m_X4_bestStay_L10.eq_2, show (4 : Int32) = nI 4 from rfl]
      rcases Nat.lt_or_ge n 4 with q | q
      · have hbn := hb n
        rw [if_neg (nI_ge q (by omega)), x_stays CL hi, bd1_s]
        refine Eq.trans ?_ (ih (n + 1) (by omega) (by omega))
        conv => rhs; unfold CB
        rcases sw_val V i a b n with ⟨e, hw⟩ | ⟨e, hw⟩
        · rw [e, if_pos rfl, bd2_s, nI_1, nm_eq, if_neg (show ¬ swV V i a b n < (CB (swV V i a b) n).1 by omega)]
        · rw [e, if_neg (n_m1 (by omega))]
          by_cases c : swV V i a b n < (CB (swV V i a b) n).1
          · rw [if_pos c, if_neg (nI_ge c (by omega)), bd2_s, nI_1, nm_eq, if_neg (show ¬ (swV V i a b n, n).1 = 31 by show ¬ swV V i a b n = 31; omega)]
          · rw [if_neg c, if_pos (nI_le (show (CB (swV V i a b) n).1 ≤ swV V i a b n by omega) (by omega)), bd2_s, nI_1, nm_eq]
      · have : n = 4 := by omega
        subst this
        rw [if_pos (nI_le (Nat.le_refl _) (by omega))]
  unfold m_X4_bestStay
  rw [nm_eq, nm_eq, nm_eq, ← CB_MB _ (sw_le V i a b)]
  refine (loop _ 1000 0 (by omega) (by omega)).trans ?_
  by_cases c : (CB (swV V i a b) 4).1 = 31
  · rw [if_pos c, if_pos c, if_pos rfl]
  · have hb4 := hb 4
    have h2 : (CB (swV V i a b) 4).2 < 4 := by
      rcases CB_ok _ (sw_le V i a b) 4 with ⟨h, _⟩ | ⟨_, h, _⟩ <;> omega
    rw [if_neg c, if_neg c, if_neg (n_m1 (by omega)), show (100 : Int32) = nI 100 from rfl, pk_mul, nI_add]
theorem y_best {σ : Sg} {V : Vw} (L : LV σ V) {i : Nat} (hi : i < nL V) (a b : Int32) : m_X8_stay_L90 (nI i) a b σ (fun _ => none) 1000 3 (-1) = some (sbA (swV V i a b), σ) := by
  have hb : ∀ n, n ≤ 4 → (MB (swV V i a b) n).1 = 31 ∨ ((MB (swV V i a b) n).1 < 31 ∧ (MB (swV V i a b) n).2 < 4) := fun n hn => by
    rcases MB_ok _ (sw_le V i a b) n hn with ⟨h, _⟩ | ⟨h, _, h2, _⟩
    · exact .inl h
    · exact .inr ⟨h, h2⟩
  have loop : ∀ F n, n ≤ 4 → 4 < n + F → ∀ v, v = nI 3 - nI n → m_X8_stay_L90 (nI i) a b σ (fun _ => none) F v (if (MB (swV V i a b) n).1 = 31 then -1 else nI (100 * (MB (swV V i a b) n).1 + (MB (swV V i a b) n).2)) = some (sbA (swV V i a b), σ) := by
    intro F
    induction F with
    | zero => intro s h1 h2; exact absurd h2 (by omega)
    | succ F ih =>
      intro n h1 h2 v hv
      rw [m_X8_stay_L90.eq_2]
      rcases Nat.lt_or_ge n 4 with q | q
      · have e3 : v = nI (3 - n) := by
          have : ∀ n, n < 4 → nI 3 - nI n = nI (3 - n) := by decide +kernel
          rw [hv, this n q]
        have e4 : v + (-1) = nI 3 - nI (n + 1) := by
          have : ∀ n, n < 4 → nI 3 - nI n + (-1) = nI 3 - nI (n + 1) := by decide +kernel
          rw [hv, this n q]
        have hbn := hb n (by omega)
        rw [if_neg (show ¬ v < 0 by rw [e3]; exact nI_pos (by omega)), y_stays L hi]
        rw [bd1_s]
        refine Eq.trans ?_ (ih (n + 1) (by omega) (by omega) _ e4)
        conv => rhs; unfold MB
        rw [e3]
        rcases sw_val V i a b (3 - n) with ⟨e, hw⟩ | ⟨e, hw⟩
        · rw [e, if_pos rfl, bd1_s, nm_eq, if_neg (show ¬ (swV V i a b (3 - n) < 31 ∧ swV V i a b (3 - n) ≤ (MB (swV V i a b) n).1) by omega)]
        · rw [e, if_neg (n_m1 (by omega))]
          have e5 : (100 : Int32) * nI (swV V i a b (3 - n)) + nI (3 - n) = nI (100 * swV V i a b (3 - n) + (3 - n)) := by
            rw [show (100 : Int32) = nI 100 from rfl, pk_mul, nI_add]
          rcases hbn with g | ⟨g, g2⟩
          · rw [if_pos g, if_pos rfl, bd1_s, nm_eq, if_pos (show swV V i a b (3 - n) < 31 ∧ swV V i a b (3 - n) ≤ (MB (swV V i a b) n).1 by omega), if_neg (show ¬ (swV V i a b (3 - n), 3 - n).1 = 31 by show ¬ swV V i a b (3 - n) = 31; omega), e5]
          · rw [if_neg (show ¬ (MB (swV V i a b) n).1 = 31 by omega), if_neg (n_m1 (by omega)), div_100 _ g _ g2]
            by_cases c : swV V i a b (3 - n) ≤ (MB (swV V i a b) n).1
            · rw [if_neg (nI_nlt c (by omega)), bd1_s, nm_eq, if_pos (show swV V i a b (3 - n) < 31 ∧ swV V i a b (3 - n) ≤ (MB (swV V i a b) n).1 from ⟨hw, c⟩), if_neg (show ¬ (swV V i a b (3 - n), 3 - n).1 = 31 by show ¬ swV V i a b (3 - n) = 31; omega), e5]
            · rw [if_pos (nI_lt (show (MB (swV V i a b) n).1 < swV V i a b (3 - n) by omega) (by omega)), bd1_s, nm_eq, if_neg (show ¬ (swV V i a b (3 - n) < 31 ∧ swV V i a b (3 - n) ≤ (MB (swV V i a b) n).1) from fun z => c z.2), if_neg (show ¬ (MB (swV V i a b) n).1 = 31 by omega)]
      · have : n = 4 := by omega
        subst this
        rw [if_pos (show v < 0 by rw [hv]; decide)]
        rfl
  exact loop 1000 0 (by omega) (by omega) 3 rfl
end STAY2
theorem sp_stay : Sp_stay Rel := by
  intro σ H a1 a2 a3 a4
  obtain ⟨HR, V, HC⟩ := id H
  have h3 : nL V ≤ 3 := HC.1.2.1.2
  have h8 : nS V ≤ 8 := HC.1.1.2
  obtain ⟨p1, p2, p3, p4⟩ := pow_9 (nS V) (by omega)
  refine q_pair H HC ((rng a1 0 ((nL V : Int) - 1) ∧ rng a2 0 ((2 ^ nS V : Nat) - 1 : Int) ∧ rng a3 0 ((2 ^ nS V : Nat) - 1 : Int) ∧ a2 &&& a3 = 0) ∧ rng a4 (-1) 3) (if a4 = -1 then sbA (swV V (cnt a1) a2 a3) else sy V (cnt a1) a2 a3 a4) (fun c => ?_) (fun c => ?_) (fun c => ?_) (fun c σ' L => ?_)
  · obtain ⟨i, hi, rfl⟩ := rng_idx c.1.1 (by omega)
    unfold m_X7_stay
    simp only [x_isL HC.C, x_isSet HC.C, ew_m1_3, bd1_s, b01_z, bd2_id]
    rw [o4c, bd1_s, b01_z, if_pos c.1, if_pos c.2, x_best HC.C hi, x_stays HC.C hi, bd1_s, bd1_s, cnt_nI (by omega)]
    split <;> rfl
  · unfold m_X7_stay
    simp only [x_isL HC.C, x_isSet HC.C, ew_m1_3, bd1_s, b01_z, bd2_id]
    rw [o4c, bd1_s, b01_z, if_n2 c]
  · obtain ⟨i, hi, rfl⟩ := rng_idx c.1.1 (by omega)
    have e1 : (1 : Int32) <<< (σ.1 68 1 &&& 31) - 1 = nI (2 ^ nS V - 1) := by
      rw [HC.L.2.1.1, HC.1.1.1]
      exact p2
    unfold m_X8_stay
    rw [e1, nm_eq]
    simp only [y_isL HC.L, y_isSet p4 p3, ei_m1_3, bd1_s, b01_z, bd2_id]
    rw [if_pos c.1.1, if_pos c.1.2.1, if_pos c.1.2.2.1, if_pos c.1.2.2.2, if_pos c.2, nm_eq, nm_eq, y_best HC.L hi, y_stays HC.L hi, bd1_s, cnt_nI (by omega)]
    split <;> rfl
  · have e1 : (1 : Int32) <<< (σ'.1 68 1 &&& 31) - 1 = nI (2 ^ nS V - 1) := by
      rw [L.2.1.1, HC.1.1.1]
      exact p2
    unfold m_X8_stay
    rw [e1, nm_eq]
    simp only [y_isL L, y_isSet p4 p3, ei_m1_3, bd1_s, b01_z, bd2_id]
    by_cases c1 : rng a1 0 ((nL V : Int) - 1)
    · rw [if_pos c1]
      by_cases c2 : rng a2 0 ((2 ^ nS V : Nat) - 1 : Int)
      · rw [if_pos c2]
        by_cases c3 : rng a3 0 ((2 ^ nS V : Nat) - 1 : Int)
        · rw [if_pos c3]
          by_cases c4 : a2 &&& a3 = 0
          · rw [if_pos c4, if_neg (fun z => c ⟨⟨c1, c2, c3, c4⟩, z⟩)]
          · rw [if_neg c4]
        · rw [if_neg c3]
      · rw [if_neg c2]
    · rw [if_neg c1]
