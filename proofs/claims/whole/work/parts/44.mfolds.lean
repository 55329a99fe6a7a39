/-! ===== PURE: the model's folds; minutes; what is heard now ===== -/
def KOK (V : Vw) : Prop := (∀ s, s < nS V → ∃ k, k < 6 ∧ V (6 + s) = nI k) ∧ ∀ i, i < nL V → ∃ k, k < 6 ∧ V (30 + i) = nI k
theorem VOK.K {V : Vw} {B : Nat} (h : VOK V B) : KOK V := ⟨h.2.2.2.2.2.2.1, h.2.2.2.2.2.2.2.1⟩
section MDL
variable {σ : Sg} {V : Vw}
theorem e_mLoud (H : Live σ V) (hN : CN (V 0) 8) (K : KOK V) {s : Nat} (hs : s < nS V) (m : Int32) : m_X8_loudIn (nI s) m σ = some (lb V m s) := by
  have hN8 : nS V ≤ 8 := hN.2
  obtain ⟨k, hk, ek⟩ := K.1 s hs
  unfold m_X8_loudIn
  rw [ln_70, ln_72, ix_if (by omega) (by omega), ix_if (by omega) (by omega), nI_clamp (by omega), H.2.1 s (by omega), H.2.2.2.1 s (by omega), ek, e_loudBy hk, bd1_s]
  unfold lb
  rw [ek]
theorem e_TG_loop (H : Live σ V) (hN : CN (V 0) 8) (K : KOK V) (set r m : Int32) (kx : Unit → Option Int32) : ∀ F s, s ≤ nS V → nS V < s + F → m_X8_together_L6 set r m σ kx F (nI s) (TG V set r m s) = some (TG V set r m (nS V)) := by
  intro F
  induction F with
  | zero => intro s h1 h2; exact absurd h2 (by omega)
  | succ F ih =>
    intro s h1 h2
    have hN8 : nS V ≤ 8 := hN.2
    rw [m_X8_together_L6.eq_2, H.1.1, hN.1]
    rcases Nat.lt_or_ge s (nS V) with q | q
    · rw [if_neg (nI_ge q (by omega))]
      refine Eq.trans ?_ (ih (s + 1) (by omega) (by omega))
      conv => rhs; unfold TG
      rw [ln_71, ix_if (by omega) (by omega), nI_clamp (by omega), H.2.2.1 s (by omega), e_mLoud H hN K q, bd1_s, nI_1]
      by_cases hm : m < 0
      · rw [if_pos hm, if_pos hm, bd1_s, nm_eq, nm_eq]
      · rw [if_neg hm, if_neg hm]
        by_cases hr : V (14 + s) = r
        · rw [if_pos hr, if_pos hr]
          by_cases hbt : bit set s
          · rw [if_pos hbt, if_pos hbt, bd1_s, nm_eq, nm_eq]
          · rw [if_neg hbt, if_neg hbt, bd1_s, nm_eq, nm_eq]
        · rw [if_neg hr, if_neg hr, bd1_s, nm_eq, nm_eq]
    · have : s = nS V := by omega
      subst this
      rw [if_pos (nI_le (Nat.le_refl _) (show nS V < 2 ^ 31 by omega))]
theorem e_TG (H : Live σ V) (hN : CN (V 0) 8) (K : KOK V) (set r m : Int32) : m_X8_together set r m σ = some (TG V set r m (nS V)) := by
  unfold m_X8_together
  rw [nm_eq, nm_eq]
  have hN8 : nS V ≤ 8 := hN.2
  exact e_TG_loop H hN K set r m _ 1000 0 (Nat.zero_le _) (by omega)
theorem e_HM_loop (H : Live σ V) (hN : CN (V 0) 8) (K : KOK V) {j : Nat} (hj : j < 6) (all set r m : Int32) (kx : Unit → Option Int32) : ∀ F s, s ≤ nS V → nS V < s + F → m_X8_heardOf_L16 all (nI j) set r m σ kx F (nI s) (HM V (nI j) all set r m s) = some (HM V (nI j) all set r m (nS V)) := by
  intro F
  induction F with
  | zero => intro s h1 h2; exact absurd h2 (by omega)
  | succ F ih =>
    intro s h1 h2
    have hN8 : nS V ≤ 8 := hN.2
    rw [m_X8_heardOf_L16.eq_2, H.1.1, hN.1]
    rcases Nat.lt_or_ge s (nS V) with q | q
    · rw [if_neg (nI_ge q (by omega))]
      refine Eq.trans ?_ (ih (s + 1) (by omega) (by omega))
      conv => rhs; unfold HM
      rw [ln_71, ix_if (by omega) (by omega), nI_clamp (by omega), H.2.2.1 s (by omega), e_mLoud H hN K q, bd1_s, e_hearsBy hj, bd1_s, nI_1]
      by_cases hm : m < 0
      · rw [if_pos hm, if_pos hm, bd1_s, nm_eq]
      · rw [if_neg hm, if_neg hm]
        by_cases hr : V (14 + s) = r
        · rw [if_pos hr, if_pos hr]
          by_cases hbt : bit set s
          · rw [if_pos hbt, if_pos hbt]
            by_cases h4 : hb (nI j) (lb V m s) (all - lb V m s) = 0
            · rw [if_pos h4, if_pos h4, bd1_s, nm_eq, bd1_s, nm_eq]
            · rw [if_neg h4, if_neg h4, bd1_s, nm_eq, bd1_s, nm_eq]
          · rw [if_neg hbt, if_neg hbt, bd1_s, nm_eq]
        · rw [if_neg hr, if_neg hr, bd1_s, nm_eq]
    · have : s = nS V := by omega
      subst this
      rw [if_pos (nI_le (Nat.le_refl _) (show nS V < 2 ^ 31 by omega))]
theorem e_heardOf (H : Live σ V) (hN : CN (V 0) 8) (K : KOK V) {j : Nat} (hj : j < 6) (set r m : Int32) : m_X8_heardOf (nI j) set r m σ = some (HM V (nI j) (TG V set r m (nS V)) set r m (nS V)) := by
  unfold m_X8_heardOf
  have hN8 : nS V ≤ 8 := hN.2
  rw [e_TG H hN K, bd1_s, nm_eq, nm_eq]
  exact e_HM_loop H hN K hj _ set r m _ 1000 0 (Nat.zero_le _) (by omega)
theorem e_mHeardIn (H : Live σ V) (hN : CN (V 0) 8) (hL : CN (V 1) 3) (K : KOK V) {i : Nat} (hi : i < nL V) (r m : Int32) : m_X8_heardIn (nI i) r m σ = some (hd V (V (30 + i)) r m) := by
  have hL3 : nL V ≤ 3 := hL.2
  obtain ⟨k, hk, ek⟩ := K.2 i hi
  unfold m_X8_heardIn
  rw [ln_73, ix_if (by omega) (by omega), nI_clamp (by omega), H.2.2.2.2.1 i (by omega), ek, e_heardOf H hN K hk, bd1_s]
  rfl
end MDL
/-- a room's minute in t minutes; -1: it does not speak -/
def mo (V : Vw) (r t : Nat) : Int32 := if V (34 + r) < 0 then -1 else if 30 ≤ V 33 + nI t - V (34 + r) then -1 else V 33 + nI t - V (34 + r)
theorem mo_cases {V : Vw} {l B r t : Nat} (h : NowOK (fun j => V (33 + j)) l B) (hB : B ≤ 20000) (hr : r < 4) (ht : t ≤ 1000) : mo V r t = -1 ∨ ∃ j, j < 30 ∧ mo V r t = nI j := by
  obtain ⟨mi, hmi, e0, hs⟩ := h.1
  have e0 : V 33 = nI mi := e0
  unfold mo
  rcases hs r hr with q | ⟨j, hj, q⟩
  · have q : V (34 + r) = -1 := by rw [show 34 + r = 33 + (1 + r) by omega]; exact q
    rw [q, if_pos (by decide)]
    exact .inl rfl
  · have q : V (34 + r) = nI j := by rw [show 34 + r = 33 + (1 + r) by omega]; exact q
    rw [q, e0, if_neg (nI_pos (by omega)), nI_add, pk_sub (by omega)]
    rcases Nat.lt_or_ge (mi + t - j) 30 with z | z
    · right
      refine ⟨mi + t - j, z, ?_⟩
      rw [if_neg]
      rw [show (30 : Int32) = nI 30 from rfl, nI_leI (by omega) (by omega)]
      omega
    · left
      rw [if_pos]
      rw [show (30 : Int32) = nI 30 from rfl, nI_leI (by omega) (by omega)]
      omega
theorem mo_sign {V : Vw} {l B r t : Nat} (h : NowOK (fun j => V (33 + j)) l B) (hB : B ≤ 20000) (hr : r < 4) (ht : t ≤ 1000) : mo V r t = -1 ∨ ¬ mo V r t < 0 := by
  rcases mo_cases h hB hr ht with q | ⟨j, hj, q⟩
  · exact .inl q
  · right
    rw [q]
    exact nI_pos (by omega)
/-- the class -/
theorem e_roomMinute {σ : Sg} {h l B r t : Nat} {V : Vw} (S : HS σ h) (H : HV σ h V) (N : NowOK (fun j => V (33 + j)) l B) (hB : B ≤ 20000) (hr : r < 4) (ht : t ≤ 1000) : m_X2_roomMinute h (nI r) (nI t) σ = some (mo V r t) := by
  obtain ⟨mi, hmi, e0, hs⟩ := N.1
  have e0 : V 33 = nI mi := e0
  have hg : m_X6_get (h + 5) (nI r) (0 : Int32) σ = some (V (34 + r) + 1) := by
    rw [show (0 : Int32) = nI 0 from rfl, g_ok S.2.2.1 hr (by omega), H.2.2.2.1 r hr]
  unfold m_X2_roomMinute m_X2_isStripped
  rw [hg, bd1_s, nm_eq, bd1_s, H.1.2.2.2.2.2.2]
  unfold mo
  rcases hs r hr with q | ⟨j, hj, q⟩
  · have q : V (34 + r) = -1 := by rw [show 34 + r = 33 + (1 + r) by omega]; exact q
    rw [q, if_pos (by decide), bd1_s, if_pos rfl, if_pos (by decide)]
  · have q : V (34 + r) = nI j := by rw [show 34 + r = 33 + (1 + r) by omega]; exact q
    rw [q, e0, if_neg (nI_pos (by omega)), nI_add, nI_1, nI_1, pk_sub (by omega), pk_sub (by omega), if_neg (nI_nle (by omega) (by omega)), bd1_s, if_neg (by decide), e_isSpeak, bd1_s, b01_z, show mi + t + 1 - (j + 1) = mi + t - j by omega]
    rcases Nat.lt_or_ge (mi + t - j) 30 with z | z
    · rw [if_pos (by rw [nI_rng (by omega)]; omega), if_neg]
      rw [show (30 : Int32) = nI 30 from rfl, nI_leI (by omega) (by omega)]
      omega
    · rw [if_neg (by rw [nI_rng (by omega)]; omega), if_pos]
      rw [show (30 : Int32) = nI 30 from rfl, nI_leI (by omega) (by omega)]
      omega
/-- the model -/
theorem e_minuteOf {σ : Sg} {V : Vw} {r : Nat} (H : Live σ V) (hr : r < 4) : m_X8_minuteOf (nI r) σ = some (mo V r 0) := by
  unfold m_X8_minuteOf
  have e1 : (1 : Int32) + nI r = nI (1 + r) := by rw [show (1 : Int32) = nI 1 from rfl, nI_add]
  rw [e1, ln_74, if_neg (show ¬ ((0 : Int32) < 0 ∨ 11 ≤ (0 : Int32).toNatClampNeg) by decide), ix_if (by omega) (by omega), nm_eq, ix_if (by omega) (by omega), nI_clamp (by omega), show ((0 : Int32)).toNatClampNeg = 0 from rfl, H.2.2.2.2.2.1 0 (by omega), H.2.2.2.2.2.1 (1 + r) (by omega), show 33 + (1 + r) = 34 + r by omega]
  unfold mo
  rw [show V 33 + nI 0 - V (34 + r) = V 33 - V (34 + r) by rw [nI_0, Int32.add_zero]]
  split
  · rfl
  · split <;> rfl
/-- what listener i hears now -/
def hn (V : Vw) (i : Nat) : Int32 := hd V (V (30 + i)) (V (38 + i)) (mo V (cnt (V (38 + i))) 0)
theorem at_ok {V : Vw} {l B i : Nat} (N : NowOK (fun j => V (33 + j)) l B) (hi : i < 3) : cnt (V (38 + i)) < 4 ∧ V (38 + i) = nI (cnt (V (38 + i))) := by
  obtain ⟨j, hj, q⟩ := N.2.1 i hi
  have q : V (38 + i) = nI j := by rw [show 38 + i = 33 + (5 + i) by omega]; exact q
  rw [q, cnt_nI (by omega)]
  exact ⟨hj, rfl⟩
theorem e_heardNow {σ : Sg} {h B i : Nat} {V : Vw} (S : HS σ h) (H : HV σ h V) (hN : CN (V 0) 8) (hL : CN (V 1) 3) (N : NowOK (fun j => V (33 + j)) (nL V) B) (hB : B ≤ 20000) (hi : i < nL V) : m_X2_heardNow h (nI i) σ = some (hn V i) := by
  have hL3 : nL V ≤ 3 := hL.2
  obtain ⟨hp, ep⟩ := at_ok N (show i < 3 by omega)
  unfold m_X2_heardNow
  rw [show (1 : Int32) = nI 1 from rfl, g_ok S.2.1 (by omega) (by omega), bd1_s, (H.2.2.1 i hi).2.1, ep, show (0 : Int32) = nI 0 from rfl, e_roomMinute S H N hB hp (by omega), bd1_s, e_heardIn S H hN hL hi _ _ (mo_sign N hB hp (by omega)), bd1_s]
  unfold hn
  rw [← ep]
theorem e_mHeardNow {σ : Sg} {B i : Nat} {V : Vw} (H : Live σ V) (hN : CN (V 0) 8) (hL : CN (V 1) 3) (K : KOK V) (N : NowOK (fun j => V (33 + j)) (nL V) B) (hi : i < nL V) : m_X8_heardNow (nI i) σ = some (hn V i) := by
  have hL3 : nL V ≤ 3 := hL.2
  obtain ⟨hp, ep⟩ := at_ok N (show i < 3 by omega)
  unfold m_X8_heardNow
  rw [show (5 : Int32) = nI 5 from rfl, nI_add, ln_74, ix_if (by omega) (by omega), ix_if (by omega) (by omega), nI_clamp (by omega), H.2.2.2.2.2.1 (5 + i) (by omega), show 33 + (5 + i) = 38 + i by omega, ep, e_minuteOf H hp, bd1_s, e_mHeardIn H hN hL K hi, bd1_s]
  unfold hn
  rw [← ep]
theorem hn_lt (V : Vw) (i : Nat) (hN : CN (V 0) 8) : ∃ w, w < 256 ∧ hn V i = nI w := hd_lt V _ _ _ hN.2
/-- how loud a room is now -/
def rl (V : Vw) (r : Nat) : Int32 := TG V 255 (nI r) (mo V r 0) (nS V)
theorem e_roomLoud {σ : Sg} {h l B r : Nat} {V : Vw} (S : HS σ h) (H : HV σ h V) (hN : CN (V 0) 8) (N : NowOK (fun j => V (33 + j)) l B) (hB : B ≤ 20000) (hr : r < 4) : m_X2_roomLoudness h (nI r) σ = some (rl V r) := by
  have hN8 : nS V ≤ 8 := hN.2
  unfold m_X2_roomLoudness rl
  rw [show m_X2_roomMinute h (nI r) 0 σ = some (mo V r 0) from e_roomMinute (t := 0) S H N hB hr (by omega), bd1_s]
  rcases mo_sign N hB hr (show 0 ≤ 1000 by omega) with q | q
  · rw [q, if_pos rfl, TG_neg _ _ _ _ (by decide)]
  · have hne : ¬ mo V r 0 = -1 := by
      intro z
      rw [z] at q
      exact q (by decide)
    rw [if_neg hne, e_SR S H hN, bd1_s, e_LS S H hN, bd1_s]
    rw [TG_LS V 255 (SR V (nI r) (nS V)) (nI r) _ q _ (fun s hs => by
      rw [SR_bit V (nI r) hN8 hs]
      exact ⟨fun z => ⟨z, bit_255 (by omega)⟩, fun z => z.1⟩)]
theorem e_loudNow {σ : Sg} {r : Nat} {V : Vw} (H : Live σ V) (hN : CN (V 0) 8) (K : KOK V) (hr : r < 4) : m_X8_loudNow (nI r) σ = some (rl V r) := by
  unfold m_X8_loudNow
  rw [e_minuteOf H hr, bd1_s, e_TG H hN K, bd1_s]
  rfl
