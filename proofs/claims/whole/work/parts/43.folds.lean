/-! ===== PURE: sums and sets over the sayings ===== -/
def lb (V : Vw) (m : Int32) (s : Nat) : Int32 := LB (V (6 + s)) (V (22 + s)) m
def SRN (V : Vw) (r : Int32) : Nat → Nat
  | 0 => 0
  | n + 1 => if V (14 + n) = r then SRN V r n ||| 2 ^ n else SRN V r n
def SR (V : Vw) (r : Int32) : Nat → Int32
  | 0 => 0
  | n + 1 => if V (14 + n) = r then SR V r n ||| one n else SR V r n
def LO (V : Vw) (set m : Int32) : Nat → Int32
  | 0 => 0
  | n + 1 => if bit set n then LO V set m n + lb V m n else LO V set m n
def TG (V : Vw) (set r m : Int32) : Nat → Int32
  | 0 => 0
  | n + 1 => TG V set r m n + (if m < 0 then 0 else if V (14 + n) = r then (if bit set n then lb V m n else 0) else 0)
def HC (V : Vw) (k all set m : Int32) : Nat → Int32
  | 0 => 0
  | n + 1 => if bit set n then (if hb k (lb V m n) (all - lb V m n) = 0 then HC V k all set m n else HC V k all set m n ||| one n) else HC V k all set m n
def HM (V : Vw) (k all set r m : Int32) : Nat → Int32
  | 0 => 0
  | n + 1 => if m < 0 then HM V k all set r m n else if V (14 + n) = r then (if bit set n then HM V k all set r m n ||| (if hb k (lb V m n) (all - lb V m n) = 0 then 0 else one n) else HM V k all set r m n) else HM V k all set r m n
/-- what one of a kind hears in a room in its minute -/
def hd (V : Vw) (k r m : Int32) : Int32 := HM V k (TG V 255 r m (nS V)) 255 r m (nS V)
theorem SRN_lt (V : Vw) (r : Int32) : ∀ n, SRN V r n < 2 ^ n := by
  intro n
  induction n with
  | zero => exact Nat.one_pos
  | succ n ih =>
    unfold SRN
    have h1 : 2 ^ n < 2 ^ (n + 1) := Nat.pow_lt_pow_right (by decide) (Nat.lt_succ_self n)
    split
    · exact Nat.or_lt_two_pow (Nat.lt_trans ih h1) h1
    · exact Nat.lt_trans ih h1
theorem SRN_256 (V : Vw) (r : Int32) {n : Nat} (hn : n ≤ 8) : SRN V r n < 256 := Nat.lt_of_lt_of_le (SRN_lt V r n) (Nat.pow_le_pow_right (by decide) hn)
theorem SR_eq (V : Vw) (r : Int32) : ∀ n, n ≤ 8 → SR V r n = nI (SRN V r n) := by
  intro n
  induction n with
  | zero => intro _; rfl
  | succ n ih =>
    intro hn
    unfold SR SRN
    rw [ih (by omega), one_nI (show n < 8 by omega), or_nI]
    split <;> rfl
theorem SRN_bit (V : Vw) (r : Int32) (s : Nat) : ∀ n, (SRN V r n).testBit s = true ↔ s < n ∧ V (14 + s) = r := by
  intro n
  induction n with
  | zero => simp [SRN]
  | succ n ih =>
    unfold SRN
    by_cases h : V (14 + n) = r
    · rw [if_pos h, Nat.testBit_or, Bool.or_eq_true, ih, Nat.testBit_two_pow]
      constructor
      · rintro (⟨h1, h2⟩ | h1)
        · exact ⟨by omega, h2⟩
        · have : n = s := by simpa using h1
          subst this
          exact ⟨by omega, h⟩
      · rintro ⟨h1, h2⟩
        rcases Nat.lt_or_ge s n with q | q
        · exact .inl ⟨q, h2⟩
        · right
          have : n = s := by omega
          simp [this]
    · rw [if_neg h, ih]
      constructor
      · rintro ⟨h1, h2⟩
        exact ⟨by omega, h2⟩
      · rintro ⟨h1, h2⟩
        rcases Nat.lt_or_ge s n with q | q
        · exact ⟨q, h2⟩
        · have : s = n := by omega
          subst this
          exact absurd h2 h
theorem SR_bit (V : Vw) (r : Int32) {N s : Nat} (hN : N ≤ 8) (hs : s < N) : bit (SR V r N) s ↔ V (14 + s) = r := by
  rw [SR_eq V r N hN, bit_nI (SRN_256 V r hN) (by omega), SRN_bit]
  exact ⟨fun h => h.2, fun h => ⟨hs, h⟩⟩
theorem bit_255 {s : Nat} (hs : s < 8) : bit 255 s := by
  have h : ∀ s, s < 8 → bit 255 s := by decide +kernel
  exact h s hs
/-- in a room's minute the sum over a set of what is said in the room -/
theorem TG_LS (V : Vw) (set set2 r m : Int32) (hm : ¬ m < 0) : ∀ n, (∀ s, s < n → (bit set2 s ↔ V (14 + s) = r ∧ bit set s)) → TG V set r m n = LO V set2 m n := by
  intro n
  induction n with
  | zero => intro _; rfl
  | succ n ih =>
    intro h
    unfold TG LO
    rw [ih (fun s hs => h s (by omega)), if_neg hm]
    have h1 := h n (by omega)
    by_cases h2 : V (14 + n) = r
    · rw [if_pos h2]
      by_cases h3 : bit set n
      · rw [if_pos h3, if_pos (h1.mpr ⟨h2, h3⟩)]
      · rw [if_neg h3, if_neg (fun q => h3 (h1.mp q).2), Int32.add_zero]
    · rw [if_neg h2, if_neg (fun q => h2 (h1.mp q).1), Int32.add_zero]
theorem HM_HC (V : Vw) (k all set set2 r m : Int32) (hm : ¬ m < 0) : ∀ n, (∀ s, s < n → (bit set2 s ↔ V (14 + s) = r ∧ bit set s)) → HM V k all set r m n = HC V k all set2 m n := by
  intro n
  induction n with
  | zero => intro _; rfl
  | succ n ih =>
    intro h
    unfold HM HC
    rw [ih (fun s hs => h s (by omega)), if_neg hm]
    have h1 := h n (by omega)
    by_cases h2 : V (14 + n) = r
    · rw [if_pos h2]
      by_cases h3 : bit set n
      · rw [if_pos h3, if_pos (h1.mpr ⟨h2, h3⟩)]
        by_cases h4 : hb k (lb V m n) (all - lb V m n) = 0
        · rw [if_pos h4, if_pos h4, Int32.or_zero]
        · rw [if_neg h4, if_neg h4]
      · rw [if_neg h3, if_neg (fun q => h3 (h1.mp q).2)]
    · rw [if_neg h2, if_neg (fun q => h2 (h1.mp q).1)]
theorem HM_neg (V : Vw) (k all set r m : Int32) (hm : m < 0) : ∀ n, HM V k all set r m n = 0 := by
  intro n
  induction n with
  | zero => rfl
  | succ n ih => unfold HM; rw [if_pos hm, ih]
theorem TG_neg (V : Vw) (set r m : Int32) (hm : m < 0) : ∀ n, TG V set r m n = 0 := by
  intro n
  induction n with
  | zero => rfl
  | succ n ih => unfold TG; rw [if_pos hm, ih, Int32.add_zero]
theorem HM_lt (V : Vw) (k all set r m : Int32) : ∀ n, n ≤ 8 → ∃ w, w < 2 ^ n ∧ HM V k all set r m n = nI w := by
  intro n
  induction n with
  | zero => intro _; exact ⟨0, Nat.one_pos, rfl⟩
  | succ n ih =>
    intro hn
    obtain ⟨w, hw, e⟩ := ih (by omega)
    have h1 : 2 ^ n < 2 ^ (n + 1) := Nat.pow_lt_pow_right (by decide) (Nat.lt_succ_self n)
    unfold HM
    rw [e]
    by_cases hm : m < 0
    · rw [if_pos hm]
      exact ⟨w, by omega, rfl⟩
    rw [if_neg hm]
    by_cases h2 : V (14 + n) = r
    · rw [if_pos h2]
      by_cases h3 : bit set n
      · rw [if_pos h3]
        by_cases h4 : hb k (lb V m n) (all - lb V m n) = 0
        · rw [if_pos h4, Int32.or_zero]
          exact ⟨w, by omega, rfl⟩
        · rw [if_neg h4, one_nI (by omega), or_nI]
          exact ⟨_, Nat.or_lt_two_pow (Nat.lt_trans hw h1) h1, rfl⟩
      · rw [if_neg h3]
        exact ⟨w, by omega, rfl⟩
    · rw [if_neg h2]
      exact ⟨w, by omega, rfl⟩
theorem hd_lt (V : Vw) (k r m : Int32) (hn : nS V ≤ 8) : ∃ w, w < 256 ∧ hd V k r m = nI w := by
  obtain ⟨w, h1, h2⟩ := HM_lt V k (TG V 255 r m (nS V)) 255 r m (nS V) hn
  exact ⟨w, Nat.lt_of_lt_of_le h1 (Nat.pow_le_pow_right (by decide) hn), h2⟩
-- ===== the class's folds
section CLS
variable {σ : Sg} {h B : Nat} {V : Vw}
theorem e_SR_loop (S : HS σ h) (H : HV σ h V) (hN : CN (V 0) 8) (r : Int32) (kx : Unit → Option Int32) : ∀ F s, s ≤ nS V → nS V < s + F → m_X2_sayingsOfRoom_L4 h r σ kx F (nI s) (SR V r s) = some (SR V r (nS V)) := by
  intro F
  induction F with
  | zero => intro s h1 h2; exact absurd h2 (by omega)
  | succ F ih =>
    intro s h1 h2
    have hN8 : nS V ≤ 8 := hN.2
    rw [m_X2_sayingsOfRoom_L4.eq_2, H.1.1, hN.1]
    rcases Nat.lt_or_ge s (nS V) with q | q
    · rw [if_neg (nI_ge q (by omega)), show (1 : Int32) = nI 1 from rfl, g_ok S.1 (by omega) (by omega), bd1_s, (H.2.1 s q).2.1]
      have e : bd1 (if V (14 + s) = r then nm (SR V r s ||| nI 1 <<< (nI s &&& 31)) (fun x8 => some x8) else some (SR V r s)) (fun o6 => nm (nI s + nI 1) fun x7 => m_X2_sayingsOfRoom_L4 h r σ kx F x7 o6) = m_X2_sayingsOfRoom_L4 h r σ kx F (nI (s + 1)) (SR V r (s + 1)) := by
        rw [nI_add]
        by_cases hr : V (14 + s) = r
        · rw [if_pos hr, nm_eq, bd1_s, nm_eq]
          conv => rhs; unfold SR
          rw [if_pos hr]
          rfl
        · rw [if_neg hr, bd1_s, nm_eq]
          conv => rhs; unfold SR
          rw [if_neg hr]
      rw [e]
      exact ih (s + 1) (by omega) (by omega)
    · have : s = nS V := by omega
      subst this
      rw [if_pos (nI_le (Nat.le_refl _) (show nS V < 2 ^ 31 by omega))]
theorem e_SR (S : HS σ h) (H : HV σ h V) (hN : CN (V 0) 8) (r : Int32) : m_X2_sayingsOfRoom h r σ = some (SR V r (nS V)) := by
  unfold m_X2_sayingsOfRoom
  rw [nm_eq, nm_eq]
  have hN8 : nS V ≤ 8 := hN.2
  exact e_SR_loop S H hN r _ 1000 0 (Nat.zero_le _) (by omega)
theorem e_LS_loop (S : HS σ h) (H : HV σ h V) (hN : CN (V 0) 8) (set m : Int32) (kx : Unit → Option Int32) : ∀ F s, s ≤ nS V → nS V < s + F → m_X2_loudnessOfSet_L5 h set m σ kx F (nI s) (LO V set m s) = some (LO V set m (nS V)) := by
  intro F
  induction F with
  | zero => intro s h1 h2; exact absurd h2 (by omega)
  | succ F ih =>
    intro s h1 h2
    have hN8 : nS V ≤ 8 := hN.2
    rw [m_X2_loudnessOfSet_L5.eq_2, H.1.1, hN.1]
    rcases Nat.lt_or_ge s (nS V) with q | q
    · rw [if_neg (nI_ge q (by omega)), e_isIn, bd1_s, b01_z, show (0 : Int32) = nI 0 from rfl, show (2 : Int32) = nI 2 from rfl, g_ok S.1 (by omega) (by omega), g_ok S.1 (by omega) (by omega), bd1_s, bd1_s, e_loudness, bd1_s, (H.2.1 s q).1, (H.2.1 s q).2.2]
      have e : bd1 (if bit set s then nm (LO V set m s + LB (V (6 + s)) (V (22 + s)) m) (fun x14 => some x14) else some (LO V set m s)) (fun o6 => nm (nI s + 1) fun x7 => m_X2_loudnessOfSet_L5 h set m σ kx F x7 o6) = m_X2_loudnessOfSet_L5 h set m σ kx F (nI (s + 1)) (LO V set m (s + 1)) := by
        rw [nI_1]
        by_cases hr : bit set s
        · rw [if_pos hr, nm_eq, bd1_s, nm_eq]
          conv => rhs; unfold LO
          rw [if_pos hr]
          rfl
        · rw [if_neg hr, bd1_s, nm_eq]
          conv => rhs; unfold LO
          rw [if_neg hr]
      refine Eq.trans ?_ (ih (s + 1) (by omega) (by omega))
      exact e
    · have : s = nS V := by omega
      subst this
      rw [if_pos (nI_le (Nat.le_refl _) (show nS V < 2 ^ 31 by omega))]
theorem e_LS (S : HS σ h) (H : HV σ h V) (hN : CN (V 0) 8) (set m : Int32) : m_X2_loudnessOfSet h set m σ = some (LO V set m (nS V)) := by
  unfold m_X2_loudnessOfSet
  rw [nm_eq, nm_eq]
  have hN8 : nS V ≤ 8 := hN.2
  exact e_LS_loop S H hN set m _ 1000 0 (Nat.zero_le _) (by omega)
theorem e_hloud (S : HS σ h) (H : HV σ h V) (hN : CN (V 0) 8) {s : Nat} (hs : s < nS V) (m : Int32) : m_X2_loudness h (nI s) m σ = some (lb V m s) := by
  have hN8 : nS V ≤ 8 := hN.2
  unfold m_X2_loudness
  rw [show (0 : Int32) = nI 0 from rfl, show (2 : Int32) = nI 2 from rfl, g_ok S.1 (by omega) (by omega), g_ok S.1 (by omega) (by omega), bd1_s, bd1_s, e_loudness, bd1_s, (H.2.1 s hs).1, (H.2.1 s hs).2.2]
  rfl
theorem e_HC_loop (S : HS σ h) (H : HV σ h V) (hN : CN (V 0) 8) (k all set m : Int32) (kx : Unit → Option Int32) : ∀ F s, s ≤ nS V → nS V < s + F → m_X2_heardIn_L40 h k all set m σ kx F (nI s) (HC V k all set m s) = some (HC V k all set m (nS V)) := by
  intro F
  induction F with
  | zero => intro s h1 h2; exact absurd h2 (by omega)
  | succ F ih =>
    intro s h1 h2
    have hN8 : nS V ≤ 8 := hN.2
    rw [m_X2_heardIn_L40.eq_2, H.1.1, hN.1]
    rcases Nat.lt_or_ge s (nS V) with q | q
    · rw [if_neg (nI_ge q (by omega)), e_hloud S H hN q, bd1_s, e_isIn, bd1_s, b01_z, e_hears, bd1_s]
      refine Eq.trans ?_ (ih (s + 1) (by omega) (by omega))
      rw [nI_1]
      conv => rhs; unfold HC
      by_cases hr : bit set s
      · rw [if_pos hr, if_pos hr]
        by_cases h4 : hb k (lb V m s) (all - lb V m s) = 0
        · rw [if_pos h4, if_pos h4, bd1_s, nm_eq]
        · rw [if_neg h4, if_neg h4, nm_eq, bd1_s, nm_eq]
      · rw [if_neg hr, if_neg hr, bd1_s, nm_eq]
    · have : s = nS V := by omega
      subst this
      rw [if_pos (nI_le (Nat.le_refl _) (show nS V < 2 ^ 31 by omega))]
/-- what the class's house says that a listener hears -/
theorem e_heardIn (S : HS σ h) (H : HV σ h V) (hN : CN (V 0) 8) (hL : CN (V 1) 3) {i : Nat} (hi : i < nL V) (r m : Int32) (hm : m = -1 ∨ ¬ m < 0) : m_X2_heardIn h (nI i) r m σ = some (hd V (V (30 + i)) r m) := by
  have hN8 : nS V ≤ 8 := hN.2
  have hL3 : nL V ≤ 3 := hL.2
  unfold m_X2_heardIn
  rcases hm with rfl | hm
  · rw [if_pos rfl]
    unfold hd
    rw [HM_neg _ _ _ _ _ _ (by decide)]
  · have hne : ¬ m = -1 := by
      rintro rfl
      exact hm (by decide)
    rw [if_neg hne, e_SR S H hN, bd1_s, e_LS S H hN, bd1_s, show (0 : Int32) = nI 0 from rfl, g_ok S.2.1 (by omega) (by omega), bd1_s, nm_eq, nm_eq, (H.2.2.1 i hi).1]
    refine (e_HC_loop S H hN _ _ _ _ _ 1000 0 (Nat.zero_le _) (by omega)).trans ?_
    have hb : ∀ s, s < nS V → (bit (SR V r (nS V)) s ↔ V (14 + s) = r ∧ bit 255 s) := fun s hs => by
      rw [SR_bit V r hN8 hs]
      exact ⟨fun q => ⟨q, bit_255 (by omega)⟩, fun q => q.1⟩
    unfold hd
    rw [TG_LS V 255 (SR V r (nS V)) r m hm _ hb, HM_HC V _ _ 255 (SR V r (nS V)) r m hm _ hb]
end CLS
