/-! ===== PURE: counts, status, part, digest ===== -/
def bc (x : Int32) : Int32 := (m_J6_bitCount_0f7a4 x (fun _ _ => 0, fun _ _ => 0)).getD 0
theorem e_bc (x : Int32) (σ : Sg) : m_J6_bitCount_0f7a4 x σ = some (bc x) := rfl
def pcF : Nat → Int32 → Int32 → Option Int32
  | 0, _, _ => none
  | n + 1, v, c => if v = 0 then some c else pcF n (v &&& (v - 1)) (c + 1)
theorem many_pc (σ : Sg) (kx : Unit → Option Int32) : ∀ F v c, m_X8_many_L4 σ kx F v c = pcF F v c := by
  intro F
  induction F with
  | zero => intro v c; rfl
  | succ F ih =>
    intro v c
    rw [m_X8_many_L4.eq_2, pcF.eq_2]
    by_cases h : v = 0
    · rw [if_pos h, if_pos h]
    · rw [if_neg h, if_neg h, nm_eq, nm_eq, ih]
theorem pc_bc {w : Nat} (hw : w < 256) : pcF 1000 (nI w) 0 = some (bc (nI w)) := by
  have h : ∀ w, w < 256 → pcF 1000 (nI w) 0 = some (bc (nI w)) := by decide +kernel
  exact h w hw
theorem e_many {w : Nat} (hw : w < 256) (σ : Sg) : m_X8_many (nI w) σ = some (bc (nI w)) := by
  unfold m_X8_many
  rw [nm_eq, many_pc, pc_bc hw]
theorem bc_le {w : Nat} (hw : w < 256) : ∃ j, j ≤ 8 ∧ bc (nI w) = nI j := by
  have h : ∀ w, w < 256 → ∃ j, j < 9 ∧ bc (nI w) = nI j := by decide +kernel
  obtain ⟨j, h1, h2⟩ := h w hw
  exact ⟨j, by omega, h2⟩
def kn (V : Vw) : Int32 := V 41 ||| V 42 ||| V 43
theorem kn_lt {V : Vw} {l B : Nat} (N : NowOK (fun j => V (33 + j)) l B) : ∃ w, w < 256 ∧ kn V = nI w := by
  obtain ⟨a, ha, ea⟩ := N.2.2.1 0 (by omega)
  obtain ⟨b, hb, eb⟩ := N.2.2.1 1 (by omega)
  obtain ⟨c, hc, ec⟩ := N.2.2.1 2 (by omega)
  have ea : V 41 = nI a := ea
  have eb : V 42 = nI b := eb
  have ec : V 43 = nI c := ec
  unfold kn
  rw [ea, eb, ec, or_nI, or_nI]
  exact ⟨_, or_lt (or_lt ha hb) hc, rfl⟩
def kf (V : Vw) : Nat → Int32
  | 0 => 0
  | n + 1 => kf V n ||| V (41 + n)
theorem kf_kn {V : Vw} {B : Nat} (N : NowOK (fun j => V (33 + j)) (nL V) B) (hL : nL V ≤ 3) : kf V (nL V) = kn V := by
  have z : ∀ i, nL V ≤ i → i < 3 → V (41 + i) = 0 := fun i h1 h2 => by
    have := N.2.2.2 i h1 h2
    rw [show 41 + i = 33 + (8 + i) by omega]
    exact this
  unfold kn
  generalize hl : nL V = l at *
  rcases (show l = 0 ∨ l = 1 ∨ l = 2 ∨ l = 3 by omega) with rfl | rfl | rfl | rfl
  · have a := z 0 (by omega) (by omega)
    have b := z 1 (by omega) (by omega)
    have c := z 2 (by omega) (by omega)
    simp only [Nat.add_zero] at a
    rw [a, show V 42 = 0 from b, show V 43 = 0 from c]
    rfl
  · have b := z 1 (by omega) (by omega)
    have c := z 2 (by omega) (by omega)
    rw [show V 42 = 0 from b, show V 43 = 0 from c]
    simp [kf]
  · have c := z 2 (by omega) (by omega)
    rw [show V 43 = 0 from c]
    simp [kf]
  · simp [kf]
theorem e_known {σ : Sg} {h B : Nat} {V : Vw} (S : HS σ h) (H : HV σ h V) (hL : CN (V 1) 3) (N : NowOK (fun j => V (33 + j)) (nL V) B) : m_X2_knownByAny h σ = some (bc (kn V)) := by
  have hL3 : nL V ≤ 3 := hL.2
  have loop : ∀ F s, s ≤ nL V → nL V < s + F → m_X2_knownByAny_L4 h σ (fun _ => none) F (nI s) (kf V s) = some (bc (kf V (nL V))) := by
    intro F
    induction F with
    | zero => intro s h1 h2; exact absurd h2 (by omega)
    | succ F ih =>
      intro s h1 h2
      rw [m_X2_knownByAny_L4.eq_2, H.1.2.1, hL.1]
      rcases Nat.lt_or_ge s (nL V) with q | q
      · rw [if_neg (nI_ge q (by omega)), show (2 : Int32) = nI 2 from rfl, g_ok S.2.1 (by omega) (by omega), bd1_s, (H.2.2.1 s q).2.2, nm_eq, nI_1, nm_eq]
        exact ih (s + 1) (by omega) (by omega)
      · have : s = nL V := by omega
        subst this
        rw [if_pos (nI_le (Nat.le_refl _) (show nL V < 2 ^ 31 by omega)), e_bc, bd1_s]
  unfold m_X2_knownByAny
  rw [nm_eq, nm_eq]
  refine (loop 1000 0 (Nat.zero_le _) (by omega)).trans ?_
  rw [kf_kn N hL3]
theorem e_knownAll {σ : Sg} {l B : Nat} {V : Vw} (H : Live σ V) (N : NowOK (fun j => V (33 + j)) l B) : m_X8_knownByAll σ = some (bc (kn V)) := by
  obtain ⟨w, hw, ew⟩ := kn_lt N
  have e : σ.1 74 8 ||| σ.1 74 9 ||| σ.1 74 10 = kn V := by
    rw [H.2.2.2.2.2.1 8 (by omega), H.2.2.2.2.2.1 9 (by omega), H.2.2.2.2.2.1 10 (by omega)]
    rfl
  unfold m_X8_knownByAll
  rw [ln_74, if_neg (by decide), if_neg (by decide), if_neg (by decide)]
  show bd1 (m_X8_many (σ.1 74 8 ||| σ.1 74 9 ||| σ.1 74 10) σ) (fun r1 => some r1) = _
  rw [e, ew, e_many hw, bd1_s]
def st (V : Vw) : Nat → Int32
  | 0 => 0
  | n + 1 => st V n + (if V (34 + n) < 0 then 0 else 1)
theorem since_ok {V : Vw} {l B r : Nat} (N : NowOK (fun j => V (33 + j)) l B) (hr : r < 4) : V (34 + r) = -1 ∨ ∃ j, j ≤ B ∧ V (34 + r) = nI j := by
  obtain ⟨mi, hmi, e0, hs⟩ := N.1
  rcases hs r hr with q | ⟨j, hj, q⟩
  · left
    rw [show 34 + r = 33 + (1 + r) by omega]
    exact q
  · right
    refine ⟨j, by omega, ?_⟩
    rw [show 34 + r = 33 + (1 + r) by omega]
    exact q
theorem e_isStr {σ : Sg} {h l B r : Nat} {V : Vw} (S : HS σ h) (H : HV σ h V) (N : NowOK (fun j => V (33 + j)) l B) (hB : B ≤ 20000) (hr : r < 4) : m_X2_isStripped h (nI r) σ = some (b01 (¬ V (34 + r) < 0)) := by
  unfold m_X2_isStripped
  rw [show (0 : Int32) = nI 0 from rfl, g_ok S.2.2.1 hr (by omega), H.2.2.2.1 r hr, bd1_s, nI_0]
  rcases since_ok N hr with q | ⟨j, hj, q⟩
  · rw [q, if_pos (by decide)]
    rfl
  · rw [q, nI_1, if_neg (nI_nle (by omega) (by omega))]
    unfold b01
    rw [if_pos (nI_pos (by omega))]
theorem e_stR {σ : Sg} {h l B : Nat} {V : Vw} (S : HS σ h) (H : HV σ h V) (N : NowOK (fun j => V (33 + j)) l B) (hB : B ≤ 20000) : m_X2_strippedRooms h σ = some (st V 4) := by
  have loop : ∀ F s, s ≤ 4 → 4 < s + F → m_X2_strippedRooms_L4 h σ (fun _ => none) F (nI s) (st V s) = some (st V 4) := by
    intro F
    induction F with
    | zero => intro s h1 h2; exact absurd h2 (by omega)
    | succ F ih =>
      intro s h1 h2
      rw [m_X2_strippedRooms_L4.eq_2, show (4 : Int32) = nI 4 from rfl]
      rcases Nat.lt_or_ge s 4 with q | q
      · rw [if_neg (nI_ge q (by omega)), e_isStr S H N hB q, bd1_s, b01_z, nI_1]
        refine Eq.trans ?_ (ih (s + 1) (by omega) (by omega))
        conv => rhs; unfold st
        by_cases hz : V (34 + s) < 0
        · rw [if_neg (fun z => z hz), if_pos hz, bd1_s, nm_eq, Int32.add_zero]
        · rw [if_pos hz, if_neg hz, nm_eq, bd1_s, nm_eq]
      · have : s = 4 := by omega
        subst this
        rw [if_pos (nI_le (Nat.le_refl _) (by omega))]
  unfold m_X2_strippedRooms
  rw [nm_eq, nm_eq]
  exact loop 1000 0 (Nat.zero_le _) (by omega)
theorem e_mStR {σ : Sg} {V : Vw} (H : Live σ V) : m_X8_stripped σ = some (st V 4) := by
  have loop : ∀ F s, s ≤ 4 → 4 < s + F → m_X8_stripped_L4 σ (fun _ => none) F (nI s) (st V s) = some (st V 4) := by
    intro F
    induction F with
    | zero => intro s h1 h2; exact absurd h2 (by omega)
    | succ F ih =>
      intro s h1 h2
      rw [m_X8_stripped_L4.eq_2, show (4 : Int32) = nI 4 from rfl]
      rcases Nat.lt_or_ge s 4 with q | q
      · rw [if_neg (nI_ge q (by omega)), show (1 : Int32) = nI 1 from rfl, nI_add, ln_74, ix_if (by omega) (by omega), nI_clamp (by omega), H.2.2.2.2.2.1 (1 + s) (by omega), show 33 + (1 + s) = 34 + s by omega, nI_add]
        refine Eq.trans ?_ (ih (s + 1) (by omega) (by omega))
        conv => rhs; unfold st
        by_cases hz : V (34 + s) < 0
        · rw [if_pos hz, if_pos hz, bd1_s, nm_eq, nm_eq]
        · rw [if_neg hz, if_neg hz, bd1_s, nm_eq, nm_eq]
          rfl
      · have : s = 4 := by omega
        subst this
        rw [if_pos (nI_le (Nat.le_refl _) (by omega))]
  unfold m_X8_stripped
  rw [nm_eq, nm_eq]
  exact loop 1000 0 (Nat.zero_le _) (by omega)
/-- count -/
def hm (V : Vw) (t a : Int32) : Int32 := if a = 0 then V 0 else if a = 1 then V 1 else if a = 2 then V 33 else if a = 3 then st V 4 else if a = 4 then bc (kn V) else if a = 5 then V 2 else if a = 6 then V 3 else if a = 7 then V 4 else if a = 8 then V 5 else t
theorem some_if {α : Type} (c : Prop) [Decidable c] (a b : α) : (if c then some a else some b) = some (if c then a else b) := by split <;> rfl
theorem e_howMany {σ : Sg} {V : Vw} (CL : CV σ V) (a : Int32) : m_X7_howMany a σ = some (hm V (σ.1 62 3) a) := by
  unfold m_X7_howMany hm
  rw [show m_X2_strippedRooms 1 σ = _ from e_stR CL.2.1 CL.2.2 CL.1.N (by omega), bd1_s, e_known CL.2.1 CL.2.2 CL.1.2.1 CL.1.N, bd1_s]
  simp only [some_if]
  obtain ⟨h1, h2, h3, h4, h5, h6, h7⟩ := CL.2.2.1
  rw [h1, h2, h3, h4, h5, h6, h7]
theorem e_counted {σ : Sg} {V : Vw} (L : LV σ V) (a : Int32) : m_X8_counted a σ = some (hm V (σ.1 68 9) a) := by
  unfold m_X8_counted hm
  rw [e_mStR L.2, bd1_s, e_knownAll L.2 L.1.N, bd1_s, ln_74, if_neg (show ¬ ((0 : Int32) < 0 ∨ 11 ≤ (0 : Int32).toNatClampNeg) by decide)]
  simp only [some_if]
  obtain ⟨h1, h2, h3, h4, h5, h6⟩ := L.2.1
  rw [h1, h2, h3, h4, h5, h6, show σ.1 74 (Int32.toNatClampNeg 0) = V 33 from L.2.2.2.2.2.2.1 0 (by omega)]
theorem txt_eq {σ : Sg} (T : Txt σ) : σ.1 62 3 = σ.1 68 9 := by
  obtain ⟨_, n, _, h1, h2, _⟩ := T
  rw [h1, h2]
theorem sp_count : Sp_count Rel := by
  intro σ H a1
  obtain ⟨HR, V, HC⟩ := id H
  have CL := HC.C
  refine q_pair H HC (rng a1 0 9) (hm V (σ.1 62 3) a1) (fun c => ?_) (fun c => ?_) (fun c => ?_) (fun c σ' L => ?_)
  · unfold m_X7_count
    rw [ew_0_9, bd1_s, b01_z, if_pos c, e_howMany CL, bd1_s]
  · unfold m_X7_count
    rw [ew_0_9, bd1_s, b01_z, if_neg c, bd2_id]
  · unfold m_X8_count
    rw [ei_0_9, bd1_s, b01_z, if_pos c, e_counted HC.L, bd1_s, txt_eq HR.2.2.2.1]
  · unfold m_X8_count
    rw [ei_0_9, bd1_s, b01_z, if_neg c, bd2_id]
theorem sp_part : Sp_part Rel := by
  intro σ H a1
  obtain ⟨HR, V, HC⟩ := id H
  have h01 : rng a1 0 1 ↔ a1 = 0 ∨ a1 = 1 := by
    constructor
    · intro h
      obtain ⟨w, hw, rfl⟩ := rng_nI (n := 1) (by omega) h
      rcases (show w = 0 ∨ w = 1 by omega) with rfl | rfl
      · exact .inl rfl
      · exact .inr rfl
    · rintro (rfl | rfl) <;> decide
  by_cases c0 : a1 = 0
  · refine ⟨σ.2 67 0, σ, σ, ?_, ?_, H⟩
    · unfold m_X7_part
      rw [ew_0_1, bd1_s, b01_z, if_pos (h01.mpr (.inl c0)), if_pos c0]
    · unfold m_X8_part
      rw [if_pos c0, HR.2.2.2.2.2.1]
  by_cases c1 : a1 = 1
  · refine ⟨σ.2 67 1, σ, σ, ?_, ?_, H⟩
    · unfold m_X7_part
      rw [ew_0_1, bd1_s, b01_z, if_pos (h01.mpr (.inr c1)), if_neg c0]
    · unfold m_X8_part
      rw [if_neg c0, if_pos c1, HR.2.2.2.2.2.2]
  · refine ⟨(-2 : Int32).toInt64, si σ 0 9 (σ.1 0 9 + 1), _, ?_, ?_, H.ref 0 (by omega)⟩
    · unfold m_X7_part
      rw [ew_0_1, bd1_s, b01_z, if_neg (fun z => (h01.mp z).elim c0 c1), x_bad, bd2_s]
    · unfold m_X8_part
      rw [if_neg c0, if_neg c1, y_bad, bd2_s, si_row _ _ _ _ (show 69 ≠ 0 by omega)]
theorem sp_status : Sp_status Rel := by
  intro σ H a1
  obtain ⟨HR, V, HC⟩ := id H
  obtain ⟨b0, b1, b2⟩ := HR.2.2.2.2.1
  have h02 : rng a1 0 2 ↔ a1 = 0 ∨ a1 = 1 ∨ a1 = 2 := by
    constructor
    · intro h
      obtain ⟨w, hw, rfl⟩ := rng_nI (n := 2) (by omega) h
      rcases (show w = 0 ∨ w = 1 ∨ w = 2 by omega) with rfl | rfl | rfl
      · exact .inl rfl
      · exact .inr (.inl rfl)
      · exact .inr (.inr rfl)
    · rintro (rfl | rfl | rfl) <;> decide
  by_cases c0 : a1 = 0
  · refine ⟨σ.1 0 9, σ, σ, ?_, ?_, H⟩
    · unfold m_X7_status
      rw [if_pos c0]
    · unfold m_X8_status
      rw [ei_0_2, bd1_s, b01_z, if_pos (h02.mpr (.inl c0)), c0, ln_69, if_neg (by decide), b0]
      rfl
  by_cases c1 : a1 = 1
  · refine ⟨σ.1 0 10, σ, σ, ?_, ?_, H⟩
    · unfold m_X7_status
      rw [if_neg c0, if_pos c1]
    · unfold m_X8_status
      rw [ei_0_2, bd1_s, b01_z, if_pos (h02.mpr (.inr (.inl c1))), c1, ln_69, if_neg (by decide), b1]
      rfl
  by_cases c2 : a1 = 2
  · refine ⟨σ.1 0 11, σ, σ, ?_, ?_, H⟩
    · unfold m_X7_status
      rw [if_neg c0, if_neg c1, if_pos c2]
    · unfold m_X8_status
      rw [ei_0_2, bd1_s, b01_z, if_pos (h02.mpr (.inr (.inr c2))), c2, ln_69, if_neg (by decide), b2]
      rfl
  · refine ⟨-1, si σ 0 9 (σ.1 0 9 + 1), _, ?_, ?_, H.ref 0 (by omega)⟩
    · unfold m_X7_status
      rw [if_neg c0, if_neg c1, if_neg c2, x_bad, bd2_s]
    · unfold m_X8_status
      rw [ei_0_2, bd1_s, b01_z, if_neg (fun z => (h02.mp z).elim c0 (fun z => z.elim c1 c2)), ln_69, if_neg (by decide), if_neg (by decide), nm_eq, si_row _ _ _ _ (show 69 ≠ 0 by omega)]
      rfl
