/-! ===== PURE: questions, first lot ===== -/
theorem bd2_id {α β : Type} (o : Option (α × β)) : bd2 o (fun a b => some (a, b)) = o := by
  cases o with
  | none => rfl
  | some x => rfl
/-- the class's part, the model's part -/
def CV (σ : Sg) (V : Vw) : Prop := VOK V 9999 ∧ HS σ 1 ∧ HV σ 1 V
def LV (σ : Sg) (V : Vw) : Prop := VOK V 9999 ∧ Live σ V
theorem Core.C {σ : Sg} {V : Vw} (h : Core σ V) : CV σ V := ⟨h.1, h.2.1, h.2.2.1⟩
theorem Core.L {σ : Sg} {V : Vw} (h : Core σ V) : LV σ V := ⟨h.1, h.2.2.2⟩
theorem LV.si0 {σ : Sg} {V : Vw} (h : LV σ V) (c : Nat) (x : Int32) : LV (si σ 0 c x) V :=
  ⟨h.1, h.2.keep (fun j _ _ _ => by rw [si_row _ _ _ _ (by omega)]) (fun a _ _ => si_row _ _ _ _ (by omega)) (fun a _ _ => si_row _ _ _ _ (by omega))⟩
/-- a question on both sides -/
theorem q_pair {σ : Sg} {V : Vw} (H : Rel σ) (HC : Core σ V) {A B : Sg → Option (Int32 × Sg)} (c : Prop) [Decidable c] (v : Int32) (hA : c → A σ = some (v, σ)) (hA' : ¬ c → A σ = m_X7_refuseBad σ) (hB : c → B σ = some (v, σ)) (hB' : ¬ c → ∀ σ', LV σ' V → B σ' = m_X8_bad σ') : ∃ (r : Int32) (σ1 : Sg) (σ2 : Sg), A σ = some (r, σ1) ∧ B σ1 = some (r, σ2) ∧ Rel σ2 := by
  by_cases h : c
  · exact ⟨v, σ, σ, hA h, hB h, H⟩
  · exact r_bad H (hA' h) (fun σ1 e => hB' h σ1 (e ▸ HC.L.si0 9 _))
theorem toInt_pred {n : Nat} (hn : n ≤ 200) : (nI n - 1).toInt = (n : Int) - 1 := by
  rw [show (1 : Int32) = nI 1 from rfl, pk_sub_toInt (by omega) (by omega)]
  rfl
theorem rng_idx {a : Int32} {n : Nat} (h : rng a 0 ((n : Int) - 1)) (hn : n ≤ 200) : ∃ s, s < n ∧ a = nI s := by
  obtain ⟨j, hj, e⟩ := rng_nI (n := n - 1) (by omega) (by
    obtain ⟨h1, h2⟩ := h
    exact ⟨h1, by omega⟩)
  have h1 := h
  rw [e, nI_rng (by omega)] at h1
  exact ⟨j, by omega, e⟩
section CND
variable {σ : Sg} {V : Vw}
theorem lt01 (a x : Int32) {n : Nat} (hx : x = nI n) (hn : n ≤ 200) : (if a < 0 then some (0 : Int32) else if x ≤ a then some 0 else some 1) = some (b01 (rng a 0 ((n : Int) - 1))) := by
  rw [if01]
  refine congrArg some (b01_cong ?_)
  rw [lt_I, le_I, hx, nI_toInt (by omega)]
  have : (0 : Int32).toInt = 0 := rfl
  omega
theorem x_isS (h : CV σ V) (a : Int32) : m_X7_isSaying a σ = some (b01 (rng a 0 ((nS V : Int) - 1))) := by
  have h8 : nS V ≤ 8 := h.1.1.2
  unfold m_X7_isSaying
  exact lt01 a _ (h.2.2.1.1.trans h.1.1.1) (by omega)
theorem x_isL (h : CV σ V) (a : Int32) : m_X7_isListener a σ = some (b01 (rng a 0 ((nL V : Int) - 1))) := by
  have h8 : nL V ≤ 3 := h.1.2.1.2
  unfold m_X7_isListener
  exact lt01 a _ (h.2.2.1.2.1.trans h.1.2.1.1) (by omega)
theorem y_isS (h : LV σ V) (a : Int32) : m_X8_isSaying a σ = some (b01 (rng a 0 ((nS V : Int) - 1))) := by
  have h8 : nS V ≤ 8 := h.1.1.2
  unfold m_X8_isSaying
  rw [e_in32, bd1_s, b01_g, h.2.1.1, h.1.1.1, Int32.toInt_toInt64, toInt_pred (show _ ≤ 200 from Nat.le_trans ‹_› (by decide))]
  rfl
theorem y_isL (h : LV σ V) (a : Int32) : m_X8_isEar a σ = some (b01 (rng a 0 ((nL V : Int) - 1))) := by
  have h8 : nL V ≤ 3 := h.1.2.1.2
  unfold m_X8_isEar
  rw [e_in32, bd1_s, b01_g, h.2.1.2.1, h.1.2.1.1, Int32.toInt_toInt64, toInt_pred (show _ ≤ 200 from Nat.le_trans ‹_› (by decide))]
  rfl
end CND
theorem VOK.N {V : Vw} {B : Nat} (h : VOK V B) : NowOK (fun j => V (33 + j)) (nL V) B := h.2.2.2.2.2.2.2.2.1
theorem sp_of : Sp_of Rel := by
  intro σ H a1 a2
  obtain ⟨HR, V, HC⟩ := id H
  have CL := HC.C
  have h8 : nS V ≤ 8 := HC.1.1.2
  refine q_pair H HC (rng a1 0 ((nS V : Int) - 1) ∧ rng a2 0 2) (V (6 + 8 * cnt a2 + cnt a1)) (fun c => ?_) (fun c => ?_) (fun c => ?_) (fun c σ' L => ?_)
  · obtain ⟨s, hs, rfl⟩ := rng_idx c.1 (by omega)
    obtain ⟨w, hw, rfl⟩ := rng_nI (n := 2) (by omega) c.2
    unfold m_X7_of
    rw [x_isS CL, bd1_s, b01_z, if_pos c.1, ew_0_2, bd1_s, b01_z, if_pos c.2, g_ok CL.2.1.1 (by omega) (by omega), bd1_s, cnt_nI (by omega), cnt_nI (by omega)]
    have h3 := HC.2.2.1.2.1 s hs
    rcases (show w = 0 ∨ w = 1 ∨ w = 2 by omega) with rfl | rfl | rfl
    · exact congrArg (fun z => some (z, σ)) h3.1
    · exact congrArg (fun z => some (z, σ)) h3.2.1
    · exact congrArg (fun z => some (z, σ)) h3.2.2
  · unfold m_X7_of
    simp only [x_isS CL, ew_0_2, bd1_s, b01_z, bd2_id]
    by_cases c1 : rng a1 0 ((nS V : Int) - 1)
    · rw [if_pos c1, if_neg (fun q => c ⟨c1, q⟩)]
    · rw [if_neg c1]
  · obtain ⟨s, hs, rfl⟩ := rng_idx c.1 (by omega)
    obtain ⟨w, hw, rfl⟩ := rng_nI (n := 2) (by omega) c.2
    unfold m_X8_of
    rw [y_isS HC.L, bd1_s, b01_z, if_pos c.1, ei_0_2, bd1_s, b01_z, if_pos c.2, ln_70, ln_71, ln_72, ix_if (by omega) (by omega), ix_if (by omega) (by omega), ix_if (by omega) (by omega), cnt_nI (by omega), cnt_nI (by omega), nI_clamp (by omega)]
    have L := HC.2.2.2
    rcases (show w = 0 ∨ w = 1 ∨ w = 2 by omega) with rfl | rfl | rfl
    · rw [if_pos (show nI 0 = 0 from rfl), L.2.1 s (by omega)]
    · rw [if_neg (by decide), if_pos (show nI 1 = 1 from rfl), L.2.2.1 s (by omega)]
    · rw [if_neg (by decide), if_neg (by decide), L.2.2.2.1 s (by omega)]
  · unfold m_X8_of
    simp only [y_isS L, ei_0_2, bd1_s, b01_z, bd2_id]
    by_cases c1 : rng a1 0 ((nS V : Int) - 1)
    · rw [if_pos c1, if_neg (fun q => c ⟨c1, q⟩)]
    · rw [if_neg c1]
theorem sp_loud : Sp_loud Rel := by
  intro σ H a1 a2
  obtain ⟨HR, V, HC⟩ := id H
  have CL := HC.C
  have h8 : nS V ≤ 8 := HC.1.1.2
  refine q_pair H HC (rng a1 0 ((nS V : Int) - 1) ∧ rng a2 0 29) (lb V a2 (cnt a1)) (fun c => ?_) (fun c => ?_) (fun c => ?_) (fun c σ' L => ?_)
  · obtain ⟨s, hs, rfl⟩ := rng_idx c.1 (by omega)
    unfold m_X7_loud
    rw [x_isS CL, bd1_s, b01_z, if_pos c.1, e_isSpeak, bd1_s, b01_z, if_pos c.2, e_hloud CL.2.1 CL.2.2 CL.1.1 hs, bd1_s, cnt_nI (by omega)]
  · unfold m_X7_loud
    simp only [x_isS CL, e_isSpeak, bd1_s, b01_z, bd2_id]
    by_cases c1 : rng a1 0 ((nS V : Int) - 1)
    · rw [if_pos c1, if_neg (fun q => c ⟨c1, q⟩)]
    · rw [if_neg c1]
  · obtain ⟨s, hs, rfl⟩ := rng_idx c.1 (by omega)
    unfold m_X8_loud
    rw [y_isS HC.L, bd1_s, b01_z, if_pos c.1, ei_0_29, bd1_s, b01_z, if_pos c.2, e_mLoud HC.2.2.2 HC.1.1 HC.1.K hs, bd1_s, cnt_nI (by omega)]
  · unfold m_X8_loud
    simp only [y_isS L, ei_0_29, bd1_s, b01_z, bd2_id]
    by_cases c1 : rng a1 0 ((nS V : Int) - 1)
    · rw [if_pos c1, if_neg (fun q => c ⟨c1, q⟩)]
    · rw [if_neg c1]
theorem sp_room : Sp_room Rel := by
  intro σ H a1 a2
  obtain ⟨HR, V, HC⟩ := id H
  have CL := HC.C
  refine q_pair H HC (rng a1 0 3 ∧ rng a2 0 1) (if a2 = 0 then mo V (cnt a1) 0 else rl V (cnt a1)) (fun c => ?_) (fun c => ?_) (fun c => ?_) (fun c σ' L => ?_)
  · obtain ⟨r, hr, rfl⟩ := rng_nI (n := 3) (by omega) c.1
    unfold m_X7_room
    rw [e_isRoom, bd1_s, b01_z, if_pos c.1, ew_0_1, bd1_s, b01_z, if_pos c.2, cnt_nI (by omega)]
    by_cases c3 : a2 = 0
    · rw [if_pos c3, if_pos c3, show (0 : Int32) = nI 0 from rfl, e_roomMinute CL.2.1 CL.2.2 CL.1.N (by omega) (by omega) (by omega), bd1_s]
    · rw [if_neg c3, if_neg c3, e_roomLoud CL.2.1 CL.2.2 CL.1.1 CL.1.N (by omega) (by omega), bd1_s]
  · unfold m_X7_room
    simp only [e_isRoom, ew_0_1, bd1_s, b01_z, bd2_id]
    by_cases c1 : rng a1 0 3
    · rw [if_pos c1, if_neg (fun q => c ⟨c1, q⟩)]
    · rw [if_neg c1]
  · obtain ⟨r, hr, rfl⟩ := rng_nI (n := 3) (by omega) c.1
    unfold m_X8_room
    rw [e_mRoom, bd1_s, b01_z, if_pos c.1, ei_0_1, bd1_s, b01_z, if_pos c.2, cnt_nI (by omega), e_minuteOf HC.2.2.2 (by omega), bd1_s, e_loudNow HC.2.2.2 HC.1.1 HC.1.K (by omega), bd1_s]
    split <;> rfl
  · unfold m_X8_room
    simp only [e_mRoom, ei_0_1, bd1_s, b01_z, bd2_id]
    by_cases c1 : rng a1 0 3
    · rw [if_pos c1, if_neg (fun q => c ⟨c1, q⟩)]
    · rw [if_neg c1]
theorem sp_about : Sp_about Rel := by
  intro σ H a1 a2
  obtain ⟨HR, V, HC⟩ := id H
  have CL := HC.C
  have h3 : nL V ≤ 3 := HC.1.2.1.2
  refine q_pair H HC (rng a1 0 ((nL V : Int) - 1) ∧ rng a2 0 3) (if a2 = 0 then V (30 + cnt a1) else if a2 = 1 then V (38 + cnt a1) else if a2 = 2 then V (41 + cnt a1) else hn V (cnt a1)) (fun c => ?_) (fun c => ?_) (fun c => ?_) (fun c σ' L => ?_)
  · obtain ⟨s, hs, rfl⟩ := rng_idx c.1 (by omega)
    obtain ⟨w, hw, rfl⟩ := rng_nI (n := 3) (by omega) c.2
    unfold m_X7_about
    rw [x_isL CL, bd1_s, b01_z, if_pos c.1, ew_0_3, bd1_s, b01_z, if_pos c.2, cnt_nI (by omega)]
    have hl := HC.2.2.1.2.2.1 s hs
    rcases (show w = 0 ∨ w = 1 ∨ w = 2 ∨ w = 3 by omega) with rfl | rfl | rfl | rfl
    · rw [if_neg (by decide), g_ok CL.2.1.2.1 (by omega) (by omega), bd1_s, if_pos (show nI 0 = 0 from rfl)]
      exact congrArg (fun z => some (z, σ)) hl.1
    · rw [if_neg (by decide), g_ok CL.2.1.2.1 (by omega) (by omega), bd1_s, if_neg (by decide), if_pos (show nI 1 = 1 from rfl)]
      exact congrArg (fun z => some (z, σ)) hl.2.1
    · rw [if_neg (by decide), g_ok CL.2.1.2.1 (by omega) (by omega), bd1_s, if_neg (by decide), if_neg (by decide), if_pos (show nI 2 = 2 from rfl)]
      exact congrArg (fun z => some (z, σ)) hl.2.2
    · rw [if_pos (show nI 3 = 3 from rfl), e_heardNow CL.2.1 CL.2.2 CL.1.1 CL.1.2.1 CL.1.N (by omega) hs, bd1_s, if_neg (by decide), if_neg (by decide), if_neg (by decide)]
  · unfold m_X7_about
    simp only [x_isL CL, ew_0_3, bd1_s, b01_z, bd2_id]
    by_cases c1 : rng a1 0 ((nL V : Int) - 1)
    · rw [if_pos c1, if_neg (fun q => c ⟨c1, q⟩)]
    · rw [if_neg c1]
  · obtain ⟨s, hs, rfl⟩ := rng_idx c.1 (by omega)
    obtain ⟨w, hw, rfl⟩ := rng_nI (n := 3) (by omega) c.2
    have L := HC.2.2.2
    unfold m_X8_about
    rw [y_isL HC.L, bd1_s, b01_z, if_pos c.1, ei_0_3, bd1_s, b01_z, if_pos c.2, cnt_nI (by omega), show (5 : Int32) = nI 5 from rfl, show (8 : Int32) = nI 8 from rfl, nI_add, nI_add, ln_73, ln_74, ix_if (by omega) (by omega), ix_if (by omega) (by omega), ix_if (by omega) (by omega), nI_clamp (by omega), nI_clamp (by omega), nI_clamp (by omega), L.2.2.2.2.1 s (by omega), L.2.2.2.2.2.1 (5 + s) (by omega), L.2.2.2.2.2.1 (8 + s) (by omega), e_mHeardNow L HC.1.1 HC.1.2.1 HC.1.K HC.1.N hs, bd1_s, show 33 + (5 + s) = 38 + s by omega, show 33 + (8 + s) = 41 + s by omega]
    split
    · rfl
    · split
      · rfl
      · split <;> rfl
  · unfold m_X8_about
    simp only [y_isL L, ei_0_3, bd1_s, b01_z, bd2_id]
    by_cases c1 : rng a1 0 ((nL V : Int) - 1)
    · rw [if_pos c1, if_neg (fun q => c ⟨c1, q⟩)]
    · rw [if_neg c1]
