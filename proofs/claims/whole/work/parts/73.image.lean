/-! ===== PURE: image, from ===== -/
theorem Img.keep2 {σ σ' : Sg} {i : Nat} (H : Img σ i) (h0 : σ'.1 0 (4 + i) = σ.1 0 (4 + i)) (h84 : σ'.1 84 i = σ.1 84 i) (h83 : ∀ j, j < 195 → σ'.1 83 (196 * i + j) = σ.1 83 (196 * i + j)) (hk : ∀ a, 31 + 15 * i ≤ a → a < 31 + 15 * i + 15 → σ'.1 a = σ.1 a) : Img σ' i := by
  unfold Img at *
  rw [h0, h84]
  rcases H with H | ⟨g1, g2, V, g3, g4, g5⟩
  · exact .inl H
  · exact .inr ⟨g1, g2, V, g3, g4.keep hk, fun j hj => (h83 j hj).trans (g5 j hj)⟩
theorem MV.start {off : Nat} {σ : Sg} {V T : Vw} (H : Live σ V) : MV off (fun j => σ.1 83 (off + j)) V T σ 0 σ := by
  refine ⟨⟨fun _ _ _ => rfl, fun _ _ => rfl, rfl⟩, fun j hj => ?_, fun j hj => ?_, fun _ _ => rfl⟩
  · rw [if_neg (by omega)]
    exact Live_LW H j hj
  · rw [if_neg (by omega)]
theorem x_image {i : Nat} (hi : i < 2) {σ σ1 : Sg} (e : m_X2_copy (31 + 15 * i) 1 σ = some σ1) : m_X7_image (nI i) σ = some (1, si σ1 0 (4 + i) 1) := by
  unfold m_X7_image
  rcases (show i = 0 ∨ i = 1 by omega) with rfl | rfl
  · rw [if_pos (show nI 0 = 0 from rfl), show m_X2_copy 31 1 σ = some σ1 from e, bd1_s, nm_eq]
  · rw [if_neg (show ¬ nI 1 = 0 by decide), if_pos (show nI 1 = 1 from rfl), show m_X2_copy 46 1 σ = some σ1 from e, bd1_s, nm_eq]
theorem rng_2 {i : Nat} (hi : i < 2) : rng (nI i) 0 1 := by
  rw [nI_rng (by omega)]
  omega
theorem y_image {i : Nat} (hi : i < 2) {σ σ1 : Sg} (e : m_X8_moveAll 1 (nI (196 * i)) σ = some σ1) : m_X8_image (nI i) σ = some (1, si σ1 84 i 1) := by
  unfold m_X8_image
  rw [ei_0_1, bd1_s, b01_z, if_pos (rng_2 hi), show (196 : Int32) = nI 196 from rfl, pk_mul, e, bd1_s, ln_84, ix_if hi (by omega), nI_clamp (by omega), nm_eq]
theorem sp_image : Sp_image Rel := by
  intro σ H a1
  obtain ⟨HR, V, HC⟩ := id H
  by_cases c : rng a1 0 1
  · obtain ⟨i, hi1, rfl⟩ := rng_nI (n := 1) (by omega) c
    have hi : i < 2 := by omega
    obtain ⟨⟨a1, a2, a3, a4⟩, a5, a6, a7, a8, a9, a10⟩ := id HR
    have S0 : HS σ (31 + 15 * i) := by
      rcases (show i = 0 ∨ i = 1 by omega) with rfl | rfl
      · exact a2
      · exact a3
    obtain ⟨σ1, e1, hF, hS, hV⟩ := h_copy S0 HC.2.1 HC.2.2.1 HC.1 (by omega)
    have k1 : ∀ a, a ≠ 0 → ¬ (31 + 15 * i ≤ a ∧ a < 46 + 15 * i) → (si σ1 0 (4 + i) 1).1 a = σ.1 a := fun a h1 h2 => by
      rw [si_row _ _ _ _ h1]
      exact hF.1 a (by omega)
    have L1 : Live (si σ1 0 (4 + i) 1) V := HC.2.2.2.keep (fun j _ _ _ => by rw [k1 68 (by omega) (by omega)]) (fun a h1 h2 => k1 a (by omega) (by omega)) (fun a h1 h2 => k1 a (by omega) (by omega))
    obtain ⟨τ, e2, ⟨m1, m2, m3⟩, m4, m5, m6⟩ := y_moveAll (a1 := 1) (T := V) (fun j => (if_neg (by decide)).symm) (by omega) (MV.start (off := 196 * i) (T := V) L1)
    have k2 : ∀ a, a ≠ 0 → ¬ (31 + 15 * i ≤ a ∧ a < 46 + 15 * i) → ¬ (a = 68 ∨ (70 ≤ a ∧ a ≤ 74) ∨ (77 ≤ a ∧ a ≤ 80)) → a ≠ 83 → a ≠ 84 → (si τ 84 i 1).1 a = σ.1 a := fun a h1 h2 h3 h4 h5 => by
      rw [si_row _ _ _ _ h5, m1 a h3 h4]
      exact k1 a h1 h2
    have k3 : ∀ a, 31 + 15 * i ≤ a → a < 46 + 15 * i → (si τ 84 i 1).1 a = σ1.1 a := fun a h1 h2 => by
      rw [si_row _ _ _ _ (by omega), m1 a (by omega) (by omega), si_row _ _ _ _ (by omega)]
    have k0 : ∀ b, b ≠ 4 + i → (si τ 84 i 1).1 0 b = σ.1 0 b := fun b hb => by
      rw [si_row _ _ _ _ (by omega), m1 0 (by omega) (by omega), si_off' _ _ _ _ _ hb, hF.1 0 (by omega)]
    have k68 : ∀ b, b = 9 ∨ b = 10 ∨ b = 11 → (si τ 84 i 1).1 68 b = σ.1 68 b := fun b hb => by
      rw [si_row _ _ _ _ (by omega), m2 b hb, k1 68 (by omega) (by omega)]
    have kl : (si τ 84 i 1).2 = σ.2 := m3.trans hF.2
    have L2 : Live (si τ 84 i 1) V := LW_Live (fun j hj => by
      have := mr_in j hj
      rw [si_row _ _ _ _ (by omega), m4 j hj, if_pos hj])
    have Ii : Img (si τ 84 i 1) i := by
      refine .inr ⟨?_, si_at _ _ _ _, V, HC.1, hV.keep (fun a h1 h2 => k3 a h1 (by omega)), fun j hj => ?_⟩
      · rw [si_row _ _ _ _ (by omega), m1 0 (by omega) (by omega), si_at]
      · rw [si_row _ _ _ _ (by omega), m5 j hj, if_pos hj]
    have Io : ∀ o, o < 2 → o ≠ i → Img σ o → Img (si τ 84 i 1) o := fun o ho hne q => by
      refine q.keep2 (k0 _ (by omega)) ?_ (fun j hj => ?_) (fun a h1 h2 => k2 a (by omega) (by omega) (by omega) (by omega) (by omega))
      · rw [si_off' _ _ _ _ _ hne, m1 84 (by omega) (by omega), k1 84 (by omega) (by omega)]
      · rw [si_row _ _ _ _ (by omega), m6 _ (by omega), k1 83 (by omega) (by omega)]
    have Hh : ∀ o, o < 2 → HS σ (31 + 15 * o) → HS (si τ 84 i 1) (31 + 15 * o) := fun o ho q => by
      by_cases c : o = i
      · subst c
        exact hS.keep (fun a h1 h2 => k3 a (by omega) (by omega))
      · exact q.keep (fun a h1 h2 => k2 a (by omega) (by omega) (by omega) (by omega) (by omega))
    have R1 : HS (si τ 84 i 1) 16 := a1.keep (fun a h1 h2 => k2 a (by omega) (by omega) (by omega) (by omega) (by omega))
    have R4 : RS (si τ 84 i 1) 65 2 4 := a4.keep (by rw [k2 65 (by omega) (by omega) (by omega) (by omega) (by omega)]) (by rw [k2 65 (by omega) (by omega) (by omega) (by omega) (by omega)])
    have I0 : Img (si τ 84 i 1) 0 := by
      by_cases c : i = 0
      · subst c
        exact Ii
      · exact Io 0 (by omega) (by omega) a5
    have I1 : Img (si τ 84 i 1) 1 := by
      by_cases c : i = 1
      · subst c
        exact Ii
      · exact Io 1 (by omega) (by omega) a6
    have T7 : Txt (si τ 84 i 1) := a7.keep (k68 9 (by omega)) (k2 62 (by omega) (by omega) (by omega) (by omega) (by omega)) (k2 63 (by omega) (by omega) (by omega) (by omega) (by omega)) (k2 75 (by omega) (by omega) (by omega) (by omega) (by omega))
    refine ⟨1, _, _, x_image hi e1, y_image hi e2, ⟨⟨R1, Hh 0 (by omega) a2, Hh 1 (by omega) a3, R4⟩, I0, I1, T7, ?_, ?_, ?_⟩, V, HC.1, HC.2.1.keep (fun a h1 h2 => k2 a (by omega) (by omega) (by omega) (by omega) (by omega)), HC.2.2.1.keep (fun a h1 h2 => k2 a (by omega) (by omega) (by omega) (by omega) (by omega)), L2⟩
    · rw [k0 9 (by omega), k0 10 (by omega), k0 11 (by omega), k2 69 (by omega) (by omega) (by omega) (by omega) (by omega)]
      exact a8
    · rw [kl]
      exact a9
    · rw [kl]
      exact a10
  · have hn : ¬ a1 = 0 ∧ ¬ a1 = 1 := ⟨fun z => c (by rw [z]; decide), fun z => c (by rw [z]; decide)⟩
    refine r_bad H ?_ (fun σ1 e1 => ?_)
    · unfold m_X7_image
      rw [if_neg hn.1, if_neg hn.2, bd2_id]
    · unfold m_X8_image
      rw [ei_0_1, bd1_s, b01_z, if_neg c, bd2_id]
/-- an act on both sides, the model's with more known -/
theorem act2 {σ : Sg} {V V' : Vw} {r : Int32} (H : Rel σ) (HC : Core σ V) {A B : Sg → Option (Int32 × Sg)} (ok : VOK V' 9999) (hA : ∃ σ1, A σ = some (r, σ1) ∧ HT 1 σ σ1 V') (hB : ∀ σ1, HF 1 σ σ1 → LV σ1 V → ∃ σ2, B σ1 = some (r, σ2) ∧ LX σ1 σ2 V') : ∃ (r : Int32) (σ1 : Sg) (σ2 : Sg), A σ = some (r, σ1) ∧ B σ1 = some (r, σ2) ∧ Rel σ2 := by
  obtain ⟨σ1, e1, hF, hS, hV⟩ := hA
  have k1 : ∀ a, ¬ (1 ≤ a ∧ a ≤ 15) → σ1.1 a = σ.1 a := fun a ha => hF.1 a (by omega)
  have L1 : LV σ1 V := ⟨HC.1, HC.2.2.2.keep (fun j _ _ _ => by rw [k1 68 (by omega)]) (fun a h1 h2 => k1 a (by omega)) (fun a h1 h2 => k1 a (by omega))⟩
  obtain ⟨σ2, e2, hX⟩ := hB σ1 hF L1
  obtain ⟨hM, hL⟩ := hX
  have k2 : ∀ a, ¬ (1 ≤ a ∧ a ≤ 15) → ¬ (a = 68 ∨ (70 ≤ a ∧ a ≤ 74) ∨ (77 ≤ a ∧ a ≤ 80)) → σ2.1 a = σ.1 a := fun a h1 h2 => (hM.1 a h2).trans (k1 a h1)
  exact ⟨r, σ1, σ2, e1, e2, H.1.keep (fun j => by rw [k2 0 (by omega) (by omega)]) (fun a h1 h2 h3 h4 => k2 a (by omega) (by omega)) (fun q => q.keep (fun a h1 h2 => k2 a (by omega) (by omega))) (fun j hj => by rw [k2 65 (by omega) (by omega)]) (by rw [hM.2.1 9 (by omega), k1 68 (by omega)]) (k2 69 (by omega) (by omega)) (k2 75 (by omega) (by omega)) (k2 83 (by omega) (by omega)) (k2 84 (by omega) (by omega)) (by rw [hM.2.2, hF.2]; exact ⟨rfl, rfl⟩), V', ok, hS.keep (fun a h1 h2 => hM.1 a (by omega)), hV.keep (fun a h1 h2 => hM.1 a (by omega)), hL⟩
theorem x_from {i : Nat} (hi : i < 2) {σ : Sg} : m_X7_from (nI i) σ = (if σ.1 0 (4 + i) = 0 then m_X7_refuseNo σ else bd1 (m_X2_copy 1 (31 + 15 * i) σ) (fun σ7 => some ((1 : Int32), σ7))) := by
  unfold m_X7_from
  rw [ew_0_1, bd1_s, b01_z, if_pos (rng_2 hi)]
  rcases (show i = 0 ∨ i = 1 by omega) with rfl | rfl
  · rw [if_pos (show nI 0 = 0 from rfl), bd1_s, bd2_id, if_pos (show nI 0 = 0 from rfl)]
    all_goals rfl
  · rw [if_neg (show ¬ nI 1 = 0 by decide), bd1_s, bd2_id, if_neg (show ¬ nI 1 = 0 by decide)]
    all_goals rfl
theorem y_from {i : Nat} (hi : i < 2) {σ : Sg} : m_X8_from (nI i) σ = (if σ.1 84 i = 0 then m_X8_no σ else bd1 (m_X8_moveAll 0 (nI (196 * i)) σ) (fun σ3 => some ((1 : Int32), σ3))) := by
  unfold m_X8_from
  rw [ei_0_1, bd1_s, b01_z, if_pos (rng_2 hi), show (196 : Int32) = nI 196 from rfl, pk_mul, ln_84, ix_if hi (by omega), nI_clamp (by omega), bd2_id]
theorem sp_from : Sp_from Rel := by
  intro σ H a1
  obtain ⟨HR, V, HC⟩ := id H
  by_cases c : rng a1 0 1
  · obtain ⟨i, hi1, rfl⟩ := rng_nI (n := 1) (by omega) c
    have hi : i < 2 := by omega
    obtain ⟨⟨a1, a2, a3, a4⟩, a5, a6, a7, a8, a9, a10⟩ := id HR
    have S0 : HS σ (31 + 15 * i) := by
      rcases (show i = 0 ∨ i = 1 by omega) with rfl | rfl
      · exact a2
      · exact a3
    have hI : Img σ i := by
      rcases (show i = 0 ∨ i = 1 by omega) with rfl | rfl
      · exact a5
      · exact a6
    rcases hI with ⟨g1, g2⟩ | ⟨g1, g2, V1, g3, g4, g5⟩
    · refine r_no H ?_ (fun σ1 e1 => ?_)
      · rw [x_from hi, if_pos g1]
      · rw [y_from hi, e1, si_row _ _ _ _ (show 84 ≠ 0 by omega), if_pos g2]
    · obtain ⟨σ1, e1, hT⟩ := h_copy HC.2.1 S0 g4 g3 (by omega)
      refine act2 H HC (r := 1) (V' := V1) g3 ⟨σ1, ?_, hT⟩ (fun s hF L => ?_)
      · rw [x_from hi, if_neg (by rw [g1]; decide), e1, bd1_s]
      · obtain ⟨τ, e2, ⟨m1, m2, m3⟩, m4, m5, m6⟩ := y_moveAll (a1 := 0) (T := fun j => s.1 83 (196 * i + j)) (fun j => (if_pos rfl).symm) (by omega) (MV.start (off := 196 * i) (T := fun j => s.1 83 (196 * i + j)) L.2)
        refine ⟨τ, ?_, ⟨fun a ha => ?_, m2, m3⟩, LW_Live (fun j hj => ?_)⟩
        · rw [y_from hi, hF.1 84 (by omega), if_neg (by rw [g2]; decide), e2, bd1_s]
        · by_cases c : a = 83
          · subst c
            funext b
            by_cases q : b < 196 * i ∨ 196 * i + 195 ≤ b
            · exact m6 b q
            · obtain ⟨j, rfl⟩ : ∃ j, b = 196 * i + j := ⟨b - 196 * i, by omega⟩
              rw [m5 j (by omega), if_pos (by omega)]
          · exact m1 a ha c
        · rw [m4 j hj, if_pos hj, hF.1 83 (by omega)]
          exact g5 j hj
  · refine r_bad H ?_ (fun σ1 e1 => ?_)
    · unfold m_X7_from
      rw [ew_0_1, bd1_s, b01_z, if_neg c, bd2_id]
    · unfold m_X8_from
      rw [ei_0_1, bd1_s, b01_z, if_neg c, bd2_id]
