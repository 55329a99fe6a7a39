/-! ===== PURE: what a change elsewhere keeps; refusals ===== -/
theorem HS.keep {σ σ' : Sg} {h : Nat} (H : HS σ h) (hk : ∀ a, h < a → a < h + 15 → σ'.1 a = σ.1 a) : HS σ' h := by
  unfold HS RS at *
  rw [hk (h + 1) (by omega) (by omega), hk (h + 3) (by omega) (by omega), hk (h + 5) (by omega) (by omega), hk (h + 7) (by omega) (by omega), hk (h + 9) (by omega) (by omega), hk (h + 11) (by omega) (by omega), hk (h + 13) (by omega) (by omega)]
  exact H
theorem HV.keep {σ σ' : Sg} {h : Nat} {V : Vw} (H : HV σ h V) (hk : ∀ a, h ≤ a → a < h + 15 → σ'.1 a = σ.1 a) : HV σ' h V := by
  unfold HV PastRow at *
  rw [hk h (by omega) (by omega), hk (h + 1) (by omega) (by omega), hk (h + 2) (by omega) (by omega), hk (h + 3) (by omega) (by omega), hk (h + 4) (by omega) (by omega), hk (h + 6) (by omega) (by omega), hk (h + 7) (by omega) (by omega), hk (h + 8) (by omega) (by omega), hk (h + 9) (by omega) (by omega), hk (h + 10) (by omega) (by omega), hk (h + 11) (by omega) (by omega), hk (h + 12) (by omega) (by omega), hk (h + 13) (by omega) (by omega), hk (h + 14) (by omega) (by omega)]
  exact H
theorem Live.keep {σ σ' : Sg} {V : Vw} (H : Live σ V) (h68 : ∀ j, j ≠ 9 → j ≠ 10 → j ≠ 11 → σ'.1 68 j = σ.1 68 j) (hk : ∀ a, 70 ≤ a → a ≤ 74 → σ'.1 a = σ.1 a) (hk2 : ∀ a, 77 ≤ a → a ≤ 80 → σ'.1 a = σ.1 a) : Live σ' V := by
  unfold Live at *
  rw [h68 1 (by omega) (by omega) (by omega), h68 5 (by omega) (by omega) (by omega), h68 16 (by omega) (by omega) (by omega), h68 18 (by omega) (by omega) (by omega), h68 20 (by omega) (by omega) (by omega), h68 14 (by omega) (by omega) (by omega), hk 70 (by omega) (by omega), hk 71 (by omega) (by omega), hk 72 (by omega) (by omega), hk 73 (by omega) (by omega), hk 74 (by omega) (by omega), hk2 77 (by omega) (by omega), hk2 78 (by omega) (by omega), hk2 79 (by omega) (by omega), hk2 80 (by omega) (by omega)]
  exact H
theorem Img.keep {σ σ' : Sg} {i : Nat} (H : Img σ i) (h0 : σ'.1 0 (4 + i) = σ.1 0 (4 + i)) (h84 : σ'.1 84 i = σ.1 84 i) (h83 : σ'.1 83 = σ.1 83) (hk : ∀ a, 31 + 15 * i ≤ a → a < 31 + 15 * i + 15 → σ'.1 a = σ.1 a) : Img σ' i := by
  unfold Img at *
  rw [h0, h84, h83]
  rcases H with H | ⟨g1, g2, V, g3, g4, g5⟩
  · exact .inl H
  · exact .inr ⟨g1, g2, V, g3, g4.keep hk, g5⟩
theorem Txt.keep {σ σ' : Sg} (H : Txt σ) (h9 : σ'.1 68 9 = σ.1 68 9) (h62 : σ'.1 62 = σ.1 62) (h63 : σ'.1 63 = σ.1 63) (h75 : σ'.1 75 = σ.1 75) : Txt σ' := by
  unfold Txt RS at *
  rw [h9, h62, h63, h75]
  exact H
/-- the rows that hold what isn't the state of the house that stands: the rest is kept where these are -/
theorem Rest.keep {σ σ' : Sg} (H : Rest σ) (h0 : ∀ j, σ'.1 0 j = σ.1 0 j) (hk : ∀ a, 16 ≤ a → a ≤ 63 → a ≠ 61 → ¬ (16 ≤ a ∧ a < 31) → σ'.1 a = σ.1 a) (hd : HS σ 16 → HS σ' 16) (h65 : ∀ j, j < 2 → σ'.1 65 j = σ.1 65 j) (h9 : σ'.1 68 9 = σ.1 68 9) (h69 : σ'.1 69 = σ.1 69) (h75 : σ'.1 75 = σ.1 75) (h83 : σ'.1 83 = σ.1 83) (h84 : σ'.1 84 = σ.1 84) (hl : σ'.2 67 = σ.2 67 ∧ σ'.2 68 = σ.2 68) : Rest σ' := by
  obtain ⟨⟨a1, a2, a3, a4⟩, a5, a6, a7, a8, a9, a10⟩ := H
  refine ⟨⟨hd a1, a2.keep (fun a h1 h2 => hk a (by omega) (by omega) (by omega) (by omega)), a3.keep (fun a h1 h2 => hk a (by omega) (by omega) (by omega) (by omega)), a4.keep (h65 0 (by omega)) (h65 1 (by omega))⟩, a5.keep (h0 _) (by rw [h84]) h83 (fun a h1 h2 => hk a (by omega) (by omega) (by omega) (by omega)), a6.keep (h0 _) (by rw [h84]) h83 (fun a h1 h2 => hk a (by omega) (by omega) (by omega) (by omega)), a7.keep h9 (hk 62 (by omega) (by omega) (by omega) (by omega)) (hk 63 (by omega) (by omega) (by omega) (by omega)) h75, ?_, ?_, ?_⟩
  · rw [h0, h0, h0, h69]
    exact a8
  · rw [hl.1, hl.2]
    exact a9
  · rw [hl.1, hl.2]
    exact a10
theorem Core.keep {σ σ' : Sg} {V : Vw} (H : Core σ V) (hk1 : ∀ a, 1 ≤ a → a ≤ 15 → σ'.1 a = σ.1 a) (h68 : ∀ j, j ≠ 9 → j ≠ 10 → j ≠ 11 → σ'.1 68 j = σ.1 68 j) (hk : ∀ a, 70 ≤ a → a ≤ 74 → σ'.1 a = σ.1 a) (hk2 : ∀ a, 77 ≤ a → a ≤ 80 → σ'.1 a = σ.1 a) : Core σ' V :=
  ⟨H.1, H.2.1.keep (fun a h1 h2 => hk1 a (by omega) (by omega)), H.2.2.1.keep (fun a h1 h2 => hk1 a (by omega) (by omega)), H.2.2.2.keep h68 hk hk2⟩
/-- a refusal on both sides -/
theorem Rel.ref {σ : Sg} (H : Rel σ) (c : Nat) (hc : c < 3) : Rel (si (si σ 0 (9 + c) (σ.1 0 (9 + c) + 1)) 69 c (σ.1 69 c + 1)) := by
  obtain ⟨⟨⟨a1, a2, a3, a4⟩, a5, a6, a7, a8, a9, a10⟩, V, HC⟩ := H
  have hr : ∀ a, a ≠ 0 → a ≠ 69 → (si (si σ 0 (9 + c) (σ.1 0 (9 + c) + 1)) 69 c (σ.1 69 c + 1)).1 a = σ.1 a := fun a h1 h2 => by
    rw [si_row _ _ _ _ h2, si_row _ _ _ _ h1]
  have h0 : ∀ j, j ≠ 9 + c → (si (si σ 0 (9 + c) (σ.1 0 (9 + c) + 1)) 69 c (σ.1 69 c + 1)).1 0 j = σ.1 0 j := fun j h1 => by
    rw [si_row _ _ _ _ (by omega), si_off' _ _ _ _ _ h1]
  refine ⟨⟨⟨a1.keep (fun a h1 h2 => hr a (by omega) (by omega)), a2.keep (fun a h1 h2 => hr a (by omega) (by omega)), a3.keep (fun a h1 h2 => hr a (by omega) (by omega)), a4.keep (by rw [hr 65 (by omega) (by omega)]) (by rw [hr 65 (by omega) (by omega)])⟩, a5.keep (h0 _ (by omega)) (by rw [hr 84 (by omega) (by omega)]) (hr 83 (by omega) (by omega)) (fun a h1 h2 => hr a (by omega) (by omega)), a6.keep (h0 _ (by omega)) (by rw [hr 84 (by omega) (by omega)]) (hr 83 (by omega) (by omega)) (fun a h1 h2 => hr a (by omega) (by omega)), a7.keep (by rw [hr 68 (by omega) (by omega)]) (hr 62 (by omega) (by omega)) (hr 63 (by omega) (by omega)) (hr 75 (by omega) (by omega)), ?_, a9, a10⟩, V, HC.keep (fun a h1 h2 => hr a (by omega) (by omega)) (fun j _ _ _ => by rw [hr 68 (by omega) (by omega)]) (fun a h1 h2 => hr a (by omega) (by omega)) (fun a h1 h2 => hr a (by omega) (by omega))⟩
  have e0 : ∀ j x, (si (si σ 0 (9 + c) x) 69 c (σ.1 69 c + 1)).1 0 j = if j = 9 + c then x else σ.1 0 j := fun j x => by
    rw [si_row _ _ _ _ (by omega), si_1]
    simp
  have e69 : ∀ j x y, (si (si σ 0 (9 + c) x) 69 c y).1 69 j = if j = c then y else σ.1 69 j := fun j x y => by
    rw [si_1, si_row _ _ _ _ (by omega)]
    simp
  rw [e0, e0, e0, e69, e69, e69]
  obtain ⟨b1, b2, b3⟩ := a8
  rcases (show c = 0 ∨ c = 1 ∨ c = 2 by omega) with rfl | rfl | rfl
  · simp [b1, b2, b3]
  · simp [b1, b2, b3]
  · simp [b1, b2, b3]
theorem x_bad (σ : Sg) : m_X7_refuseBad σ = some (-2, si σ 0 9 (σ.1 0 9 + 1)) := rfl
theorem x_no (σ : Sg) : m_X7_refuseNo σ = some (-3, si σ 0 10 (σ.1 0 10 + 1)) := rfl
theorem x_full (σ : Sg) : m_X7_refuseFull σ = some (-4, si σ 0 11 (σ.1 0 11 + 1)) := rfl
theorem y_bad (σ : Sg) : m_X8_bad σ = some (-2, si σ 69 0 (σ.1 69 0 + 1)) := by simp [m_X8_bad, ln_69, nm]
theorem y_no (σ : Sg) : m_X8_no σ = some (-3, si σ 69 1 (σ.1 69 1 + 1)) := by simp [m_X8_no, ln_69, nm]
theorem y_full (σ : Sg) : m_X8_full σ = some (-4, si σ 69 2 (σ.1 69 2 + 1)) := by simp [m_X8_full, ln_69, nm]
/-- both refuse -/
theorem r_bad {σ : Sg} (H : Rel σ) {A B : Sg → Option (Int32 × Sg)} (hA : A σ = m_X7_refuseBad σ) (hB : ∀ σ1, σ1 = si σ 0 9 (σ.1 0 9 + 1) → B σ1 = m_X8_bad σ1) : ∃ (r : Int32) (σ1 : Sg) (σ2 : Sg), A σ = some (r, σ1) ∧ B σ1 = some (r, σ2) ∧ Rel σ2 :=
  ⟨-2, si σ 0 9 (σ.1 0 9 + 1), _, by rw [hA, x_bad], by rw [hB _ rfl, y_bad], by
    have := H.ref 0 (by omega)
    rw [si_row _ _ _ _ (show 69 ≠ 0 by omega)]
    exact this⟩
theorem r_no {σ : Sg} (H : Rel σ) {A B : Sg → Option (Int32 × Sg)} (hA : A σ = m_X7_refuseNo σ) (hB : ∀ σ1, σ1 = si σ 0 10 (σ.1 0 10 + 1) → B σ1 = m_X8_no σ1) : ∃ (r : Int32) (σ1 : Sg) (σ2 : Sg), A σ = some (r, σ1) ∧ B σ1 = some (r, σ2) ∧ Rel σ2 :=
  ⟨-3, si σ 0 10 (σ.1 0 10 + 1), _, by rw [hA, x_no], by rw [hB _ rfl, y_no], by
    have := H.ref 1 (by omega)
    rw [si_row _ _ _ _ (show 69 ≠ 0 by omega)]
    exact this⟩
theorem r_full {σ : Sg} (H : Rel σ) {A B : Sg → Option (Int32 × Sg)} (hA : A σ = m_X7_refuseFull σ) (hB : ∀ σ1, σ1 = si σ 0 11 (σ.1 0 11 + 1) → B σ1 = m_X8_full σ1) : ∃ (r : Int32) (σ1 : Sg) (σ2 : Sg), A σ = some (r, σ1) ∧ B σ1 = some (r, σ2) ∧ Rel σ2 :=
  ⟨-4, si σ 0 11 (σ.1 0 11 + 1), _, by rw [hA, x_full], by rw [hB _ rfl, y_full], by
    have := H.ref 2 (by omega)
    rw [si_row _ _ _ _ (show 69 ≠ 0 by omega)]
    exact this⟩
