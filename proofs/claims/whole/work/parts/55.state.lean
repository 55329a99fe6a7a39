/-! ===== PURE: changes of a house, of the model's cells ===== -/
abbrev vu (V : Vw) (j : Nat) (x : Int32) : Vw := fun k => if k = j then x else V k
theorem vu_at (V : Vw) (j : Nat) (x : Int32) : vu V j x j = x := if_pos rfl
theorem vu_off (V : Vw) {j k : Nat} (x : Int32) (h : k ≠ j) : vu V j x k = V k := if_neg h
/-- where a house keeps what the view has at j -/
def ro (j : Nat) : Nat :=
  if j = 0 then 1 else if j = 1 then 3 else if j = 2 then 7 else if j = 3 then 9 else if j = 4 then 11 else if j = 5 then 13 else if j < 30 then 2 else if j < 33 then 4 else if j = 33 then 0 else if j < 38 then 6 else if j < 44 then 4 else if j < 59 then 8 else if j < 83 then 10 else if j < 107 then 12 else 14
def co (j : Nat) : Nat :=
  if j < 6 then 3 else if j < 14 then (j - 6) * 3 else if j < 22 then (j - 14) * 3 + 1 else if j < 30 then (j - 22) * 3 + 2 else if j < 33 then (j - 30) * 3 else if j = 33 then 0 else if j < 38 then j - 34 else if j < 41 then (j - 38) * 3 + 1 else if j < 44 then (j - 41) * 3 + 2 else if j < 59 then j - 44 else if j < 83 then j - 59 else if j < 107 then j - 83 else j - 107
/-- is it kept one greater -/
def gr (j : Nat) : Bool := (34 ≤ j && j < 38) || (107 ≤ j && 1 ≤ (j - 107) % 11 && (j - 107) % 11 < 5)
def tr (j : Nat) (x : Int32) : Int32 := if gr j = true then x + 1 else x
def lv (s l t n m p j : Nat) : Prop :=
  j < 6 ∨ (6 ≤ j ∧ j < 6 + s ∧ j < 14) ∨ (14 ≤ j ∧ j < 14 + s ∧ j < 22) ∨ (22 ≤ j ∧ j < 22 + s ∧ j < 30) ∨ (30 ≤ j ∧ j < 30 + l ∧ j < 33) ∨ (33 ≤ j ∧ j < 38) ∨ (38 ≤ j ∧ j < 38 + l ∧ j < 41) ∨ (41 ≤ j ∧ j < 41 + l ∧ j < 44) ∨ (44 ≤ j ∧ j < 44 + t * 3 ∧ j < 59) ∨ (59 ≤ j ∧ j < 59 + n * 4 ∧ j < 83) ∨ (83 ≤ j ∧ j < 83 + m * 4 ∧ j < 107) ∨ (107 ≤ j ∧ j < 107 + p * 11 ∧ j < 195 ∧ ((j - 107) % 11 < 5 + l ∨ (8 ≤ (j - 107) % 11 ∧ (j - 107) % 11 < 8 + l)))
abbrev lvV (V : Vw) (j : Nat) : Prop := lv (nS V) (nL V) (nT V) (nN V) (nM V) (nP V) j
def HW (σ : Sg) (h : Nat) (L : Nat → Prop) (V : Vw) : Prop := ∀ j, j < 195 → L j → σ.1 (h + ro j) (co j) = tr j (V j)
theorem ro_lt : ∀ j, j < 195 → ro j < 15 := by decide +kernel
theorem ro_inj : ∀ j, j < 195 → ∀ k, k < 195 → ro k = ro j → co k = co j → k = j := by decide +kernel
theorem ro_odd : ∀ j, j < 195 → ro j % 2 = 1 → co j = 3 := by decide +kernel
theorem a_kind : ∀ s, s < 8 → ro (6 + s) = 2 ∧ co (6 + s) = s * 3 + 0 ∧ gr (6 + s) = false := by decide +kernel
theorem a_spot : ∀ s, s < 8 → ro (14 + s) = 2 ∧ co (14 + s) = s * 3 + 1 ∧ gr (14 + s) = false := by decide +kernel
theorem a_force : ∀ s, s < 8 → ro (22 + s) = 2 ∧ co (22 + s) = s * 3 + 2 ∧ gr (22 + s) = false := by decide +kernel
theorem a_sort : ∀ s, s < 3 → ro (30 + s) = 4 ∧ co (30 + s) = s * 3 + 0 ∧ gr (30 + s) = false := by decide +kernel
theorem a_since : ∀ s, s < 4 → ro (34 + s) = 6 ∧ co (34 + s) = s * 1 + 0 ∧ gr (34 + s) = true := by decide +kernel
theorem a_at : ∀ s, s < 3 → ro (38 + s) = 4 ∧ co (38 + s) = s * 3 + 1 ∧ gr (38 + s) = false := by decide +kernel
theorem a_know : ∀ s, s < 3 → ro (41 + s) = 4 ∧ co (41 + s) = s * 3 + 2 ∧ gr (41 + s) = false := by decide +kernel
theorem a_told : ∀ s, s < 15 → ro (44 + s) = 8 ∧ co (44 + s) = s ∧ gr (44 + s) = false := by decide +kernel
theorem a_note : ∀ s, s < 24 → ro (59 + s) = 10 ∧ co (59 + s) = s ∧ gr (59 + s) = false := by decide +kernel
theorem a_mark : ∀ s, s < 24 → ro (83 + s) = 12 ∧ co (83 + s) = s ∧ gr (83 + s) = false := by decide +kernel
theorem a_undo : ∀ s, s < 88 → ro (107 + s) = 14 ∧ co (107 + s) = s ∧ gr (107 + s) = (1 ≤ s % 11 && s % 11 < 5 : Bool) := by decide +kernel
theorem tr_f {j : Nat} {x : Int32} (h : gr j = false) : tr j x = x := by
  unfold tr
  rw [h]
  rfl
theorem tr_t {j : Nat} {x : Int32} (h : gr j = true) : tr j x = x + 1 := by
  unfold tr
  rw [h]
  rfl
theorem HV_HW {σ : Sg} {h : Nat} {V : Vw} (H : HV σ h V) : HW σ h (lvV V) V := by
  obtain ⟨⟨b0, b1, b2, b3, b4, b5, b6⟩, h1, h2, h3, h4, h5, h6, h7⟩ := H
  intro j hj hl
  rcases hl with q | ⟨q1, q2, q3⟩ | ⟨q1, q2, q3⟩ | ⟨q1, q2, q3⟩ | ⟨q1, q2, q3⟩ | q | ⟨q1, q2, q3⟩ | ⟨q1, q2, q3⟩ | ⟨q1, q2, q3⟩ | ⟨q1, q2, q3⟩ | ⟨q1, q2, q3⟩ | ⟨q1, q2, q3, q4⟩
  · rcases (show j = 0 ∨ j = 1 ∨ j = 2 ∨ j = 3 ∨ j = 4 ∨ j = 5 by omega) with rfl | rfl | rfl | rfl | rfl | rfl
    · exact b0
    · exact b1
    · exact b2
    · exact b3
    · exact b4
    · exact b5
  · obtain ⟨s, rfl⟩ : ∃ s, j = 6 + s := ⟨j - 6, by omega⟩
    obtain ⟨e1, e2, e3⟩ := a_kind s (by omega)
    rw [e1, e2, tr_f e3]
    exact (h1 s (by omega)).1
  · obtain ⟨s, rfl⟩ : ∃ s, j = 14 + s := ⟨j - 14, by omega⟩
    obtain ⟨e1, e2, e3⟩ := a_spot s (by omega)
    rw [e1, e2, tr_f e3]
    exact (h1 s (by omega)).2.1
  · obtain ⟨s, rfl⟩ : ∃ s, j = 22 + s := ⟨j - 22, by omega⟩
    obtain ⟨e1, e2, e3⟩ := a_force s (by omega)
    rw [e1, e2, tr_f e3]
    exact (h1 s (by omega)).2.2
  · obtain ⟨s, rfl⟩ : ∃ s, j = 30 + s := ⟨j - 30, by omega⟩
    obtain ⟨e1, e2, e3⟩ := a_sort s (by omega)
    rw [e1, e2, tr_f e3]
    exact (h2 s (by omega)).1
  · by_cases c : j = 33
    · subst c
      exact b6
    · obtain ⟨s, rfl⟩ : ∃ s, j = 34 + s := ⟨j - 34, by omega⟩
      obtain ⟨e1, e2, e3⟩ := a_since s (by omega)
      rw [e1, e2, tr_t e3]
      exact h3 s (by omega)
  · obtain ⟨s, rfl⟩ : ∃ s, j = 38 + s := ⟨j - 38, by omega⟩
    obtain ⟨e1, e2, e3⟩ := a_at s (by omega)
    rw [e1, e2, tr_f e3]
    exact (h2 s (by omega)).2.1
  · obtain ⟨s, rfl⟩ : ∃ s, j = 41 + s := ⟨j - 41, by omega⟩
    obtain ⟨e1, e2, e3⟩ := a_know s (by omega)
    rw [e1, e2, tr_f e3]
    exact (h2 s (by omega)).2.2
  · obtain ⟨s, rfl⟩ : ∃ s, j = 44 + s := ⟨j - 44, by omega⟩
    obtain ⟨e1, e2, e3⟩ := a_told s (by omega)
    rw [e1, e2, tr_f e3]
    exact h4 s (by omega)
  · obtain ⟨s, rfl⟩ : ∃ s, j = 59 + s := ⟨j - 59, by omega⟩
    obtain ⟨e1, e2, e3⟩ := a_note s (by omega)
    rw [e1, e2, tr_f e3]
    exact h5 s (by omega)
  · obtain ⟨s, rfl⟩ : ∃ s, j = 83 + s := ⟨j - 83, by omega⟩
    obtain ⟨e1, e2, e3⟩ := a_mark s (by omega)
    rw [e1, e2, tr_f e3]
    exact h6 s (by omega)
  · obtain ⟨s, rfl⟩ : ∃ s, j = 107 + s := ⟨j - 107, by omega⟩
    obtain ⟨e1, e2, e3⟩ := a_undo s (by omega)
    obtain ⟨g0, g1, g2⟩ := h7 (s / 11) (by omega)
    rw [e1, e2]
    have hs : s = s / 11 * 11 + s % 11 := by omega
    rcases (show s % 11 = 0 ∨ (1 ≤ s % 11 ∧ s % 11 < 5) ∨ (5 ≤ s % 11 ∧ s % 11 < 5 + nL V ∧ s % 11 < 8) ∨ (8 ≤ s % 11 ∧ s % 11 < 8 + nL V) by omega) with c | c | c | c
    · rw [c] at hs
      rw [tr_f (by rw [e3, c]; rfl), hs]
      exact g0
    · rw [tr_t (by rw [e3]; simp [c.1, c.2])]
      have g := g1 (s % 11 - 1) (by omega)
      rw [show 1 + (s % 11 - 1) = s % 11 by omega, ← hs] at g
      exact g
    · rw [tr_f (by rw [e3]; have : ¬ s % 11 < 5 := by omega
                   simp [this])]
      have g := (g2 (s % 11 - 5) (by omega)).1
      rw [show 5 + (s % 11 - 5) = s % 11 by omega, ← hs] at g
      exact g
    · rw [tr_f (by rw [e3]; have : ¬ s % 11 < 5 := by omega
                   simp [this])]
      have g := (g2 (s % 11 - 8) (by omega)).2
      rw [show 8 + (s % 11 - 8) = s % 11 by omega, ← hs] at g
      exact g
theorem HW_HV {σ : Sg} {h : Nat} {V : Vw} (hs : nS V ≤ 8) (hl : nL V ≤ 3) (ht : nT V ≤ 5) (hn : nN V ≤ 6) (hm : nM V ≤ 6) (hp : nP V ≤ 8) (H : HW σ h (lvV V) V) : HV σ h V := by
  have U : ∀ j, j < 195 → lvV V j → ∀ a b, ro j = a → co j = b → gr j = false → σ.1 (h + a) b = V j := fun j h1 h2 a b h3 h4 h5 => by
    have := H j h1 h2
    rw [tr_f h5, h3, h4] at this
    exact this
  have U1 : ∀ j, j < 195 → lvV V j → ∀ a b, ro j = a → co j = b → gr j = true → σ.1 (h + a) b = V j + 1 := fun j h1 h2 a b h3 h4 h5 => by
    have := H j h1 h2
    rw [tr_t h5, h3, h4] at this
    exact this
  refine ⟨⟨U 0 (by omega) (.inl (by omega)) 1 3 rfl rfl rfl, U 1 (by omega) (.inl (by omega)) 3 3 rfl rfl rfl, U 2 (by omega) (.inl (by omega)) 7 3 rfl rfl rfl, U 3 (by omega) (.inl (by omega)) 9 3 rfl rfl rfl, U 4 (by omega) (.inl (by omega)) 11 3 rfl rfl rfl, U 5 (by omega) (.inl (by omega)) 13 3 rfl rfl rfl, U 33 (by omega) (by unfold lvV lv; omega) 0 0 rfl rfl rfl⟩, ?_, ?_, ?_, ?_, ?_, ?_, ?_⟩
  · intro s hs
    obtain ⟨e1, e2, e3⟩ := a_kind s (by omega)
    obtain ⟨f1, f2, f3⟩ := a_spot s (by omega)
    obtain ⟨g1, g2, g3⟩ := a_force s (by omega)
    exact ⟨U _ (by omega) (by unfold lvV lv; omega) _ _ e1 e2 e3, U _ (by omega) (by unfold lvV lv; omega) _ _ f1 f2 f3, U _ (by omega) (by unfold lvV lv; omega) _ _ g1 g2 g3⟩
  · intro s hs
    obtain ⟨e1, e2, e3⟩ := a_sort s (by omega)
    obtain ⟨f1, f2, f3⟩ := a_at s (by omega)
    obtain ⟨g1, g2, g3⟩ := a_know s (by omega)
    exact ⟨U _ (by omega) (by unfold lvV lv; omega) _ _ e1 e2 e3, U _ (by omega) (by unfold lvV lv; omega) _ _ f1 f2 f3, U _ (by omega) (by unfold lvV lv; omega) _ _ g1 g2 g3⟩
  · intro s hs
    obtain ⟨e1, e2, e3⟩ := a_since s (by omega)
    exact U1 _ (by omega) (by unfold lvV lv; omega) _ _ e1 e2 e3
  · intro s hs
    obtain ⟨e1, e2, e3⟩ := a_told s (by omega)
    exact U _ (by omega) (by unfold lvV lv; omega) _ _ e1 e2 e3
  · intro s hs
    obtain ⟨e1, e2, e3⟩ := a_note s (by omega)
    exact U _ (by omega) (by unfold lvV lv; omega) _ _ e1 e2 e3
  · intro s hs
    obtain ⟨e1, e2, e3⟩ := a_mark s (by omega)
    exact U _ (by omega) (by unfold lvV lv; omega) _ _ e1 e2 e3
  · intro k hk
    refine ⟨?_, fun r hr => ?_, fun i hi => ⟨?_, ?_⟩⟩
    · obtain ⟨e1, e2, e3⟩ := a_undo (k * 11 + 0) (by omega)
      exact U _ (by omega) (by unfold lvV lv; omega) _ _ e1 e2 (by rw [e3]; rw [show (k * 11 + 0) % 11 = 0 by omega]; rfl)
    · obtain ⟨e1, e2, e3⟩ := a_undo (k * 11 + (1 + r)) (by omega)
      exact U1 _ (by omega) (by unfold lvV lv; omega) _ _ e1 e2 (by rw [e3]; rw [show (k * 11 + (1 + r)) % 11 = 1 + r by omega]; have : 1 + r < 5 := by omega
                                                                    simp [this])
    · obtain ⟨e1, e2, e3⟩ := a_undo (k * 11 + (5 + i)) (by omega)
      exact U _ (by omega) (by unfold lvV lv; omega) _ _ e1 e2 (by rw [e3]; rw [show (k * 11 + (5 + i)) % 11 = 5 + i by omega]; have : ¬ 5 + i < 5 := by omega
                                                                   simp [this])
    · obtain ⟨e1, e2, e3⟩ := a_undo (k * 11 + (8 + i)) (by omega)
      exact U _ (by omega) (by unfold lvV lv; omega) _ _ e1 e2 (by rw [e3]; rw [show (k * 11 + (8 + i)) % 11 = 8 + i by omega]; have : ¬ 8 + i < 5 := by omega
                                                                   simp [this])
theorem HW.set {σ : Sg} {h : Nat} {L : Nat → Prop} {V : Vw} (H : HW σ h L V) {j : Nat} (hj : j < 195) {x y : Int32} (hy : y = tr j x) : HW (si σ (h + ro j) (co j) y) h (fun k => L k ∨ k = j) (vu V j x) := by
  intro k hk hl
  rw [si_1]
  by_cases c : k = j
  · subst c
    rw [if_pos ⟨rfl, rfl⟩, vu_at, hy]
  · rw [if_neg (fun q => c (ro_inj j hj k hk (by omega) q.2)), vu_off _ _ c]
    exact H k hk (hl.resolve_right c)
theorem HS.set {σ : Sg} {h : Nat} (H : HS σ h) {j : Nat} (hj : j < 195) (y : Int32) : HS (si σ (h + ro j) (co j) y) h := by
  have K : ∀ d c, d % 2 = 1 → c < 2 → (si σ (h + ro j) (co j) y).1 (h + d) c = σ.1 (h + d) c := fun d c hd hc => by
    rw [si_1, if_neg]
    intro q
    have := ro_odd j hj (by omega)
    omega
  unfold HS RS at *
  rw [K 1 0 rfl (by omega), K 1 1 rfl (by omega), K 3 0 rfl (by omega), K 3 1 rfl (by omega), K 5 0 rfl (by omega), K 5 1 rfl (by omega), K 7 0 rfl (by omega), K 7 1 rfl (by omega), K 9 0 rfl (by omega), K 9 1 rfl (by omega), K 11 0 rfl (by omega), K 11 1 rfl (by omega), K 13 0 rfl (by omega), K 13 1 rfl (by omega)]
  exact H
/-- nothing but the house at h is another -/
def HF (h : Nat) (σ σ' : Sg) : Prop := (∀ a, a < h ∨ h + 15 ≤ a → σ'.1 a = σ.1 a) ∧ σ'.2 = σ.2
theorem HF.rfl' (h : Nat) (σ : Sg) : HF h σ σ := ⟨fun _ _ => rfl, rfl⟩
theorem HF.trans {h : Nat} {σ σ' σ'' : Sg} (H : HF h σ σ') (H' : HF h σ' σ'') : HF h σ σ'' := ⟨fun a ha => (H'.1 a ha).trans (H.1 a ha), H'.2.trans H.2⟩
theorem HF.set {h : Nat} {σ σ' : Sg} (H : HF h σ σ') {a : Nat} (ha : h ≤ a) (ha' : a < h + 15) (b : Nat) (x : Int32) : HF h σ (si σ' a b x) :=
  ⟨fun k hk => (si_row _ _ _ _ (by omega)).trans (H.1 k hk), H.2⟩
/-- a house on its way -/
def HX (h : Nat) (σ0 σ : Sg) (L : Nat → Prop) (V : Vw) : Prop := HF h σ0 σ ∧ HS σ h ∧ HW σ h L V
theorem HX.set {h : Nat} {σ0 σ : Sg} {L : Nat → Prop} {V : Vw} (H : HX h σ0 σ L V) (j : Nat) (hj : j < 195) {a b : Nat} {x y : Int32} (ha : a = h + ro j) (hb : b = co j) (hy : y = tr j x) : HX h σ0 (si σ a b y) (fun k => L k ∨ k = j) (vu V j x) := by
  subst ha hb
  exact ⟨H.1.set (by omega) (by have := ro_lt j hj; omega) _ _, H.2.1.set hj _, H.2.2.set hj hy⟩
theorem HX.out {h : Nat} {σ0 σ : Sg} {L L' : Nat → Prop} {V V' : Vw} (H : HX h σ0 σ L V) (hL : ∀ k, k < 195 → L' k → L k) (hV : ∀ k, k < 195 → L' k → V' k = V k) : HX h σ0 σ L' V' :=
  ⟨H.1, H.2.1, fun j hj hl => by rw [hV j hj hl]; exact H.2.2 j hj (hL j hj hl)⟩
theorem HX.of {σ : Sg} {h : Nat} {V : Vw} (S : HS σ h) (H : HV σ h V) : HX h σ σ (lvV V) V := ⟨HF.rfl' _ _, S, HV_HW H⟩
/-- a house after: σ' from σ, with the view -/
def HT (h : Nat) (σ σ' : Sg) (V : Vw) : Prop := HF h σ σ' ∧ HS σ' h ∧ HV σ' h V
theorem HX.done {h : Nat} {σ0 σ : Sg} {V : Vw} {B : Nat} (ok : VOK V B) (H : HX h σ0 σ (lvV V) V) : HT h σ0 σ V := by
  obtain ⟨b0, b1, b2, b3, b4, b5, _⟩ := ok
  exact ⟨H.1, H.2.1, HW_HV b0.2 b1.2 b2.2 b3.2 b4.2 b5.2 H.2.2⟩
theorem HT.trans {h : Nat} {σ σ' σ'' : Sg} {V V' : Vw} (H : HT h σ σ' V) (H' : HT h σ' σ'' V') : HT h σ σ'' V' := ⟨H.1.trans H'.1, H'.2⟩
theorem HT.of {σ : Sg} {h : Nat} {V : Vw} (S : HS σ h) (H : HV σ h V) : HT h σ σ V := ⟨HF.rfl' _ _, S, H⟩
theorem HT.X {h : Nat} {σ0 σ : Sg} {V : Vw} (H : HT h σ0 σ V) : HX h σ0 σ (lvV V) V := ⟨H.1, H.2.1, HV_HW H.2.2⟩
-- the model's cells
def mr (j : Nat) : Nat := if j < 6 then 68 else if j < 14 then 70 else if j < 22 then 71 else if j < 30 then 72 else if j < 33 then 73 else if j < 44 then 74 else if j < 59 then 78 else if j < 83 then 79 else if j < 107 then 80 else 77
def mc (j : Nat) : Nat := if j = 0 then 1 else if j = 1 then 5 else if j = 2 then 16 else if j = 3 then 18 else if j = 4 then 20 else if j = 5 then 14 else if j < 14 then j - 6 else if j < 22 then j - 14 else if j < 30 then j - 22 else if j < 33 then j - 30 else if j < 44 then j - 33 else if j < 59 then j - 44 else if j < 83 then j - 59 else if j < 107 then j - 83 else j - 107
theorem mr_inj : ∀ j, j < 195 → ∀ k, k < 195 → mr k = mr j → mc k = mc j → k = j := by decide +kernel
theorem mr_in : ∀ j, j < 195 → mr j = 68 ∨ (70 ≤ mr j ∧ mr j ≤ 74) ∨ (77 ≤ mr j ∧ mr j ≤ 80) := by decide +kernel
theorem mc_68 : ∀ j, j < 195 → mr j = 68 → mc j ≠ 9 ∧ mc j ≠ 10 ∧ mc j ≠ 11 := by decide +kernel
theorem m_kind : ∀ s, s < 8 → mr (6 + s) = 70 ∧ mc (6 + s) = s := by decide +kernel
theorem m_spot : ∀ s, s < 8 → mr (14 + s) = 71 ∧ mc (14 + s) = s := by decide +kernel
theorem m_force : ∀ s, s < 8 → mr (22 + s) = 72 ∧ mc (22 + s) = s := by decide +kernel
theorem m_sort : ∀ s, s < 3 → mr (30 + s) = 73 ∧ mc (30 + s) = s := by decide +kernel
theorem m_now : ∀ s, s < 11 → mr (33 + s) = 74 ∧ mc (33 + s) = s := by decide +kernel
theorem m_told : ∀ s, s < 15 → mr (44 + s) = 78 ∧ mc (44 + s) = s := by decide +kernel
theorem m_note : ∀ s, s < 24 → mr (59 + s) = 79 ∧ mc (59 + s) = s := by decide +kernel
theorem m_mark : ∀ s, s < 24 → mr (83 + s) = 80 ∧ mc (83 + s) = s := by decide +kernel
theorem m_undo : ∀ s, s < 88 → mr (107 + s) = 77 ∧ mc (107 + s) = s := by decide +kernel
def LW (σ : Sg) (V : Vw) : Prop := ∀ j, j < 195 → σ.1 (mr j) (mc j) = V j
theorem Live_LW {σ : Sg} {V : Vw} (H : Live σ V) : LW σ V := by
  obtain ⟨⟨b0, b1, b2, b3, b4, b5⟩, h1, h2, h3, h4, h5, h6, h7, h8, h9⟩ := H
  intro j hj
  rcases (show j < 6 ∨ (6 ≤ j ∧ j < 14) ∨ (14 ≤ j ∧ j < 22) ∨ (22 ≤ j ∧ j < 30) ∨ (30 ≤ j ∧ j < 33) ∨ (33 ≤ j ∧ j < 44) ∨ (44 ≤ j ∧ j < 59) ∨ (59 ≤ j ∧ j < 83) ∨ (83 ≤ j ∧ j < 107) ∨ 107 ≤ j by omega) with q | q | q | q | q | q | q | q | q | q
  · rcases (show j = 0 ∨ j = 1 ∨ j = 2 ∨ j = 3 ∨ j = 4 ∨ j = 5 by omega) with rfl | rfl | rfl | rfl | rfl | rfl
    · exact b0
    · exact b1
    · exact b2
    · exact b3
    · exact b4
    · exact b5
  · obtain ⟨s, rfl⟩ : ∃ s, j = 6 + s := ⟨j - 6, by omega⟩
    rw [(m_kind s (by omega)).1, (m_kind s (by omega)).2]
    exact h1 s (by omega)
  · obtain ⟨s, rfl⟩ : ∃ s, j = 14 + s := ⟨j - 14, by omega⟩
    rw [(m_spot s (by omega)).1, (m_spot s (by omega)).2]
    exact h2 s (by omega)
  · obtain ⟨s, rfl⟩ : ∃ s, j = 22 + s := ⟨j - 22, by omega⟩
    rw [(m_force s (by omega)).1, (m_force s (by omega)).2]
    exact h3 s (by omega)
  · obtain ⟨s, rfl⟩ : ∃ s, j = 30 + s := ⟨j - 30, by omega⟩
    rw [(m_sort s (by omega)).1, (m_sort s (by omega)).2]
    exact h4 s (by omega)
  · obtain ⟨s, rfl⟩ : ∃ s, j = 33 + s := ⟨j - 33, by omega⟩
    rw [(m_now s (by omega)).1, (m_now s (by omega)).2]
    exact h5 s (by omega)
  · obtain ⟨s, rfl⟩ : ∃ s, j = 44 + s := ⟨j - 44, by omega⟩
    rw [(m_told s (by omega)).1, (m_told s (by omega)).2]
    exact h6 s (by omega)
  · obtain ⟨s, rfl⟩ : ∃ s, j = 59 + s := ⟨j - 59, by omega⟩
    rw [(m_note s (by omega)).1, (m_note s (by omega)).2]
    exact h7 s (by omega)
  · obtain ⟨s, rfl⟩ : ∃ s, j = 83 + s := ⟨j - 83, by omega⟩
    rw [(m_mark s (by omega)).1, (m_mark s (by omega)).2]
    exact h8 s (by omega)
  · obtain ⟨s, rfl⟩ : ∃ s, j = 107 + s := ⟨j - 107, by omega⟩
    rw [(m_undo s (by omega)).1, (m_undo s (by omega)).2]
    exact h9 s (by omega)
theorem LW_Live {σ : Sg} {V : Vw} (H : LW σ V) : Live σ V := by
  have U : ∀ j, j < 195 → ∀ a b, mr j = a ∧ mc j = b → σ.1 a b = V j := fun j hj a b h => by
    rw [← h.1, ← h.2]
    exact H j hj
  exact ⟨⟨U 0 (by omega) _ _ ⟨rfl, rfl⟩, U 1 (by omega) _ _ ⟨rfl, rfl⟩, U 2 (by omega) _ _ ⟨rfl, rfl⟩, U 3 (by omega) _ _ ⟨rfl, rfl⟩, U 4 (by omega) _ _ ⟨rfl, rfl⟩, U 5 (by omega) _ _ ⟨rfl, rfl⟩⟩, fun s hs => U _ (by omega) _ _ (m_kind s hs), fun s hs => U _ (by omega) _ _ (m_spot s hs), fun s hs => U _ (by omega) _ _ (m_force s hs), fun s hs => U _ (by omega) _ _ (m_sort s hs), fun s hs => U _ (by omega) _ _ (m_now s hs), fun s hs => U _ (by omega) _ _ (m_told s hs), fun s hs => U _ (by omega) _ _ (m_note s hs), fun s hs => U _ (by omega) _ _ (m_mark s hs), fun s hs => U _ (by omega) _ _ (m_undo s hs)⟩
/-- nothing but the model's live cells is another -/
def MF (σ σ' : Sg) : Prop := (∀ a, ¬ (a = 68 ∨ (70 ≤ a ∧ a ≤ 74) ∨ (77 ≤ a ∧ a ≤ 80)) → σ'.1 a = σ.1 a) ∧ (∀ b, b = 9 ∨ b = 10 ∨ b = 11 → σ'.1 68 b = σ.1 68 b) ∧ σ'.2 = σ.2
theorem MF.rfl' (σ : Sg) : MF σ σ := ⟨fun _ _ => rfl, fun _ _ => rfl, rfl⟩
theorem MF.trans {σ σ' σ'' : Sg} (H : MF σ σ') (H' : MF σ' σ'') : MF σ σ'' := ⟨fun a ha => (H'.1 a ha).trans (H.1 a ha), fun a ha => (H'.2.1 a ha).trans (H.2.1 a ha), H'.2.2.trans H.2.2⟩
def LX (σ0 σ : Sg) (V : Vw) : Prop := MF σ0 σ ∧ Live σ V
theorem LX.of {σ : Sg} {V : Vw} (H : Live σ V) : LX σ σ V := ⟨MF.rfl' _, H⟩
theorem LX.set {σ0 σ : Sg} {V : Vw} (H : LX σ0 σ V) (j : Nat) (hj : j < 195) {a b : Nat} {x : Int32} (ha : mr j = a) (hb : mc j = b) : LX σ0 (si σ a b x) (vu V j x) := by
  subst ha hb
  refine ⟨⟨fun a ha => ?_, fun b hb => ?_, H.1.2.2⟩, LW_Live (fun k hk => ?_)⟩
  · rw [si_row]
    · exact H.1.1 a ha
    · have := mr_in j hj
      omega
  · rw [si_1, if_neg]
    · exact H.1.2.1 b hb
    · intro q
      have := mc_68 j hj q.1.symm
      omega
  · rw [si_1]
    by_cases c : k = j
    · subst c
      rw [if_pos ⟨rfl, rfl⟩, vu_at]
    · rw [if_neg (fun q => c (mr_inj j hj k hk q.1 q.2)), vu_off _ _ c]
      exact Live_LW H.2 k hk
theorem LX.out {σ0 σ : Sg} {V V' : Vw} (H : LX σ0 σ V) (hV : ∀ k, k < 195 → V' k = V k) : LX σ0 σ V' :=
  ⟨H.1, LW_Live (fun k hk => (Live_LW H.2 k hk).trans (hV k hk).symm)⟩
theorem LX.trans {σ σ' σ'' : Sg} {V V' : Vw} (H : LX σ σ' V) (H' : LX σ' σ'' V') : LX σ σ'' V' := ⟨H.1.trans H'.1, H'.2⟩
/-- an act on both sides -/
theorem act {σ : Sg} {V V' : Vw} {r : Int32} (H : Rel σ) (HC : Core σ V) {A B : Sg → Option (Int32 × Sg)} (ok : VOK V' 9999) (hA : ∃ σ1, A σ = some (r, σ1) ∧ HT 1 σ σ1 V') (hB : ∀ σ1, LV σ1 V → ∃ σ2, B σ1 = some (r, σ2) ∧ LX σ1 σ2 V') : ∃ (r : Int32) (σ1 : Sg) (σ2 : Sg), A σ = some (r, σ1) ∧ B σ1 = some (r, σ2) ∧ Rel σ2 := by
  obtain ⟨HR, _⟩ := H
  obtain ⟨σ1, e1, hF, hS, hV⟩ := hA
  have k1 : ∀ a, ¬ (1 ≤ a ∧ a ≤ 15) → σ1.1 a = σ.1 a := fun a ha => hF.1 a (by omega)
  obtain ⟨σ2, e2, hM, hL⟩ := hB σ1 ⟨HC.1, HC.2.2.2.keep (fun j _ _ _ => by rw [k1 68 (by omega)]) (fun a h1 h2 => k1 a (by omega)) (fun a h1 h2 => k1 a (by omega))⟩
  have k2 : ∀ a, ¬ (1 ≤ a ∧ a ≤ 15) → ¬ (a = 68 ∨ (70 ≤ a ∧ a ≤ 74) ∨ (77 ≤ a ∧ a ≤ 80)) → σ2.1 a = σ.1 a := fun a h1 h2 => (hM.1 a h2).trans (k1 a h1)
  refine ⟨r, σ1, σ2, e1, e2, HR.keep (fun j => by rw [k2 0 (by omega) (by omega)]) (fun a h1 h2 h3 h4 => k2 a (by omega) (by omega)) (fun q => q.keep (fun a h1 h2 => k2 a (by omega) (by omega))) (fun j hj => by rw [k2 65 (by omega) (by omega)]) (by rw [hM.2.1 9 (by omega), k1 68 (by omega)]) (k2 69 (by omega) (by omega)) (k2 75 (by omega) (by omega)) (k2 83 (by omega) (by omega)) (k2 84 (by omega) (by omega)) (by rw [hM.2.2, hF.2]; exact ⟨rfl, rfl⟩), V', ok, hS.keep (fun a h1 h2 => hM.1 a (by omega)), hV.keep (fun a h1 h2 => hM.1 a (by omega)), hL⟩
