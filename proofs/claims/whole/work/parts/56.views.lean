/-! ===== PURE: what the acts make of a view ===== -/
def CT (V : Vw) (s l t n m p : Nat) : Prop := (V 0 = nI s ∧ V 1 = nI l ∧ V 2 = nI t ∧ V 3 = nI n ∧ V 4 = nI m ∧ V 5 = nI p) ∧ s ≤ 8 ∧ l ≤ 3 ∧ t ≤ 5 ∧ n ≤ 6 ∧ m ≤ 6 ∧ p ≤ 8
def VK (V : Vw) (s l t n m p B : Nat) : Prop :=
  CT V s l t n m p ∧ (∀ i, i < s → ∃ k, k < 6 ∧ V (6 + i) = nI k) ∧ (∀ i, i < l → ∃ k, k < 6 ∧ V (30 + i) = nI k) ∧ NowOK (fun j => V (33 + j)) l B ∧ (∀ k, k < t → 0 ≤ V (44 + (k * 3 + 1))) ∧ ∀ k, k < p → NowOK (fun j => V (107 + (k * 11 + j))) l 9999
theorem CT.N {V : Vw} {s l t n m p : Nat} (H : CT V s l t n m p) : nS V = s ∧ nL V = l ∧ nT V = t ∧ nN V = n ∧ nM V = m ∧ nP V = p := by
  obtain ⟨⟨h0, h1, h2, h3, h4, h5⟩, b0, b1, b2, b3, b4, b5⟩ := H
  unfold nS nL nT nN nM nP
  rw [h0, h1, h2, h3, h4, h5]
  exact ⟨cnt_nI (by omega), cnt_nI (by omega), cnt_nI (by omega), cnt_nI (by omega), cnt_nI (by omega), cnt_nI (by omega)⟩
theorem CT.B {V : Vw} {s l t n m p : Nat} (H : CT V s l t n m p) : s ≤ 8 ∧ l ≤ 3 ∧ t ≤ 5 ∧ n ≤ 6 ∧ m ≤ 6 ∧ p ≤ 8 := H.2
theorem VK.ok {V : Vw} {s l t n m p B : Nat} (H : VK V s l t n m p B) : VOK V B := by
  obtain ⟨c, a1, a2, a3, a4, a5⟩ := H
  obtain ⟨e0, e1, e2, e3, e4, e5⟩ := c.N
  obtain ⟨⟨h0, h1, h2, h3, h4, h5⟩, b0, b1, b2, b3, b4, b5⟩ := c
  unfold VOK
  rw [e0, e1, e2, e5]
  rw [h0, h1, h2, h3, h4, h5]
  exact ⟨CN.of b0 (by omega), CN.of b1 (by omega), CN.of b2 (by omega), CN.of b3 (by omega), CN.of b4 (by omega), CN.of b5 (by omega), a1, a2, a3, a4, a5⟩
theorem VOK.vk {V : Vw} {B : Nat} (H : VOK V B) : ∃ s l t n m p, VK V s l t n m p B := by
  obtain ⟨b0, b1, b2, b3, b4, b5, a1, a2, a3, a4, a5⟩ := H
  exact ⟨nS V, nL V, nT V, nN V, nM V, nP V, ⟨⟨b0.1, b1.1, b2.1, b3.1, b4.1, b5.1⟩, b0.2, b1.2, b2.2, b3.2, b4.2, b5.2⟩, a1, a2, a3, a4, a5⟩
theorem HX.fin {h : Nat} {σ0 σ : Sg} {V : Vw} {s l t n m p : Nat} (C : CT V s l t n m p) (H : HX h σ0 σ (lv s l t n m p) V) : HT h σ0 σ V := by
  obtain ⟨e0, e1, e2, e3, e4, e5⟩ := C.N
  obtain ⟨b0, b1, b2, b3, b4, b5⟩ := C.B
  refine ⟨H.1, H.2.1, HW_HV (by omega) (by omega) (by omega) (by omega) (by omega) (by omega) ?_⟩
  unfold lvV
  rw [e0, e1, e2, e3, e4, e5]
  exact H.2.2
theorem HT.K {h : Nat} {σ0 σ : Sg} {V : Vw} {s l t n m p : Nat} (C : CT V s l t n m p) (H : HT h σ0 σ V) : HX h σ0 σ (lv s l t n m p) V := by
  obtain ⟨e0, e1, e2, e3, e4, e5⟩ := C.N
  have := H.X
  unfold lvV at this
  rw [e0, e1, e2, e3, e4, e5] at this
  exact this
abbrev vSay (V : Vw) (s : Nat) (a b c : Int32) : Vw := vu (vu (vu (vu (vu V 5 0) 0 (nI (s + 1))) (6 + s) a) (14 + s) b) (22 + s) c
abbrev vEar (V : Vw) (l : Nat) (a b : Int32) : Vw := vu (vu (vu (vu (vu V 5 0) 1 (nI (l + 1))) (30 + l) a) (38 + l) b) (41 + l) 0
abbrev vTold (V : Vw) (t : Nat) (a b c : Int32) : Vw := vu (vu (vu (vu V 2 (nI (t + 1))) (44 + t * 3) a) (44 + (t * 3 + 1)) b) (44 + (t * 3 + 2)) c
abbrev vNote (V : Vw) (t : Nat) (a b c d : Int32) : Vw := vu (vu (vu (vu (vu V 3 (nI (t + 1))) (59 + t * 4) a) (59 + (t * 4 + 1)) b) (59 + (t * 4 + 2)) c) (59 + (t * 4 + 3)) d
abbrev vMark (V : Vw) (t : Nat) (a b c d : Int32) : Vw := vu (vu (vu (vu (vu V 4 (nI (t + 1))) (83 + t * 4) a) (83 + (t * 4 + 1)) b) (83 + (t * 4 + 2)) c) (83 + (t * 4 + 3)) d
abbrev vReset (V : Vw) : Vw := fun j => if j < 6 then 0 else if 34 ≤ j ∧ j < 38 then -1 else if 33 ≤ j ∧ j < 44 then 0 else V j
abbrev vShift (V : Vw) : Vw := fun j => if j = 5 then 7 else if 107 ≤ j ∧ j < 184 then V (j + 11) else V j
abbrev vPush (V : Vw) (p : Nat) : Vw := fun j => if j = 5 then nI (p + 1) else if 107 + p * 11 ≤ j ∧ j < 118 + p * 11 then V (33 + (j - (107 + p * 11))) else V j
/-- what is kept before a change -/
def vKeep (V : Vw) (p : Nat) : Vw := if p = 8 then vPush (vShift V) 7 else vPush V p
abbrev vPop (V : Vw) (p : Nat) : Vw := fun j => if j = 5 then nI p else if 33 ≤ j ∧ j < 44 then V (107 + (p * 11 + (j - 33))) else V j
abbrev vTick (V : Vw) (l : Nat) : Vw := fun j => if j = 33 then V 33 + 1 else if 41 ≤ j ∧ j < 41 + l then V j ||| hn V (j - 41) else V j
section VKS
variable {V : Vw} {s l t n m p B : Nat}
theorem VK.say (H : VK V s l t n m p B) (hs : s < 8) {k : Nat} (hk : k < 6) (b c : Int32) : VK (vSay V s (nI k) b c) (s + 1) l t n m 0 B := by
  obtain ⟨⟨⟨h0, h1, h2, h3, h4, h5⟩, b0, b1, b2, b3, b4, b5⟩, a1, a2, a3, a4, a5⟩ := H
  refine ⟨⟨⟨by (simp only [vSay, vEar, vTold, vNote, vMark, vReset, vShift, vPush, vPop, vTick, vu]; repeat (first | rw [if_pos trivial] | rw [if_pos (by omega)] | rw [if_neg (by omega)])), by (simp only [vSay, vEar, vTold, vNote, vMark, vReset, vShift, vPush, vPop, vTick, vu]; repeat (first | rw [if_pos trivial] | rw [if_pos (by omega)] | rw [if_neg (by omega)])); exact h1, by (simp only [vSay, vEar, vTold, vNote, vMark, vReset, vShift, vPush, vPop, vTick, vu]; repeat (first | rw [if_pos trivial] | rw [if_pos (by omega)] | rw [if_neg (by omega)])); exact h2, by (simp only [vSay, vEar, vTold, vNote, vMark, vReset, vShift, vPush, vPop, vTick, vu]; repeat (first | rw [if_pos trivial] | rw [if_pos (by omega)] | rw [if_neg (by omega)])); exact h3, by (simp only [vSay, vEar, vTold, vNote, vMark, vReset, vShift, vPush, vPop, vTick, vu]; repeat (first | rw [if_pos trivial] | rw [if_pos (by omega)] | rw [if_neg (by omega)])); exact h4, by (simp only [vSay, vEar, vTold, vNote, vMark, vReset, vShift, vPush, vPop, vTick, vu]; repeat (first | rw [if_pos trivial] | rw [if_pos (by omega)] | rw [if_neg (by omega)])); rfl⟩, by omega, by omega, by omega, by omega, by omega, by omega⟩, fun i hi => ?_, fun i hi => ?_, ?_, fun i hi => ?_, fun i hi => absurd hi (by omega)⟩
  · by_cases c : i = s
    · subst c
      exact ⟨k, hk, by (simp only [vSay, vEar, vTold, vNote, vMark, vReset, vShift, vPush, vPop, vTick, vu]; repeat (first | rw [if_pos trivial] | rw [if_pos (by omega)] | rw [if_neg (by omega)]))⟩
    · obtain ⟨k, hk, e⟩ := a1 i (by omega)
      exact ⟨k, hk, by (simp only [vSay, vEar, vTold, vNote, vMark, vReset, vShift, vPush, vPop, vTick, vu]; repeat (first | rw [if_pos trivial] | rw [if_pos (by omega)] | rw [if_neg (by omega)])); exact e⟩
  · obtain ⟨k, hk, e⟩ := a2 i hi
    exact ⟨k, hk, by (simp only [vSay, vEar, vTold, vNote, vMark, vReset, vShift, vPush, vPop, vTick, vu]; repeat (first | rw [if_pos trivial] | rw [if_pos (by omega)] | rw [if_neg (by omega)])); exact e⟩
  · obtain ⟨⟨mi, n1, n2, n3⟩, n4, n5, n6⟩ := a3
    exact ⟨⟨mi, n1, by (simp only [vSay, vEar, vTold, vNote, vMark, vReset, vShift, vPush, vPop, vTick, vu]; repeat (first | rw [if_pos trivial] | rw [if_pos (by omega)] | rw [if_neg (by omega)])); exact n2, fun r hr => by (simp only [vSay, vEar, vTold, vNote, vMark, vReset, vShift, vPush, vPop, vTick, vu]; repeat (first | rw [if_pos trivial] | rw [if_pos (by omega)] | rw [if_neg (by omega)])); exact n3 r hr⟩, fun i hi => by (simp only [vSay, vEar, vTold, vNote, vMark, vReset, vShift, vPush, vPop, vTick, vu]; repeat (first | rw [if_pos trivial] | rw [if_pos (by omega)] | rw [if_neg (by omega)])); exact n4 i hi, fun i hi => by (simp only [vSay, vEar, vTold, vNote, vMark, vReset, vShift, vPush, vPop, vTick, vu]; repeat (first | rw [if_pos trivial] | rw [if_pos (by omega)] | rw [if_neg (by omega)])); exact n5 i hi, fun i hi hi2 => by (simp only [vSay, vEar, vTold, vNote, vMark, vReset, vShift, vPush, vPop, vTick, vu]; repeat (first | rw [if_pos trivial] | rw [if_pos (by omega)] | rw [if_neg (by omega)])); exact n6 i hi hi2⟩
  · (simp only [vSay, vEar, vTold, vNote, vMark, vReset, vShift, vPush, vPop, vTick, vu]; repeat (first | rw [if_pos trivial] | rw [if_pos (by omega)] | rw [if_neg (by omega)]))
    exact a4 i hi
theorem VK.ear (H : VK V s l t n m p B) (hl : l < 3) {k r : Nat} (hk : k < 6) (hr : r < 4) : VK (vEar V l (nI k) (nI r)) s (l + 1) t n m 0 B := by
  obtain ⟨⟨⟨h0, h1, h2, h3, h4, h5⟩, b0, b1, b2, b3, b4, b5⟩, a1, a2, a3, a4, a5⟩ := H
  refine ⟨⟨⟨by (simp only [vSay, vEar, vTold, vNote, vMark, vReset, vShift, vPush, vPop, vTick, vu]; repeat (first | rw [if_pos trivial] | rw [if_pos (by omega)] | rw [if_neg (by omega)])); exact h0, by (simp only [vSay, vEar, vTold, vNote, vMark, vReset, vShift, vPush, vPop, vTick, vu]; repeat (first | rw [if_pos trivial] | rw [if_pos (by omega)] | rw [if_neg (by omega)])), by (simp only [vSay, vEar, vTold, vNote, vMark, vReset, vShift, vPush, vPop, vTick, vu]; repeat (first | rw [if_pos trivial] | rw [if_pos (by omega)] | rw [if_neg (by omega)])); exact h2, by (simp only [vSay, vEar, vTold, vNote, vMark, vReset, vShift, vPush, vPop, vTick, vu]; repeat (first | rw [if_pos trivial] | rw [if_pos (by omega)] | rw [if_neg (by omega)])); exact h3, by (simp only [vSay, vEar, vTold, vNote, vMark, vReset, vShift, vPush, vPop, vTick, vu]; repeat (first | rw [if_pos trivial] | rw [if_pos (by omega)] | rw [if_neg (by omega)])); exact h4, by (simp only [vSay, vEar, vTold, vNote, vMark, vReset, vShift, vPush, vPop, vTick, vu]; repeat (first | rw [if_pos trivial] | rw [if_pos (by omega)] | rw [if_neg (by omega)])); rfl⟩, by omega, by omega, by omega, by omega, by omega, by omega⟩, fun i hi => ?_, fun i hi => ?_, ?_, fun i hi => ?_, fun i hi => absurd hi (by omega)⟩
  · obtain ⟨k, hk, e⟩ := a1 i hi
    exact ⟨k, hk, by (simp only [vSay, vEar, vTold, vNote, vMark, vReset, vShift, vPush, vPop, vTick, vu]; repeat (first | rw [if_pos trivial] | rw [if_pos (by omega)] | rw [if_neg (by omega)])); exact e⟩
  · by_cases c : i = l
    · subst c
      exact ⟨k, hk, by (simp only [vSay, vEar, vTold, vNote, vMark, vReset, vShift, vPush, vPop, vTick, vu]; repeat (first | rw [if_pos trivial] | rw [if_pos (by omega)] | rw [if_neg (by omega)]))⟩
    · obtain ⟨k, hk, e⟩ := a2 i (by omega)
      exact ⟨k, hk, by (simp only [vSay, vEar, vTold, vNote, vMark, vReset, vShift, vPush, vPop, vTick, vu]; repeat (first | rw [if_pos trivial] | rw [if_pos (by omega)] | rw [if_neg (by omega)])); exact e⟩
  · obtain ⟨⟨mi, n1, n2, n3⟩, n4, n5, n6⟩ := a3
    refine ⟨⟨mi, n1, by (simp only [vSay, vEar, vTold, vNote, vMark, vReset, vShift, vPush, vPop, vTick, vu]; repeat (first | rw [if_pos trivial] | rw [if_pos (by omega)] | rw [if_neg (by omega)])); exact n2, fun r hr => by (simp only [vSay, vEar, vTold, vNote, vMark, vReset, vShift, vPush, vPop, vTick, vu]; repeat (first | rw [if_pos trivial] | rw [if_pos (by omega)] | rw [if_neg (by omega)])); exact n3 r hr⟩, fun i hi => ?_, fun i hi => ?_, fun i hi hi2 => by (simp only [vSay, vEar, vTold, vNote, vMark, vReset, vShift, vPush, vPop, vTick, vu]; repeat (first | rw [if_pos trivial] | rw [if_pos (by omega)] | rw [if_neg (by omega)])); exact n6 i (by omega) hi2⟩
    · by_cases c : i = l
      · subst c
        exact ⟨r, hr, by (simp only [vSay, vEar, vTold, vNote, vMark, vReset, vShift, vPush, vPop, vTick, vu]; repeat (first | rw [if_pos trivial] | rw [if_pos (by omega)] | rw [if_neg (by omega)]))⟩
      · obtain ⟨w, hw, e⟩ := n4 i hi
        exact ⟨w, hw, by (simp only [vSay, vEar, vTold, vNote, vMark, vReset, vShift, vPush, vPop, vTick, vu]; repeat (first | rw [if_pos trivial] | rw [if_pos (by omega)] | rw [if_neg (by omega)])); exact e⟩
    · by_cases c : i = l
      · subst c
        exact ⟨0, by omega, by (simp only [vSay, vEar, vTold, vNote, vMark, vReset, vShift, vPush, vPop, vTick, vu]; repeat (first | rw [if_pos trivial] | rw [if_pos (by omega)] | rw [if_neg (by omega)])); rfl⟩
      · obtain ⟨w, hw, e⟩ := n5 i hi
        exact ⟨w, hw, by (simp only [vSay, vEar, vTold, vNote, vMark, vReset, vShift, vPush, vPop, vTick, vu]; repeat (first | rw [if_pos trivial] | rw [if_pos (by omega)] | rw [if_neg (by omega)])); exact e⟩
  · (simp only [vSay, vEar, vTold, vNote, vMark, vReset, vShift, vPush, vPop, vTick, vu]; repeat (first | rw [if_pos trivial] | rw [if_pos (by omega)] | rw [if_neg (by omega)]))
    exact a4 i hi
theorem VK.told (H : VK V s l t n m p B) (ht : t < 5) {a b c : Int32} (hb : 0 ≤ b) : VK (vTold V t a b c) s l (t + 1) n m p B := by
  obtain ⟨⟨⟨h0, h1, h2, h3, h4, h5⟩, b0, b1, b2, b3, b4, b5⟩, a1, a2, a3, a4, a5⟩ := H
  refine ⟨⟨⟨by (simp only [vSay, vEar, vTold, vNote, vMark, vReset, vShift, vPush, vPop, vTick, vu]; repeat (first | rw [if_pos trivial] | rw [if_pos (by omega)] | rw [if_neg (by omega)])); exact h0, by (simp only [vSay, vEar, vTold, vNote, vMark, vReset, vShift, vPush, vPop, vTick, vu]; repeat (first | rw [if_pos trivial] | rw [if_pos (by omega)] | rw [if_neg (by omega)])); exact h1, by (simp only [vSay, vEar, vTold, vNote, vMark, vReset, vShift, vPush, vPop, vTick, vu]; repeat (first | rw [if_pos trivial] | rw [if_pos (by omega)] | rw [if_neg (by omega)])), by (simp only [vSay, vEar, vTold, vNote, vMark, vReset, vShift, vPush, vPop, vTick, vu]; repeat (first | rw [if_pos trivial] | rw [if_pos (by omega)] | rw [if_neg (by omega)])); exact h3, by (simp only [vSay, vEar, vTold, vNote, vMark, vReset, vShift, vPush, vPop, vTick, vu]; repeat (first | rw [if_pos trivial] | rw [if_pos (by omega)] | rw [if_neg (by omega)])); exact h4, by (simp only [vSay, vEar, vTold, vNote, vMark, vReset, vShift, vPush, vPop, vTick, vu]; repeat (first | rw [if_pos trivial] | rw [if_pos (by omega)] | rw [if_neg (by omega)])); exact h5⟩, by omega, by omega, by omega, by omega, by omega, by omega⟩, fun i hi => ?_, fun i hi => ?_, ?_, fun i hi => ?_, fun k hk => ?_⟩
  · obtain ⟨k, hk, e⟩ := a1 i hi
    exact ⟨k, hk, by (simp only [vSay, vEar, vTold, vNote, vMark, vReset, vShift, vPush, vPop, vTick, vu]; repeat (first | rw [if_pos trivial] | rw [if_pos (by omega)] | rw [if_neg (by omega)])); exact e⟩
  · obtain ⟨k, hk, e⟩ := a2 i hi
    exact ⟨k, hk, by (simp only [vSay, vEar, vTold, vNote, vMark, vReset, vShift, vPush, vPop, vTick, vu]; repeat (first | rw [if_pos trivial] | rw [if_pos (by omega)] | rw [if_neg (by omega)])); exact e⟩
  · obtain ⟨⟨mi, n1, n2, n3⟩, n4, n5, n6⟩ := a3
    exact ⟨⟨mi, n1, by (simp only [vSay, vEar, vTold, vNote, vMark, vReset, vShift, vPush, vPop, vTick, vu]; repeat (first | rw [if_pos trivial] | rw [if_pos (by omega)] | rw [if_neg (by omega)])); exact n2, fun r hr => by (simp only [vSay, vEar, vTold, vNote, vMark, vReset, vShift, vPush, vPop, vTick, vu]; repeat (first | rw [if_pos trivial] | rw [if_pos (by omega)] | rw [if_neg (by omega)])); exact n3 r hr⟩, fun i hi => by (simp only [vSay, vEar, vTold, vNote, vMark, vReset, vShift, vPush, vPop, vTick, vu]; repeat (first | rw [if_pos trivial] | rw [if_pos (by omega)] | rw [if_neg (by omega)])); exact n4 i hi, fun i hi => by (simp only [vSay, vEar, vTold, vNote, vMark, vReset, vShift, vPush, vPop, vTick, vu]; repeat (first | rw [if_pos trivial] | rw [if_pos (by omega)] | rw [if_neg (by omega)])); exact n5 i hi, fun i hi hi2 => by (simp only [vSay, vEar, vTold, vNote, vMark, vReset, vShift, vPush, vPop, vTick, vu]; repeat (first | rw [if_pos trivial] | rw [if_pos (by omega)] | rw [if_neg (by omega)])); exact n6 i hi hi2⟩
  · by_cases q : i = t
    · subst q
      (simp only [vSay, vEar, vTold, vNote, vMark, vReset, vShift, vPush, vPop, vTick, vu]; repeat (first | rw [if_pos trivial] | rw [if_pos (by omega)] | rw [if_neg (by omega)]))
      exact hb
    · (simp only [vSay, vEar, vTold, vNote, vMark, vReset, vShift, vPush, vPop, vTick, vu]; repeat (first | rw [if_pos trivial] | rw [if_pos (by omega)] | rw [if_neg (by omega)]))
      exact a4 i (by omega)
  · obtain ⟨⟨mi, n1, n2, n3⟩, n4, n5, n6⟩ := a5 k hk
    exact ⟨⟨mi, n1, by (simp only [vSay, vEar, vTold, vNote, vMark, vReset, vShift, vPush, vPop, vTick, vu]; repeat (first | rw [if_pos trivial] | rw [if_pos (by omega)] | rw [if_neg (by omega)])); exact n2, fun r hr => by (simp only [vSay, vEar, vTold, vNote, vMark, vReset, vShift, vPush, vPop, vTick, vu]; repeat (first | rw [if_pos trivial] | rw [if_pos (by omega)] | rw [if_neg (by omega)])); exact n3 r hr⟩, fun i hi => by (simp only [vSay, vEar, vTold, vNote, vMark, vReset, vShift, vPush, vPop, vTick, vu]; repeat (first | rw [if_pos trivial] | rw [if_pos (by omega)] | rw [if_neg (by omega)])); exact n4 i hi, fun i hi => by (simp only [vSay, vEar, vTold, vNote, vMark, vReset, vShift, vPush, vPop, vTick, vu]; repeat (first | rw [if_pos trivial] | rw [if_pos (by omega)] | rw [if_neg (by omega)])); exact n5 i hi, fun i hi hi2 => by (simp only [vSay, vEar, vTold, vNote, vMark, vReset, vShift, vPush, vPop, vTick, vu]; repeat (first | rw [if_pos trivial] | rw [if_pos (by omega)] | rw [if_neg (by omega)])); exact n6 i hi hi2⟩
theorem VK.note (H : VK V s l t n m p B) (hn : n < 6) {a b c d : Int32} : VK (vNote V n a b c d) s l t (n + 1) m p B := by
  obtain ⟨⟨⟨h0, h1, h2, h3, h4, h5⟩, b0, b1, b2, b3, b4, b5⟩, a1, a2, a3, a4, a5⟩ := H
  refine ⟨⟨⟨by (simp only [vSay, vEar, vTold, vNote, vMark, vReset, vShift, vPush, vPop, vTick, vu]; repeat (first | rw [if_pos trivial] | rw [if_pos (by omega)] | rw [if_neg (by omega)])); exact h0, by (simp only [vSay, vEar, vTold, vNote, vMark, vReset, vShift, vPush, vPop, vTick, vu]; repeat (first | rw [if_pos trivial] | rw [if_pos (by omega)] | rw [if_neg (by omega)])); exact h1, by (simp only [vSay, vEar, vTold, vNote, vMark, vReset, vShift, vPush, vPop, vTick, vu]; repeat (first | rw [if_pos trivial] | rw [if_pos (by omega)] | rw [if_neg (by omega)])); exact h2, by (simp only [vSay, vEar, vTold, vNote, vMark, vReset, vShift, vPush, vPop, vTick, vu]; repeat (first | rw [if_pos trivial] | rw [if_pos (by omega)] | rw [if_neg (by omega)])), by (simp only [vSay, vEar, vTold, vNote, vMark, vReset, vShift, vPush, vPop, vTick, vu]; repeat (first | rw [if_pos trivial] | rw [if_pos (by omega)] | rw [if_neg (by omega)])); exact h4, by (simp only [vSay, vEar, vTold, vNote, vMark, vReset, vShift, vPush, vPop, vTick, vu]; repeat (first | rw [if_pos trivial] | rw [if_pos (by omega)] | rw [if_neg (by omega)])); exact h5⟩, by omega, by omega, by omega, by omega, by omega, by omega⟩, fun i hi => ?_, fun i hi => ?_, ?_, fun i hi => ?_, fun k hk => ?_⟩
  · obtain ⟨k, hk, e⟩ := a1 i hi
    exact ⟨k, hk, by (simp only [vSay, vEar, vTold, vNote, vMark, vReset, vShift, vPush, vPop, vTick, vu]; repeat (first | rw [if_pos trivial] | rw [if_pos (by omega)] | rw [if_neg (by omega)])); exact e⟩
  · obtain ⟨k, hk, e⟩ := a2 i hi
    exact ⟨k, hk, by (simp only [vSay, vEar, vTold, vNote, vMark, vReset, vShift, vPush, vPop, vTick, vu]; repeat (first | rw [if_pos trivial] | rw [if_pos (by omega)] | rw [if_neg (by omega)])); exact e⟩
  · obtain ⟨⟨mi, n1, n2, n3⟩, n4, n5, n6⟩ := a3
    exact ⟨⟨mi, n1, by (simp only [vSay, vEar, vTold, vNote, vMark, vReset, vShift, vPush, vPop, vTick, vu]; repeat (first | rw [if_pos trivial] | rw [if_pos (by omega)] | rw [if_neg (by omega)])); exact n2, fun r hr => by (simp only [vSay, vEar, vTold, vNote, vMark, vReset, vShift, vPush, vPop, vTick, vu]; repeat (first | rw [if_pos trivial] | rw [if_pos (by omega)] | rw [if_neg (by omega)])); exact n3 r hr⟩, fun i hi => by (simp only [vSay, vEar, vTold, vNote, vMark, vReset, vShift, vPush, vPop, vTick, vu]; repeat (first | rw [if_pos trivial] | rw [if_pos (by omega)] | rw [if_neg (by omega)])); exact n4 i hi, fun i hi => by (simp only [vSay, vEar, vTold, vNote, vMark, vReset, vShift, vPush, vPop, vTick, vu]; repeat (first | rw [if_pos trivial] | rw [if_pos (by omega)] | rw [if_neg (by omega)])); exact n5 i hi, fun i hi hi2 => by (simp only [vSay, vEar, vTold, vNote, vMark, vReset, vShift, vPush, vPop, vTick, vu]; repeat (first | rw [if_pos trivial] | rw [if_pos (by omega)] | rw [if_neg (by omega)])); exact n6 i hi hi2⟩
  · (simp only [vSay, vEar, vTold, vNote, vMark, vReset, vShift, vPush, vPop, vTick, vu]; repeat (first | rw [if_pos trivial] | rw [if_pos (by omega)] | rw [if_neg (by omega)]))
    exact a4 i hi
  · obtain ⟨⟨mi, n1, n2, n3⟩, n4, n5, n6⟩ := a5 k hk
    exact ⟨⟨mi, n1, by (simp only [vSay, vEar, vTold, vNote, vMark, vReset, vShift, vPush, vPop, vTick, vu]; repeat (first | rw [if_pos trivial] | rw [if_pos (by omega)] | rw [if_neg (by omega)])); exact n2, fun r hr => by (simp only [vSay, vEar, vTold, vNote, vMark, vReset, vShift, vPush, vPop, vTick, vu]; repeat (first | rw [if_pos trivial] | rw [if_pos (by omega)] | rw [if_neg (by omega)])); exact n3 r hr⟩, fun i hi => by (simp only [vSay, vEar, vTold, vNote, vMark, vReset, vShift, vPush, vPop, vTick, vu]; repeat (first | rw [if_pos trivial] | rw [if_pos (by omega)] | rw [if_neg (by omega)])); exact n4 i hi, fun i hi => by (simp only [vSay, vEar, vTold, vNote, vMark, vReset, vShift, vPush, vPop, vTick, vu]; repeat (first | rw [if_pos trivial] | rw [if_pos (by omega)] | rw [if_neg (by omega)])); exact n5 i hi, fun i hi hi2 => by (simp only [vSay, vEar, vTold, vNote, vMark, vReset, vShift, vPush, vPop, vTick, vu]; repeat (first | rw [if_pos trivial] | rw [if_pos (by omega)] | rw [if_neg (by omega)])); exact n6 i hi hi2⟩
theorem VK.mark (H : VK V s l t n m p B) (hn : m < 6) {a b c d : Int32} : VK (vMark V m a b c d) s l t n (m + 1) p B := by
  obtain ⟨⟨⟨h0, h1, h2, h3, h4, h5⟩, b0, b1, b2, b3, b4, b5⟩, a1, a2, a3, a4, a5⟩ := H
  refine ⟨⟨⟨by (simp only [vSay, vEar, vTold, vNote, vMark, vReset, vShift, vPush, vPop, vTick, vu]; repeat (first | rw [if_pos trivial] | rw [if_pos (by omega)] | rw [if_neg (by omega)])); exact h0, by (simp only [vSay, vEar, vTold, vNote, vMark, vReset, vShift, vPush, vPop, vTick, vu]; repeat (first | rw [if_pos trivial] | rw [if_pos (by omega)] | rw [if_neg (by omega)])); exact h1, by (simp only [vSay, vEar, vTold, vNote, vMark, vReset, vShift, vPush, vPop, vTick, vu]; repeat (first | rw [if_pos trivial] | rw [if_pos (by omega)] | rw [if_neg (by omega)])); exact h2, by (simp only [vSay, vEar, vTold, vNote, vMark, vReset, vShift, vPush, vPop, vTick, vu]; repeat (first | rw [if_pos trivial] | rw [if_pos (by omega)] | rw [if_neg (by omega)])); exact h3, by (simp only [vSay, vEar, vTold, vNote, vMark, vReset, vShift, vPush, vPop, vTick, vu]; repeat (first | rw [if_pos trivial] | rw [if_pos (by omega)] | rw [if_neg (by omega)])), by (simp only [vSay, vEar, vTold, vNote, vMark, vReset, vShift, vPush, vPop, vTick, vu]; repeat (first | rw [if_pos trivial] | rw [if_pos (by omega)] | rw [if_neg (by omega)])); exact h5⟩, by omega, by omega, by omega, by omega, by omega, by omega⟩, fun i hi => ?_, fun i hi => ?_, ?_, fun i hi => ?_, fun k hk => ?_⟩
  · obtain ⟨k, hk, e⟩ := a1 i hi
    exact ⟨k, hk, by (simp only [vSay, vEar, vTold, vNote, vMark, vReset, vShift, vPush, vPop, vTick, vu]; repeat (first | rw [if_pos trivial] | rw [if_pos (by omega)] | rw [if_neg (by omega)])); exact e⟩
  · obtain ⟨k, hk, e⟩ := a2 i hi
    exact ⟨k, hk, by (simp only [vSay, vEar, vTold, vNote, vMark, vReset, vShift, vPush, vPop, vTick, vu]; repeat (first | rw [if_pos trivial] | rw [if_pos (by omega)] | rw [if_neg (by omega)])); exact e⟩
  · obtain ⟨⟨mi, n1, n2, n3⟩, n4, n5, n6⟩ := a3
    exact ⟨⟨mi, n1, by (simp only [vSay, vEar, vTold, vNote, vMark, vReset, vShift, vPush, vPop, vTick, vu]; repeat (first | rw [if_pos trivial] | rw [if_pos (by omega)] | rw [if_neg (by omega)])); exact n2, fun r hr => by (simp only [vSay, vEar, vTold, vNote, vMark, vReset, vShift, vPush, vPop, vTick, vu]; repeat (first | rw [if_pos trivial] | rw [if_pos (by omega)] | rw [if_neg (by omega)])); exact n3 r hr⟩, fun i hi => by (simp only [vSay, vEar, vTold, vNote, vMark, vReset, vShift, vPush, vPop, vTick, vu]; repeat (first | rw [if_pos trivial] | rw [if_pos (by omega)] | rw [if_neg (by omega)])); exact n4 i hi, fun i hi => by (simp only [vSay, vEar, vTold, vNote, vMark, vReset, vShift, vPush, vPop, vTick, vu]; repeat (first | rw [if_pos trivial] | rw [if_pos (by omega)] | rw [if_neg (by omega)])); exact n5 i hi, fun i hi hi2 => by (simp only [vSay, vEar, vTold, vNote, vMark, vReset, vShift, vPush, vPop, vTick, vu]; repeat (first | rw [if_pos trivial] | rw [if_pos (by omega)] | rw [if_neg (by omega)])); exact n6 i hi hi2⟩
  · (simp only [vSay, vEar, vTold, vNote, vMark, vReset, vShift, vPush, vPop, vTick, vu]; repeat (first | rw [if_pos trivial] | rw [if_pos (by omega)] | rw [if_neg (by omega)]))
    exact a4 i hi
  · obtain ⟨⟨mi, n1, n2, n3⟩, n4, n5, n6⟩ := a5 k hk
    exact ⟨⟨mi, n1, by (simp only [vSay, vEar, vTold, vNote, vMark, vReset, vShift, vPush, vPop, vTick, vu]; repeat (first | rw [if_pos trivial] | rw [if_pos (by omega)] | rw [if_neg (by omega)])); exact n2, fun r hr => by (simp only [vSay, vEar, vTold, vNote, vMark, vReset, vShift, vPush, vPop, vTick, vu]; repeat (first | rw [if_pos trivial] | rw [if_pos (by omega)] | rw [if_neg (by omega)])); exact n3 r hr⟩, fun i hi => by (simp only [vSay, vEar, vTold, vNote, vMark, vReset, vShift, vPush, vPop, vTick, vu]; repeat (first | rw [if_pos trivial] | rw [if_pos (by omega)] | rw [if_neg (by omega)])); exact n4 i hi, fun i hi => by (simp only [vSay, vEar, vTold, vNote, vMark, vReset, vShift, vPush, vPop, vTick, vu]; repeat (first | rw [if_pos trivial] | rw [if_pos (by omega)] | rw [if_neg (by omega)])); exact n5 i hi, fun i hi hi2 => by (simp only [vSay, vEar, vTold, vNote, vMark, vReset, vShift, vPush, vPop, vTick, vu]; repeat (first | rw [if_pos trivial] | rw [if_pos (by omega)] | rw [if_neg (by omega)])); exact n6 i hi hi2⟩
/-- a change of a count of clues -/
theorem VK.cut (H : VK V s l t n m p B) {t' n' m' : Nat} (ht : t' ≤ t) (hn : n' ≤ n) (hm : m' ≤ m) : VK (vu (vu (vu V 2 (nI t')) 3 (nI n')) 4 (nI m')) s l t' n' m' p B := by
  obtain ⟨⟨⟨h0, h1, h2, h3, h4, h5⟩, b0, b1, b2, b3, b4, b5⟩, a1, a2, a3, a4, a5⟩ := H
  refine ⟨⟨⟨by (simp only [vSay, vEar, vTold, vNote, vMark, vReset, vShift, vPush, vPop, vTick, vu]; repeat (first | rw [if_pos trivial] | rw [if_pos (by omega)] | rw [if_neg (by omega)])); exact h0, by (simp only [vSay, vEar, vTold, vNote, vMark, vReset, vShift, vPush, vPop, vTick, vu]; repeat (first | rw [if_pos trivial] | rw [if_pos (by omega)] | rw [if_neg (by omega)])); exact h1, by (simp only [vSay, vEar, vTold, vNote, vMark, vReset, vShift, vPush, vPop, vTick, vu]; repeat (first | rw [if_pos trivial] | rw [if_pos (by omega)] | rw [if_neg (by omega)])), by (simp only [vSay, vEar, vTold, vNote, vMark, vReset, vShift, vPush, vPop, vTick, vu]; repeat (first | rw [if_pos trivial] | rw [if_pos (by omega)] | rw [if_neg (by omega)])), by (simp only [vSay, vEar, vTold, vNote, vMark, vReset, vShift, vPush, vPop, vTick, vu]; repeat (first | rw [if_pos trivial] | rw [if_pos (by omega)] | rw [if_neg (by omega)])), by (simp only [vSay, vEar, vTold, vNote, vMark, vReset, vShift, vPush, vPop, vTick, vu]; repeat (first | rw [if_pos trivial] | rw [if_pos (by omega)] | rw [if_neg (by omega)])); exact h5⟩, by omega, by omega, by omega, by omega, by omega, by omega⟩, fun i hi => ?_, fun i hi => ?_, ?_, fun i hi => ?_, fun k hk => ?_⟩
  · obtain ⟨k, hk, e⟩ := a1 i hi
    exact ⟨k, hk, by (simp only [vSay, vEar, vTold, vNote, vMark, vReset, vShift, vPush, vPop, vTick, vu]; repeat (first | rw [if_pos trivial] | rw [if_pos (by omega)] | rw [if_neg (by omega)])); exact e⟩
  · obtain ⟨k, hk, e⟩ := a2 i hi
    exact ⟨k, hk, by (simp only [vSay, vEar, vTold, vNote, vMark, vReset, vShift, vPush, vPop, vTick, vu]; repeat (first | rw [if_pos trivial] | rw [if_pos (by omega)] | rw [if_neg (by omega)])); exact e⟩
  · obtain ⟨⟨mi, n1, n2, n3⟩, n4, n5, n6⟩ := a3
    exact ⟨⟨mi, n1, by (simp only [vSay, vEar, vTold, vNote, vMark, vReset, vShift, vPush, vPop, vTick, vu]; repeat (first | rw [if_pos trivial] | rw [if_pos (by omega)] | rw [if_neg (by omega)])); exact n2, fun r hr => by (simp only [vSay, vEar, vTold, vNote, vMark, vReset, vShift, vPush, vPop, vTick, vu]; repeat (first | rw [if_pos trivial] | rw [if_pos (by omega)] | rw [if_neg (by omega)])); exact n3 r hr⟩, fun i hi => by (simp only [vSay, vEar, vTold, vNote, vMark, vReset, vShift, vPush, vPop, vTick, vu]; repeat (first | rw [if_pos trivial] | rw [if_pos (by omega)] | rw [if_neg (by omega)])); exact n4 i hi, fun i hi => by (simp only [vSay, vEar, vTold, vNote, vMark, vReset, vShift, vPush, vPop, vTick, vu]; repeat (first | rw [if_pos trivial] | rw [if_pos (by omega)] | rw [if_neg (by omega)])); exact n5 i hi, fun i hi hi2 => by (simp only [vSay, vEar, vTold, vNote, vMark, vReset, vShift, vPush, vPop, vTick, vu]; repeat (first | rw [if_pos trivial] | rw [if_pos (by omega)] | rw [if_neg (by omega)])); exact n6 i hi hi2⟩
  · (simp only [vSay, vEar, vTold, vNote, vMark, vReset, vShift, vPush, vPop, vTick, vu]; repeat (first | rw [if_pos trivial] | rw [if_pos (by omega)] | rw [if_neg (by omega)]))
    exact a4 i (by omega)
  · obtain ⟨⟨mi, n1, n2, n3⟩, n4, n5, n6⟩ := a5 k hk
    exact ⟨⟨mi, n1, by (simp only [vSay, vEar, vTold, vNote, vMark, vReset, vShift, vPush, vPop, vTick, vu]; repeat (first | rw [if_pos trivial] | rw [if_pos (by omega)] | rw [if_neg (by omega)])); exact n2, fun r hr => by (simp only [vSay, vEar, vTold, vNote, vMark, vReset, vShift, vPush, vPop, vTick, vu]; repeat (first | rw [if_pos trivial] | rw [if_pos (by omega)] | rw [if_neg (by omega)])); exact n3 r hr⟩, fun i hi => by (simp only [vSay, vEar, vTold, vNote, vMark, vReset, vShift, vPush, vPop, vTick, vu]; repeat (first | rw [if_pos trivial] | rw [if_pos (by omega)] | rw [if_neg (by omega)])); exact n4 i hi, fun i hi => by (simp only [vSay, vEar, vTold, vNote, vMark, vReset, vShift, vPush, vPop, vTick, vu]; repeat (first | rw [if_pos trivial] | rw [if_pos (by omega)] | rw [if_neg (by omega)])); exact n5 i hi, fun i hi hi2 => by (simp only [vSay, vEar, vTold, vNote, vMark, vReset, vShift, vPush, vPop, vTick, vu]; repeat (first | rw [if_pos trivial] | rw [if_pos (by omega)] | rw [if_neg (by omega)])); exact n6 i hi hi2⟩
/-- a change of now -/
theorem VK.now (H : VK V s l t n m p B) {V' : Vw} {B' : Nat} (hV : ∀ j, j < 33 ∨ (44 ≤ j ∧ j < 195) → V' j = V j) (N : NowOK (fun j => V' (33 + j)) l B') : VK V' s l t n m p B' := by
  obtain ⟨⟨⟨h0, h1, h2, h3, h4, h5⟩, b0, b1, b2, b3, b4, b5⟩, a1, a2, a3, a4, a5⟩ := H
  refine ⟨⟨⟨by rw [hV 0 (by omega)]; exact h0, by rw [hV 1 (by omega)]; exact h1, by rw [hV 2 (by omega)]; exact h2, by rw [hV 3 (by omega)]; exact h3, by rw [hV 4 (by omega)]; exact h4, by rw [hV 5 (by omega)]; exact h5⟩, b0, b1, b2, b3, b4, b5⟩, fun i hi => ?_, fun i hi => ?_, N, fun i hi => ?_, fun k hk => ?_⟩
  · rw [hV _ (by omega)]
    exact a1 i hi
  · rw [hV _ (by omega)]
    exact a2 i hi
  · rw [hV _ (by omega)]
    exact a4 i hi
  · obtain ⟨⟨mi, n1, n2, n3⟩, n4, n5, n6⟩ := a5 k hk
    exact ⟨⟨mi, n1, (hV _ (by omega)).trans n2, fun r hr => by
      show V' _ = _ ∨ ∃ j, _ ∧ V' _ = _
      rw [hV _ (by omega)]
      exact n3 r hr⟩, fun i hi => by
      show ∃ j, _ ∧ V' _ = _
      rw [hV _ (by omega)]
      exact n4 i hi, fun i hi => by
      show ∃ j, _ ∧ V' _ = _
      rw [hV _ (by omega)]
      exact n5 i hi, fun i hi hi2 => (hV _ (by omega)).trans (n6 i hi hi2)⟩
theorem VK.mono (H : VK V s l t n m p B) {B' : Nat} (h : B ≤ B') : VK V s l t n m p B' := by
  obtain ⟨c, a1, a2, ⟨⟨mi, n1, n2, n3⟩, n4, n5, n6⟩, a4, a5⟩ := H
  exact ⟨c, a1, a2, ⟨⟨mi, by omega, n2, n3⟩, n4, n5, n6⟩, a4, a5⟩
end VKS
