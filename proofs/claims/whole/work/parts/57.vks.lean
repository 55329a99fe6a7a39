/-! ===== PURE: the views go on ===== -/
section VKS2
variable {V : Vw} {s l t n m p B : Nat}
theorem VK.reset (V : Vw) (B : Nat) : VK (vReset V) 0 0 0 0 0 0 B := by
  refine ⟨⟨⟨by (simp only [vSay, vEar, vTold, vNote, vMark, vReset, vShift, vPush, vPop, vTick, vu]; repeat (first | rw [if_pos trivial] | rw [if_pos (by omega)] | rw [if_neg (by omega)])); rfl, by (simp only [vSay, vEar, vTold, vNote, vMark, vReset, vShift, vPush, vPop, vTick, vu]; repeat (first | rw [if_pos trivial] | rw [if_pos (by omega)] | rw [if_neg (by omega)])); rfl, by (simp only [vSay, vEar, vTold, vNote, vMark, vReset, vShift, vPush, vPop, vTick, vu]; repeat (first | rw [if_pos trivial] | rw [if_pos (by omega)] | rw [if_neg (by omega)])); rfl, by (simp only [vSay, vEar, vTold, vNote, vMark, vReset, vShift, vPush, vPop, vTick, vu]; repeat (first | rw [if_pos trivial] | rw [if_pos (by omega)] | rw [if_neg (by omega)])); rfl, by (simp only [vSay, vEar, vTold, vNote, vMark, vReset, vShift, vPush, vPop, vTick, vu]; repeat (first | rw [if_pos trivial] | rw [if_pos (by omega)] | rw [if_neg (by omega)])); rfl, by (simp only [vSay, vEar, vTold, vNote, vMark, vReset, vShift, vPush, vPop, vTick, vu]; repeat (first | rw [if_pos trivial] | rw [if_pos (by omega)] | rw [if_neg (by omega)])); rfl⟩, by omega, by omega, by omega, by omega, by omega, by omega⟩, fun i hi => absurd hi (by omega), fun i hi => absurd hi (by omega), ?_, fun i hi => absurd hi (by omega), fun i hi => absurd hi (by omega)⟩
  exact ⟨⟨0, by omega, by (simp only [vSay, vEar, vTold, vNote, vMark, vReset, vShift, vPush, vPop, vTick, vu]; repeat (first | rw [if_pos trivial] | rw [if_pos (by omega)] | rw [if_neg (by omega)])); rfl, fun r hr => .inl (by (simp only [vSay, vEar, vTold, vNote, vMark, vReset, vShift, vPush, vPop, vTick, vu]; repeat (first | rw [if_pos trivial] | rw [if_pos (by omega)] | rw [if_neg (by omega)])))⟩, fun i hi => ⟨0, by omega, by (simp only [vSay, vEar, vTold, vNote, vMark, vReset, vShift, vPush, vPop, vTick, vu]; repeat (first | rw [if_pos trivial] | rw [if_pos (by omega)] | rw [if_neg (by omega)])); rfl⟩, fun i hi => ⟨0, by omega, by (simp only [vSay, vEar, vTold, vNote, vMark, vReset, vShift, vPush, vPop, vTick, vu]; repeat (first | rw [if_pos trivial] | rw [if_pos (by omega)] | rw [if_neg (by omega)])); rfl⟩, fun i hi hi2 => by (simp only [vSay, vEar, vTold, vNote, vMark, vReset, vShift, vPush, vPop, vTick, vu]; repeat (first | rw [if_pos trivial] | rw [if_pos (by omega)] | rw [if_neg (by omega)]))⟩
theorem VK.push (H : VK V s l t n m p 9999) (hp : p < 8) : VK (vPush V p) s l t n m (p + 1) 9999 := by
  obtain ⟨⟨⟨h0, h1, h2, h3, h4, h5⟩, b0, b1, b2, b3, b4, b5⟩, a1, a2, a3, a4, a5⟩ := H
  refine ⟨⟨⟨by (simp only [vSay, vEar, vTold, vNote, vMark, vReset, vShift, vPush, vPop, vTick, vu]; repeat (first | rw [if_pos trivial] | rw [if_pos (by omega)] | rw [if_neg (by omega)])); exact h0, by (simp only [vSay, vEar, vTold, vNote, vMark, vReset, vShift, vPush, vPop, vTick, vu]; repeat (first | rw [if_pos trivial] | rw [if_pos (by omega)] | rw [if_neg (by omega)])); exact h1, by (simp only [vSay, vEar, vTold, vNote, vMark, vReset, vShift, vPush, vPop, vTick, vu]; repeat (first | rw [if_pos trivial] | rw [if_pos (by omega)] | rw [if_neg (by omega)])); exact h2, by (simp only [vSay, vEar, vTold, vNote, vMark, vReset, vShift, vPush, vPop, vTick, vu]; repeat (first | rw [if_pos trivial] | rw [if_pos (by omega)] | rw [if_neg (by omega)])); exact h3, by (simp only [vSay, vEar, vTold, vNote, vMark, vReset, vShift, vPush, vPop, vTick, vu]; repeat (first | rw [if_pos trivial] | rw [if_pos (by omega)] | rw [if_neg (by omega)])); exact h4, by (simp only [vSay, vEar, vTold, vNote, vMark, vReset, vShift, vPush, vPop, vTick, vu]; repeat (first | rw [if_pos trivial] | rw [if_pos (by omega)] | rw [if_neg (by omega)]))⟩, by omega, by omega, by omega, by omega, by omega, by omega⟩, fun i hi => ?_, fun i hi => ?_, ?_, fun i hi => ?_, fun k hk => ?_⟩
  · obtain ⟨k, hk, e⟩ := a1 i hi
    exact ⟨k, hk, by (simp only [vSay, vEar, vTold, vNote, vMark, vReset, vShift, vPush, vPop, vTick, vu]; repeat (first | rw [if_pos trivial] | rw [if_pos (by omega)] | rw [if_neg (by omega)])); exact e⟩
  · obtain ⟨k, hk, e⟩ := a2 i hi
    exact ⟨k, hk, by (simp only [vSay, vEar, vTold, vNote, vMark, vReset, vShift, vPush, vPop, vTick, vu]; repeat (first | rw [if_pos trivial] | rw [if_pos (by omega)] | rw [if_neg (by omega)])); exact e⟩
  · obtain ⟨⟨mi, n1, n2, n3⟩, n4, n5, n6⟩ := a3
    exact ⟨⟨mi, n1, by (simp only [vSay, vEar, vTold, vNote, vMark, vReset, vShift, vPush, vPop, vTick, vu]; repeat (first | rw [if_pos trivial] | rw [if_pos (by omega)] | rw [if_neg (by omega)])); exact n2, fun r hr => by (simp only [vSay, vEar, vTold, vNote, vMark, vReset, vShift, vPush, vPop, vTick, vu]; repeat (first | rw [if_pos trivial] | rw [if_pos (by omega)] | rw [if_neg (by omega)])); exact n3 r hr⟩, fun i hi => by (simp only [vSay, vEar, vTold, vNote, vMark, vReset, vShift, vPush, vPop, vTick, vu]; repeat (first | rw [if_pos trivial] | rw [if_pos (by omega)] | rw [if_neg (by omega)])); exact n4 i hi, fun i hi => by (simp only [vSay, vEar, vTold, vNote, vMark, vReset, vShift, vPush, vPop, vTick, vu]; repeat (first | rw [if_pos trivial] | rw [if_pos (by omega)] | rw [if_neg (by omega)])); exact n5 i hi, fun i hi hi2 => by (simp only [vSay, vEar, vTold, vNote, vMark, vReset, vShift, vPush, vPop, vTick, vu]; repeat (first | rw [if_pos trivial] | rw [if_pos (by omega)] | rw [if_neg (by omega)])); exact n6 i hi hi2⟩
  · (simp only [vSay, vEar, vTold, vNote, vMark, vReset, vShift, vPush, vPop, vTick, vu]; repeat (first | rw [if_pos trivial] | rw [if_pos (by omega)] | rw [if_neg (by omega)]))
    exact a4 i hi
  · by_cases q : k = p
    · subst q
      have e : ∀ j, j < 11 → vPush V k (107 + (k * 11 + j)) = V (33 + j) := fun j hj => by
        (simp only [vSay, vEar, vTold, vNote, vMark, vReset, vShift, vPush, vPop, vTick, vu]; repeat (first | rw [if_pos trivial] | rw [if_pos (by omega)] | rw [if_neg (by omega)]))
        rw [show 107 + (k * 11 + j) - (107 + k * 11) = j by omega]
      obtain ⟨⟨mi, n1, n2, n3⟩, n4, n5, n6⟩ := a3
      refine ⟨⟨mi, n1, (e 0 (by omega)).trans n2, fun r hr => ?_⟩, fun i hi => ?_, fun i hi => ?_, fun i hi hi2 => ?_⟩
      · show vPush V k _ = _ ∨ ∃ j, _ ∧ vPush V k _ = _
        rw [e _ (by omega)]
        exact n3 r hr
      · show ∃ j, _ ∧ vPush V k _ = _
        rw [e _ (by omega)]
        exact n4 i hi
      · show ∃ j, _ ∧ vPush V k _ = _
        rw [e _ (by omega)]
        exact n5 i hi
      · exact (e _ (by omega)).trans (n6 i hi hi2)
    · obtain ⟨⟨mi, n1, n2, n3⟩, n4, n5, n6⟩ := a5 k (by omega)
      exact ⟨⟨mi, n1, by (simp only [vSay, vEar, vTold, vNote, vMark, vReset, vShift, vPush, vPop, vTick, vu]; repeat (first | rw [if_pos trivial] | rw [if_pos (by omega)] | rw [if_neg (by omega)])); exact n2, fun r hr => by (simp only [vSay, vEar, vTold, vNote, vMark, vReset, vShift, vPush, vPop, vTick, vu]; repeat (first | rw [if_pos trivial] | rw [if_pos (by omega)] | rw [if_neg (by omega)])); exact n3 r hr⟩, fun i hi => by (simp only [vSay, vEar, vTold, vNote, vMark, vReset, vShift, vPush, vPop, vTick, vu]; repeat (first | rw [if_pos trivial] | rw [if_pos (by omega)] | rw [if_neg (by omega)])); exact n4 i hi, fun i hi => by (simp only [vSay, vEar, vTold, vNote, vMark, vReset, vShift, vPush, vPop, vTick, vu]; repeat (first | rw [if_pos trivial] | rw [if_pos (by omega)] | rw [if_neg (by omega)])); exact n5 i hi, fun i hi hi2 => by (simp only [vSay, vEar, vTold, vNote, vMark, vReset, vShift, vPush, vPop, vTick, vu]; repeat (first | rw [if_pos trivial] | rw [if_pos (by omega)] | rw [if_neg (by omega)])); exact n6 i hi hi2⟩
theorem VK.shift (H : VK V s l t n m 8 B) : VK (vShift V) s l t n m 7 B := by
  obtain ⟨⟨⟨h0, h1, h2, h3, h4, h5⟩, b0, b1, b2, b3, b4, b5⟩, a1, a2, a3, a4, a5⟩ := H
  refine ⟨⟨⟨by (simp only [vSay, vEar, vTold, vNote, vMark, vReset, vShift, vPush, vPop, vTick, vu]; repeat (first | rw [if_pos trivial] | rw [if_pos (by omega)] | rw [if_neg (by omega)])); exact h0, by (simp only [vSay, vEar, vTold, vNote, vMark, vReset, vShift, vPush, vPop, vTick, vu]; repeat (first | rw [if_pos trivial] | rw [if_pos (by omega)] | rw [if_neg (by omega)])); exact h1, by (simp only [vSay, vEar, vTold, vNote, vMark, vReset, vShift, vPush, vPop, vTick, vu]; repeat (first | rw [if_pos trivial] | rw [if_pos (by omega)] | rw [if_neg (by omega)])); exact h2, by (simp only [vSay, vEar, vTold, vNote, vMark, vReset, vShift, vPush, vPop, vTick, vu]; repeat (first | rw [if_pos trivial] | rw [if_pos (by omega)] | rw [if_neg (by omega)])); exact h3, by (simp only [vSay, vEar, vTold, vNote, vMark, vReset, vShift, vPush, vPop, vTick, vu]; repeat (first | rw [if_pos trivial] | rw [if_pos (by omega)] | rw [if_neg (by omega)])); exact h4, by (simp only [vSay, vEar, vTold, vNote, vMark, vReset, vShift, vPush, vPop, vTick, vu]; repeat (first | rw [if_pos trivial] | rw [if_pos (by omega)] | rw [if_neg (by omega)])); rfl⟩, by omega, by omega, by omega, by omega, by omega, by omega⟩, fun i hi => ?_, fun i hi => ?_, ?_, fun i hi => ?_, fun k hk => ?_⟩
  · obtain ⟨k, hk, e⟩ := a1 i hi
    exact ⟨k, hk, by (simp only [vSay, vEar, vTold, vNote, vMark, vReset, vShift, vPush, vPop, vTick, vu]; repeat (first | rw [if_pos trivial] | rw [if_pos (by omega)] | rw [if_neg (by omega)])); exact e⟩
  · obtain ⟨k, hk, e⟩ := a2 i hi
    exact ⟨k, hk, by (simp only [vSay, vEar, vTold, vNote, vMark, vReset, vShift, vPush, vPop, vTick, vu]; repeat (first | rw [if_pos trivial] | rw [if_pos (by omega)] | rw [if_neg (by omega)])); exact e⟩
  · obtain ⟨⟨mi, n1, n2, n3⟩, n4, n5, n6⟩ := a3
    exact ⟨⟨mi, n1, by (simp only [vSay, vEar, vTold, vNote, vMark, vReset, vShift, vPush, vPop, vTick, vu]; repeat (first | rw [if_pos trivial] | rw [if_pos (by omega)] | rw [if_neg (by omega)])); exact n2, fun r hr => by (simp only [vSay, vEar, vTold, vNote, vMark, vReset, vShift, vPush, vPop, vTick, vu]; repeat (first | rw [if_pos trivial] | rw [if_pos (by omega)] | rw [if_neg (by omega)])); exact n3 r hr⟩, fun i hi => by (simp only [vSay, vEar, vTold, vNote, vMark, vReset, vShift, vPush, vPop, vTick, vu]; repeat (first | rw [if_pos trivial] | rw [if_pos (by omega)] | rw [if_neg (by omega)])); exact n4 i hi, fun i hi => by (simp only [vSay, vEar, vTold, vNote, vMark, vReset, vShift, vPush, vPop, vTick, vu]; repeat (first | rw [if_pos trivial] | rw [if_pos (by omega)] | rw [if_neg (by omega)])); exact n5 i hi, fun i hi hi2 => by (simp only [vSay, vEar, vTold, vNote, vMark, vReset, vShift, vPush, vPop, vTick, vu]; repeat (first | rw [if_pos trivial] | rw [if_pos (by omega)] | rw [if_neg (by omega)])); exact n6 i hi hi2⟩
  · (simp only [vSay, vEar, vTold, vNote, vMark, vReset, vShift, vPush, vPop, vTick, vu]; repeat (first | rw [if_pos trivial] | rw [if_pos (by omega)] | rw [if_neg (by omega)]))
    exact a4 i hi
  · have e : ∀ j, j < 11 → vShift V (107 + (k * 11 + j)) = V (107 + ((k + 1) * 11 + j)) := fun j hj => by
      (simp only [vSay, vEar, vTold, vNote, vMark, vReset, vShift, vPush, vPop, vTick, vu]; repeat (first | rw [if_pos trivial] | rw [if_pos (by omega)] | rw [if_neg (by omega)]))
      rw [show 107 + (k * 11 + j) + 11 = 107 + ((k + 1) * 11 + j) by omega]
    obtain ⟨⟨mi, n1, n2, n3⟩, n4, n5, n6⟩ := a5 (k + 1) (by omega)
    refine ⟨⟨mi, n1, (e 0 (by omega)).trans n2, fun r hr => ?_⟩, fun i hi => ?_, fun i hi => ?_, fun i hi hi2 => ?_⟩
    · show vShift V _ = _ ∨ ∃ j, _ ∧ vShift V _ = _
      rw [e _ (by omega)]
      exact n3 r hr
    · show ∃ j, _ ∧ vShift V _ = _
      rw [e _ (by omega)]
      exact n4 i hi
    · show ∃ j, _ ∧ vShift V _ = _
      rw [e _ (by omega)]
      exact n5 i hi
    · exact (e _ (by omega)).trans (n6 i hi hi2)
/-- how many pasts there are then -/
abbrev pK (p : Nat) : Nat := if p = 8 then 8 else p + 1
theorem VK.keep (H : VK V s l t n m p 9999) : VK (vKeep V p) s l t n m (pK p) 9999 := by
  unfold vKeep pK
  by_cases q : p = 8
  · subst q
    rw [if_pos rfl, if_pos rfl]
    exact H.shift.push (by omega)
  · rw [if_neg q, if_neg q]
    have := H.1.B
    exact H.push (by omega)
theorem vKeep_off (V : Vw) (p : Nat) {j : Nat} (h : j ≠ 5 ∧ j < 107) : vKeep V p j = V j := by
  unfold vKeep
  split
  · (simp only [vSay, vEar, vTold, vNote, vMark, vReset, vShift, vPush, vPop, vTick, vu]; repeat (first | rw [if_pos trivial] | rw [if_pos (by omega)] | rw [if_neg (by omega)]))
  · (simp only [vSay, vEar, vTold, vNote, vMark, vReset, vShift, vPush, vPop, vTick, vu]; repeat (first | rw [if_pos trivial] | rw [if_pos (by omega)] | rw [if_neg (by omega)]))
theorem VK.pop (H : VK V s l t n m (p + 1) B) : VK (vPop V p) s l t n m p 9999 := by
  obtain ⟨⟨⟨h0, h1, h2, h3, h4, h5⟩, b0, b1, b2, b3, b4, b5⟩, a1, a2, a3, a4, a5⟩ := H
  refine ⟨⟨⟨by (simp only [vSay, vEar, vTold, vNote, vMark, vReset, vShift, vPush, vPop, vTick, vu]; repeat (first | rw [if_pos trivial] | rw [if_pos (by omega)] | rw [if_neg (by omega)])); exact h0, by (simp only [vSay, vEar, vTold, vNote, vMark, vReset, vShift, vPush, vPop, vTick, vu]; repeat (first | rw [if_pos trivial] | rw [if_pos (by omega)] | rw [if_neg (by omega)])); exact h1, by (simp only [vSay, vEar, vTold, vNote, vMark, vReset, vShift, vPush, vPop, vTick, vu]; repeat (first | rw [if_pos trivial] | rw [if_pos (by omega)] | rw [if_neg (by omega)])); exact h2, by (simp only [vSay, vEar, vTold, vNote, vMark, vReset, vShift, vPush, vPop, vTick, vu]; repeat (first | rw [if_pos trivial] | rw [if_pos (by omega)] | rw [if_neg (by omega)])); exact h3, by (simp only [vSay, vEar, vTold, vNote, vMark, vReset, vShift, vPush, vPop, vTick, vu]; repeat (first | rw [if_pos trivial] | rw [if_pos (by omega)] | rw [if_neg (by omega)])); exact h4, by (simp only [vSay, vEar, vTold, vNote, vMark, vReset, vShift, vPush, vPop, vTick, vu]; repeat (first | rw [if_pos trivial] | rw [if_pos (by omega)] | rw [if_neg (by omega)]))⟩, by omega, by omega, by omega, by omega, by omega, by omega⟩, fun i hi => ?_, fun i hi => ?_, ?_, fun i hi => ?_, fun k hk => ?_⟩
  · obtain ⟨k, hk, e⟩ := a1 i hi
    exact ⟨k, hk, by (simp only [vSay, vEar, vTold, vNote, vMark, vReset, vShift, vPush, vPop, vTick, vu]; repeat (first | rw [if_pos trivial] | rw [if_pos (by omega)] | rw [if_neg (by omega)])); exact e⟩
  · obtain ⟨k, hk, e⟩ := a2 i hi
    exact ⟨k, hk, by (simp only [vSay, vEar, vTold, vNote, vMark, vReset, vShift, vPush, vPop, vTick, vu]; repeat (first | rw [if_pos trivial] | rw [if_pos (by omega)] | rw [if_neg (by omega)])); exact e⟩
  · have e : ∀ j, j < 11 → vPop V p (33 + j) = V (107 + (p * 11 + j)) := fun j hj => by
      (simp only [vSay, vEar, vTold, vNote, vMark, vReset, vShift, vPush, vPop, vTick, vu]; repeat (first | rw [if_pos trivial] | rw [if_pos (by omega)] | rw [if_neg (by omega)]))
      rw [show 33 + j - 33 = j by omega]
    obtain ⟨⟨mi, n1, n2, n3⟩, n4, n5, n6⟩ := a5 p (by omega)
    refine ⟨⟨mi, n1, (e 0 (by omega)).trans n2, fun r hr => ?_⟩, fun i hi => ?_, fun i hi => ?_, fun i hi hi2 => ?_⟩
    · show vPop V p _ = _ ∨ ∃ j, _ ∧ vPop V p _ = _
      rw [e _ (by omega)]
      exact n3 r hr
    · show ∃ j, _ ∧ vPop V p _ = _
      rw [e _ (by omega)]
      exact n4 i hi
    · show ∃ j, _ ∧ vPop V p _ = _
      rw [e _ (by omega)]
      exact n5 i hi
    · exact (e _ (by omega)).trans (n6 i hi hi2)
  · (simp only [vSay, vEar, vTold, vNote, vMark, vReset, vShift, vPush, vPop, vTick, vu]; repeat (first | rw [if_pos trivial] | rw [if_pos (by omega)] | rw [if_neg (by omega)]))
    exact a4 i hi
  · obtain ⟨⟨mi, n1, n2, n3⟩, n4, n5, n6⟩ := a5 k (by omega)
    exact ⟨⟨mi, n1, by (simp only [vSay, vEar, vTold, vNote, vMark, vReset, vShift, vPush, vPop, vTick, vu]; repeat (first | rw [if_pos trivial] | rw [if_pos (by omega)] | rw [if_neg (by omega)])); exact n2, fun r hr => by (simp only [vSay, vEar, vTold, vNote, vMark, vReset, vShift, vPush, vPop, vTick, vu]; repeat (first | rw [if_pos trivial] | rw [if_pos (by omega)] | rw [if_neg (by omega)])); exact n3 r hr⟩, fun i hi => by (simp only [vSay, vEar, vTold, vNote, vMark, vReset, vShift, vPush, vPop, vTick, vu]; repeat (first | rw [if_pos trivial] | rw [if_pos (by omega)] | rw [if_neg (by omega)])); exact n4 i hi, fun i hi => by (simp only [vSay, vEar, vTold, vNote, vMark, vReset, vShift, vPush, vPop, vTick, vu]; repeat (first | rw [if_pos trivial] | rw [if_pos (by omega)] | rw [if_neg (by omega)])); exact n5 i hi, fun i hi hi2 => by (simp only [vSay, vEar, vTold, vNote, vMark, vReset, vShift, vPush, vPop, vTick, vu]; repeat (first | rw [if_pos trivial] | rw [if_pos (by omega)] | rw [if_neg (by omega)])); exact n6 i hi hi2⟩
theorem VK.strip (H : VK V s l t n m p B) {r : Nat} (hr : r < 4) {x : Int32} (hx : x = -1 ∨ x = V 33) : VK (vu V (34 + r) x) s l t n m p B := by
  refine H.now (fun j hj => by (simp only [vSay, vEar, vTold, vNote, vMark, vReset, vShift, vPush, vPop, vTick, vu]; repeat (first | rw [if_pos trivial] | rw [if_pos (by omega)] | rw [if_neg (by omega)]))) ?_
  obtain ⟨⟨mi, n1, n2, n3⟩, n4, n5, n6⟩ := H.2.2.2.1
  refine ⟨⟨mi, n1, by (simp only [vSay, vEar, vTold, vNote, vMark, vReset, vShift, vPush, vPop, vTick, vu]; repeat (first | rw [if_pos trivial] | rw [if_pos (by omega)] | rw [if_neg (by omega)])); exact n2, fun k hk => ?_⟩, fun i hi => by (simp only [vSay, vEar, vTold, vNote, vMark, vReset, vShift, vPush, vPop, vTick, vu]; repeat (first | rw [if_pos trivial] | rw [if_pos (by omega)] | rw [if_neg (by omega)])); exact n4 i hi, fun i hi => by (simp only [vSay, vEar, vTold, vNote, vMark, vReset, vShift, vPush, vPop, vTick, vu]; repeat (first | rw [if_pos trivial] | rw [if_pos (by omega)] | rw [if_neg (by omega)])); exact n5 i hi, fun i hi hi2 => by (simp only [vSay, vEar, vTold, vNote, vMark, vReset, vShift, vPush, vPop, vTick, vu]; repeat (first | rw [if_pos trivial] | rw [if_pos (by omega)] | rw [if_neg (by omega)])); exact n6 i hi hi2⟩
  by_cases q : k = r
  · subst q
    (simp only [vSay, vEar, vTold, vNote, vMark, vReset, vShift, vPush, vPop, vTick, vu]; repeat (first | rw [if_pos trivial] | rw [if_pos (by omega)] | rw [if_neg (by omega)]))
    rcases hx with hx | hx
    · exact .inl hx
    · exact .inr ⟨mi, Nat.le_refl _, hx.trans n2⟩
  · (simp only [vSay, vEar, vTold, vNote, vMark, vReset, vShift, vPush, vPop, vTick, vu]; repeat (first | rw [if_pos trivial] | rw [if_pos (by omega)] | rw [if_neg (by omega)]))
    exact n3 k hk
theorem VK.go (H : VK V s l t n m p B) {i : Nat} (hi : i < 3) {r : Nat} (hr : r < 4) : VK (vu V (38 + i) (nI r)) s l t n m p B := by
  refine H.now (fun j hj => by (simp only [vSay, vEar, vTold, vNote, vMark, vReset, vShift, vPush, vPop, vTick, vu]; repeat (first | rw [if_pos trivial] | rw [if_pos (by omega)] | rw [if_neg (by omega)]))) ?_
  obtain ⟨⟨mi, n1, n2, n3⟩, n4, n5, n6⟩ := H.2.2.2.1
  refine ⟨⟨mi, n1, by (simp only [vSay, vEar, vTold, vNote, vMark, vReset, vShift, vPush, vPop, vTick, vu]; repeat (first | rw [if_pos trivial] | rw [if_pos (by omega)] | rw [if_neg (by omega)])); exact n2, fun k hk => by (simp only [vSay, vEar, vTold, vNote, vMark, vReset, vShift, vPush, vPop, vTick, vu]; repeat (first | rw [if_pos trivial] | rw [if_pos (by omega)] | rw [if_neg (by omega)])); exact n3 k hk⟩, fun k hk => ?_, fun i hi => by (simp only [vSay, vEar, vTold, vNote, vMark, vReset, vShift, vPush, vPop, vTick, vu]; repeat (first | rw [if_pos trivial] | rw [if_pos (by omega)] | rw [if_neg (by omega)])); exact n5 i hi, fun i hi hi2 => by (simp only [vSay, vEar, vTold, vNote, vMark, vReset, vShift, vPush, vPop, vTick, vu]; repeat (first | rw [if_pos trivial] | rw [if_pos (by omega)] | rw [if_neg (by omega)])); exact n6 i hi hi2⟩
  by_cases q : k = i
  · subst q
    exact ⟨r, hr, by (simp only [vSay, vEar, vTold, vNote, vMark, vReset, vShift, vPush, vPop, vTick, vu]; repeat (first | rw [if_pos trivial] | rw [if_pos (by omega)] | rw [if_neg (by omega)]))⟩
  · (simp only [vSay, vEar, vTold, vNote, vMark, vReset, vShift, vPush, vPop, vTick, vu]; repeat (first | rw [if_pos trivial] | rw [if_pos (by omega)] | rw [if_neg (by omega)]))
    exact n4 k hk
theorem VK.tick (H : VK V s l t n m p B) (hB : B ≤ 20000) : VK (vTick V l) s l t n m p (B + 1) := by
  obtain ⟨b0, b1, b2, b3, b4, b5⟩ := H.1.B
  refine H.now (fun j hj => by (simp only [vSay, vEar, vTold, vNote, vMark, vReset, vShift, vPush, vPop, vTick, vu]; repeat (first | rw [if_pos trivial] | rw [if_pos (by omega)] | rw [if_neg (by omega)]))) ?_
  obtain ⟨⟨mi, n1, n2, n3⟩, n4, n5, n6⟩ := H.2.2.2.1
  refine ⟨⟨mi + 1, by omega, ?_, fun k hk => ?_⟩, fun i hi => by (simp only [vSay, vEar, vTold, vNote, vMark, vReset, vShift, vPush, vPop, vTick, vu]; repeat (first | rw [if_pos trivial] | rw [if_pos (by omega)] | rw [if_neg (by omega)])); exact n4 i hi, fun i hi => ?_, fun i hi hi2 => by (simp only [vSay, vEar, vTold, vNote, vMark, vReset, vShift, vPush, vPop, vTick, vu]; repeat (first | rw [if_pos trivial] | rw [if_pos (by omega)] | rw [if_neg (by omega)])); exact n6 i hi hi2⟩
  · (simp only [vSay, vEar, vTold, vNote, vMark, vReset, vShift, vPush, vPop, vTick, vu]; repeat (first | rw [if_pos trivial] | rw [if_pos (by omega)] | rw [if_neg (by omega)]))
    have : V 33 = nI mi := n2
    rw [this, show (1 : Int32) = nI 1 from rfl, nI_add]
  · (simp only [vSay, vEar, vTold, vNote, vMark, vReset, vShift, vPush, vPop, vTick, vu]; repeat (first | rw [if_pos trivial] | rw [if_pos (by omega)] | rw [if_neg (by omega)]))
    rcases n3 k hk with e | ⟨j, hj, e⟩
    · exact .inl e
    · exact .inr ⟨j, by omega, e⟩
  · by_cases q : i < l
    · (simp only [vSay, vEar, vTold, vNote, vMark, vReset, vShift, vPush, vPop, vTick, vu]; repeat (first | rw [if_pos trivial] | rw [if_pos (by omega)] | rw [if_neg (by omega)]))
      rw [show 33 + (8 + i) - 41 = i by omega]
      obtain ⟨w, hw, e⟩ := n5 i hi
      obtain ⟨w2, hw2, e2⟩ := hn_lt V i (H.ok).1
      have e' : V (33 + (8 + i)) = nI w := e
      rw [e', e2, or_nI]
      exact ⟨_, or_lt hw hw2, rfl⟩
    · (simp only [vSay, vEar, vTold, vNote, vMark, vReset, vShift, vPush, vPop, vTick, vu]; repeat (first | rw [if_pos trivial] | rw [if_pos (by omega)] | rw [if_neg (by omega)]))
      exact n5 i hi
end VKS2
/-- what is held is held, or is new -/
theorem lv_step {s l t n m p s' l' t' n' m' p' k : Nat} (hp : p' = 0 ∨ (p' ≤ p ∧ l' ≤ l)) (h : lv s' l' t' n' m' p' k) : lv s l t n m p k ∨ (6 + s ≤ k ∧ k < 6 + s' ∧ k < 14) ∨ (14 + s ≤ k ∧ k < 14 + s' ∧ k < 22) ∨ (22 + s ≤ k ∧ k < 22 + s' ∧ k < 30) ∨ (30 + l ≤ k ∧ k < 30 + l' ∧ k < 33) ∨ (38 + l ≤ k ∧ k < 38 + l' ∧ k < 41) ∨ (41 + l ≤ k ∧ k < 41 + l' ∧ k < 44) ∨ (44 + t * 3 ≤ k ∧ k < 44 + t' * 3 ∧ k < 59) ∨ (59 + n * 4 ≤ k ∧ k < 59 + n' * 4 ∧ k < 83) ∨ (83 + m * 4 ≤ k ∧ k < 83 + m' * 4 ∧ k < 107) := by
  rcases h with q | ⟨q1, q2, q3⟩ | ⟨q1, q2, q3⟩ | ⟨q1, q2, q3⟩ | ⟨q1, q2, q3⟩ | q | ⟨q1, q2, q3⟩ | ⟨q1, q2, q3⟩ | ⟨q1, q2, q3⟩ | ⟨q1, q2, q3⟩ | ⟨q1, q2, q3⟩ | ⟨q1, q2, q3, q4⟩
  · exact .inl (.inl q)
  · rcases Nat.lt_or_ge k (6 + s) with c | c
    · exact .inl (.inr (.inl ⟨q1, c, q3⟩))
    · exact .inr (.inl ⟨c, q2, q3⟩)
  · rcases Nat.lt_or_ge k (14 + s) with c | c
    · exact .inl (.inr (.inr (.inl ⟨q1, c, q3⟩)))
    · exact .inr (.inr (.inl ⟨c, q2, q3⟩))
  · rcases Nat.lt_or_ge k (22 + s) with c | c
    · exact .inl (.inr (.inr (.inr (.inl ⟨q1, c, q3⟩))))
    · exact .inr (.inr (.inr (.inl ⟨c, q2, q3⟩)))
  · rcases Nat.lt_or_ge k (30 + l) with c | c
    · exact .inl (.inr (.inr (.inr (.inr (.inl ⟨q1, c, q3⟩)))))
    · exact .inr (.inr (.inr (.inr (.inl ⟨c, q2, q3⟩))))
  · exact .inl (.inr (.inr (.inr (.inr (.inr (.inl q))))))
  · rcases Nat.lt_or_ge k (38 + l) with c | c
    · exact .inl (.inr (.inr (.inr (.inr (.inr (.inr (.inl ⟨q1, c, q3⟩)))))))
    · exact .inr (.inr (.inr (.inr (.inr (.inl ⟨c, q2, q3⟩)))))
  · rcases Nat.lt_or_ge k (41 + l) with c | c
    · exact .inl (.inr (.inr (.inr (.inr (.inr (.inr (.inr (.inl ⟨q1, c, q3⟩))))))))
    · exact .inr (.inr (.inr (.inr (.inr (.inr (.inl ⟨c, q2, q3⟩))))))
  · rcases Nat.lt_or_ge k (44 + t * 3) with c | c
    · exact .inl (.inr (.inr (.inr (.inr (.inr (.inr (.inr (.inr (.inl ⟨q1, c, q3⟩)))))))))
    · exact .inr (.inr (.inr (.inr (.inr (.inr (.inr (.inl ⟨c, q2, q3⟩)))))))
  · rcases Nat.lt_or_ge k (59 + n * 4) with c | c
    · exact .inl (.inr (.inr (.inr (.inr (.inr (.inr (.inr (.inr (.inr (.inl ⟨q1, c, q3⟩))))))))))
    · exact .inr (.inr (.inr (.inr (.inr (.inr (.inr (.inr (.inl ⟨c, q2, q3⟩))))))))
  · rcases Nat.lt_or_ge k (83 + m * 4) with c | c
    · exact .inl (.inr (.inr (.inr (.inr (.inr (.inr (.inr (.inr (.inr (.inr (.inl ⟨q1, c, q3⟩)))))))))))
    · exact .inr (.inr (.inr (.inr (.inr (.inr (.inr (.inr (.inr ⟨c, q2, q3⟩))))))))
  · exact .inl (.inr (.inr (.inr (.inr (.inr (.inr (.inr (.inr (.inr (.inr (.inr ⟨q1, by omega, q3, by omega⟩)))))))))))
