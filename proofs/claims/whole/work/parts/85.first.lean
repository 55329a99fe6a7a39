/-! ===== PURE: the first state of both sides ===== -/
def sgT : Sg := kX8 (zi (kX7 (zi sg0 0)) 68)
theorem sgT_live : ∀ j, j < 195 → sgT.1 (mr j) (mc j) = 0 := by decide +kernel
theorem sgT_S1 : HS sgT 1 := by
  unfold HS RS
  decide +kernel
theorem sgT_S2 : HS sgT 16 := by
  unfold HS RS
  decide +kernel
theorem sgT_S3 : HS sgT 31 := by
  unfold HS RS
  decide +kernel
theorem sgT_S4 : HS sgT 46 := by
  unfold HS RS
  decide +kernel
theorem sgT_R : RS sgT 65 2 4 ∧ RS sgT 62 150 1 := by
  unfold RS
  decide +kernel
theorem sgT_0 : (sgT.1 0 4 = 0 ∧ sgT.1 0 5 = 0 ∧ sgT.1 84 0 = 0 ∧ sgT.1 84 1 = 0) ∧ (sgT.1 62 3 = nI 0 ∧ sgT.1 68 9 = nI 0) ∧ (sgT.1 0 9 = sgT.1 69 0 ∧ sgT.1 0 10 = sgT.1 69 1 ∧ sgT.1 0 11 = sgT.1 69 2) ∧ (sgT.2 67 0 = 0 ∧ sgT.2 67 1 = 1 ∧ sgT.2 68 22 = 0) ∧ (sgT.1 1 0 = 0 ∧ sgT.1 2 3 = 0 ∧ sgT.1 4 3 = 0 ∧ sgT.1 8 3 = 0 ∧ sgT.1 10 3 = 0 ∧ sgT.1 12 3 = 0 ∧ sgT.1 14 3 = 0) ∧ ∀ r, r < 4 → sgT.1 7 (r * 1 + 0) = 0 := by decide +kernel
theorem first_rel : ∃ σe, m_X8_empties sgT = some σe ∧ Rel (sl σe 68 23 1) := by
  have L0 : Live sgT (fun _ => 0) := LW_Live (fun j hj => sgT_live j hj)
  obtain ⟨σe, e, ⟨hM, h68, hl⟩, hL⟩ := m_empties (LX.of L0)
  obtain ⟨⟨z1, z2, z3, z4⟩, ⟨z5, z6⟩, ⟨z7, z8, z9⟩, ⟨z10, z11, z12⟩, ⟨y0, y1, y2, y3, y4, y5, y6⟩, yr⟩ := sgT_0
  have k : ∀ a, ¬ (a = 68 ∨ (70 ≤ a ∧ a ≤ 74) ∨ (77 ≤ a ∧ a ≤ 80)) → (sl σe 68 23 1).1 a = sgT.1 a := fun a h => hM a h
  have n0 : ∀ j, j < 6 → vReset (fun _ => 0) j = 0 := fun j hj => if_pos hj
  have c0 : ∀ j, j < 6 → cnt (vReset (fun _ => 0) j) = 0 := fun j hj => by
    rw [n0 j hj]
    rfl
  have v33 : vReset (fun _ => 0) 33 = 0 := by (try simp only [vSay, vEar, vTold, vNote, vMark, vReset, vShift, vPush, vPop, vTick, vu]; repeat (first | rw [if_pos trivial] | rw [if_pos (by omega)] | rw [if_neg (by omega)]))
  have HV1 : HV (sl σe 68 23 1) 1 (vReset (fun _ => 0)) := by
    refine ⟨⟨?_, ?_, ?_, ?_, ?_, ?_, ?_⟩, fun s hs => ?_, fun i hi => ?_, fun r hr => ?_, fun j hj => ?_, fun j hj => ?_, fun j hj => ?_, fun j hj => ?_⟩
    · rw [k 2 (by omega), n0 0 (by omega)]
      exact y1
    · rw [k 4 (by omega), n0 1 (by omega)]
      exact y2
    · rw [k 8 (by omega), n0 2 (by omega)]
      exact y3
    · rw [k 10 (by omega), n0 3 (by omega)]
      exact y4
    · rw [k 12 (by omega), n0 4 (by omega)]
      exact y5
    · rw [k 14 (by omega), n0 5 (by omega)]
      exact y6
    · rw [k 1 (by omega), v33]
      exact y0
    · have := c0 0 (by omega)
      unfold nS at hs
      omega
    · have := c0 1 (by omega)
      unfold nL at hi
      omega
    · rw [k 7 (by omega), yr r hr, show vReset (fun _ => 0) (34 + r) = -1 by (try simp only [vSay, vEar, vTold, vNote, vMark, vReset, vShift, vPush, vPop, vTick, vu]; repeat (first | rw [if_pos trivial] | rw [if_pos (by omega)] | rw [if_neg (by omega)]))]
      rfl
    · have := c0 2 (by omega)
      unfold nT at hj
      omega
    · have := c0 3 (by omega)
      unfold nN at hj
      omega
    · have := c0 4 (by omega)
      unfold nM at hj
      omega
    · have := c0 5 (by omega)
      unfold nP at hj
      omega
  refine ⟨σe, e, ⟨⟨sgT_S2.keep (fun a h1 h2 => k a (by omega)), sgT_S3.keep (fun a h1 h2 => k a (by omega)), sgT_S4.keep (fun a h1 h2 => k a (by omega)), sgT_R.1.keep (by rw [k 65 (by omega)]) (by rw [k 65 (by omega)])⟩, .inl ⟨?_, ?_⟩, .inl ⟨?_, ?_⟩, ⟨sgT_R.2.keep (by rw [k 62 (by omega)]) (by rw [k 62 (by omega)]), 0, by omega, ?_, ?_, fun j hj => absurd hj (by omega)⟩, ⟨?_, ?_, ?_⟩, ?_, ?_⟩, vReset (fun _ => 0), (VK.reset _ 9999).ok, sgT_S1.keep (fun a h1 h2 => k a (by omega)), HV1, hL⟩
  · rw [k 0 (by omega)]
    exact z1
  · rw [k 84 (by omega)]
    exact z3
  · rw [k 0 (by omega)]
    exact z2
  · rw [k 84 (by omega)]
    exact z4
  · rw [k 62 (by omega)]
    exact z5
  · exact (h68 9 (by omega)).trans z6
  · rw [k 0 (by omega), k 69 (by omega)]
    exact z7
  · rw [k 0 (by omega), k 69 (by omega)]
    exact z8
  · rw [k 0 (by omega), k 69 (by omega)]
    exact z9
  · show (if (67 : Nat) = 68 ∧ (0 : Nat) = 23 then (1 : Int64) else σe.2 67 0) = (if (68 : Nat) = 68 ∧ (22 : Nat) = 23 then (1 : Int64) else σe.2 68 22)
    rw [if_neg (by omega), if_neg (by omega), hl, z10, z12]
  · show (if (67 : Nat) = 68 ∧ (1 : Nat) = 23 then (1 : Int64) else σe.2 67 1) = (if (68 : Nat) = 68 ∧ (23 : Nat) = 23 then (1 : Int64) else σe.2 68 23)
    rw [if_neg (by omega), if_pos (by omega), hl, z11]
theorem sp_all : Sp Rel := ⟨sp_house, sp_say, sp_ear, sp_type, sp_clear, sp_read, sp_strips, sp_papers, sp_goes, sp_minutes, sp_undo, sp_of, sp_about, sp_room, sp_loud, sp_first, sp_stay, sp_stand, sp_told, sp_said, sp_note, sp_mark, sp_forget, sp_is, sp_look, sp_kinds, sp_ask, sp_brothers, sp_holds, sp_jobs, sp_part, sp_image, sp_from, sp_status, sp_count, sp_digest⟩
