/-! ===== PURE: what a house recalls; minutes pass ===== -/
theorem TG_congr {V V' : Vw} (hV : ∀ j, j < 30 → V' j = V j) (set r m : Int32) : ∀ n, n ≤ 8 → TG V' set r m n = TG V set r m n := by
  intro n
  induction n with
  | zero => intro _; rfl
  | succ n ih =>
    intro hn
    unfold TG lb
    rw [ih (by omega), hV (14 + n) (by omega), hV (6 + n) (by omega), hV (22 + n) (by omega)]
theorem HM_congr {V V' : Vw} (hV : ∀ j, j < 30 → V' j = V j) (k all set r m : Int32) : ∀ n, n ≤ 8 → HM V' k all set r m n = HM V k all set r m n := by
  intro n
  induction n with
  | zero => intro _; rfl
  | succ n ih =>
    intro hn
    unfold HM lb
    rw [ih (by omega), hV (14 + n) (by omega), hV (6 + n) (by omega), hV (22 + n) (by omega)]
theorem hd_congr {V V' : Vw} (hV : ∀ j, j < 30 → V' j = V j) (k r m : Int32) (h8 : nS V ≤ 8) : hd V' k r m = hd V k r m := by
  have e : nS V' = nS V := by
    unfold nS
    rw [hV 0 (by omega)]
  unfold hd
  rw [e, TG_congr hV _ _ _ _ h8, HM_congr hV _ _ _ _ _ _ h8]
theorem mo_congr {V V' : Vw} (hV : ∀ j, 33 ≤ j → j < 38 → V' j = V j) {r : Nat} (hr : r < 4) (t : Nat) : mo V' r t = mo V r t := by
  unfold mo
  rw [hV 33 (by omega) (by omega), hV (34 + r) (by omega) (by omega)]
theorem hn_congr {V V' : Vw} {l B i : Nat} (hV : ∀ j, j < 41 → V' j = V j) (N : NowOK (fun j => V (33 + j)) l B) (hi : i < 3) (h8 : nS V ≤ 8) : hn V' i = hn V i := by
  obtain ⟨hp, ep⟩ := at_ok N hi
  unfold hn
  rw [hV (30 + i) (by omega), hV (38 + i) (by omega), mo_congr (fun j h1 h2 => hV j (by omega)) hp, hd_congr (fun j hj => hV j (by omega)) _ _ _ h8]
/-- the first v listeners have heard -/
abbrev vHear (V : Vw) (v : Nat) : Vw := fun j => if 41 ≤ j ∧ j < 41 + v then V j ||| hn V (j - 41) else V j
def vTicks (l lim : Nat) : Nat → Vw → Vw
  | 0, V => V
  | n + 1, V => if nI lim ≤ V 33 then V else vTicks l lim n (vTick V l)
section VKS3
variable {V : Vw} {s l t n m p B : Nat}
theorem VK.hear (H : VK V s l t n m p B) {v : Nat} (hv : v ≤ l) : VK (vHear V v) s l t n m p B := by
  obtain ⟨b0, b1, b2, b3, b4, b5⟩ := H.1.B
  refine H.now (fun j hj => if_neg (by omega)) ?_
  obtain ⟨⟨mi, n1, n2, n3⟩, n4, n5, n6⟩ := H.2.2.2.1
  refine ⟨⟨mi, n1, (if_neg (by omega)).trans n2, fun k hk => ?_⟩, fun i hi => ?_, fun i hi => ?_, fun i hi hi2 => (if_neg (by omega)).trans (n6 i hi hi2)⟩
  · have e : vHear V v (33 + (1 + k)) = V (33 + (1 + k)) := if_neg (by omega)
    show vHear V v (33 + (1 + k)) = -1 ∨ ∃ j, j ≤ mi ∧ vHear V v (33 + (1 + k)) = nI j
    rw [e]
    exact n3 k hk
  · have e : vHear V v (33 + (5 + i)) = V (33 + (5 + i)) := if_neg (by omega)
    show ∃ j, j < 4 ∧ vHear V v (33 + (5 + i)) = nI j
    rw [e]
    exact n4 i hi
  · show ∃ w, w < 256 ∧ vHear V v (33 + (8 + i)) = nI w
    by_cases q : i < v
    · have e : vHear V v (33 + (8 + i)) = V (33 + (8 + i)) ||| hn V (33 + (8 + i) - 41) := if_pos (by omega)
      rw [e, show 33 + (8 + i) - 41 = i by omega]
      obtain ⟨w, hw, e⟩ := n5 i hi
      obtain ⟨w2, hw2, e2⟩ := hn_lt V i (H.ok).1
      have e' : V (33 + (8 + i)) = nI w := e
      rw [e', e2, or_nI]
      exact ⟨_, or_lt hw hw2, rfl⟩
    · have e : vHear V v (33 + (8 + i)) = V (33 + (8 + i)) := if_neg (by omega)
      rw [e]
      exact n5 i hi
theorem VK.tick' (H : VK V s l t n m p B) (hB : B ≤ 20000) (hc : ¬ nI B ≤ V 33) : VK (vTick V l) s l t n m p B := by
  obtain ⟨C, a1, a2, ⟨⟨mi, n1, n2, n3⟩, n4, n5, n6⟩, a4, a5⟩ := H
  have n2' : V 33 = nI mi := n2
  rw [n2'] at hc
  have hm : mi < B := by
    rcases Nat.lt_or_ge mi B with c | c
    · exact c
    · exact absurd (nI_le c (by omega)) hc
  have K' : VK V s l t n m p mi := ⟨C, a1, a2, ⟨⟨mi, Nat.le_refl _, n2, n3⟩, n4, n5, n6⟩, a4, a5⟩
  exact (K'.tick (by omega)).mono hm
theorem VK.ticks {lim : Nat} (hB : lim ≤ 20000) : ∀ (k : Nat) (V : Vw), VK V s l t n m p lim → VK (vTicks l lim k V) s l t n m p lim := by
  intro k
  induction k with
  | zero => intro V H; exact H
  | succ k ih =>
    intro V H
    unfold vTicks
    by_cases c : nI lim ≤ V 33
    · rw [if_pos c]
      exact H
    · rw [if_neg c]
      exact ih _ (H.tick' hB c)
end VKS3
section HOUSE3
variable {h : Nat} {σ0 σ : Sg} {V : Vw} {s l t n m p B : Nat}
theorem h_recall (T : HT h σ0 σ V) (K : VK V s l t n m (p + 1) B) : ∃ σ', m_X2_recall h σ = some σ' ∧ HT h σ0 σ' (vPop V p) := by
  obtain ⟨b0, b1, b2, b3, b4, b5⟩ := K.1.B
  have loop2 : ∀ (kx : Sg → Option Sg) F i (σ : Sg), i ≤ 3 → 3 < i + F → HX h σ0 σ (fun k => lv s l t n m (p + 1) k ∧ ¬ (38 + i ≤ k ∧ k < 41) ∧ ¬ (41 + i ≤ k ∧ k < 44)) (vPop V p) → ∃ σ', m_X2_recall_L81 h (nI p) kx F (nI i) σ = some σ' ∧ HX h σ0 σ' (lv s l t n m (p + 1)) (vPop V p) := by
    intro kx F
    induction F with
    | zero => intro i σ h1 h2; exact absurd h2 (by omega)
    | succ F ih =>
      intro i σ h1 h2 X
      rw [m_X2_recall_L81.eq_2, show (3 : Int32) = nI 3 from rfl]
      rcases Nat.lt_or_ge i 3 with q | q
      · obtain ⟨e1, e2, e3⟩ := a_undo (p * 11 + (5 + i)) (by omega)
        obtain ⟨f1, f2, f3⟩ := a_undo (p * 11 + (8 + i)) (by omega)
        rw [show (p * 11 + (5 + i)) % 11 = 5 + i by omega] at e3
        rw [show (p * 11 + (8 + i)) % 11 = 8 + i by omega] at f3
        have e3 : gr (107 + (p * 11 + (5 + i))) = false := e3.trans (by have : ¬ 5 + i < 5 := (by omega); simp [this])
        have f3 : gr (107 + (p * 11 + (8 + i))) = false := f3.trans (by have : ¬ 8 + i < 5 := (by omega); simp [this])
        obtain ⟨g1, g2, g3⟩ := a_at i q
        obtain ⟨i1, i2, i3⟩ := a_know i q
        rw [if_neg (nI_ge q (by omega)), show (5 : Int32) = nI 5 from rfl, nI_add, g_ok X.2.1.2.2.2.2.2.2 (show p < 8 by omega) (show 5 + i < 11 by omega), bd1_s, show (1 : Int32) = nI 1 from rfl, s_ok X.2.1.2.1 q (by omega), bd1_s]
        have Y := X.set (38 + i) (by omega) (show h + 3 + 1 = _ by rw [g1]) (show i * 3 + 1 = _ from g2.symm) (tr_f (x := σ.1 (h + 13 + 1) (p * 11 + (5 + i))) g3).symm
        rw [show (8 : Int32) = nI 8 from rfl, nI_add, g_ok Y.2.1.2.2.2.2.2.2 (show p < 8 by omega) (show 8 + i < 11 by omega), bd1_s, show (2 : Int32) = nI 2 from rfl, s_ok Y.2.1.2.1 q (by omega), bd1_s, nI_add, nm_eq]
        have Z := Y.set (41 + i) (by omega) (show h + 3 + 1 = _ by rw [i1]) (show i * 3 + 2 = _ from i2.symm) (tr_f (x := (si σ (h + 3 + 1) (i * 3 + 1) (σ.1 (h + 13 + 1) (p * 11 + (5 + i)))).1 (h + 13 + 1) (p * 11 + (8 + i))) i3).symm
        refine ih (i + 1) _ (by omega) (by omega) (Z.out (fun k _ hk => ?_) (fun k _ hk => ?_))
        · by_cases c : k = 38 + i
          · exact .inl (.inr c)
          · by_cases c2 : k = 41 + i
            · exact .inr c2
            · exact .inl (.inl ⟨hk.1, by omega, by omega⟩)
        · have pl : ∀ c, c < 11 → (c < 5 + l ∨ (8 ≤ c ∧ c < 8 + l)) → lv s l t n m (p + 1) (107 + (p * 11 + c)) := fun c hc hl => by
            refine .inr (.inr (.inr (.inr (.inr (.inr (.inr (.inr (.inr (.inr (.inr ⟨by omega, by omega, by omega, ?_⟩))))))))))
            rw [show (107 + (p * 11 + c) - 107) % 11 = c by omega]
            exact hl
          have hne1 : i < l → σ.1 (h + 13 + 1) (p * 11 + (5 + i)) = V (107 + (p * 11 + (5 + i))) := fun hi => by
            have := X.2.2 (107 + (p * 11 + (5 + i))) (by omega) ⟨pl _ (by omega) (by omega), by omega, by omega⟩
            rw [e1, e2, tr_f e3] at this
            refine this.trans ?_
            (try simp only [vSay, vEar, vTold, vNote, vMark, vReset, vShift, vPush, vPop, vTick, vu]; repeat (first | rw [if_pos trivial] | rw [if_pos (by omega)] | rw [if_neg (by omega)]))
          have hne2 : i < l → (si σ (h + 3 + 1) (i * 3 + 1) (σ.1 (h + 13 + 1) (p * 11 + (5 + i)))).1 (h + 13 + 1) (p * 11 + (8 + i)) = V (107 + (p * 11 + (8 + i))) := fun hi => by
            have := X.2.2 (107 + (p * 11 + (8 + i))) (by omega) ⟨pl _ (by omega) (by omega), by omega, by omega⟩
            rw [f1, f2, tr_f f3] at this
            rw [si_row _ _ _ _ (by omega)]
            refine this.trans ?_
            (try simp only [vSay, vEar, vTold, vNote, vMark, vReset, vShift, vPush, vPop, vTick, vu]; repeat (first | rw [if_pos trivial] | rw [if_pos (by omega)] | rw [if_neg (by omega)]))
          have hl : i < l ∨ (k ≠ 38 + i ∧ k ≠ 41 + i) := by
            obtain ⟨hk, _⟩ := hk
            unfold lv at hk
            omega
          by_cases c : k = 38 + i
          · subst c
            rw [vu_off _ _ (by omega), vu_at, hne1 (by omega)]
            (try simp only [vSay, vEar, vTold, vNote, vMark, vReset, vShift, vPush, vPop, vTick, vu]; repeat (first | rw [if_pos trivial] | rw [if_pos (by omega)] | rw [if_neg (by omega)]))
            rw [show 38 + i - 33 = 5 + i by omega]
          · by_cases c2 : k = 41 + i
            · subst c2
              rw [vu_at, hne2 (by omega)]
              (try simp only [vSay, vEar, vTold, vNote, vMark, vReset, vShift, vPush, vPop, vTick, vu]; repeat (first | rw [if_pos trivial] | rw [if_pos (by omega)] | rw [if_neg (by omega)]))
              rw [show 41 + i - 33 = 8 + i by omega]
            · rw [vu_off _ _ c2, vu_off _ _ c]
      · have : i = 3 := by omega
        subst this
        rw [if_pos (nI_le (Nat.le_refl _) (by omega))]
        exact ⟨σ, rfl, X.out (fun k _ hk => ⟨hk, by omega, by omega⟩) (fun k _ _ => rfl)⟩
  have loop1 : ∀ (kx : Sg → Option Sg) F r (σ : Sg), r ≤ 4 → 4 < r + F → HX h σ0 σ (fun k => lv s l t n m (p + 1) k ∧ ¬ (34 + r ≤ k ∧ k < 44)) (vPop V p) → ∃ σ', m_X2_recall_L48 h (nI p) kx F (nI r) σ = kx σ' ∧ HX h σ0 σ' (fun k => lv s l t n m (p + 1) k ∧ ¬ (38 ≤ k ∧ k < 44)) (vPop V p) := by
    intro kx F
    induction F with
    | zero => intro i σ h1 h2; exact absurd h2 (by omega)
    | succ F ih =>
      intro r σ h1 h2 X
      rw [m_X2_recall_L48.eq_2, show (4 : Int32) = nI 4 from rfl]
      rcases Nat.lt_or_ge r 4 with q | q
      · obtain ⟨e1, e2, e3⟩ := a_undo (p * 11 + (1 + r)) (by omega)
        rw [show (p * 11 + (1 + r)) % 11 = 1 + r by omega] at e3
        have e3 : gr (107 + (p * 11 + (1 + r))) = true := e3.trans (by have : 1 + r < 5 := (by omega); simp [this])
        obtain ⟨g1, g2, g3⟩ := a_since r q
        have hL : lv s l t n m (p + 1) (107 + (p * 11 + (1 + r))) := by
          refine .inr (.inr (.inr (.inr (.inr (.inr (.inr (.inr (.inr (.inr (.inr ⟨by omega, by omega, by omega, ?_⟩))))))))))
          rw [show (107 + (p * 11 + (1 + r)) - 107) % 11 = 1 + r by omega]
          omega
        have hv : σ.1 (h + 13 + 1) (p * 11 + (1 + r)) = V (107 + (p * 11 + (1 + r))) + 1 := by
          have := X.2.2 (107 + (p * 11 + (1 + r))) (by omega) ⟨hL, by omega⟩
          rw [e1, e2, tr_t e3] at this
          refine this.trans ?_
          (try simp only [vSay, vEar, vTold, vNote, vMark, vReset, vShift, vPush, vPop, vTick, vu]; repeat (first | rw [if_pos trivial] | rw [if_pos (by omega)] | rw [if_neg (by omega)]))
        rw [if_neg (nI_ge q (by omega)), show (1 : Int32) = nI 1 from rfl, nI_add, g_ok X.2.1.2.2.2.2.2.2 (show p < 8 by omega) (show 1 + r < 11 by omega), bd1_s, show (0 : Int32) = nI 0 from rfl, s_ok X.2.1.2.2.1 q (by omega), bd1_s, nI_add, nm_eq]
        have Y := X.set (34 + r) (by omega) (x := V (107 + (p * 11 + (1 + r)))) (show h + 5 + 1 = _ by rw [g1]) (show r * 1 + 0 = _ from g2.symm) (show σ.1 (h + 13 + 1) (p * 11 + (1 + r)) = _ by rw [hv, tr_t g3])
        refine ih (r + 1) _ (by omega) (by omega) (Y.out (fun k _ hk => ?_) (fun k _ hk => ?_))
        · by_cases c : k = 34 + r
          · exact .inr c
          · exact .inl ⟨hk.1, by omega⟩
        · by_cases c : k = 34 + r
          · subst c
            (try simp only [vSay, vEar, vTold, vNote, vMark, vReset, vShift, vPush, vPop, vTick, vu]; repeat (first | rw [if_pos trivial] | rw [if_pos (by omega)] | rw [if_neg (by omega)]))
            rw [show 34 + r - 33 = 1 + r by omega]
          · rw [vu_off _ _ c]
      · have : r = 4 := by omega
        subst this
        rw [if_pos (nI_le (Nat.le_refl _) (by omega))]
        exact ⟨σ, rfl, X.out (fun k _ hk => ⟨hk.1, by omega⟩) (fun k _ _ => rfl)⟩
  have e0 : σ.1 (h + 13) 3 = nI (p + 1) := (T.2.2.1.2.2.2.2.2.1).trans K.1.1.2.2.2.2.2
  unfold m_X2_recall
  rw [e0, if_pos (show (1 : Int32) ≤ nI (p + 1) from nI_le (show 1 ≤ p + 1 by omega) (show p + 1 < 2 ^ 31 by omega)), nI_prd (by omega) (by omega), show p + 1 - 1 = p by omega, nm_eq, si_at, nm_eq]
  have X1 := (T.K K.1).set 5 (by omega) (x := nI p) (show h + 13 = _ from rfl) (show 3 = _ from rfl) (tr_f rfl).symm
  obtain ⟨e1, e2, e3⟩ := a_undo (p * 11 + 0) (by omega)
  rw [show (p * 11 + 0) % 11 = 0 by omega] at e3
  have e3 : gr (107 + (p * 11 + 0)) = false := e3
  have hL : lv s l t n m (p + 1) (107 + (p * 11 + 0)) := by
    refine .inr (.inr (.inr (.inr (.inr (.inr (.inr (.inr (.inr (.inr (.inr ⟨by omega, by omega, by omega, ?_⟩))))))))))
    rw [show (107 + (p * 11 + 0) - 107) % 11 = 0 by omega]
    omega
  have hv : (si σ (h + 13) 3 (nI p)).1 (h + 13 + 1) (p * 11 + 0) = V (107 + (p * 11 + 0)) := by
    have := X1.2.2 (107 + (p * 11 + 0)) (by omega) (.inl hL)
    rw [e1, e2, tr_f e3] at this
    refine this.trans ?_
    (try simp only [vSay, vEar, vTold, vNote, vMark, vReset, vShift, vPush, vPop, vTick, vu]; repeat (first | rw [if_pos trivial] | rw [if_pos (by omega)] | rw [if_neg (by omega)]))
  rw [show (0 : Int32) = nI 0 from rfl, g_ok X1.2.1.2.2.2.2.2.2 (show p < 8 by omega) (by omega), bd1_s, nm_eq, nm_eq, hv]
  have X2 := X1.set 33 (by omega) (x := V (107 + (p * 11 + 0))) (show h = _ from rfl) (show 0 = _ from rfl) (tr_f rfl).symm
  obtain ⟨σ1, e4, Y⟩ := loop1 (fun σ12 =>
    nm (nI 0) (fun x13 =>
    m_X2_recall_L81 h (nI p) (fun _ => none) 1000 x13 σ12)) 1000 0 _ (by omega) (by omega) (X2.out (L' := fun k => lv s l t n m (p + 1) k ∧ ¬ (34 + 0 ≤ k ∧ k < 44)) (V' := vPop V p) (fun k _ hk => .inl (.inl hk.1)) (fun k _ hk => by
      by_cases c : k = 5
      · (try simp only [vSay, vEar, vTold, vNote, vMark, vReset, vShift, vPush, vPop, vTick, vu]; repeat (first | rw [if_pos trivial] | rw [if_pos (by omega)] | rw [if_neg (by omega)]))
      · by_cases c2 : k = 33
        · subst c2
          (try simp only [vSay, vEar, vTold, vNote, vMark, vReset, vShift, vPush, vPop, vTick, vu]; repeat (first | rw [if_pos trivial] | rw [if_pos (by omega)] | rw [if_neg (by omega)]))
        · (try simp only [vSay, vEar, vTold, vNote, vMark, vReset, vShift, vPush, vPop, vTick, vu]; repeat (first | rw [if_pos trivial] | rw [if_pos (by omega)] | rw [if_neg (by omega)]))))
  obtain ⟨σ2, e5, Z⟩ := loop2 (fun _ => none) 1000 0 _ (by omega) (by omega) (Y.out (fun k _ hk => ⟨hk.1, by omega⟩) (fun k _ _ => rfl))
  refine ⟨σ2, e4.trans e5, HX.fin K.pop.1 (Z.out (fun k _ hk => ?_) (fun k _ _ => rfl))⟩
  rcases lv_step (s := s) (l := l) (t := t) (n := n) (m := m) (p := p + 1) (by omega) hk with q | q
  · exact q
  · omega
theorem h_hear (hB : B ≤ 20000) (K : VK V s l t n m p B) (c1 c2 c3 : Int32) (kx : Sg → Option Sg) : ∀ F v (σ : Sg), v ≤ l → l < v + F → HT h σ0 σ (vHear V v) → ∃ σ', m_X2_passMinutes_L18 h c3 c1 c2 kx F (nI v) σ = kx σ' ∧ HT h σ0 σ' (vHear V l) := by
  obtain ⟨b0, b1, b2, b3, b4, b5⟩ := K.1.B
  intro F
  induction F with
  | zero => intro i σ h1 h2; exact absurd h2 (by omega)
  | succ F ih =>
    intro v σ h1 h2 T
    have K' := K.hear h1
    have hN := K'.1.N
    have el : σ.1 (h + 3) 3 = nI l := (T.2.2.1.2.1).trans K'.1.1.2.1
    rw [m_X2_passMinutes_L18.eq_2, el]
    rcases Nat.lt_or_ge v l with q | q
    · have N' := K'.ok.N
      have hvl : v < nL (vHear V v) := by rw [hN.2.1]; exact q
      obtain ⟨hp, ep⟩ := at_ok N' (show v < 3 by omega)
      have eh : hd (vHear V v) (vHear V v (30 + v)) (vHear V v (38 + v)) (mo (vHear V v) (cnt (vHear V v (38 + v))) 0) = hn V v :=
        hn_congr (V' := vHear V v) (fun j hj => if_neg (by omega)) K.ok.N (by omega) (by have := K.1.N.1; omega)
      rw [if_neg (nI_ge q (by omega)), show (1 : Int32) = nI 1 from rfl, g_ok T.2.1.2.1 (by omega) (by omega), bd1_s, (T.2.2.2.2.1 v hvl).2.1, ep, show (0 : Int32) = nI 0 from rfl, e_roomMinute T.2.1 T.2.2 N' hB hp (by omega), bd1_s, e_heardIn T.2.1 T.2.2 K'.ok.1 K'.ok.2.1 hvl _ _ (mo_sign N' hB hp (by omega)), bd1_s, ← ep, eh, show (2 : Int32) = nI 2 from rfl, g_ok T.2.1.2.1 (by omega) (by omega), bd1_s, (T.2.2.2.2.1 v hvl).2.2, s_ok T.2.1.2.1 (by omega) (by omega), bd1_s, nI_add, nm_eq]
      obtain ⟨g1, g2, g3⟩ := a_know v (by omega)
      have X := (T.K K'.1).set (41 + v) (by omega) (show h + 3 + 1 = _ by rw [g1]) (show v * 3 + 2 = _ from g2.symm) (tr_f (x := vHear V v (41 + v) ||| hn V v) g3).symm
      refine ih (v + 1) _ (by omega) (by omega) (HX.fin (K.hear q).1 (X.out (fun k _ hk => .inl hk) (fun k _ hk => ?_)))
      by_cases c : k = 41 + v
      · subst c
        have e1 : vHear V v (41 + v) = V (41 + v) := if_neg (by omega)
        have e2 : vHear V (v + 1) (41 + v) = V (41 + v) ||| hn V (41 + v - 41) := if_pos (by omega)
        rw [vu_at, e1, e2, show 41 + v - 41 = v by omega]
      · rw [vu_off _ _ c]
        by_cases c2 : 41 ≤ k ∧ k < 41 + v
        · show (if _ then _ else _) = (if _ then _ else _)
          rw [if_pos c2, if_pos (by omega)]
        · show (if _ then _ else _) = (if _ then _ else _)
          rw [if_neg c2, if_neg (by omega)]
    · have : v = l := by omega
      subst this
      rw [if_pos (nI_le (Nat.le_refl _) (by omega))]
      exact ⟨σ, rfl, T⟩
theorem h_pass {lim N : Nat} (hB : lim ≤ 20000) (hN : N < 1000) (T : HT h σ0 σ V) (K : VK V s l t n m p lim) : ∃ σ', m_X2_passMinutes h (nI N) (nI lim) σ = some σ' ∧ HT h σ0 σ' (vTicks l lim N V) := by
  have loop : ∀ F v (σ : Sg) (V : Vw), v ≤ N → N < v + F → HT h σ0 σ V → VK V s l t n m p lim → ∃ σ', m_X2_passMinutes_L2 h (nI N) (nI lim) (fun _ => none) F (nI v) σ = some σ' ∧ HT h σ0 σ' (vTicks l lim (N - v) V) := by
    intro F
    induction F with
    | zero => intro i σ V h1 h2; exact absurd h2 (by omega)
    | succ F ih =>
      intro v σ V h1 h2 T K
      rw [m_X2_passMinutes_L2.eq_2]
      rcases Nat.lt_or_ge v N with q | q
      · have em : σ.1 h 0 = V 33 := T.2.2.1.2.2.2.2.2.2
        rw [if_neg (nI_ge q (by omega)), em, show N - v = N - (v + 1) + 1 by omega]
        unfold vTicks
        by_cases c : nI lim ≤ V 33
        · rw [if_pos c, if_pos c]
          exact ⟨σ, rfl, T⟩
        · rw [if_neg c, if_neg c, nm_eq]
          have b := K.1.B
          have T0 : HT h σ0 σ (vHear V 0) := HX.fin (K.hear (Nat.zero_le _)).1 ((T.K K.1).out (fun k _ hk => hk) (fun k _ _ => if_neg (by omega)))
          obtain ⟨σ1, e1, T1⟩ := h_hear hB K (nI N) (nI lim) (nI v) (fun σ14 =>
            nm (si σ14 h 0 ((σ14.1 h 0) + (1 : Int32))) (fun σ15 =>
            nm ((nI v) + (1 : Int32)) (fun x16 =>
            m_X2_passMinutes_L2 h (nI N) (nI lim) (fun _ => none) F x16 σ15))) 1000 0 σ (Nat.zero_le _) (by omega) T0
          have em1 : σ1.1 h 0 = V 33 := (T1.2.2.1.2.2.2.2.2.2).trans (if_neg (by omega))
          have X := (T1.K (K.hear (Nat.le_refl _)).1).set 33 (by omega) (x := V 33 + 1) (show h = _ from rfl) (show 0 = _ from rfl) (tr_f rfl).symm
          have Kt := K.tick' hB c
          have T2 : HT h σ0 (si σ1 h 0 (V 33 + 1)) (vTick V l) := HX.fin Kt.1 (X.out (fun k _ hk => .inl hk) (fun k _ hk => by
            by_cases c : k = 33
            · subst c
              rw [vu_at]
              (try simp only [vSay, vEar, vTold, vNote, vMark, vReset, vShift, vPush, vPop, vTick, vu]; repeat (first | rw [if_pos trivial] | rw [if_pos (by omega)] | rw [if_neg (by omega)]))
            · rw [vu_off _ _ c]
              show (if _ then _ else _) = (if _ then _ else _)
              rw [if_neg c]))
          obtain ⟨σ2, e2, T3⟩ := ih (v + 1) _ _ (by omega) (by omega) T2 Kt
          refine ⟨σ2, ?_, T3⟩
          refine Eq.trans e1 ?_
          rw [nm_eq, nm_eq, em1, nI_1]
          exact e2
      · have : v = N := by omega
        subst this
        rw [if_pos (nI_le (Nat.le_refl _) (by omega)), Nat.sub_self]
        exact ⟨σ, rfl, T⟩
  unfold m_X2_passMinutes
  rw [nm_eq]
  exact loop 1000 0 σ V (Nat.zero_le _) (by omega) T K
end HOUSE3
