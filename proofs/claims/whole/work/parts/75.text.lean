/-! ===== PURE: the text, tokens ===== -/
def rn (P : Nat → Bool) : Nat → Nat → Nat
  | 0, p => p
  | f + 1, p => if P p = true then rn P f (p + 1) else p
theorem rn_s (P : Nat → Bool) (f p : Nat) : rn P (f + 1) p = if P p = true then rn P f (p + 1) else p := rfl
theorem rn_ge (P : Nat → Bool) : ∀ f p, p ≤ rn P f p := by
  intro f
  induction f with
  | zero => intro p; exact Nat.le_refl _
  | succ f ih =>
    intro p
    have := ih (p + 1)
    rw [rn_s]
    split <;> omega
theorem rn_le {P : Nat → Bool} {n : Nat} (h : ∀ p, P p = true → p < n) : ∀ f p, p ≤ n → rn P f p ≤ n := by
  intro f
  induction f with
  | zero => intro p hp; exact hp
  | succ f ih =>
    intro p hp
    rw [rn_s]
    split
    · exact ih (p + 1) (h p ‹_›)
    · exact hp
theorem rn_in {P : Nat → Bool} : ∀ f p r, p ≤ r → r < rn P f p → P r = true := by
  intro f
  induction f with
  | zero => intro p r h1 h2; exact absurd h2 (by simp [rn]; omega)
  | succ f ih =>
    intro p r h1 h2
    rw [rn_s] at h2
    by_cases c : P p = true
    · rw [if_pos c] at h2
      by_cases e : r = p
      · rw [e]
        exact c
      · exact ih (p + 1) r (by omega) h2
    · rw [if_neg c] at h2
      omega
theorem rn_stop {P : Nat → Bool} {n : Nat} (h : ∀ p, P p = true → p < n) : ∀ f p, n < p + f → ¬ P (rn P f p) = true := by
  intro f
  induction f with
  | zero => intro p hp z; exact absurd (h _ z) (by simp [rn]; omega)
  | succ f ih =>
    intro p hp
    rw [rn_s]
    by_cases c : P p = true
    · rw [if_pos c]
      exact ih (p + 1) (by omega)
    · rw [if_neg c]
      exact c
theorem rn_fuel {P : Nat → Bool} {n : Nat} (h : ∀ p, P p = true → p < n) : ∀ f g p, n < p + f → n < p + g → rn P f p = rn P g p := by
  intro f
  induction f with
  | zero =>
    intro g p h1 h2
    have c : ¬ P p = true := fun z => absurd (h _ z) (by omega)
    cases g with
    | zero => rfl
    | succ g => rw [rn_s, if_neg c]; rfl
  | succ f ih =>
    intro g p h1 h2
    cases g with
    | zero =>
      have c : ¬ P p = true := fun z => absurd (h _ z) (by omega)
      rw [rn_s, if_neg c]
      rfl
    | succ g =>
      rw [rn_s, rn_s, ih g (p + 1) (by omega) (by omega)]
/-- what sort of token begins at p: 0 none is left, 1 a word, 2 a number, 3 a stop, 4 none -/
def so (n : Nat) (t : Nat → Nat) (p : Nat) : Nat := if p < n then (if 97 ≤ t p ∧ t p ≤ 122 then 1 else if 48 ≤ t p ∧ t p ≤ 57 then 2 else if t p = 59 then 3 else 4) else 0
abbrev bl (n : Nat) (t : Nat → Nat) (p : Nat) : Bool := decide (p < n ∧ t p = 32)
abbrev sm (n : Nat) (t : Nat → Nat) (s p : Nat) : Bool := decide (p < n ∧ so n t p = s)
theorem bl_n {n : Nat} {t : Nat → Nat} : ∀ p, bl n t p = true → p < n := fun p h => (of_decide_eq_true h).1
theorem sm_n {n : Nat} {t : Nat → Nat} {s : Nat} : ∀ p, sm n t s p = true → p < n := fun p h => (of_decide_eq_true h).1
def sk (n : Nat) (t : Nat → Nat) (p : Nat) : Nat := rn (bl n t) 200 p
def rs (n : Nat) (t : Nat → Nat) (s p : Nat) : Nat := rn (sm n t s) 200 p
theorem so_le (n : Nat) (t : Nat → Nat) (p : Nat) : so n t p ≤ 4 := by
  unfold so
  repeat' split
  all_goals omega
theorem so_0 {n : Nat} {t : Nat → Nat} {p : Nat} : so n t p = 0 ↔ n ≤ p := by
  unfold so
  repeat' split
  all_goals omega
theorem sk_le {n : Nat} {t : Nat → Nat} {p : Nat} (h : p ≤ n) : sk n t p ≤ n := rn_le bl_n _ _ h
theorem sk_ge (n : Nat) (t : Nat → Nat) (p : Nat) : p ≤ sk n t p := rn_ge _ _ _
theorem rs_ge (n : Nat) (t : Nat → Nat) (s p : Nat) : p ≤ rs n t s p := rn_ge _ _ _
theorem rs_le {n : Nat} {t : Nat → Nat} {s p : Nat} (h : p ≤ n) : rs n t s p ≤ n := rn_le sm_n _ _ h
/-- the number that is told, as far as place k -/
def VL (t : Nat → Nat) (b : Nat) : Nat → Int32
  | 0 => 0
  | k + 1 => 10 * VL t b k + nI (t (b + k)) - 48
def TX (σ : Sg) (n : Nat) (t : Nat → Nat) : Prop := RS σ 62 150 1 ∧ σ.1 62 3 = nI n ∧ (∀ j, j < n → σ.1 63 j = nI (t j)) ∧ n ≤ 150 ∧ ∀ j, t j < 128
theorem TX.fr {σ σ' : Sg} {n : Nat} {t : Nat → Nat} (H : TX σ n t) (h1 : σ'.1 62 = σ.1 62) (h2 : σ'.1 63 = σ.1 63) : TX σ' n t := by
  obtain ⟨a, b, c, d⟩ := H
  exact ⟨a.keep (by rw [h1]) (by rw [h1]), by rw [h1]; exact b, by rw [h2]; exact c, d⟩
/-- row 61 is another, but for what it holds of an item -/
def G61 (σ σ' : Sg) : Prop := FR 61 σ σ' ∧ σ'.1 61 5 = σ.1 61 5 ∧ σ'.1 61 6 = σ.1 61 6
theorem G61.set {σ σ' : Sg} (H : G61 σ σ') {j : Nat} (hj : j < 5) (x : Int32) : G61 σ (si σ' 61 j x) :=
  ⟨H.1.set _ _, (si_off' _ _ _ _ _ (by omega)).trans H.2.1, (si_off' _ _ _ _ _ (by omega)).trans H.2.2⟩
theorem G61.rfl' (σ : Sg) : G61 σ σ := ⟨⟨fun _ _ => rfl, rfl⟩, rfl, rfl⟩
theorem TX.g {σ σ' : Sg} {n : Nat} {t : Nat → Nat} (H : TX σ n t) (F : G61 σ σ') : TX σ' n t := H.fr (F.1.1 62 (by omega)) (F.1.1 63 (by omega))
section TOK
variable {σ : Sg} {n : Nat} {t : Nat → Nat}
theorem x_byte (H : TX σ n t) {p : Nat} (hp : p < n) : m_X6_get 62 (nI p) 0 σ = some (nI (t p)) := by
  obtain ⟨hR, e, hb, h1, h2⟩ := H
  have := g_ok (c := 0) hR (show p < 150 by omega) (by omega)
  rw [show (0 : Int32) = nI 0 from rfl, this]
  exact congrArg some ((by rw [show p * 1 + 0 = p by omega] : σ.1 (62 + 1) (p * 1 + 0) = σ.1 63 p).trans (hb p hp))
theorem x_sortAt (H : TX σ n t) {p : Nat} (hp : p ≤ 1000) : m_X5_sortAt (nI p) σ = some (nI (so n t p)) := by
  obtain ⟨hR, e, hb, h1, h2⟩ := id H
  unfold m_X5_sortAt
  rw [e]
  rcases Nat.lt_or_ge p n with q | q
  · have ht := h2 p
    have c1 : (nI (t p) < (97 : Int32)) ↔ t p < 97 := nI_ltI (b := 97) (by omega) (by omega)
    have c2 : (nI (t p) < (48 : Int32)) ↔ t p < 48 := nI_ltI (b := 48) (by omega) (by omega)
    have c3 : ((57 : Int32) < nI (t p)) ↔ 57 < t p := nI_ltI (a := 57) (by omega) (by omega)
    have c4 : ((122 : Int32) < nI (t p)) ↔ 122 < t p := nI_ltI (a := 122) (by omega) (by omega)
    have c5 : (nI (t p) = (59 : Int32)) ↔ t p = 59 := nI_eq (b := 59) (by omega) (by omega)
    rw [if_pos (nI_lt q (by omega)), x_byte H q, bd1_s]
    simp only [c1, c2, c3, c4, c5]
    unfold so
    rw [if_pos q]
    repeat' split
    all_goals first | rfl | (exfalso; omega)
  · rw [if_neg (nI_nlt q (by omega)), so_0.mpr q]
    rfl
theorem x_blanks (H : TX σ n t) {β : Type} (kx : Sg → Option β) : ∀ F p (σ' : Sg), p ≤ n → n < p + F → G61 σ σ' → σ'.1 61 1 = nI p → ∃ σ'', m_X5_advance_L8 kx F σ' = kx σ'' ∧ G61 σ σ'' ∧ σ''.1 61 1 = nI (sk n t p) ∧ σ''.1 61 4 = σ'.1 61 4 := by
  obtain ⟨hR, e, hb, h1, h2⟩ := id H
  intro F
  induction F with
  | zero => intro p σ' q1 q2; exact absurd q2 (by omega)
  | succ F ih =>
    intro p σ' q1 q2 G e1
    have H' := H.g G
    have hs : sk n t p = if bl n t p = true then sk n t (p + 1) else p := by
      unfold sk
      rw [rn_s, rn_fuel bl_n 199 200 (p + 1) (by omega) (by omega)]
    rw [m_X5_advance_L8.eq_2, H'.2.1, e1, hs]
    rcases Nat.lt_or_ge p n with q | q
    · rw [if_neg (nI_ge q (by omega)), x_byte H' q, bd1_s]
      have ht := h2 p
      have c5 : (nI (t p) = (32 : Int32)) ↔ t p = 32 := nI_eq (b := 32) (by omega) (by omega)
      by_cases c : t p = 32
      · rw [if_pos (c5.mpr c), if_pos (decide_eq_true ⟨q, c⟩), nI_1, nm_eq]
        obtain ⟨σ'', g1, g2, g3, g4⟩ := ih (p + 1) _ (by omega) (by omega) (G.set (by omega) _) (si_at _ _ _ _)
        exact ⟨σ'', g1, g2, g3, g4.trans (si_off' _ _ _ _ _ (by omega))⟩
      · rw [if_neg (fun z => c (c5.mp z)), if_neg (fun z => c (of_decide_eq_true z).2)]
        exact ⟨σ', rfl, G, e1, rfl⟩
    · rw [if_pos (nI_le q (by omega)), if_neg (fun z => absurd (bl_n p z) (by omega))]
      exact ⟨σ', rfl, G, e1, rfl⟩
theorem x_run (H : TX σ n t) {β : Type} (kx : Sg → Option β) {b s : Nat} (hs4 : s ≤ 4) : ∀ F k (σ' : Sg), b + k ≤ n → n < b + k + F → G61 σ σ' → σ'.1 61 1 = nI b → σ'.1 61 2 = nI (b + k) → σ'.1 61 3 = nI s → σ'.1 61 4 = VL t b k → ∃ σ'', m_X5_advance_L104 kx F σ' = kx σ'' ∧ G61 σ σ'' ∧ σ''.1 61 1 = nI b ∧ σ''.1 61 2 = nI (rs n t s (b + k)) ∧ σ''.1 61 3 = nI s ∧ σ''.1 61 4 = VL t b (rs n t s (b + k) - b) := by
  obtain ⟨hR, e, hb, h1, h2⟩ := id H
  intro F
  induction F with
  | zero => intro k σ' q1 q2; exact absurd q2 (by omega)
  | succ F ih =>
    intro k σ' q1 q2 G e1 e2 e3 e4
    have H' := H.g G
    have hs : rs n t s (b + k) = if sm n t s (b + k) = true then rs n t s (b + k + 1) else b + k := by
      unfold rs
      rw [rn_s, rn_fuel sm_n 199 200 (b + k + 1) (by omega) (by omega)]
    rw [m_X5_advance_L104.eq_2, H'.2.1, e2, hs]
    rcases Nat.lt_or_ge (b + k) n with q | q
    · have hso := so_le n t (b + k)
      rw [if_neg (nI_ge q (by omega)), x_sortAt H' (by omega), bd1_s, e3]
      by_cases c : so n t (b + k) = s
      · rw [if_pos (by rw [c]), if_pos (decide_eq_true ⟨q, c⟩), x_byte H' q, bd1_s, nm_eq, nm_eq, si_off' _ _ _ _ _ (show (2 : Nat) ≠ 4 by omega), e2, nI_1]
        exact ih (k + 1) _ (by omega) (by omega) ((G.set (by omega) _).set (by omega) _) (by rw [si_off' _ _ _ _ _ (by omega), si_off' _ _ _ _ _ (by omega), e1]) (si_at _ _ _ _) (by rw [si_off' _ _ _ _ _ (by omega), si_off' _ _ _ _ _ (by omega), e3]) (by rw [si_off' _ _ _ _ _ (by omega), si_at, e4]; rfl)
      · rw [if_neg (fun z => c ((nI_eq (by omega) (by omega)).mp z)), if_neg (fun z => c (of_decide_eq_true z).2)]
        exact ⟨σ', rfl, G, e1, e2, e3, by rw [e4, show b + k - b = k by omega]⟩
    · rw [if_pos (nI_le q (by omega)), if_neg (fun z => absurd (sm_n (b + k) z) (by omega))]
      exact ⟨σ', rfl, G, e1, e2, e3, by rw [e4, show b + k - b = k by omega]⟩
/-- the token that is looked at -/
theorem x_adv (H : TX σ n t) {e0 : Nat} (he : e0 ≤ n) (e2 : σ.1 61 2 = nI e0) : ∃ σ', m_X5_advance σ = some σ' ∧ G61 σ σ' ∧ σ'.1 61 1 = nI (sk n t e0) ∧
    (3 ≤ so n t (sk n t e0) → σ'.1 61 3 = nI (so n t (sk n t e0)) ∧ σ'.1 61 2 = nI (sk n t e0 + 1) ∧ σ'.1 61 4 = σ.1 61 4) ∧
    (so n t (sk n t e0) ≤ 1 → σ'.1 61 3 = nI (so n t (sk n t e0)) ∧ σ'.1 61 2 = nI (rs n t (so n t (sk n t e0)) (sk n t e0))) ∧
    (so n t (sk n t e0) = 2 → σ'.1 61 2 = nI (rs n t 2 (sk n t e0)) ∧ (rs n t 2 (sk n t e0) ≤ sk n t e0 + 2 → σ'.1 61 3 = 2 ∧ σ'.1 61 4 = VL t (sk n t e0) (rs n t 2 (sk n t e0) - sk n t e0)) ∧ (sk n t e0 + 2 < rs n t 2 (sk n t e0) → σ'.1 61 3 = 4)) := by
  obtain ⟨hR, e, hb, h1, h2⟩ := id H
  have hb' : sk n t e0 ≤ n := sk_le he
  unfold m_X5_advance
  rw [nm_eq, e2]
  obtain ⟨σ1, f1, G1, p1, p4⟩ := x_blanks H (fun σ5 =>
    nm (si σ5 61 2 (σ5.1 61 1)) (fun σ6 =>
    bd1 (m_X5_sortAt (σ6.1 61 1) σ6) (fun r7 =>
    nm (si σ6 61 3 r7) (fun σ9 =>
    if (σ9.1 61 3) = (3 : Int32) then
    (nm (si σ9 61 2 ((σ9.1 61 2) + (1 : Int32))) (fun σ10 =>
    some σ10))
    else
    (if (σ9.1 61 3) = (4 : Int32) then
    (nm (si σ9 61 2 ((σ9.1 61 2) + (1 : Int32))) (fun σ20 =>
    some σ20))
    else
    (nm (si σ9 61 4 (0 : Int32)) (fun σ11 =>
    m_X5_advance_L104 (fun σ18 =>
    if (σ18.1 61 3) = (2 : Int32) then
    (if ((σ18.1 61 2) - (σ18.1 61 1)) ≤ (2 : Int32) then
    (some σ18)
    else
    (nm (si σ18 61 3 (4 : Int32)) (fun σ19 =>
    some σ19)))
    else
    (some σ18)) 1000 σ11))))))) 1000 e0 _ he (by omega) ((G61.rfl' σ).set (j := 1) (by omega) (nI e0)) (si_at _ _ _ _)
  have H1 := H.g (G1.set (j := 2) (by omega) (nI (sk n t e0)))
  have hso := so_le n t (sk n t e0)
  have start := f1
  rw [nm_eq, p1, si_off' _ _ _ _ _ (show (1 : Nat) ≠ 2 by omega), p1, x_sortAt H1 (by omega), bd1_s, nm_eq, si_at] at start
  have G3 := (G1.set (j := 2) (by omega) (nI (sk n t e0))).set (j := 3) (by omega) (nI (so n t (sk n t e0)))
  have q1 : (si (si σ1 61 2 (nI (sk n t e0))) 61 3 (nI (so n t (sk n t e0)))).1 61 1 = nI (sk n t e0) := by
    rw [si_off' _ _ _ _ _ (by omega), si_off' _ _ _ _ _ (by omega), p1]
  have q2 : (si (si σ1 61 2 (nI (sk n t e0))) 61 3 (nI (so n t (sk n t e0)))).1 61 2 = nI (sk n t e0) := by
    rw [si_off' _ _ _ _ _ (by omega), si_at]
  have q3 : (si (si σ1 61 2 (nI (sk n t e0))) 61 3 (nI (so n t (sk n t e0)))).1 61 3 = nI (so n t (sk n t e0)) := si_at _ _ _ _
  rw [start, q2, nI_1]
  have c3 : (nI (so n t (sk n t e0)) = (3 : Int32)) ↔ so n t (sk n t e0) = 3 := nI_eq (b := 3) (by omega) (by omega)
  have c4 : (nI (so n t (sk n t e0)) = (4 : Int32)) ↔ so n t (sk n t e0) = 4 := nI_eq (b := 4) (by omega) (by omega)
  have c2 : (nI (so n t (sk n t e0)) = (2 : Int32)) ↔ so n t (sk n t e0) = 2 := nI_eq (b := 2) (by omega) (by omega)
  by_cases d3 : so n t (sk n t e0) = 3
  · rw [if_pos (c3.mpr d3), nm_eq]
    exact ⟨_, rfl, G3.set (by omega) _, by rw [si_off' _ _ _ _ _ (by omega), q1], fun _ => ⟨by rw [si_off' _ _ _ _ _ (by omega), q3], si_at _ _ _ _, by rw [si_off' _ _ _ _ _ (by omega), si_off' _ _ _ _ _ (by omega), si_off' _ _ _ _ _ (by omega), p4, si_off' _ _ _ _ _ (by omega)]⟩, fun z => absurd z (by omega), fun z => absurd z (by omega)⟩
  rw [if_neg (fun z => d3 (c3.mp z))]
  by_cases d4 : so n t (sk n t e0) = 4
  · rw [if_pos (c4.mpr d4), nm_eq]
    exact ⟨_, rfl, G3.set (by omega) _, by rw [si_off' _ _ _ _ _ (by omega), q1], fun _ => ⟨by rw [si_off' _ _ _ _ _ (by omega), q3], si_at _ _ _ _, by rw [si_off' _ _ _ _ _ (by omega), si_off' _ _ _ _ _ (by omega), si_off' _ _ _ _ _ (by omega), p4, si_off' _ _ _ _ _ (by omega)]⟩, fun z => absurd z (by omega), fun z => absurd z (by omega)⟩
  rw [if_neg (fun z => d4 (c4.mp z)), nm_eq]
  obtain ⟨σ2, f2, G4, r1, r2, r3, r4⟩ := x_run H (fun σ18 =>
    if (σ18.1 61 3) = (2 : Int32) then
    (if ((σ18.1 61 2) - (σ18.1 61 1)) ≤ (2 : Int32) then
    (some σ18)
    else
    (nm (si σ18 61 3 (4 : Int32)) (fun σ19 =>
    some σ19)))
    else
    (some σ18)) (b := sk n t e0) (s := so n t (sk n t e0)) hso 1000 0 _ (by omega) (by omega) (G3.set (j := 4) (by omega) 0) (by rw [si_off' _ _ _ _ _ (by omega), q1]) (by rw [si_off' _ _ _ _ _ (by omega), q2]; rfl) (by rw [si_off' _ _ _ _ _ (by omega), q3]) (si_at _ _ _ _)
  rw [Nat.add_zero] at r2 r4
  rw [f2, r3]
  by_cases d2 : so n t (sk n t e0) = 2
  · have hle : rs n t 2 (sk n t e0) ≤ n := rs_le hb'
    have hge := rs_ge n t 2 (sk n t e0)
    rw [d2] at r2 r4
    have hc : (nI (rs n t 2 (sk n t e0)) - nI (sk n t e0) ≤ (2 : Int32)) ↔ rs n t 2 (sk n t e0) ≤ sk n t e0 + 2 := by
      rw [pk_sub hge, show (2 : Int32) = nI 2 from rfl, nI_leI (by omega) (by omega)]
      omega
    rw [if_pos (c2.mpr d2), r2, r1]
    by_cases d : rs n t 2 (sk n t e0) ≤ sk n t e0 + 2
    · rw [if_pos (hc.mpr d)]
      exact ⟨σ2, rfl, G4, r1, fun z => absurd z (by omega), fun z => absurd z (by omega), fun _ => ⟨r2, fun _ => ⟨by rw [r3, d2]; rfl, r4⟩, fun z => absurd z (by omega)⟩⟩
    · rw [if_neg (fun z => d (hc.mp z)), nm_eq]
      exact ⟨_, rfl, G4.set (by omega) _, by rw [si_off' _ _ _ _ _ (by omega), r1], fun z => absurd z (by omega), fun z => absurd z (by omega), fun _ => ⟨by rw [si_off' _ _ _ _ _ (by omega), r2], fun z => absurd z d, fun _ => si_at _ _ _ _⟩⟩
  · rw [if_neg (fun z => d2 (c2.mp z))]
    exact ⟨σ2, rfl, G4, r1, fun z => absurd z (by omega), fun _ => ⟨r3, r2⟩, fun z => absurd z d2⟩
end TOK
