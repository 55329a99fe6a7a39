/-! ===== PURE: tokens of the model ===== -/
def TY (σ : Sg) (n : Nat) (t : Nat → Nat) : Prop := σ.1 68 9 = nI n ∧ (∀ j, j < n → σ.1 75 j = nI (t j)) ∧ n ≤ 150 ∧ ∀ j, t j < 128
/-- nothing but where the model reads, and its fault, is another -/
def PT (σ σ' : Sg) : Prop := (∀ a, a ≠ 68 → σ'.1 a = σ.1 a) ∧ (∀ b, b ≠ 10 → b ≠ 11 → σ'.1 68 b = σ.1 68 b) ∧ σ'.2 = σ.2
theorem PT.rfl' (σ : Sg) : PT σ σ := ⟨fun _ _ => rfl, fun _ _ _ => rfl, rfl⟩
theorem PT.trans {σ σ' σ'' : Sg} (H : PT σ σ') (H' : PT σ' σ'') : PT σ σ'' := ⟨fun a ha => (H'.1 a ha).trans (H.1 a ha), fun b h1 h2 => (H'.2.1 b h1 h2).trans (H.2.1 b h1 h2), H'.2.2.trans H.2.2⟩
theorem PT.set {σ σ' : Sg} (H : PT σ σ') {j : Nat} (hj : j = 10 ∨ j = 11) (x : Int32) : PT σ (si σ' 68 j x) :=
  ⟨fun a ha => (si_row _ _ _ _ ha).trans (H.1 a ha), fun b h1 h2 => (si_off' _ _ _ _ _ (by omega)).trans (H.2.1 b h1 h2), H.2.2⟩
theorem TY.p {σ σ' : Sg} {n : Nat} {t : Nat → Nat} (H : TY σ n t) (P : PT σ σ') : TY σ' n t :=
  ⟨(P.2.1 9 (by omega) (by omega)).trans H.1, fun j hj => by rw [P.1 75 (by omega)]; exact H.2.1 j hj, H.2.2⟩
def byt (n : Nat) (t : Nat → Nat) (p : Nat) : Int32 := if p < n then nI (t p) else -1
/-- the fault that stands behind a step -/
def FS {α : Type} (F : Int32) (r : Nat ⊕ α) : Int32 :=
  if 0 ≤ F then F else match r with
    | .inl f => nI f
    | .inr _ => F
theorem FS_f {α : Type} {f : Nat} (hf : f < 2 ^ 31) (r : Nat ⊕ α) : FS (nI f) r = nI f := if_pos (nI_pos' hf)
theorem FS_l {α : Type} (f : Nat) : FS (-1) (.inl f : Nat ⊕ α) = nI f := rfl
theorem FS_r {α : Type} (a : α) : FS (-1) (.inr a : Nat ⊕ α) = -1 := rfl
section MTOK
variable {σ : Sg} {n : Nat} {t : Nat → Nat}
theorem y_byte (H : TY σ n t) {p : Nat} (hp : p < 2 ^ 30) : m_X8_byteAt (nI p) σ = some (byt n t p) := by
  obtain ⟨e, hb, h1, h2⟩ := H
  unfold m_X8_byteAt byt
  rw [e]
  rcases Nat.lt_or_ge p n with q | q
  · rw [if_neg (nI_ge q (by omega)), if_pos q, ln_75, ix_if (show p < 150 by omega) (by omega), nI_clamp (by omega), hb p q]
  · rw [if_pos (nI_le q (by omega)), if_neg (by omega)]
theorem byt_is (ht : ∀ j, t j < 128) {p c : Nat} (hc : c < 128) : byt n t p = nI c ↔ p < n ∧ t p = c := by
  have := ht p
  unfold byt
  by_cases q : p < n
  · rw [if_pos q, nI_eq (by omega) (by omega)]
    exact ⟨fun z => ⟨q, z⟩, fun z => z.2⟩
  · rw [if_neg q]
    refine ⟨fun z => ?_, fun z => absurd z.1 q⟩
    have := congrArg Int32.toInt z
    rw [nI_toInt (by omega)] at this
    have h1 : (-1 : Int32).toInt = -1 := rfl
    omega
theorem byt_rng (ht : ∀ j, t j < 128) {p lo hi : Nat} : rng (byt n t p) lo hi ↔ p < n ∧ lo ≤ t p ∧ t p ≤ hi := by
  have := ht p
  unfold byt
  by_cases q : p < n
  · rw [if_pos q, nI_rng (by omega)]
    omega
  · rw [if_neg q]
    unfold rng
    have h1 : (-1 : Int32).toInt = -1 := rfl
    rw [h1]
    omega
theorem y_skips (H : TY σ n t) {p : Nat} (hp : p ≤ 1000) (e : σ.1 68 10 = nI p) : ∃ σ', m_X8_skips σ = some σ' ∧ PT σ σ' ∧ σ'.1 68 10 = nI (sk n t p) ∧ σ'.1 68 11 = σ.1 68 11 := by
  have h150 := H.2.2.1
  have ht := H.2.2.2
  have loop : ∀ F p (σ' : Sg), p ≤ 1000 → 1 ≤ F → n < p + F → PT σ σ' → σ'.1 68 10 = nI p → σ'.1 68 11 = σ.1 68 11 → ∃ σ'', m_X8_skips_L0 (fun _ => none) F σ' = some σ'' ∧ PT σ σ'' ∧ σ''.1 68 10 = nI (sk n t p) ∧ σ''.1 68 11 = σ.1 68 11 := by
    intro F
    induction F with
    | zero => intro p σ' h1 h2; exact absurd h2 (by omega)
    | succ F ih =>
      intro p σ' h1 h2 h3 P e1 e2
      have hs : sk n t p = if bl n t p = true then sk n t (p + 1) else p := by
        by_cases q : n < p
        · rw [if_neg (fun z => absurd (bl_n p z) (by omega))]
          unfold sk
          rw [rn_s, if_neg (fun z => absurd (bl_n p z) (by omega))]
        · unfold sk
          rw [rn_s, rn_fuel bl_n 199 200 (p + 1) (by omega) (by omega)]
      rw [m_X8_skips_L0.eq_2, e1, y_byte (H.p P) (by omega), bd1_s, hs]
      have hc : byt n t p = (32 : Int32) ↔ p < n ∧ t p = 32 := byt_is (c := 32) ht (by omega)
      by_cases c : p < n ∧ t p = 32
      · rw [if_pos (hc.mpr c), if_pos (decide_eq_true c), nI_1, nm_eq]
        exact ih (p + 1) _ (by omega) (by omega) (by omega) (P.set (.inl rfl) _) (si_at _ _ _ _) ((si_off' _ _ _ _ _ (by omega)).trans e2)
      · rw [if_neg (fun z => c (hc.mp z)), if_neg (fun z => c (of_decide_eq_true z))]
        exact ⟨σ', rfl, P, e1, e2⟩
  exact loop 1000 p σ hp (by omega) (by omega) (PT.rfl' σ) e rfl
theorem sm_1 {p : Nat} : (p < n ∧ 97 ≤ t p ∧ t p ≤ 122) ↔ sm n t 1 p = true := by
  constructor
  · intro z
    refine decide_eq_true ⟨z.1, ?_⟩
    unfold so
    rw [if_pos z.1, if_pos z.2]
  · intro z
    have := of_decide_eq_true z
    exact ⟨this.1, so_1 this.2⟩
theorem sm_2 {p : Nat} : (p < n ∧ 48 ≤ t p ∧ t p ≤ 57) ↔ sm n t 2 p = true := by
  constructor
  · intro z
    refine decide_eq_true ⟨z.1, ?_⟩
    unfold so
    rw [if_pos z.1, if_neg (by omega), if_pos z.2]
  · intro z
    have := of_decide_eq_true z
    exact ⟨this.1, so_2 this.2⟩
theorem rs_step {s p : Nat} (hn : n ≤ 150) : rs n t s p = if sm n t s p = true then rs n t s (p + 1) else p := by
  unfold rs
  rw [rn_s, rn_fuel sm_n 199 200 (p + 1) (by omega) (by omega)]
theorem y_word (H : TY σ n t) {b : Nat} (hb : b ≤ n) (e : σ.1 68 10 = nI b) : ∃ σ', m_X8_word σ = some (lN (Wc t b (rs n t 1 b - b)), σ') ∧ PT σ σ' ∧ σ'.1 68 10 = nI (rs n t 1 b) ∧ σ'.1 68 11 = σ.1 68 11 := by
  have h150 := H.2.2.1
  have ht := H.2.2.2
  have loop : ∀ F k (σ' : Sg), b + k ≤ n → n < b + k + F → PT σ σ' → σ'.1 68 10 = nI (b + k) → σ'.1 68 11 = σ.1 68 11 → ∃ σ'', m_X8_word_L2 (fun _ => none) F (lN (Wc t b k)) σ' = some (lN (Wc t b (rs n t 1 (b + k) - b)), σ'') ∧ PT σ σ'' ∧ σ''.1 68 10 = nI (rs n t 1 (b + k)) ∧ σ''.1 68 11 = σ.1 68 11 := by
    intro F
    induction F with
    | zero => intro p σ' h1 h2; exact absurd h2 (by omega)
    | succ F ih =>
      intro k σ' h1 h2 P e1 e2
      have hW := Wc_lt t b ht k
      have hl : m_X8_isLetter (byt n t (b + k)) σ' = some (b01 (rng (byt n t (b + k)) 97 122)) := by
        unfold m_X8_isLetter
        rw [ei_97_122, bd1_s, b01_g]
      rw [m_X8_word_L2.eq_2, e1, y_byte (H.p P) (by omega), bd1_s, hl, bd1_s, b01_z, rs_step h150]
      have hc : rng (byt n t (b + k)) 97 122 ↔ sm n t 1 (b + k) = true := (byt_rng (lo := 97) (hi := 122) ht).trans sm_1
      by_cases c : sm n t 1 (b + k) = true
      · have hlt := sm_n _ c
        have hs := so_1 (of_decide_eq_true c).2
        rw [if_pos (hc.mpr c), if_pos c]
        have hcap : (0 ≤ lg_cmp (lN (Wc t b k)) (99999999999 : Int64)) ↔ 99999999999 ≤ Wc t b k := by
          rw [lg_cmp_ge, show (99999999999 : Int64) = lN 99999999999 from rfl, pk_lLE (by decide) (by omega)]
        have ev : (if 0 ≤ (lg_cmp (lN (Wc t b k)) (99999999999 : Int64)) then some (lN (Wc t b k)) else bd1 (some (byt n t (b + k))) (fun r9 => some (((((27 : Int64) * lN (Wc t b k)) + (Int32.toInt64 r9)) - (96 : Int64))))) = some (lN (Wc t b (k + 1))) := by
          have eW : Wc t b (k + 1) = if 99999999999 ≤ Wc t b k then Wc t b k else 27 * Wc t b k + t (b + k) - 96 := rfl
          rw [eW]
          by_cases d : 99999999999 ≤ Wc t b k
          · rw [if_pos (hcap.mpr d), if_pos d]
          · have eb : byt n t (b + k) = nI (t (b + k)) := if_pos hlt
            rw [if_neg (fun z => d (hcap.mp z)), if_neg d, bd1_s, eb, nI_l (by omega), show (27 : Int64) = lN 27 from rfl, show (96 : Int64) = lN 96 from rfl, lN_mul, lN_add, lN_sub (by omega)]
        rw [ev, bd1_s, nI_1, nm_eq]
        exact ih (k + 1) _ (by omega) (by omega) (P.set (.inl rfl) _) (si_at _ _ _ _) ((si_off' _ _ _ _ _ (by omega)).trans e2)
      · rw [if_neg (fun z => c (hc.mp z)), if_neg c, show b + k - b = k by omega]
        exact ⟨σ', rfl, P, e1, e2⟩
  unfold m_X8_word
  rw [nm_eq]
  exact loop 1000 0 σ (by omega) (by omega) (PT.rfl' σ) e rfl
theorem cK_letters (σ : Sg) : m_X8_letters 8 15 21 19 5 σ = some (lN (cK 0)) ∧ m_X8_letters 19 1 25 0 0 σ = some (lN (cK 1)) ∧ m_X8_letters 5 1 18 0 0 σ = some (lN (cK 2)) ∧ m_X8_letters 19 20 18 9 16 σ = some (lN (cK 3)) ∧ m_X8_letters 16 1 16 5 18 σ = some (lN (cK 4)) ∧ ∃ x, m_X8_letters 13 9 14 21 20 σ = some x ∧ (((x * (27 : Int64)) + (5 : Int64)) * (27 : Int64)) + (19 : Int64) = lN (cK 5) := by
  have D : (m_X8_letters 8 15 21 19 5 (fun _ _ => 0, fun _ _ => 0) = some (lN (cK 0)) ∧ m_X8_letters 19 1 25 0 0 (fun _ _ => 0, fun _ _ => 0) = some (lN (cK 1)) ∧ m_X8_letters 5 1 18 0 0 (fun _ _ => 0, fun _ _ => 0) = some (lN (cK 2)) ∧ m_X8_letters 19 20 18 9 16 (fun _ _ => 0, fun _ _ => 0) = some (lN (cK 3)) ∧ m_X8_letters 16 1 16 5 18 (fun _ _ => 0, fun _ _ => 0) = some (lN (cK 4))) ∧ m_X8_letters 13 9 14 21 20 (fun _ _ => 0, fun _ _ => 0) = some (lN (cK 5 / 729)) ∧ (((lN (cK 5 / 729) * (27 : Int64)) + (5 : Int64)) * (27 : Int64)) + (19 : Int64) = lN (cK 5) := by decide +kernel
  obtain ⟨⟨d0, d1, d2, d3, d4⟩, d5, d6⟩ := D
  exact ⟨d0, d1, d2, d3, d4, _, d5, d6⟩
theorem y_itemBy {b : Nat} (ht : ∀ j, t j < 128) : m_X8_itemBy (lN (Wc t b (rs n t 1 b - b))) σ = some (if wh n t b = 6 then -1 else nI (wh n t b)) := by
  obtain ⟨d0, d1, d2, d3, d4, x, d5, d6⟩ := cK_letters σ
  have hW := Wc_lt t b ht (rs n t 1 b - b)
  have hle := wh_le (n := n) (t := t) b
  have E : ∀ i, i < 6 → ((lg_cmp (lN (Wc t b (rs n t 1 b - b))) (lN (cK i)) = 0) ↔ wh n t b = i) := fun i hi => by
    have hK := cK_in i hi
    rw [lg_cmp_eq, pk_lEQ (by omega) (by omega), ← isW_iff hi]
    exact ⟨fun z => wh_of hi z, fun z => by
      have := wh_is (n := n) (t := t) (b := b) (by omega)
      rwa [z] at this⟩
  unfold m_X8_itemBy
  rw [d5, bd1_s, nm_eq, d6, d0, bd1_s, d1, bd1_s, d2, bd1_s, d3, bd1_s, d4, bd1_s]
  have e0 := E 0 (by omega)
  have e1 := E 1 (by omega)
  have e2 := E 2 (by omega)
  have e3 := E 3 (by omega)
  have e4 := E 4 (by omega)
  have e5 := E 5 (by omega)
  by_cases c0 : wh n t b = 0
  · rw [if_pos (e0.mpr c0), if_neg (by omega), c0]
    rfl
  rw [if_neg (fun z => c0 (e0.mp z))]
  by_cases c1 : wh n t b = 1
  · rw [if_pos (e1.mpr c1), if_neg (by omega), c1]
    rfl
  rw [if_neg (fun z => c1 (e1.mp z))]
  by_cases c2 : wh n t b = 2
  · rw [if_pos (e2.mpr c2), if_neg (by omega), c2]
    rfl
  rw [if_neg (fun z => c2 (e2.mp z))]
  by_cases c3 : wh n t b = 3
  · rw [if_pos (e3.mpr c3), if_neg (by omega), c3]
    rfl
  rw [if_neg (fun z => c3 (e3.mp z))]
  by_cases c4 : wh n t b = 4
  · rw [if_pos (e4.mpr c4), if_neg (by omega), c4]
    rfl
  rw [if_neg (fun z => c4 (e4.mp z))]
  by_cases c5 : wh n t b = 5
  · rw [if_pos (e5.mpr c5), if_neg (by omega), c5]
    rfl
  rw [if_neg (fun z => c5 (e5.mp z)), if_pos (by omega)]
theorem y_faults (f : Nat) {α : Type} (r : Nat ⊕ α) (hr : r = .inl f) (hF : σ.1 68 11 = -1 ∨ 0 ≤ σ.1 68 11) : m_X8_faults (nI f) σ = some (si σ 68 11 (FS (σ.1 68 11) r)) := by
  subst hr
  unfold m_X8_faults
  rcases hF with h | h
  · rw [h, if_neg (by decide), bd1_s, nm_eq, FS_l]
  · rw [if_pos h, bd1_s, nm_eq]
    unfold FS
    rw [if_pos h]
theorem FS_in {α : Type} {F : Int32} {a : α} (hF : F = -1 ∨ 0 ≤ F) : FS F (.inr a : Nat ⊕ α) = F := by
  unfold FS
  split <;> rfl
theorem FS_ok {α : Type} {F : Int32} {r : Nat ⊕ α} (hF : F = -1 ∨ 0 ≤ F) (hr : ∀ f, r = .inl f → f < 2 ^ 31) : FS F r = -1 ∨ 0 ≤ FS F r := by
  unfold FS
  split
  · exact .inr ‹_›
  · cases r with
    | inl f => exact .inr (nI_pos' (hr f rfl))
    | inr a => exact hF
theorem y_num (H : TY σ n t) {p lo hi : Nat} (hp : p ≤ 1000) (hlo : lo ≤ 99) (hhi : hi ≤ 99) (e : σ.1 68 10 = nI p) (hF : σ.1 68 11 = -1 ∨ 0 ≤ σ.1 68 11) : ∃ v σ', m_X8_number (nI lo) (nI hi) σ = some (v, σ') ∧ PT σ σ' ∧ σ'.1 68 11 = FS (σ.1 68 11) (pNum n t lo hi p) ∧ (∃ q, σ'.1 68 10 = nI q ∧ (q ≤ n ∨ q = p)) ∧ ∀ q x, pNum n t lo hi p = .inr (q, x) → σ'.1 68 10 = nI q ∧ v = nI x := by
  have h150 := H.2.2.1
  have ht := H.2.2.2
  obtain ⟨σ1, f1, P1, e1, e11⟩ := y_skips H hp e
  have hsk : sk n t p ≤ n ∨ sk n t p = p := by
    by_cases c : p ≤ n
    · exact .inl (sk_le c)
    · right
      unfold sk
      rw [rn_s, if_neg (fun z => absurd (bl_n p z) (by omega))]
  have hsk2 : sk n t p ≤ 1000 := by omega
  have hgp := sk_ge n t p
  have loop : ∀ (kx : Int32 → Sg → Option (Int32 × Sg)) F k (σ' : Sg), (sk n t p + k ≤ n ∨ k = 0) → 1 ≤ F → n < sk n t p + k + F → PT σ1 σ' → σ'.1 68 10 = nI (sk n t p + k) → σ'.1 68 11 = σ.1 68 11 → ∃ σ'', m_X8_number_L12 (nI (sk n t p)) (nI lo) (nI hi) kx F (VL t (sk n t p) (min k 3)) σ' = kx (VL t (sk n t p) (min (rs n t 2 (sk n t p + k) - sk n t p) 3)) σ'' ∧ PT σ1 σ'' ∧ σ''.1 68 10 = nI (rs n t 2 (sk n t p + k)) ∧ σ''.1 68 11 = σ.1 68 11 := by
    intro kx F
    induction F with
    | zero => intro k σ' h1 h2; exact absurd h2 (by omega)
    | succ F ih =>
      intro k σ' h1 h2 h3 P e2 e3
      have hl : m_X8_isFigure (byt n t (sk n t p + k)) σ' = some (b01 (rng (byt n t (sk n t p + k)) 48 57)) := by
        unfold m_X8_isFigure
        rw [ei_48_57, bd1_s, b01_g]
      rw [m_X8_number_L12.eq_2, e2, y_byte (H.p (P1.trans P)) (by omega), bd1_s, hl, bd1_s, b01_z, rs_step h150]
      have hc : rng (byt n t (sk n t p + k)) 48 57 ↔ sm n t 2 (sk n t p + k) = true := (byt_rng (lo := 48) (hi := 57) ht).trans sm_2
      by_cases c : sm n t 2 (sk n t p + k) = true
      · have hlt := sm_n _ c
        rw [if_pos (hc.mpr c), if_pos c, pk_sub (by omega), show sk n t p + k - sk n t p = k by omega]
        have ev : (if (3 : Int32) ≤ nI k then some (VL t (sk n t p) (min k 3)) else bd1 (some (byt n t (sk n t p + k))) (fun r12 => some (((((10 : Int32) * VL t (sk n t p) (min k 3)) + r12) - (48 : Int32))))) = some (VL t (sk n t p) (min (k + 1) 3)) := by
          have h3 : ((3 : Int32) ≤ nI k) ↔ 3 ≤ k := nI_leI (a := 3) (by omega) (by omega)
          by_cases d : 3 ≤ k
          · rw [if_pos (h3.mpr d), show min k 3 = 3 by omega, show min (k + 1) 3 = 3 by omega]
          · have eb : byt n t (sk n t p + k) = nI (t (sk n t p + k)) := if_pos hlt
            rw [if_neg (fun z => d (h3.mp z)), show min k 3 = k by omega, show min (k + 1) 3 = k + 1 by omega, bd1_s, eb]
            rfl
        rw [ev, bd1_s, nI_1, nm_eq]
        exact ih (k + 1) _ (.inl (by omega)) (by omega) (by omega) (P.set (.inl rfl) _) (si_at _ _ _ _) ((si_off' _ _ _ _ _ (by omega)).trans e3)
      · rw [if_neg (fun z => c (hc.mp z)), if_neg c, show sk n t p + k - sk n t p = k by omega]
        exact ⟨σ', rfl, P, e2, e3⟩
  obtain ⟨σ2, f2, P2, e2, e3⟩ := loop (fun x14 σ15 =>
    nm (((σ15.1 68 10) - nI (sk n t p))) (fun x16 =>
    bd1 (
    if x16 = 0 then
    (bd1 (m_X8_faults (nI (sk n t p)) σ15) (fun σ19 =>
    some (σ19)))
    else
    (if (2 : Int32) < x16 then
    (bd1 (m_X8_faults (nI (sk n t p)) σ15) (fun σ21 =>
    some (σ21)))
    else
    (bd1 (m_X8_in (Int32.toInt64 x14) (Int32.toInt64 (nI lo)) (Int32.toInt64 (nI hi)) σ15) (fun r23 =>
    if r23 = 0 then
    (bd1 (m_X8_faults (nI (sk n t p)) σ15) (fun σ25 =>
    some (σ25)))
    else
    (some (σ15)))))) (fun σ18 =>
    some (x14, σ18)))) 1000 0 σ1 (.inr rfl) (by omega) (by omega) (PT.rfl' σ1) (by rw [e1, Nat.add_zero]) e11
  rw [Nat.add_zero] at f2 e2
  have hg := rs_ge n t 2 (sk n t p)
  have hq : rs n t 2 (sk n t p) ≤ n ∨ rs n t 2 (sk n t p) = p := by
    by_cases c : p ≤ n
    · exact .inl (rs_le (sk_le c))
    · right
      rw [rs_none (.inr (by omega))]
      omega
  have P12 := P1.trans P2
  have hF2 : σ2.1 68 11 = -1 ∨ 0 ≤ σ2.1 68 11 := by
    rw [e3]
    exact hF
  have start : m_X8_number (nI lo) (nI hi) σ = (nm (((σ2.1 68 10) - nI (sk n t p))) (fun x16 =>
    bd1 (
    if x16 = 0 then
    (bd1 (m_X8_faults (nI (sk n t p)) σ2) (fun σ19 =>
    some (σ19)))
    else
    (if (2 : Int32) < x16 then
    (bd1 (m_X8_faults (nI (sk n t p)) σ2) (fun σ21 =>
    some (σ21)))
    else
    (bd1 (m_X8_in (Int32.toInt64 (VL t (sk n t p) (min (rs n t 2 (sk n t p) - sk n t p) 3))) (Int32.toInt64 (nI lo)) (Int32.toInt64 (nI hi)) σ2) (fun r23 =>
    if r23 = 0 then
    (bd1 (m_X8_faults (nI (sk n t p)) σ2) (fun σ25 =>
    some (σ25)))
    else
    (some (σ2)))))) (fun σ18 =>
    some ((VL t (sk n t p) (min (rs n t 2 (sk n t p) - sk n t p) 3)), σ18)))) := by
    unfold m_X8_number
    rw [f1, bd1_s, nm_eq, e1, nm_eq]
    exact f2
  rw [start, nm_eq, e2, pk_sub hg]
  have bad : ¬ (sk n t p < rs n t 2 (sk n t p) ∧ rs n t 2 (sk n t p) ≤ sk n t p + 2 ∧ lo ≤ vN t (sk n t p) (rs n t 2 (sk n t p)) ∧ vN t (sk n t p) (rs n t 2 (sk n t p)) ≤ hi) → ∃ v σ', some (VL t (sk n t p) (min (rs n t 2 (sk n t p) - sk n t p) 3), si σ2 68 11 (FS (σ2.1 68 11) (pNum n t lo hi p))) = some (v, σ') ∧ PT σ σ' ∧ σ'.1 68 11 = FS (σ.1 68 11) (pNum n t lo hi p) ∧ (∃ q, σ'.1 68 10 = nI q ∧ (q ≤ n ∨ q = p)) ∧ ∀ q x, pNum n t lo hi p = .inr (q, x) → σ'.1 68 10 = nI q ∧ v = nI x := fun h => by
    refine ⟨_, _, rfl, P12.set (.inr rfl) _, (si_at _ _ _ _).trans (by rw [e3]), ⟨_, (si_off' _ _ _ _ _ (by omega)).trans e2, hq⟩, fun q x hx => ?_⟩
    unfold pNum at hx
    rw [if_neg h] at hx
    exact absurd hx (by simp)
  have badr : ¬ (sk n t p < rs n t 2 (sk n t p) ∧ rs n t 2 (sk n t p) ≤ sk n t p + 2 ∧ lo ≤ vN t (sk n t p) (rs n t 2 (sk n t p)) ∧ vN t (sk n t p) (rs n t 2 (sk n t p)) ≤ hi) → pNum n t lo hi p = .inl (sk n t p) := fun h => by
    unfold pNum
    rw [if_neg h]
  by_cases c0 : rs n t 2 (sk n t p) = sk n t p
  · rw [if_pos (by rw [c0, Nat.sub_self]; rfl), y_faults _ (pNum n t lo hi p) (badr (by omega)) hF2, bd1_s, bd1_s]
    exact bad (by omega)
  have hqn : rs n t 2 (sk n t p) ≤ n := by
    by_cases c : p ≤ n
    · exact rs_le (sk_le c)
    · exact absurd (rs_none (.inr (by omega))) c0
  rw [if_neg (fun z => c0 (by have := (nI_eq (a := rs n t 2 (sk n t p) - sk n t p) (b := 0) (by omega) (by omega)).mp z; omega))]
  have h2 : ((2 : Int32) < nI (rs n t 2 (sk n t p) - sk n t p)) ↔ 2 < rs n t 2 (sk n t p) - sk n t p := nI_ltI (a := 2) (by omega) (by omega)
  by_cases c2 : 2 < rs n t 2 (sk n t p) - sk n t p
  · rw [if_pos (h2.mpr c2), y_faults _ (pNum n t lo hi p) (badr (by omega)) hF2, bd1_s, bd1_s]
    exact bad (by omega)
  have hv := VL_vN (n := n) (t := t) (b := sk n t p) (by omega) (by omega)
  have h99 : vN t (sk n t p) (rs n t 2 (sk n t p)) < 2 ^ 31 := by
    have a1 := ht (sk n t p)
    have a2 := ht (sk n t p + 1)
    unfold vN
    split <;> omega
  rw [if_neg (fun z => c2 (h2.mp z)), show min (rs n t 2 (sk n t p) - sk n t p) 3 = rs n t 2 (sk n t p) - sk n t p by omega, hv, e_in, bd1_s, b01_z, Int32.toInt_toInt64, Int32.toInt_toInt64, Int32.toInt_toInt64, nI_toInt (show lo < 2 ^ 31 by omega), nI_toInt (show hi < 2 ^ 31 by omega), nI_toInt h99]
  by_cases ok : lo ≤ vN t (sk n t p) (rs n t 2 (sk n t p)) ∧ vN t (sk n t p) (rs n t 2 (sk n t p)) ≤ hi
  · rw [if_pos (by omega), bd1_s]
    have pe : pNum n t lo hi p = .inr (rs n t 2 (sk n t p), vN t (sk n t p) (rs n t 2 (sk n t p))) := by
      unfold pNum
      rw [if_pos (by omega)]
    refine ⟨_, _, rfl, P12, ?_, ⟨_, e2, hq⟩, fun q x hx => ?_⟩
    · rw [pe, FS_in hF, e3]
    · rw [pe] at hx
      have h := Sum.inr.inj hx
      have h1 : rs n t 2 (sk n t p) = q := congrArg Prod.fst h
      have h2 : vN t (sk n t p) (rs n t 2 (sk n t p)) = x := congrArg Prod.snd h
      exact ⟨by rw [e2, h1], by rw [h2]⟩
  · rw [if_neg (by omega), y_faults _ (pNum n t lo hi p) (badr (by omega)) hF2, bd1_s, bd1_s]
    have := bad (by omega)
    rw [show min (rs n t 2 (sk n t p) - sk n t p) 3 = rs n t 2 (sk n t p) - sk n t p by omega, hv] at this
    exact this
theorem y_ends (H : TY σ n t) {p : Nat} (hp : p ≤ 1000) (e : σ.1 68 10 = nI p) (hF : σ.1 68 11 = -1 ∨ 0 ≤ σ.1 68 11) : ∃ σ', m_X8_ends σ = some σ' ∧ PT σ σ' ∧ σ'.1 68 11 = FS (σ.1 68 11) (pEnd n t p) ∧ σ'.1 68 10 = nI (sk n t p + 1) := by
  have h150 := H.2.2.1
  have ht := H.2.2.2
  obtain ⟨σ1, f1, P1, e1, e11⟩ := y_skips H hp e
  have hsk : sk n t p ≤ n ∨ sk n t p = p := by
    by_cases c : p ≤ n
    · exact .inl (sk_le c)
    · right
      unfold sk
      rw [rn_s, if_neg (fun z => absurd (bl_n p z) (by omega))]
  unfold m_X8_ends
  rw [f1, bd1_s, e1, y_byte (H.p P1) (by omega), bd1_s]
  have hc : byt n t (sk n t p) = (59 : Int32) ↔ so n t (sk n t p) = 3 := by
    refine (byt_is (c := 59) ht (by omega)).trans ?_
    unfold so
    constructor
    · intro z
      rw [if_pos z.1, if_neg (by omega), if_neg (by omega), if_pos z.2]
    · intro z
      repeat' split at z
      all_goals first | omega | exact ⟨‹_›, ‹_›⟩
  by_cases c : so n t (sk n t p) = 3
  · rw [if_pos (hc.mpr c), bd1_s, nm_eq, e1, nI_1]
    refine ⟨_, rfl, P1.set (.inl rfl) _, ?_, si_at _ _ _ _⟩
    unfold pEnd
    rw [si_off' _ _ _ _ _ (by omega), e11, if_pos c, FS_in hF]
  · have pe : pEnd n t p = .inl (sk n t p) := by
      unfold pEnd
      rw [if_neg c]
    rw [if_neg (fun z => c (hc.mp z)), y_faults _ (pEnd n t p) pe (by rw [e11]; exact hF), bd1_s, bd1_s, nm_eq, si_off' _ _ _ _ _ (show (10 : Nat) ≠ 11 by omega), e1, nI_1]
    exact ⟨_, rfl, (P1.set (.inr rfl) _).set (.inl rfl) _, by rw [si_off' _ _ _ _ _ (by omega), si_at, e11], si_at _ _ _ _⟩
end MTOK
