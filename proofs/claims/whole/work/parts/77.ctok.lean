/-! ===== PURE: how the class reads an item ===== -/
theorem VL_vN {n : Nat} {t : Nat → Nat} {b : Nat} (h1 : b < rs n t 2 b) (h2 : rs n t 2 b ≤ b + 2) : VL t b (rs n t 2 b - b) = nI (vN t b (rs n t 2 b)) := by
  have f0 := so_2 (rs_at (n := n) (t := t) (j := b) (Nat.le_refl _) h1).2
  have e1 : VL t b 1 = nI (t b - 48) := by
    show 10 * 0 + nI (t (b + 0)) - 48 = _
    rw [Int32.mul_zero, Int32.zero_add, Nat.add_zero, show (48 : Int32) = nI 48 from rfl, pk_sub f0.1]
  by_cases c : rs n t 2 b = b + 1
  · unfold vN
    rw [if_pos c, c, show b + 1 - b = 1 by omega, e1]
  · have f1 := so_2 (rs_at (n := n) (t := t) (s := 2) (b := b) (j := b + 1) (by omega) (by omega)).2
    have e2 : VL t b 2 = 10 * VL t b 1 + nI (t (b + 1)) - 48 := rfl
    unfold vN
    rw [if_neg c, show rs n t 2 b - b = 2 by omega, e2, e1, show (10 : Int32) = nI 10 from rfl, show (48 : Int32) = nI 48 from rfl, pk_mul, nI_add, pk_sub (by omega)]
    exact congrArg nI (by omega)
/-- the token is one that may be a word -/
def TK (σ : Sg) (n : Nat) (t : Nat → Nat) (b : Nat) : Prop :=
  σ.1 61 1 = nI b ∧ (so n t b = 1 → σ.1 61 3 = 1 ∧ σ.1 61 2 = nI (rs n t 1 b)) ∧ (¬ so n t b = 1 → ¬ σ.1 61 3 = 1) ∧ (n ≤ b → σ.1 61 3 = 0) ∧ (¬ n ≤ b → ¬ σ.1 61 3 = 0)
section CTOK
variable {σ : Sg} {n : Nat} {t : Nat → Nat}
theorem x_tok (H : TX σ n t) {e : Nat} (he : e ≤ n) (e2 : σ.1 61 2 = nI e) : ∃ σ', m_X5_advance σ = some σ' ∧ G61 σ σ' ∧ TK σ' n t (sk n t e) := by
  obtain ⟨σ', f, G, p1, p2, p3, p4⟩ := x_adv H he e2
  refine ⟨σ', f, G, p1, ?_⟩
  have hso := so_le n t (sk n t e)
  have h0 := @so_0 n t (sk n t e)
  rcases (show so n t (sk n t e) = 0 ∨ so n t (sk n t e) = 1 ∨ so n t (sk n t e) = 2 ∨ so n t (sk n t e) = 3 ∨ so n t (sk n t e) = 4 by omega) with c | c | c | c | c
  · have q := p3 (by omega)
    rw [c] at q
    exact ⟨fun z => absurd z (by omega), fun _ => by rw [q.1]; decide, fun _ => q.1, fun z => absurd (h0.mp c) z⟩
  · have q := p3 (by omega)
    rw [c] at q
    exact ⟨fun _ => ⟨q.1, q.2⟩, fun z => absurd c z, fun z => absurd (h0.mpr z) (by omega), fun _ => by rw [q.1]; decide⟩
  · obtain ⟨q1, q2, q3⟩ := p4 c
    refine ⟨fun z => absurd z (by omega), fun _ => ?_, fun z => absurd (h0.mpr z) (by omega), fun _ => ?_⟩
    · rcases Nat.lt_or_ge (sk n t e + 2) (rs n t 2 (sk n t e)) with y | y
      · rw [q3 y]
        decide
      · rw [(q2 y).1]
        decide
    · rcases Nat.lt_or_ge (sk n t e + 2) (rs n t 2 (sk n t e)) with y | y
      · rw [q3 y]
        decide
      · rw [(q2 y).1]
        decide
  · have q := p2 (by omega)
    rw [c] at q
    exact ⟨fun z => absurd z (by omega), fun _ => by rw [q.1]; decide, fun z => absurd (h0.mpr z) (by omega), fun _ => by rw [q.1]; decide⟩
  · have q := p2 (by omega)
    rw [c] at q
    exact ⟨fun z => absurd z (by omega), fun _ => by rw [q.1]; decide, fun z => absurd (h0.mpr z) (by omega), fun _ => by rw [q.1]; decide⟩
theorem x_num (H : TX σ n t) {e lo hi : Nat} (he : e ≤ n) (hlo : lo ≤ 99) (hhi : hi ≤ 99) (e2 : σ.1 61 2 = nI e) : (∀ f, pNum n t lo hi e = .inl f → ∃ σ', m_X5_readNumber (nI lo) (nI hi) σ = some (0, σ') ∧ G61 σ σ' ∧ σ'.1 61 1 = nI f) ∧ (∀ q v, pNum n t lo hi e = .inr (q, v) → ∃ σ', m_X5_readNumber (nI lo) (nI hi) σ = some (1, σ') ∧ G61 σ σ' ∧ σ'.1 61 2 = nI q ∧ σ'.1 61 4 = nI v) := by
  obtain ⟨σ', f, G, p1, p2, p3, p4⟩ := x_adv H he e2
  have hso := so_le n t (sk n t e)
  have hb : sk n t e ≤ n := sk_le he
  have unf : m_X5_readNumber (nI lo) (nI hi) σ = (if (σ'.1 61 3) = (2 : Int32) then
      (bd1 (m_X7_within (σ'.1 61 4) (nI lo) (nI hi) σ') (fun r3 =>
      if r3 = 0 then
      (some ((0 : Int32), σ'))
      else
      (some ((1 : Int32), σ'))))
      else
      (some ((0 : Int32), σ'))) := by
    unfold m_X5_readNumber
    rw [f, bd1_s]
  have bad : ¬ σ'.1 61 3 = 2 → ¬ (sk n t e < rs n t 2 (sk n t e) ∧ rs n t 2 (sk n t e) ≤ sk n t e + 2 ∧ lo ≤ vN t (sk n t e) (rs n t 2 (sk n t e)) ∧ vN t (sk n t e) (rs n t 2 (sk n t e)) ≤ hi) → (∀ f, pNum n t lo hi e = .inl f → ∃ σ', m_X5_readNumber (nI lo) (nI hi) σ = some (0, σ') ∧ G61 σ σ' ∧ σ'.1 61 1 = nI f) ∧ (∀ q v, pNum n t lo hi e = .inr (q, v) → ∃ σ', m_X5_readNumber (nI lo) (nI hi) σ = some (1, σ') ∧ G61 σ σ' ∧ σ'.1 61 2 = nI q ∧ σ'.1 61 4 = nI v) := fun h1 h2 => by
    unfold pNum
    rw [if_neg h2, unf, if_neg h1]
    exact ⟨fun f hf => ⟨σ', rfl, G, by rw [p1]; exact congrArg nI (Sum.inl.inj hf)⟩, fun q v h => absurd h (by simp)⟩
  by_cases c : so n t (sk n t e) = 2
  · obtain ⟨q1, q2, q3⟩ := p4 c
    have hlt : sk n t e < rs n t 2 (sk n t e) := rs_pos (Nat.lt_of_not_le (fun z => by rw [so_0.mpr z] at c; omega)) c
    by_cases d : rs n t 2 (sk n t e) ≤ sk n t e + 2
    · obtain ⟨s1, s2⟩ := q2 d
      have hv := VL_vN hlt d
      have h99 : vN t (sk n t e) (rs n t 2 (sk n t e)) < 2 ^ 31 := by
        have ht := H.2.2.2.2
        have a1 := ht (sk n t e)
        have a2 := ht (sk n t e + 1)
        unfold vN
        split <;> omega
      have hr : rng (nI (vN t (sk n t e) (rs n t 2 (sk n t e)))) (nI lo).toInt (nI hi).toInt ↔ (lo ≤ vN t (sk n t e) (rs n t 2 (sk n t e)) ∧ vN t (sk n t e) (rs n t 2 (sk n t e)) ≤ hi) := by
        rw [nI_toInt (by omega), nI_toInt (by omega), nI_rng h99]
        omega
      by_cases ok : lo ≤ vN t (sk n t e) (rs n t 2 (sk n t e)) ∧ vN t (sk n t e) (rs n t 2 (sk n t e)) ≤ hi
      · unfold pNum
        rw [if_pos ⟨hlt, d, ok⟩, unf, if_pos s1, s2, hv, e_within, bd1_s, b01_z, if_pos (hr.mpr ok)]
        refine ⟨fun f h => absurd h (by simp), fun q v h => ?_⟩
        have h := Sum.inr.inj h
        have h1 : rs n t 2 (sk n t e) = q := congrArg Prod.fst h
        have h2 : vN t (sk n t e) (rs n t 2 (sk n t e)) = v := congrArg Prod.snd h
        exact ⟨σ', rfl, G, by rw [q1, h1], by rw [s2, hv, h2]⟩
      · unfold pNum
        rw [if_neg (fun z => ok z.2.2), unf, if_pos s1, s2, hv, e_within, bd1_s, b01_z, if_neg (fun z => ok (hr.mp z))]
        exact ⟨fun f hf => ⟨σ', rfl, G, by rw [p1]; exact congrArg nI (Sum.inl.inj hf)⟩, fun q v h => absurd h (by simp)⟩
    · refine bad ?_ (fun z => d z.2.1)
      rw [q3 (by omega)]
      decide
  · have hn : rs n t 2 (sk n t e) = sk n t e := rs_none (.inl c)
    refine bad ?_ (by omega)
    rcases (show so n t (sk n t e) ≤ 1 ∨ 3 ≤ so n t (sk n t e) by omega) with d | d
    · rw [(p3 d).1]
      intro z
      exact c ((nI_eq (a := so n t (sk n t e)) (b := 2) (by omega) (by omega)).mp z)
    · rw [(p2 d).1]
      intro z
      exact c ((nI_eq (a := so n t (sk n t e)) (b := 2) (by omega) (by omega)).mp z)
theorem x_stop (H : TX σ n t) {e : Nat} (he : e ≤ n) (e2 : σ.1 61 2 = nI e) : (∀ f, pEnd n t e = .inl f → ∃ σ', m_X5_readStop σ = some (0, σ') ∧ G61 σ σ' ∧ σ'.1 61 1 = nI f) ∧ (∀ q, pEnd n t e = .inr q → ∃ σ', m_X5_readStop σ = some (1, σ') ∧ G61 σ σ' ∧ σ'.1 61 2 = nI q ∧ σ'.1 61 4 = σ.1 61 4) := by
  obtain ⟨σ', f, G, p1, p2, p3, p4⟩ := x_adv H he e2
  have hso := so_le n t (sk n t e)
  unfold m_X5_readStop pEnd
  rw [f, bd1_s]
  by_cases c : so n t (sk n t e) = 3
  · obtain ⟨q1, q2, q3⟩ := p2 (by omega)
    rw [c] at q1
    rw [if_pos c, if_pos (show σ'.1 61 3 = (3 : Int32) from q1)]
    exact ⟨fun f h => absurd h (by simp), fun q h => ⟨σ', rfl, G, by rw [q2]; exact congrArg nI (Sum.inr.inj h), q3⟩⟩
  · have hne : ¬ σ'.1 61 3 = (3 : Int32) := by
      rcases (show so n t (sk n t e) ≤ 1 ∨ so n t (sk n t e) = 2 ∨ so n t (sk n t e) = 4 by omega) with d | d | d
      · rw [(p3 d).1]
        intro z
        exact c ((nI_eq (a := so n t (sk n t e)) (b := 3) (by omega) (by omega)).mp z)
      · obtain ⟨q1, q2, q3⟩ := p4 d
        rcases Nat.lt_or_ge (sk n t e + 2) (rs n t 2 (sk n t e)) with y | y
        · rw [q3 y]
          decide
        · rw [(q2 y).1]
          decide
      · rw [(p2 (by omega)).1, d]
        decide
    rw [if_neg c, if_neg hne]
    exact ⟨fun f hf => ⟨σ', rfl, G, by rw [p1]; exact congrArg nI (Sum.inl.inj hf)⟩, fun q h => absurd h (by simp)⟩
theorem x_isWord (H : TX σ n t) {b : Nat} (hb : b ≤ n) (K : TK σ n t b) {i : Nat} (hi : i < 6) : m_X5_isWord i σ = some (if isW n t b i = true then 1 else 0) := by
  obtain ⟨k1, k2, k3, _⟩ := K
  have hl := wl_in i hi
  have hq : rs n t 1 b ≤ n := rs_le hb
  have hg := rs_ge n t 1 b
  have h150 := H.2.2.2.1
  have ht := H.2.2.2.2
  unfold m_X5_isWord
  by_cases c : so n t b = 1
  · obtain ⟨s1, s2⟩ := k2 c
    rw [if_pos s1, s2, k1, pk_sub hg, show litN.getD i 0 = wl' i from rfl]
    by_cases d : rs n t 1 b = b + wl' i
    · rw [if_pos (by rw [d, show b + wl' i - b = wl' i by omega]), nm_eq]
      have loop : ∀ F j, j ≤ wl' i → wl' i < j + F → (∀ u, u < j → t (b + u) = wc i u) → m_X5_isWord_L28 i σ (fun _ => none) F (nI j) = some (if isW n t b i = true then 1 else 0) := by
        intro F
        induction F with
        | zero => intro j h1 h2; exact absurd h2 (by omega)
        | succ F ih =>
          intro j h1 h2 h3
          rw [m_X5_isWord_L28.eq_2, show litN.getD i 0 = wl' i from rfl, k1]
          rcases Nat.lt_or_ge j (wl' i) with q | q
          · rw [if_neg (nI_ge q (by omega)), nI_add, x_byte H (show b + j < n by omega), bd1_s, ix_if q (by omega), wc_ch i hi j (by omega) q]
            have hw := wc_in i hi j (by omega) q
            have := ht (b + j)
            by_cases y : t (b + j) = wc i j
            · rw [if_pos (by rw [y]), nI_1, nm_eq]
              refine ih (j + 1) (by omega) (by omega) (fun u hu => ?_)
              by_cases w : u = j
              · rw [w]
                exact y
              · exact h3 u (by omega)
            · rw [if_neg (fun z => y ((nI_eq (by omega) (by omega)).mp z)), if_neg (fun z => y ((of_decide_eq_true z).2 j q))]
          · have : j = wl' i := by omega
            subst this
            rw [if_pos (nI_le (Nat.le_refl _) (by omega)), if_pos (show isW n t b i = true from decide_eq_true ⟨d, h3⟩)]
      exact loop 1000 0 (by omega) (by omega) (fun u hu => absurd hu (by omega))
    · rw [if_neg (fun z => d (by have := (nI_eq (by omega) (by omega)).mp z; omega)), if_neg (fun z => d (of_decide_eq_true z).1)]
  · rw [if_neg (k3 c), if_neg]
    intro z
    have := (of_decide_eq_true z).1
    rw [rs_none (.inl c)] at this
    omega
theorem x_begun (H : TX σ n t) {b : Nat} (hb : b ≤ n) (K : TK σ n t b) : m_X5_itemBegun σ = some (nI (if wh n t b = 0 ∨ wh n t b = 6 then 0 else wh n t b)) := by
  have hle := wh_le (n := n) (t := t) b
  have W : ∀ i, i < 6 → (isW n t b i = true ↔ wh n t b = i) := fun i hi => ⟨fun z => wh_of hi z, fun z => by
    have := wh_is (n := n) (t := t) (b := b) (by omega)
    rwa [z] at this⟩
  unfold m_X5_itemBegun
  rw [x_isWord H hb K (by omega), x_isWord H hb K (by omega), x_isWord H hb K (by omega), x_isWord H hb K (by omega), x_isWord H hb K (by omega)]
  have E : ∀ i, i < 6 → (if isW n t b i = true then (1 : Int32) else 0) = if wh n t b = i then 1 else 0 := fun i hi => by
    by_cases c : wh n t b = i
    · rw [if_pos c, if_pos ((W i hi).mpr c)]
    · rw [if_neg c, if_neg (fun z => c ((W i hi).mp z))]
  rw [E 1 (by omega), E 2 (by omega), E 3 (by omega), E 4 (by omega), E 5 (by omega)]
  rcases (show wh n t b = 0 ∨ wh n t b = 1 ∨ wh n t b = 2 ∨ wh n t b = 3 ∨ wh n t b = 4 ∨ wh n t b = 5 ∨ wh n t b = 6 by omega) with c | c | c | c | c | c | c <;> rw [c] <;> rfl
/-- what an item leaves in the reader -/
def RG (σ : Sg) (r x y z : Nat) : Prop := (r = 1 → σ.1 61 5 = nI x ∧ σ.1 61 6 = nI y ∧ σ.1 61 4 = nI z) ∧ (r = 2 → σ.1 61 5 = nI x ∧ σ.1 61 6 = nI y) ∧ (r = 3 ∨ r = 4 → σ.1 61 6 = nI x) ∧ (r = 5 → σ.1 61 4 = nI x)
theorem TX.f {σ' : Sg} (H : TX σ n t) (F : FR 61 σ σ') : TX σ' n t := H.fr (F.1 62 (by omega)) (F.1 63 (by omega))
theorem FR.trans {k : Nat} {σ σ' σ'' : Sg} (H : FR k σ σ') (H' : FR k σ' σ'') : FR k σ σ'' := ⟨fun a ha => (H'.1 a ha).trans (H.1 a ha), H'.2.trans H.2⟩
theorem x_args (H : TX σ n t) {r q : Nat} (hr : 1 ≤ r) (hr5 : r ≤ 5) (hq : q ≤ n) (e2 : σ.1 61 2 = nI q) : (∀ f, pArgs n t r q = .inl f → ∃ σ', m_X5_readNumbers (nI r) σ = some (0, σ') ∧ FR 61 σ σ' ∧ σ'.1 61 1 = nI f) ∧ (∀ e' x y z, pArgs n t r q = .inr (e', x, y, z) → ∃ σ', m_X5_readNumbers (nI r) σ = some (1, σ') ∧ FR 61 σ σ' ∧ σ'.1 61 2 = nI e' ∧ RG σ' r x y z) := by
  unfold pArgs m_X5_readNumbers
  rw [if_neg (show ¬ r = 0 by omega)]
  rcases (show r = 1 ∨ r = 2 ∨ r = 5 ∨ r = 3 ∨ r = 4 by omega) with rfl | rfl | rfl | hr | hr
  · rw [if_pos rfl, if_neg (show ¬ nI 1 = (5 : Int32) by decide), if_pos (show nI 1 = (1 : Int32) from rfl)]
    obtain ⟨A1, A2⟩ := x_num H (lo := 0) (hi := 5) hq (by omega) (by omega) e2
    rcases c1 : pNum n t 0 5 q with f | ⟨q1, x⟩
    · obtain ⟨σ1, f1, G1, g1⟩ := A1 f c1
      rw [sb_l, show m_X5_readNumber (0 : Int32) (5 : Int32) σ = _ from f1, bd2_s, if_pos rfl]
      exact ⟨fun f' h => ⟨σ1, rfl, G1.1, by rw [g1]; exact congrArg nI (Sum.inl.inj h)⟩, fun e' x y z h => absurd h (by simp)⟩
    obtain ⟨σ1, f1, G1, g1, g2⟩ := A2 q1 x c1
    have o1 := pNum_ok hq c1
    rw [sb_r, show m_X5_readNumber (0 : Int32) (5 : Int32) σ = _ from f1, bd2_s, if_neg (by decide), nm_eq]
    have G1' : FR 61 σ (si σ1 61 5 (σ1.1 61 4)) := G1.1.set _ _
    obtain ⟨B1, B2⟩ := x_num (H.f G1') (e := q1) (lo := 0) (hi := 3) o1.2.1 (by omega) (by omega) (by rw [si_off' _ _ _ _ _ (by omega), g1])
    show (∀ f, sb (pNum n t 0 3 q1) _ = .inl f → _) ∧ (∀ e' x' y z, sb (pNum n t 0 3 q1) _ = .inr (e', x', y, z) → _)
    rcases c2 : pNum n t 0 3 q1 with f | ⟨q2, y⟩
    · obtain ⟨σ2, f2, G2, g3⟩ := B1 f c2
      rw [sb_l, show m_X5_readNumber (0 : Int32) (3 : Int32) _ = _ from f2, bd2_s, if_pos rfl]
      exact ⟨fun f' h => ⟨σ2, rfl, G1'.trans G2.1, by rw [g3]; exact congrArg nI (Sum.inl.inj h)⟩, fun e' x y z h => absurd h (by simp)⟩
    obtain ⟨σ2, f2, G2, g3, g4⟩ := B2 q2 y c2
    have o2 := pNum_ok o1.2.1 c2
    rw [sb_r, show m_X5_readNumber (0 : Int32) (3 : Int32) _ = _ from f2, bd2_s, if_neg (by decide), nm_eq, if_pos (show nI 1 = (1 : Int32) from rfl)]
    have G2' : FR 61 σ (si σ2 61 6 (σ2.1 61 4)) := (G1'.trans G2.1).set _ _
    obtain ⟨C1, C2⟩ := x_num (H.f G2') (e := q2) (lo := 1) (hi := 9) o2.2.1 (by omega) (by omega) (by rw [si_off' _ _ _ _ _ (by omega), g3])
    show (∀ f, sb (pNum n t 1 9 q2) _ = .inl f → _) ∧ (∀ e' x' y z, sb (pNum n t 1 9 q2) _ = .inr (e', x', y, z) → _)
    rcases c3 : pNum n t 1 9 q2 with f | ⟨q3, z⟩
    · obtain ⟨σ3, f3, G3, g5⟩ := C1 f c3
      rw [sb_l, show m_X5_readNumber (1 : Int32) (9 : Int32) _ = _ from f3, bd2_s, if_pos rfl]
      exact ⟨fun f' h => ⟨σ3, rfl, G2'.trans G3.1, by rw [g5]; exact congrArg nI (Sum.inl.inj h)⟩, fun e' x y z h => absurd h (by simp)⟩
    obtain ⟨σ3, f3, G3, g5, g6⟩ := C2 q3 z c3
    rw [sb_r, show m_X5_readNumber (1 : Int32) (9 : Int32) _ = _ from f3, bd2_s, if_neg (by decide)]
    refine ⟨fun f' h => absurd h (by simp), fun e' x' y' z' h => ⟨σ3, rfl, G2'.trans G3.1, ?_, fun _ => ⟨?_, ?_, ?_⟩, fun w => absurd w (by omega), fun w => absurd w (by omega), fun w => absurd w (by omega)⟩⟩
    · have h := Sum.inr.inj h
      rw [g5]
      exact congrArg nI (congrArg Prod.fst h)
    · have h := Sum.inr.inj h
      have hx : x = x' := congrArg (fun w => w.2.1) h
      rw [G3.2.1, si_off' _ _ _ _ _ (by omega), G2.2.1, si_at, g2, hx]
    · have h := Sum.inr.inj h
      have hy : y = y' := congrArg (fun w => w.2.2.1) h
      rw [G3.2.2, si_at, g4, hy]
    · have h := Sum.inr.inj h
      have hz : z = z' := congrArg (fun w => w.2.2.2) h
      rw [g6, hz]
  · rw [if_neg (by omega), if_pos rfl, if_neg (show ¬ nI 2 = (5 : Int32) by decide), if_neg (show ¬ nI 2 = (1 : Int32) by decide), if_pos (show nI 2 = (2 : Int32) from rfl)]
    obtain ⟨A1, A2⟩ := x_num H (lo := 0) (hi := 5) hq (by omega) (by omega) e2
    rcases c1 : pNum n t 0 5 q with f | ⟨q1, x⟩
    · obtain ⟨σ1, f1, G1, g1⟩ := A1 f c1
      rw [sb_l, show m_X5_readNumber (0 : Int32) (5 : Int32) σ = _ from f1, bd2_s, if_pos rfl]
      exact ⟨fun f' h => ⟨σ1, rfl, G1.1, by rw [g1]; exact congrArg nI (Sum.inl.inj h)⟩, fun e' x y z h => absurd h (by simp)⟩
    obtain ⟨σ1, f1, G1, g1, g2⟩ := A2 q1 x c1
    have o1 := pNum_ok hq c1
    rw [sb_r, show m_X5_readNumber (0 : Int32) (5 : Int32) σ = _ from f1, bd2_s, if_neg (by decide), nm_eq]
    have G1' : FR 61 σ (si σ1 61 5 (σ1.1 61 4)) := G1.1.set _ _
    obtain ⟨B1, B2⟩ := x_num (H.f G1') (e := q1) (lo := 0) (hi := 3) o1.2.1 (by omega) (by omega) (by rw [si_off' _ _ _ _ _ (by omega), g1])
    show (∀ f, sb (pNum n t 0 3 q1) _ = .inl f → _) ∧ (∀ e' x' y z, sb (pNum n t 0 3 q1) _ = .inr (e', x', y, z) → _)
    rcases c2 : pNum n t 0 3 q1 with f | ⟨q2, y⟩
    · obtain ⟨σ2, f2, G2, g3⟩ := B1 f c2
      rw [sb_l, show m_X5_readNumber (0 : Int32) (3 : Int32) _ = _ from f2, bd2_s, if_pos rfl]
      exact ⟨fun f' h => ⟨σ2, rfl, G1'.trans G2.1, by rw [g3]; exact congrArg nI (Sum.inl.inj h)⟩, fun e' x y z h => absurd h (by simp)⟩
    obtain ⟨σ2, f2, G2, g3, g4⟩ := B2 q2 y c2
    rw [sb_r, show m_X5_readNumber (0 : Int32) (3 : Int32) _ = _ from f2, bd2_s, if_neg (by decide), nm_eq, if_neg (show ¬ nI 2 = (1 : Int32) by decide)]
    have G2' : FR 61 σ (si σ2 61 6 (σ2.1 61 4)) := (G1'.trans G2.1).set _ _
    refine ⟨fun f' h => absurd h (by simp), fun e' x' y' z' h => ⟨_, rfl, G2', ?_, fun w => absurd w (by omega), fun _ => ⟨?_, ?_⟩, fun w => absurd w (by omega), fun w => absurd w (by omega)⟩⟩
    · have h := Sum.inr.inj h
      rw [si_off' _ _ _ _ _ (by omega), g3]
      exact congrArg nI (congrArg Prod.fst h)
    · have h := Sum.inr.inj h
      have hx : x = x' := congrArg (fun w => w.2.1) h
      rw [si_off' _ _ _ _ _ (by omega), G2.2.1, si_at, g2, hx]
    · have h := Sum.inr.inj h
      have hy : y = y' := congrArg (fun w => w.2.2.1) h
      rw [si_at, g4, hy]
  · rw [if_neg (by omega), if_neg (by omega), if_pos rfl, if_pos (show nI 5 = (5 : Int32) from rfl)]
    obtain ⟨A1, A2⟩ := x_num H (lo := 1) (hi := 99) hq (by omega) (by omega) e2
    rcases c1 : pNum n t 1 99 q with f | ⟨q1, x⟩
    · obtain ⟨σ1, f1, G1, g1⟩ := A1 f c1
      rw [sb_l, show m_X5_readNumber (1 : Int32) (99 : Int32) σ = _ from f1, bd2_s, if_neg (by decide)]
      exact ⟨fun f' h => ⟨σ1, rfl, G1.1, by rw [g1]; exact congrArg nI (Sum.inl.inj h)⟩, fun e' x y z h => absurd h (by simp)⟩
    obtain ⟨σ1, f1, G1, g1, g2⟩ := A2 q1 x c1
    rw [sb_r, show m_X5_readNumber (1 : Int32) (99 : Int32) σ = _ from f1, bd2_s, if_neg (by decide)]
    refine ⟨fun f' h => absurd h (by simp), fun e' x' y' z' h => ⟨_, rfl, G1.1, ?_, fun w => absurd w (by omega), fun w => absurd w (by omega), fun w => absurd w (by omega), fun _ => ?_⟩⟩
    · have h := Sum.inr.inj h
      rw [g1]
      exact congrArg nI (congrArg Prod.fst h)
    · have h := Sum.inr.inj h
      have hx : x = x' := congrArg (fun w => w.2.1) h
      rw [g2, hx]
  all_goals
    subst hr
    rw [if_neg (by omega), if_neg (by omega), if_neg (by omega), if_neg (by decide), if_neg (by decide), if_neg (by decide)]
    obtain ⟨A1, A2⟩ := x_num H (lo := 0) (hi := 3) hq (by omega) (by omega) e2
    rcases c1 : pNum n t 0 3 q with f | ⟨q1, x⟩
    · obtain ⟨σ1, f1, G1, g1⟩ := A1 f c1
      rw [sb_l, show m_X5_readNumber (0 : Int32) (3 : Int32) σ = _ from f1, bd2_s, if_pos rfl]
      exact ⟨fun f' h => ⟨σ1, rfl, G1.1, by rw [g1]; exact congrArg nI (Sum.inl.inj h)⟩, fun e' x y z h => absurd h (by simp)⟩
    obtain ⟨σ1, f1, G1, g1, g2⟩ := A2 q1 x c1
    rw [sb_r, show m_X5_readNumber (0 : Int32) (3 : Int32) σ = _ from f1, bd2_s, if_neg (by decide), nm_eq, if_neg (by decide)]
    have G1' : FR 61 σ (si σ1 61 6 (σ1.1 61 4)) := G1.1.set _ _
    refine ⟨fun f' h => absurd h (by simp), fun e' x' y' z' h => ⟨_, rfl, G1', ?_, fun w => absurd w (by omega), fun w => absurd w (by omega), fun _ => ?_, fun w => absurd w (by omega)⟩⟩
    · have h := Sum.inr.inj h
      rw [si_off' _ _ _ _ _ (by omega), g1]
      exact congrArg nI (congrArg Prod.fst h)
    · have h := Sum.inr.inj h
      have hx : x = x' := congrArg (fun w => w.2.1) h
      rw [si_at, g2, hx]
end CTOK
