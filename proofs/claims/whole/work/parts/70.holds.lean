/-! ===== PURE: holds: numbers ===== -/
def sumN (f : Nat → Nat) : Nat → Nat
  | 0 => 0
  | n + 1 => sumN f n + f n
theorem sumN_congr {f g : Nat → Nat} : ∀ n, (∀ k, k < n → f k = g k) → sumN f n = sumN g n := by
  intro n
  induction n with
  | zero => intro _; rfl
  | succ n ih =>
    intro h
    unfold sumN
    rw [ih (fun k hk => h k (by omega)), h n (by omega)]
theorem sumN_add (f : Nat → Nat) (a : Nat) : ∀ b, sumN f (a + b) = sumN f a + sumN (fun k => f (a + k)) b := by
  intro b
  induction b with
  | zero => rfl
  | succ b ih =>
    show sumN f (a + b) + f (a + b) = sumN f a + (sumN (fun k => f (a + k)) b + f (a + b))
    rw [ih, Nat.add_assoc]
theorem sumN_mul (f : Nat → Nat) (c : Nat) : ∀ n, sumN (fun k => c * f k) n = c * sumN f n := by
  intro n
  induction n with
  | zero => rfl
  | succ n ih =>
    show sumN (fun k => c * f k) n + c * f n = c * (sumN f n + f n)
    rw [ih, Nat.mul_add]
theorem sumN_0 {f : Nat → Nat} : ∀ n, (∀ k, k < n → f k = 0) → sumN f n = 0 := by
  intro n
  induction n with
  | zero => intro _; rfl
  | succ n ih =>
    intro h
    unfold sumN
    rw [ih (fun k hk => h k (by omega)), h n (by omega)]
/-- a product over the places of a set of bits -/
def Wt (w : Nat → Bool → Nat) (n : Nat) : Nat → Nat
  | 0 => 1
  | j + 1 => Wt w n j * w j (n.testBit j)
theorem tb_hi {n N t : Nat} (h : n < 2 ^ N) (ht : N ≤ t) : n.testBit t = false :=
  Nat.testBit_lt_two_pow (Nat.lt_of_lt_of_le h (Nat.pow_le_pow_right (by decide) ht))
theorem tb_add {n N : Nat} (h : n < 2 ^ N) (t : Nat) : (2 ^ N + n).testBit t = (n.testBit t || decide (t = N)) := by
  rcases Nat.lt_or_ge t N with q | q
  · rw [Nat.testBit_two_pow_add_gt q, decide_eq_false (by omega), Bool.or_false]
  · by_cases c : t = N
    · subst c
      rw [Nat.testBit_two_pow_add_eq, tb_hi h (Nat.le_refl _), decide_eq_true rfl]
      rfl
    · have h2 : 2 ^ N + n < 2 ^ (N + 1) := by
        rw [Nat.pow_succ]
        omega
      rw [tb_hi h2 (by omega), tb_hi h q, decide_eq_false c]
      rfl
theorem Wt_low (w : Nat → Bool → Nat) {n N : Nat} (h : n < 2 ^ N) : ∀ j, j ≤ N → Wt w (2 ^ N + n) j = Wt w n j := by
  intro j
  induction j with
  | zero => intro _; rfl
  | succ j ih =>
    intro hj
    unfold Wt
    rw [ih (by omega), tb_add h, decide_eq_false (by omega), Bool.or_false]
def Ex (here : Nat → Bool) (C D : Nat) : Nat → ((Nat → Bool) → Nat) → Nat
  | 0, g => g (fun _ => false)
  | N + 1, g => if here N = true then C * Ex here C D N g + D * Ex here C D N (fun b => g (fun t => b t || decide (t = N))) else Ex here C D N g
theorem Ex_s (here : Nat → Bool) (C D N : Nat) (g : (Nat → Bool) → Nat) : Ex here C D (N + 1) g = if here N = true then C * Ex here C D N g + D * Ex here C D N (fun b => g (fun t => b t || decide (t = N))) else Ex here C D N g := rfl
theorem Ex_sum {here : Nat → Bool} {C D : Nat} {w : Nat → Bool → Nat} (hw : ∀ t, (here t = true ∧ w t true = D ∧ w t false = C) ∨ (here t = false ∧ ((w t true = 1 ∧ w t false = 0) ∨ (w t true = 0 ∧ w t false = 1)))) : ∀ N (g : (Nat → Bool) → Nat), sumN (fun n => Wt w n N * g (fun t => here t && n.testBit t)) (2 ^ N) = Ex here C D N g := by
  intro N
  induction N with
  | zero =>
    intro g
    show 0 + 1 * g (fun t => here t && (0 : Nat).testBit t) = g (fun _ => false)
    rw [Nat.zero_add, Nat.one_mul]
    refine congrArg g (funext (fun t => ?_))
    rw [Nat.zero_testBit, Bool.and_false]
  | succ N ih =>
    intro g
    rw [show 2 ^ (N + 1) = 2 ^ N + 2 ^ N by rw [Nat.pow_succ]; omega, sumN_add]
    have f1 : ∀ n, n < 2 ^ N → Wt w n (N + 1) * g (fun t => here t && n.testBit t) = w N false * (Wt w n N * g (fun t => here t && n.testBit t)) := fun n hn => by
      show Wt w n N * w N (n.testBit N) * _ = _
      rw [tb_hi hn (Nat.le_refl _), Nat.mul_comm (Wt w n N), Nat.mul_assoc]
    have f2 : ∀ n, n < 2 ^ N → Wt w (2 ^ N + n) (N + 1) * g (fun t => here t && (2 ^ N + n).testBit t) = w N true * (Wt w n N * g (fun t => here t && (n.testBit t || decide (t = N)))) := fun n hn => by
      show Wt w (2 ^ N + n) N * w N ((2 ^ N + n).testBit N) * _ = _
      rw [tb_add hn, decide_eq_true rfl, Bool.or_true, Wt_low w hn N (Nat.le_refl _), Nat.mul_comm (Wt w n N), Nat.mul_assoc]
      refine congrArg (fun z => w N true * (Wt w n N * g z)) (funext (fun t => ?_))
      rw [tb_add hn]
    rw [sumN_congr _ f1, sumN_congr _ f2, sumN_mul, sumN_mul, ih g]
    rw [Ex_s]
    rcases hw N with ⟨h1, h2, h3⟩ | ⟨h1, h2⟩
    · rw [if_pos h1, h2, h3, ← ih (fun b => g (fun t => b t || decide (t = N)))]
      refine congrArg (fun z => C * Ex here C D N g + D * z) (sumN_congr _ (fun n hn => congrArg (fun z => Wt w n N * g z) (funext (fun t => ?_))))
      by_cases c : t = N
      · subst c
        rw [h1, decide_eq_true rfl, Bool.or_true, Bool.or_true]
        rfl
      · rw [decide_eq_false c, Bool.or_false, Bool.or_false]
    · have e : sumN (fun n => Wt w n N * g (fun t => here t && (n.testBit t || decide (t = N)))) (2 ^ N) = Ex here C D N g := by
        rw [← ih g]
        refine sumN_congr _ (fun n hn => congrArg (fun z => Wt w n N * g z) (funext (fun t => ?_)))
        by_cases c : t = N
        · subst c
          rw [h1]
          rfl
        · rw [decide_eq_false c, Bool.or_false]
      rw [if_neg (by rw [h1]; decide), e]
      rcases h2 with ⟨h2, h3⟩ | ⟨h2, h3⟩
      · rw [h2, h3]
        omega
      · rw [h2, h3]
        omega
theorem Ex_le {here : Nat → Bool} {C D : Nat} (h : C + D = 10) : ∀ N (g : (Nat → Bool) → Nat), (∀ b, g b ≤ 1) → Ex here C D N g ≤ 10 ^ N := by
  intro N
  induction N with
  | zero => intro g hg; exact hg _
  | succ N ih =>
    intro g hg
    have h1 := ih g hg
    have h2 := ih (fun b => g (fun t => b t || decide (t = N))) (fun b => hg _)
    rw [Ex_s, Nat.pow_succ]
    split
    · have h3 := Nat.mul_le_mul_left C h1
      have h4 := Nat.mul_le_mul_left D h2
      have h5 : C * 10 ^ N + D * 10 ^ N = 10 ^ N * 10 := by
        rw [← Nat.add_mul, h, Nat.mul_comm]
      omega
    · omega
theorem Wt_le {w : Nat → Bool → Nat} (h : ∀ t b, w t b ≤ 10) (n : Nat) : ∀ j, Wt w n j ≤ 10 ^ j := by
  intro j
  induction j with
  | zero => exact Nat.le_refl _
  | succ j ih =>
    unfold Wt
    rw [Nat.pow_succ]
    exact Nat.mul_le_mul ih (h _ _)
def wC (here : Nat → Bool) (C D t : Nat) (b : Bool) : Nat := if here t = true then (if b = true then D else C) else (if b = true then 0 else 1)
def wM (here : Nat → Bool) (C D t : Nat) (b : Bool) : Nat := if here t = true then (if b = true then D else C) else (if b = true then 1 else 0)
theorem wC_w (here : Nat → Bool) (C D : Nat) : ∀ t, (here t = true ∧ wC here C D t true = D ∧ wC here C D t false = C) ∨ (here t = false ∧ ((wC here C D t true = 1 ∧ wC here C D t false = 0) ∨ (wC here C D t true = 0 ∧ wC here C D t false = 1))) := by
  intro t
  unfold wC
  cases here t
  · exact .inr ⟨rfl, .inr ⟨rfl, rfl⟩⟩
  · exact .inl ⟨rfl, rfl, rfl⟩
theorem wM_w (here : Nat → Bool) (C D : Nat) : ∀ t, (here t = true ∧ wM here C D t true = D ∧ wM here C D t false = C) ∨ (here t = false ∧ ((wM here C D t true = 1 ∧ wM here C D t false = 0) ∨ (wM here C D t true = 0 ∧ wM here C D t false = 1))) := by
  intro t
  unfold wM
  cases here t
  · exact .inr ⟨rfl, .inl ⟨rfl, rfl⟩⟩
  · exact .inl ⟨rfl, rfl, rfl⟩
theorem wM_le (here : Nat → Bool) {C D : Nat} (h : C + D = 10) : ∀ t b, wM here C D t b ≤ 10 := by
  intro t b
  unfold wM
  cases here t <;> cases b <;> simp <;> omega
/-- how many bits below j -/
def cb (n : Nat) : Nat → Nat
  | 0 => 0
  | j + 1 => if n.testBit j = true then cb n j + 1 else cb n j
def cH (here : Nat → Bool) : Nat → Nat
  | 0 => 0
  | j + 1 => if here j = true then cH here j + 1 else cH here j
theorem cH_le (here : Nat → Bool) : ∀ j, cH here j ≤ j := by
  intro j
  induction j with
  | zero => exact Nat.le_refl _
  | succ j ih =>
    unfold cH
    split <;> omega
theorem cb_cH {n : Nat} {here : Nat → Bool} : ∀ j, (∀ t, t < j → n.testBit t = here t) → cb n j = cH here j := by
  intro j
  induction j with
  | zero => intro _; rfl
  | succ j ih =>
    intro h
    unfold cb cH
    rw [ih (fun t ht => h t (by omega)), h j (by omega)]
theorem cb_stop {n N : Nat} (h : n < 2 ^ N) : ∀ j, N ≤ j → cb n j = cb n N := by
  intro j
  induction j with
  | zero => intro hj; rw [show N = 0 by omega]
  | succ j ih =>
    intro hj
    rcases Nat.lt_or_ge j N with q | q
    · rw [show N = j + 1 by omega]
    · conv => lhs; unfold cb
      rw [tb_hi h q, if_neg (by decide)]
      exact ih q
theorem bc_cb {w : Nat} (hw : w < 256) : bc (nI w) = nI (cb w 8) := by
  have h : ∀ w, w < 256 → bc (nI w) = nI (cb w 8) := by decide +kernel
  exact h w hw
theorem Wt_cls {here : Nat → Bool} {n C D : Nat} : ∀ j, (∀ t, t < j → n.testBit t = true → here t = true) → cb n j ≤ cH here j ∧ Wt (wC here C D) n j = C ^ (cH here j - cb n j) * D ^ cb n j := by
  intro j
  induction j with
  | zero => intro _; exact ⟨Nat.le_refl _, rfl⟩
  | succ j ih =>
    intro h
    obtain ⟨h1, h2⟩ := ih (fun t ht => h t (by omega))
    unfold cb cH Wt
    rw [h2]
    unfold wC
    by_cases c : n.testBit j = true
    · have c2 := h j (by omega) c
      rw [if_pos c2, if_pos c2, if_pos c, if_pos c]
      refine ⟨by omega, ?_⟩
      rw [Nat.add_sub_add_right, Nat.pow_succ, Nat.mul_assoc]
    · rw [if_neg c, if_neg c]
      by_cases c2 : here j = true
      · rw [if_pos c2, if_pos c2]
        refine ⟨by omega, ?_⟩
        rw [show cH here j + 1 - cb n j = cH here j - cb n j + 1 by omega, Nat.pow_succ, Nat.mul_assoc, Nat.mul_assoc, Nat.mul_comm C]
      · rw [if_neg c2, if_neg c2, if_neg c]
        exact ⟨h1, Nat.mul_one _⟩
theorem Wt_cls0 {here : Nat → Bool} {n C D t : Nat} (h1 : n.testBit t = true) (h2 : ¬ here t = true) : ∀ j, t < j → Wt (wC here C D) n j = 0 := by
  intro j
  induction j with
  | zero => intro h; exact absurd h (by omega)
  | succ j ih =>
    intro h
    unfold Wt
    by_cases c : t = j
    · subst c
      unfold wC
      rw [if_neg h2, if_pos h1, Nat.mul_zero]
    · rw [ih (by omega), Nat.zero_mul]
theorem gcd_step (a b : Nat) : Nat.gcd a b = Nat.gcd b (a % b) := by
  rw [Nat.gcd_comm a b, Nat.gcd_rec b a, Nat.gcd_comm]
theorem half_lt {a b k : Nat} (h0 : 0 < b) (hb : b < 2 ^ (k + 1)) (hr : 0 < a % b) : b % (a % b) < 2 ^ k := by
  have h1 := Nat.mod_lt a h0
  have h2 := Nat.mod_lt b hr
  have h3 := Nat.div_add_mod b (a % b)
  have h4 : 1 ≤ b / (a % b) := (Nat.le_div_iff_mul_le hr).mpr (by omega)
  have h5 := Nat.mul_le_mul_left (a % b) h4
  rw [Nat.pow_succ] at hb
  omega
theorem l_eq0 {b : Nat} (hb : b < 2 ^ 63) : (lg_cmp (lN b) (0 : Int64) = 0) ↔ b = 0 := by
  rw [lg_cmp_eq, show (0 : Int64) = lN 0 from rfl, pk_lEQ hb (by decide)]
theorem l_z {b : Nat} (hb : b < 2 ^ 63) (h : 0 < b) : ¬ lN b = 0 := fun z => by
  have := (pk_lEQ (a := b) (b := 0) hb (by decide)).mp z
  omega
section GCD
variable {σ : Sg}
theorem xg_0 (kx : Unit → Option Int64) (F : Nat) {j : Nat} (hj : j < 200) (a : Int64) : m_X1_commonDivisor_L9 σ kx (F + 1) (nI j) (lN 0) a = some a := by
  rw [m_X1_commonDivisor_L9.eq_2, show (200 : Int32) = nI 200 from rfl, if_neg (nI_ge hj (by omega)), if_pos ((l_eq0 (by decide)).mpr rfl)]
theorem xg_s (kx : Unit → Option Int64) (F : Nat) {j a b : Nat} (hj : j < 200) (ha : a < 2 ^ 63) (hb : b < 2 ^ 63) (h : 0 < b) : m_X1_commonDivisor_L9 σ kx (F + 1) (nI j) (lN b) (lN a) = m_X1_commonDivisor_L9 σ kx F (nI (j + 1)) (lN (a % b)) (lN b) := by
  rw [m_X1_commonDivisor_L9.eq_2, show (200 : Int32) = nI 200 from rfl, if_neg (nI_ge hj (by omega)), if_neg (fun z => by have := (l_eq0 hb).mp z; omega), if_neg (l_z hb h), pk_lRem ha h hb, nm_eq, nI_1, nm_eq]
theorem x_gcd (kx : Unit → Option Int64) : ∀ k a b j F, a < 2 ^ 63 → b < 2 ^ 63 → b < 2 ^ k → j + 2 * k + 1 ≤ 200 → 200 < j + F → m_X1_commonDivisor_L9 σ kx F (nI j) (lN b) (lN a) = some (lN (Nat.gcd a b)) := by
  intro k
  induction k with
  | zero =>
    intro a b j F ha hb hk hj hF
    obtain ⟨F', rfl⟩ : ∃ F', F = F' + 1 := ⟨F - 1, by omega⟩
    have hb0 : b = 0 := by
      rw [Nat.pow_zero] at hk
      omega
    subst hb0
    rw [xg_0 kx F' (by omega), Nat.gcd_zero_right]
  | succ k ih =>
    intro a b j F ha hb hk hj hF
    obtain ⟨F', rfl⟩ : ∃ F', F = F' + 1 + 1 := ⟨F - 2, by omega⟩
    rcases Nat.eq_zero_or_pos b with q | q
    · subst q
      rw [xg_0 kx _ (by omega), Nat.gcd_zero_right]
    · rw [xg_s kx _ (by omega) ha hb q, gcd_step a b]
      rcases Nat.eq_zero_or_pos (a % b) with q2 | q2
      · rw [q2, xg_0 kx _ (by omega), Nat.gcd_zero_right]
      · have h1 := Nat.mod_lt a q
        have h2 := Nat.mod_lt b q2
        rw [xg_s kx _ (by omega) hb (by omega) q2, gcd_step b (a % b)]
        exact ih _ _ _ _ (by omega) (by omega) (half_lt q hk q2) (by omega) (by omega)
theorem yg_0 {β : Type} (c8 c6 : Int64) (kx : Int64 → Option β) (F : Nat) (a : Int64) : m_X8_holds_L276 c8 c6 σ kx (F + 1) (lN 0) a = kx a := by
  rw [m_X8_holds_L276.eq_2, if_pos ((l_eq0 (by decide)).mpr rfl)]
theorem yg_s {β : Type} (c8 c6 : Int64) (kx : Int64 → Option β) (F : Nat) {a b : Nat} (ha : a < 2 ^ 63) (hb : b < 2 ^ 63) (h : 0 < b) : m_X8_holds_L276 c8 c6 σ kx (F + 1) (lN b) (lN a) = m_X8_holds_L276 c8 c6 σ kx F (lN (a % b)) (lN b) := by
  rw [m_X8_holds_L276.eq_2, if_neg (fun z => by have := (l_eq0 hb).mp z; omega), if_neg (l_z hb h), pk_lRem ha h hb, nm_eq]
theorem y_gcd {β : Type} (c8 c6 : Int64) (kx : Int64 → Option β) : ∀ k a b F, a < 2 ^ 63 → b < 2 ^ 63 → b < 2 ^ k → 2 * k + 1 ≤ F → m_X8_holds_L276 c8 c6 σ kx F (lN b) (lN a) = kx (lN (Nat.gcd a b)) := by
  intro k
  induction k with
  | zero =>
    intro a b F ha hb hk hF
    obtain ⟨F', rfl⟩ : ∃ F', F = F' + 1 := ⟨F - 1, by omega⟩
    have hb0 : b = 0 := by
      rw [Nat.pow_zero] at hk
      omega
    subst hb0
    rw [yg_0, Nat.gcd_zero_right]
  | succ k ih =>
    intro a b F ha hb hk hF
    obtain ⟨F', rfl⟩ : ∃ F', F = F' + 1 + 1 := ⟨F - 2, by omega⟩
    rcases Nat.eq_zero_or_pos b with q | q
    · subst q
      rw [yg_0, Nat.gcd_zero_right]
    · rw [yg_s _ _ _ _ ha hb q, gcd_step a b]
      rcases Nat.eq_zero_or_pos (a % b) with q2 | q2
      · rw [q2, yg_0, Nat.gcd_zero_right]
      · have h1 := Nat.mod_lt a q
        have h2 := Nat.mod_lt b q2
        rw [yg_s _ _ _ _ hb (by omega) q2, gcd_step b (a % b)]
        exact ih _ _ _ (by omega) (by omega) (half_lt q hk q2) (by omega)
theorem x_pow {b e : Nat} (hb : b < 2 ^ 31) (he : e ≤ 900) : m_X1_power (nI b) (nI e) σ = some (lN (b ^ e)) := by
  have loop : ∀ F t, t ≤ e → e < t + F → m_X1_power_L5 (nI b) (nI e) σ (fun _ => none) F (nI t) (lN (b ^ t)) = some (lN (b ^ e)) := by
    intro F
    induction F with
    | zero => intro t h1 h2; exact absurd h2 (by omega)
    | succ F ih =>
      intro t h1 h2
      rw [m_X1_power_L5.eq_2]
      rcases Nat.lt_or_ge t e with q | q
      · rw [if_neg (nI_ge q (by omega)), nI_l hb, lN_mul, nm_eq, nI_1, nm_eq, ← Nat.pow_succ]
        exact ih (t + 1) (by omega) (by omega)
      · have : t = e := by omega
        subst this
        rw [if_pos (nI_le (Nat.le_refl _) (by omega))]
  unfold m_X1_power
  rw [nm_eq, nm_eq]
  exact loop 1000 0 (by omega) (by omega)
theorem x_become {a b : Nat} (ha : a < 2 ^ 63) (hb : b < 2 ^ 27) (h0 : 0 < b) : m_X1_become (lN a) (lN b) σ = some (sl (sl σ 67 0 (lN (a / Nat.gcd a b))) 67 1 (lN (b / Nat.gcd a b))) := by
  have g0 : 0 < Nat.gcd a b := Nat.gcd_pos_of_pos_right a h0
  have g1 : Nat.gcd a b ≤ b := Nat.gcd_le_right a h0
  unfold m_X1_become m_X1_commonDivisor
  rw [nm_eq, show m_X1_commonDivisor_L9 σ (fun _ => none) 1000 (0 : Int32) (lN b) (lN a) = some (lN (Nat.gcd a b)) from x_gcd _ 27 a b 0 1000 ha (by omega) hb (by omega) (by omega), bd1_s, if_neg (fun z => by
    rw [lg_cmp_le, show (0 : Int64) = lN 0 from rfl, pk_lLE (by omega) (by decide)] at z
    omega), if_neg (l_z (by omega) g0), nm_eq, if_neg (l_z (by omega) g0), nm_eq, pk_lDiv ha g0 (by omega), pk_lDiv (by omega) g0 (by omega)]
end GCD
