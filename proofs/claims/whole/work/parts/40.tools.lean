/-! ===== PURE TOOLS ===== -/
theorem nm_eq {α β : Type} (a : α) (f : α → β) : nm a f = f a := rfl
theorem bd1_s {α β : Type} (a : α) (f : α → Option β) : bd1 (some a) f = f a := rfl
theorem bd2_s {α₁ α₂ β : Type} (a : α₁) (b : α₂) (f : α₁ → α₂ → Option β) : bd2 (some (a, b)) f = f a b := rfl
theorem bd3_s {α₁ α₂ α₃ β : Type} (a : α₁) (b : α₂) (c : α₃) (f : α₁ → α₂ → α₃ → Option β) : bd3 (some (a, b, c)) f = f a b c := rfl
theorem bd1_if {α β : Type} (c : Prop) [Decidable c] (a b : Option α) (f : α → Option β) : bd1 (if c then a else b) f = if c then bd1 a f else bd1 b f := by split <;> rfl
theorem bd2_if {α₁ α₂ β : Type} (c : Prop) [Decidable c] (a b : Option (α₁ × α₂)) (f : α₁ → α₂ → Option β) : bd2 (if c then a else b) f = if c then bd2 a f else bd2 b f := by split <;> rfl
/-- a truth value as the machine has it -/
def b01 (p : Prop) [Decidable p] : Int32 := if p then 1 else 0
theorem b01_z {α : Type} (p : Prop) [Decidable p] (a b : α) : (if b01 p = 0 then a else b) = if p then b else a := by
  unfold b01
  by_cases h : p
  · rw [if_pos h, if_pos h, if_neg (by decide)]
  · rw [if_neg h, if_neg h, if_pos rfl]
theorem b01_g {α : Type} (p : Prop) [Decidable p] (a b : α) : (if ¬ (b01 p = 0 ∨ b01 p = 1) then a else b) = b := by
  rw [if_neg]
  unfold b01
  by_cases h : p
  · rw [if_pos h]; decide
  · rw [if_neg h]; decide
theorem b01_cong {p q : Prop} [Decidable p] [Decidable q] (h : p ↔ q) : b01 p = b01 q := by
  unfold b01
  by_cases hp : p
  · rw [if_pos hp, if_pos (h.mp hp)]
  · rw [if_neg hp, if_neg (fun z => hp (h.mpr z))]
abbrev rng (x : Int32) (lo hi : Int) : Prop := lo ≤ x.toInt ∧ x.toInt ≤ hi
theorem lt_I (a b : Int32) : a < b ↔ a.toInt < b.toInt := Int32.lt_iff_toInt_lt
theorem le_I (a b : Int32) : a ≤ b ↔ a.toInt ≤ b.toInt := Int32.le_iff_toInt_le
theorem if01 (p q : Prop) [Decidable p] [Decidable q] : (if p then some (0 : Int32) else if q then some 0 else some 1) = some (b01 (¬ p ∧ ¬ q)) := by
  unfold b01
  by_cases hp : p <;> by_cases hq : q <;> simp [hp, hq]
theorem e_isKind (a : Int32) (σ : Sg) : m_X7_isKind a σ = some (b01 (rng a 0 5)) := by
  unfold m_X7_isKind
  rw [if01]
  refine congrArg some (b01_cong ?_)
  rw [lt_I, le_I]
  have : (6 : Int32).toInt = 6 := rfl
  have : (0 : Int32).toInt = 0 := rfl
  omega
theorem e_isRoom (a : Int32) (σ : Sg) : m_X7_isRoom a σ = some (b01 (rng a 0 3)) := by
  unfold m_X7_isRoom
  rw [if01]
  refine congrArg some (b01_cong ?_)
  rw [lt_I, le_I]
  have : (4 : Int32).toInt = 4 := rfl
  have : (0 : Int32).toInt = 0 := rfl
  omega
theorem e_isSpeak (a : Int32) (σ : Sg) : m_X7_isSpeakingMinute a σ = some (b01 (rng a 0 29)) := by
  unfold m_X7_isSpeakingMinute
  rw [if01]
  refine congrArg some (b01_cong ?_)
  rw [lt_I, le_I]
  have : (30 : Int32).toInt = 30 := rfl
  have : (0 : Int32).toInt = 0 := rfl
  omega
theorem e_within (a b c : Int32) (σ : Sg) : m_X7_within a b c σ = some (b01 (rng a b.toInt c.toInt)) := by
  unfold m_X7_within
  rw [if01]
  refine congrArg some (b01_cong ?_)
  rw [lt_I, lt_I]
  omega
theorem e_in (a b c : Int64) (σ : Sg) : m_X8_in a b c σ = some (b01 (b.toInt ≤ a.toInt ∧ a.toInt ≤ c.toInt)) := by
  unfold m_X8_in
  rw [if01]
  refine congrArg some (b01_cong ?_)
  rw [lg_cmp_lt, lg_cmp_gt, Int64.lt_iff_toInt_lt, Int64.lt_iff_toInt_lt]
  omega
theorem e_in32 (a : Int32) (b c : Int64) (σ : Sg) : m_X8_in a.toInt64 b c σ = some (b01 (rng a b.toInt c.toInt)) := by
  rw [e_in, Int32.toInt_toInt64]
theorem e_mRoom (a : Int32) (σ : Sg) : m_X8_isRoom a σ = some (b01 (rng a 0 3)) := by
  unfold m_X8_isRoom
  rw [e_in32, bd1_s, b01_g]
  rfl
theorem e_isIn (a b : Int32) (σ : Sg) : m_X7_isIn a b σ = some (b01 ((a >>> (b &&& 31)) &&& 1 = 1)) := by
  unfold m_X7_isIn b01
  by_cases h : (a >>> (b &&& 31)) &&& 1 = 1
  · rw [if_pos h, if_pos h]
  · rw [if_neg h, if_neg h]
theorem ew_0_2 (a : Int32) (σ : Sg) : m_X7_within a 0 2 σ = some (b01 (rng a 0 2)) := e_within a 0 2 σ
theorem ew_0_3 (a : Int32) (σ : Sg) : m_X7_within a 0 3 σ = some (b01 (rng a 0 3)) := e_within a 0 3 σ
theorem ew_0_1 (a : Int32) (σ : Sg) : m_X7_within a 0 1 σ = some (b01 (rng a 0 1)) := e_within a 0 1 σ
theorem ew_1_9 (a : Int32) (σ : Sg) : m_X7_within a 1 9 σ = some (b01 (rng a 1 9)) := e_within a 1 9 σ
theorem ew_0_127 (a : Int32) (σ : Sg) : m_X7_within a 0 127 σ = some (b01 (rng a 0 127)) := e_within a 0 127 σ
theorem ew_1_99 (a : Int32) (σ : Sg) : m_X7_within a 1 99 σ = some (b01 (rng a 1 99)) := e_within a 1 99 σ
theorem ew_1_30 (a : Int32) (σ : Sg) : m_X7_within a 1 30 σ = some (b01 (rng a 1 30)) := e_within a 1 30 σ
theorem ew_0_99 (a : Int32) (σ : Sg) : m_X7_within a 0 99 σ = some (b01 (rng a 0 99)) := e_within a 0 99 σ
theorem ew_0_20 (a : Int32) (σ : Sg) : m_X7_within a 0 20 σ = some (b01 (rng a 0 20)) := e_within a 0 20 σ
theorem ew_m1_3 (a : Int32) (σ : Sg) : m_X7_within a (-1) 3 σ = some (b01 (rng a (-1) 3)) := e_within a (-1) 3 σ
theorem ew_0_10 (a : Int32) (σ : Sg) : m_X7_within a 0 10 σ = some (b01 (rng a 0 10)) := e_within a 0 10 σ
theorem ew_0_999999 (a : Int32) (σ : Sg) : m_X7_within a 0 999999 σ = some (b01 (rng a 0 999999)) := e_within a 0 999999 σ
theorem ew_0_60 (a : Int32) (σ : Sg) : m_X7_within a 0 60 σ = some (b01 (rng a 0 60)) := e_within a 0 60 σ
theorem ew_0_9 (a : Int32) (σ : Sg) : m_X7_within a 0 9 σ = some (b01 (rng a 0 9)) := e_within a 0 9 σ
theorem ew_0_5 (a : Int32) (σ : Sg) : m_X7_within a 0 5 σ = some (b01 (rng a 0 5)) := e_within a 0 5 σ
theorem ew_0_29 (a : Int32) (σ : Sg) : m_X7_within a 0 29 σ = some (b01 (rng a 0 29)) := e_within a 0 29 σ
theorem ei_0_2 (a : Int32) (σ : Sg) : m_X8_in a.toInt64 0 2 σ = some (b01 (rng a 0 2)) := e_in32 a 0 2 σ
theorem ei_0_3 (a : Int32) (σ : Sg) : m_X8_in a.toInt64 0 3 σ = some (b01 (rng a 0 3)) := e_in32 a 0 3 σ
theorem ei_0_1 (a : Int32) (σ : Sg) : m_X8_in a.toInt64 0 1 σ = some (b01 (rng a 0 1)) := e_in32 a 0 1 σ
theorem ei_1_9 (a : Int32) (σ : Sg) : m_X8_in a.toInt64 1 9 σ = some (b01 (rng a 1 9)) := e_in32 a 1 9 σ
theorem ei_0_127 (a : Int32) (σ : Sg) : m_X8_in a.toInt64 0 127 σ = some (b01 (rng a 0 127)) := e_in32 a 0 127 σ
theorem ei_1_99 (a : Int32) (σ : Sg) : m_X8_in a.toInt64 1 99 σ = some (b01 (rng a 1 99)) := e_in32 a 1 99 σ
theorem ei_1_30 (a : Int32) (σ : Sg) : m_X8_in a.toInt64 1 30 σ = some (b01 (rng a 1 30)) := e_in32 a 1 30 σ
theorem ei_0_99 (a : Int32) (σ : Sg) : m_X8_in a.toInt64 0 99 σ = some (b01 (rng a 0 99)) := e_in32 a 0 99 σ
theorem ei_0_20 (a : Int32) (σ : Sg) : m_X8_in a.toInt64 0 20 σ = some (b01 (rng a 0 20)) := e_in32 a 0 20 σ
theorem ei_m1_3 (a : Int32) (σ : Sg) : m_X8_in a.toInt64 (-1) 3 σ = some (b01 (rng a (-1) 3)) := e_in32 a (-1) 3 σ
theorem ei_0_10 (a : Int32) (σ : Sg) : m_X8_in a.toInt64 0 10 σ = some (b01 (rng a 0 10)) := e_in32 a 0 10 σ
theorem ei_0_999999 (a : Int32) (σ : Sg) : m_X8_in a.toInt64 0 999999 σ = some (b01 (rng a 0 999999)) := e_in32 a 0 999999 σ
theorem ei_0_60 (a : Int32) (σ : Sg) : m_X8_in a.toInt64 0 60 σ = some (b01 (rng a 0 60)) := e_in32 a 0 60 σ
theorem ei_0_9 (a : Int32) (σ : Sg) : m_X8_in a.toInt64 0 9 σ = some (b01 (rng a 0 9)) := e_in32 a 0 9 σ
theorem ei_0_5 (a : Int32) (σ : Sg) : m_X8_in a.toInt64 0 5 σ = some (b01 (rng a 0 5)) := e_in32 a 0 5 σ
theorem ei_0_29 (a : Int32) (σ : Sg) : m_X8_in a.toInt64 0 29 σ = some (b01 (rng a 0 29)) := e_in32 a 0 29 σ
theorem ei_97_122 (a : Int32) (σ : Sg) : m_X8_in a.toInt64 97 122 σ = some (b01 (rng a 97 122)) := e_in32 a 97 122 σ
theorem ei_48_57 (a : Int32) (σ : Sg) : m_X8_in a.toInt64 48 57 σ = some (b01 (rng a 48 57)) := e_in32 a 48 57 σ
-- states
theorem si_1 (σ : Sg) (k j : Nat) (x : Int32) (a b : Nat) : (si σ k j x).1 a b = if a = k ∧ b = j then x else σ.1 a b := rfl
theorem si_2 (σ : Sg) (k j : Nat) (x : Int32) : (si σ k j x).2 = σ.2 := rfl
theorem si_row (σ : Sg) (k j : Nat) (x : Int32) {a : Nat} (h : a ≠ k) : (si σ k j x).1 a = σ.1 a := by
  funext b
  rw [si_1, if_neg (fun q => h q.1)]
theorem si_off' (σ : Sg) (k j : Nat) (x : Int32) {b : Nat} (a : Nat) (h : b ≠ j) : (si σ k j x).1 a b = σ.1 a b := by
  rw [si_1, if_neg (fun q => h q.2)]
theorem si_at (σ : Sg) (k j : Nat) (x : Int32) : (si σ k j x).1 k j = x := by
  rw [si_1, if_pos ⟨rfl, rfl⟩]
-- numbers
theorem ix_ok {j n : Nat} (h : j < n) (hn : n < 2 ^ 31) : ¬ (nI j < 0 ∨ n ≤ (nI j).toNatClampNeg) := nI_in h hn
theorem ix_if {α : Type} {j n : Nat} (h : j < n) (hn : n < 2 ^ 31) (a b : α) : (if (nI j < 0 ∨ n ≤ (nI j).toNatClampNeg) then a else b) = b := if_neg (ix_ok h hn)
theorem rng_nI {x : Int32} {n : Nat} (hn : n < 2 ^ 31) (h : rng x 0 n) : ∃ j : Nat, j ≤ n ∧ x = nI j := by
  obtain ⟨h1, h2⟩ := h
  refine ⟨x.toInt.toNat, by omega, ?_⟩
  apply Int32.toInt_inj.mp
  rw [nI_toInt (by omega)]
  omega
theorem nI_rng {j : Nat} {lo hi : Int} (hj : j < 2 ^ 31) : rng (nI j) lo hi ↔ lo ≤ (j : Int) ∧ (j : Int) ≤ hi := by
  unfold rng
  rw [nI_toInt hj]
