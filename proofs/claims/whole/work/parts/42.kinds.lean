/-! ===== PURE: how loud, what is heard ===== -/
def PL (l m : Int32) : Int32 := if l - m / 4 ≤ 0 then 0 else l - m / 4
def SH (l m : Int32) : Int32 := if 2 < m then PL l m else PL l m + 4
def WH (l m : Int32) : Int32 := (PL l m + 1) / 2
def LB (k l m : Int32) : Int32 :=
  if k = 1 then WH l m else if k = 2 then SH l m else if k = 3 then (if m < 20 then WH l m else WH l m + 3) else if k = 4 then (if m - m / 5 * 5 = 0 then PL l m else 0) else if k = 5 then (if m - m / 2 * 2 = 0 then SH l m else 0) else PL l m
theorem e_loudness (k l m : Int32) (σ : Sg) : m_X3_loudness k l m σ = some (LB k l m) := by
  have e1 : (if l - m / 4 ≤ 0 then some (0 : Int32) else some (l - m / 4)) = some (PL l m) := by
    unfold PL; split <;> rfl
  have e2 : (if 2 < m then some (PL l m) else some (PL l m + 4)) = some (SH l m) := by
    unfold SH; split <;> rfl
  unfold m_X3_loudness
  rw [nm_eq, e1, bd1_s, nm_eq, e2, bd1_s]
  unfold LB
  by_cases k1 : k = 1
  · rw [if_pos k1, if_pos k1]; rfl
  rw [if_neg k1, if_neg k1]
  by_cases k2 : k = 2
  · rw [if_pos k2, if_pos k2]
  rw [if_neg k2, if_neg k2]
  by_cases k3 : k = 3
  · rw [if_pos k3, if_pos k3]
    split <;> rfl
  rw [if_neg k3, if_neg k3]
  by_cases k4 : k = 4
  · rw [if_pos k4, if_pos k4]
    split <;> rfl
  rw [if_neg k4, if_neg k4]
  by_cases k5 : k = 5
  · rw [if_pos k5, if_pos k5]
    split <;> rfl
  rw [if_neg k5, if_neg k5]
theorem kind6 {j : Nat} (h : j < 6) : nI j = 0 ∨ nI j = 1 ∨ nI j = 2 ∨ nI j = 3 ∨ nI j = 4 ∨ nI j = 5 := by
  have : ∀ j, j < 6 → nI j = 0 ∨ nI j = 1 ∨ nI j = 2 ∨ nI j = 3 ∨ nI j = 4 ∨ nI j = 5 := by decide +kernel
  exact this j h
theorem e_loudBy {j : Nat} (hj : j < 6) (l m : Int32) (σ : Sg) : m_X8_loudBy (nI j) l m σ = some (LB (nI j) l m) := by
  have e1 : (if 0 ≤ l - m / 4 then some (l - m / 4) else some (0 : Int32)) = some (PL l m) := by
    unfold PL
    by_cases h1 : 0 ≤ l - m / 4
    · rw [if_pos h1]
      by_cases h2 : l - m / 4 ≤ 0
      · rw [if_pos h2]
        have : l - m / 4 = 0 := by
          apply Int32.toInt_inj.mp
          rw [le_I] at h1 h2
          omega
        rw [this]
      · rw [if_neg h2]
    · rw [if_neg h1, if_pos]
      rw [le_I] at h1 ⊢
      omega
  unfold m_X8_loudBy
  rw [e1, bd1_s, nm_eq]
  have e2 : ∀ f : Int32 → Option Int32, bd1 (if 2 < m then some (0 : Int32) else some 4) (fun o5 => nm (PL l m + o5) f) = f (SH l m) := by
    intro f
    unfold SH
    split
    · show f (PL l m + 0) = _
      rw [Int32.add_zero]
    · rfl
  rw [e2]
  unfold LB
  rcases kind6 hj with h | h | h | h | h | h <;> rw [h]
  · rfl
  · rfl
  · rfl
  · show bd1 (if m < 20 then some (0 : Int32) else some 3) (fun o8 => some (WH l m + o8)) = some (if m < 20 then WH l m else WH l m + 3)
    split
    · show some (WH l m + 0) = _
      rw [Int32.add_zero]
    · rfl
  · show (if m - m / 5 * 5 = 0 then some (PL l m) else some 0) = some (if m - m / 5 * 5 = 0 then PL l m else 0)
    split <;> rfl
  · show (if m - m / 2 * 2 = 0 then some (SH l m) else some 0) = some (if m - m / 2 * 2 = 0 then SH l m else 0)
    split <;> rfl
def YG (x y : Int32) : Int32 := if x < 1 then x - y / 4 + 0 else x - y / 4 + 2
def HV0 (k x y : Int32) : Int32 :=
  if k = 1 then x - y / 4 - 3 else if k = 2 then YG x y else if k = 3 then (if y ≤ 12 then x - y / 4 - 3 else x - y / 4 - 3 + 2) else if k = 4 then (if YG x y ≤ 4 then YG x y else 4) else if k = 5 then YG x (y / 2) else x - y / 4
def HB (k x y : Int32) : Prop := 1 ≤ HV0 k x y
theorem e_heard (k x y : Int32) (σ : Sg) : m_X3_heard k x y σ = some (HV0 k x y) := by
  have e2 : ∀ f : Int32 → Option Int32, bd1 (if x < 1 then some (0 : Int32) else some 2) f = f (if x < 1 then 0 else 2) := by
    intro f
    split <;> rfl
  have e3 : ∀ z, x - z / 4 + (if x < 1 then (0 : Int32) else 2) = YG x z := by
    intro z
    unfold YG
    split <;> rfl
  unfold m_X3_heard
  rw [nm_eq, nm_eq, e2, nm_eq, e3, e3]
  unfold HV0
  by_cases k1 : k = 1
  · rw [if_pos k1, if_pos k1]
  rw [if_neg k1, if_neg k1]
  by_cases k2 : k = 2
  · rw [if_pos k2, if_pos k2]
  rw [if_neg k2, if_neg k2]
  by_cases k3 : k = 3
  · rw [if_pos k3, if_pos k3]
    split <;> rfl
  rw [if_neg k3, if_neg k3]
  by_cases k4 : k = 4
  · rw [if_pos k4, if_pos k4]
    split <;> rfl
  rw [if_neg k4, if_neg k4]
  by_cases k5 : k = 5
  · rw [if_pos k5, if_pos k5]
  rw [if_neg k5, if_neg k5]
def hb (k x y : Int32) : Int32 := if HV0 k x y < 1 then 0 else 1
theorem e_hears (k x y : Int32) (σ : Sg) : m_X3_hears k x y σ = some (hb k x y) := by
  unfold m_X3_hears hb
  rw [e_heard, bd1_s]
  split <;> rfl
theorem e_young (x y : Int32) (σ : Sg) : m_X8_youngBy x y σ = some (YG x y) := by
  unfold m_X8_youngBy YG
  split <;> rfl
theorem e_hearsBy {j : Nat} (hj : j < 6) (x y : Int32) (σ : Sg) : m_X8_hearsBy (nI j) x y σ = some (hb (nI j) x y) := by
  have e0 : ∀ z : Int32, (if z < 1 then some (0 : Int32) else some 1) = some (if z < 1 then 0 else 1) := by
    intro z
    split <;> rfl
  unfold m_X8_hearsBy hb HV0
  rw [nm_eq, e_young, bd1_s]
  rcases kind6 hj with h | h | h | h | h | h <;> rw [h]
  · exact e0 _
  · exact e0 _
  · exact e0 _
  · show bd1 (if y ≤ 12 then some (0 : Int32) else some 2) (fun o5 => if x - y / 4 - 3 + o5 < 1 then some 0 else some 1) = some (if (if y ≤ 12 then x - y / 4 - 3 else x - y / 4 - 3 + 2) < 1 then 0 else 1)
    by_cases h2 : y ≤ 12
    · rw [if_pos h2, if_pos h2, bd1_s, Int32.add_zero]
      exact e0 _
    · rw [if_neg h2, if_neg h2, bd1_s]
      exact e0 _
  · show bd1 (if YG x y ≤ 4 then some (YG x y) else some 4) (fun o7 => if o7 < 1 then some 0 else some 1) = some (if (if YG x y ≤ 4 then YG x y else 4) < 1 then 0 else 1)
    by_cases h2 : YG x y ≤ 4
    · rw [if_pos h2, if_pos h2, bd1_s]
      exact e0 _
    · rw [if_neg h2, if_neg h2, bd1_s]
      exact e0 _
  · show bd1 (m_X8_youngBy x (y / 2) σ) (fun r8 => if r8 < 1 then some 0 else some 1) = _
    rw [e_young, bd1_s]
    exact e0 _
-- sets as bits
abbrev bit (set : Int32) (s : Nat) : Prop := (set >>> (nI s &&& 31)) &&& 1 = 1
abbrev one (s : Nat) : Int32 := (1 : Int32) <<< (nI s &&& 31)
theorem bit_nI {a s : Nat} (ha : a < 256) (hs : s < 8) : bit (nI a) s ↔ a.testBit s = true := by
  have h : ∀ a, a < 256 → ∀ s, s < 8 → (bit (nI a) s ↔ a.testBit s = true) := by decide +kernel
  exact h a ha s hs
theorem one_nI {s : Nat} (hs : s < 8) : one s = nI (2 ^ s) := by
  have h : ∀ s, s < 8 → one s = nI (2 ^ s) := by decide +kernel
  exact h s hs
theorem or_nI (a b : Nat) : nI a ||| nI b = nI (a ||| b) := by
  apply Int32.toBitVec_inj.mp
  show BitVec.ofNat 32 a ||| BitVec.ofNat 32 b = BitVec.ofNat 32 (a ||| b)
  exact (BitVec.ofNat_or).symm
theorem and_nI (a b : Nat) : nI a &&& nI b = nI (a &&& b) := by
  apply Int32.toBitVec_inj.mp
  show BitVec.ofNat 32 a &&& BitVec.ofNat 32 b = BitVec.ofNat 32 (a &&& b)
  exact (BitVec.ofNat_and).symm
theorem or_lt {a b : Nat} (ha : a < 256) (hb : b < 256) : a ||| b < 256 := Nat.or_lt_two_pow (n := 8) ha hb
theorem pow_lt8 {s : Nat} (hs : s < 8) : 2 ^ s < 256 := Nat.pow_lt_pow_right (by decide) (show s < 8 from hs)
