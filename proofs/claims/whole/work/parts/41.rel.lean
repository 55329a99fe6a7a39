/-! ===== PURE: what a state of both sides is ===== -/
abbrev Vw : Type := Nat → Int32
abbrev cnt (x : Int32) : Nat := x.toNatClampNeg
abbrev nS (V : Vw) : Nat := cnt (V 0)
abbrev nL (V : Vw) : Nat := cnt (V 1)
abbrev nT (V : Vw) : Nat := cnt (V 2)
abbrev nN (V : Vw) : Nat := cnt (V 3)
abbrev nM (V : Vw) : Nat := cnt (V 4)
abbrev nP (V : Vw) : Nat := cnt (V 5)
def CN (x : Int32) (m : Nat) : Prop := x = nI (cnt x) ∧ cnt x ≤ m
theorem CN.of {j m : Nat} (h : j ≤ m) (hm : m < 2 ^ 31) : CN (nI j) m := by
  unfold CN cnt
  rw [nI_clamp (by omega)]
  exact ⟨rfl, h⟩
theorem cnt_nI {j : Nat} (h : j < 2 ^ 31) : cnt (nI j) = j := nI_clamp h
/-- the minute, since when each room speaks, where the listeners are, what they know -/
def NowOK (f : Nat → Int32) (l B : Nat) : Prop :=
  (∃ mi, mi ≤ B ∧ f 0 = nI mi ∧ ∀ r, r < 4 → f (1 + r) = -1 ∨ ∃ j, j ≤ mi ∧ f (1 + r) = nI j) ∧
  (∀ i, i < 3 → ∃ j, j < 4 ∧ f (5 + i) = nI j) ∧ (∀ i, i < 3 → ∃ w, w < 256 ∧ f (8 + i) = nI w) ∧ ∀ i, l ≤ i → i < 3 → f (8 + i) = 0
def VOK (V : Vw) (B : Nat) : Prop :=
  CN (V 0) 8 ∧ CN (V 1) 3 ∧ CN (V 2) 5 ∧ CN (V 3) 6 ∧ CN (V 4) 6 ∧ CN (V 5) 8 ∧
  (∀ s, s < nS V → ∃ k, k < 6 ∧ V (6 + s) = nI k) ∧ (∀ i, i < nL V → ∃ k, k < 6 ∧ V (30 + i) = nI k) ∧
  NowOK (fun j => V (33 + j)) (nL V) B ∧ (∀ k, k < nT V → 0 ≤ V (44 + (k * 3 + 1))) ∧ ∀ k, k < nP V → NowOK (fun j => V (107 + (k * 11 + j))) (nL V) 9999
/-- a row's table: how many rows, how wide -/
def RS (σ : Sg) (k lim w : Nat) : Prop := σ.1 k 0 = nI lim ∧ σ.1 k 1 = nI w ∧ len (k + 1) = lim * w ∧ lim * w ≤ 200 ∧ lim ≤ 200 ∧ w ≤ 200
def HS (σ : Sg) (h : Nat) : Prop := RS σ (h + 1) 8 3 ∧ RS σ (h + 3) 3 3 ∧ RS σ (h + 5) 4 1 ∧ RS σ (h + 7) 5 3 ∧ RS σ (h + 9) 6 4 ∧ RS σ (h + 11) 6 4 ∧ RS σ (h + 13) 8 11
def PastRow (σ : Sg) (p : Nat) (V : Vw) (k : Nat) : Prop :=
  σ.1 p (k * 11 + 0) = V (107 + (k * 11 + 0)) ∧ (∀ r, r < 4 → σ.1 p (k * 11 + (1 + r)) = V (107 + (k * 11 + (1 + r))) + 1) ∧ ∀ i, i < nL V → σ.1 p (k * 11 + (5 + i)) = V (107 + (k * 11 + (5 + i))) ∧ σ.1 p (k * 11 + (8 + i)) = V (107 + (k * 11 + (8 + i)))
/-- the house at h holds the view -/
def HV (σ : Sg) (h : Nat) (V : Vw) : Prop :=
  (σ.1 (h + 1) 3 = V 0 ∧ σ.1 (h + 3) 3 = V 1 ∧ σ.1 (h + 7) 3 = V 2 ∧ σ.1 (h + 9) 3 = V 3 ∧ σ.1 (h + 11) 3 = V 4 ∧ σ.1 (h + 13) 3 = V 5 ∧ σ.1 h 0 = V 33) ∧
  (∀ s, s < nS V → σ.1 (h + 2) (s * 3 + 0) = V (6 + s) ∧ σ.1 (h + 2) (s * 3 + 1) = V (14 + s) ∧ σ.1 (h + 2) (s * 3 + 2) = V (22 + s)) ∧
  (∀ i, i < nL V → σ.1 (h + 4) (i * 3 + 0) = V (30 + i) ∧ σ.1 (h + 4) (i * 3 + 1) = V (38 + i) ∧ σ.1 (h + 4) (i * 3 + 2) = V (41 + i)) ∧
  (∀ r, r < 4 → σ.1 (h + 6) (r * 1 + 0) = V (34 + r) + 1) ∧
  (∀ j, j < nT V * 3 → σ.1 (h + 8) j = V (44 + j)) ∧ (∀ j, j < nN V * 4 → σ.1 (h + 10) j = V (59 + j)) ∧ (∀ j, j < nM V * 4 → σ.1 (h + 12) j = V (83 + j)) ∧
  ∀ k, k < nP V → PastRow σ (h + 14) V k
/-- the model's own cells hold the view -/
def Live (σ : Sg) (V : Vw) : Prop :=
  (σ.1 68 1 = V 0 ∧ σ.1 68 5 = V 1 ∧ σ.1 68 16 = V 2 ∧ σ.1 68 18 = V 3 ∧ σ.1 68 20 = V 4 ∧ σ.1 68 14 = V 5) ∧
  (∀ j, j < 8 → σ.1 70 j = V (6 + j)) ∧ (∀ j, j < 8 → σ.1 71 j = V (14 + j)) ∧ (∀ j, j < 8 → σ.1 72 j = V (22 + j)) ∧ (∀ j, j < 3 → σ.1 73 j = V (30 + j)) ∧
  (∀ j, j < 11 → σ.1 74 j = V (33 + j)) ∧ (∀ j, j < 15 → σ.1 78 j = V (44 + j)) ∧ (∀ j, j < 24 → σ.1 79 j = V (59 + j)) ∧ (∀ j, j < 24 → σ.1 80 j = V (83 + j)) ∧ ∀ j, j < 88 → σ.1 77 j = V (107 + j)
/-- what else both sides hold: images, the text, the fraction, what was refused -/
def Img (σ : Sg) (i : Nat) : Prop :=
  (σ.1 0 (4 + i) = 0 ∧ σ.1 84 i = 0) ∨ (σ.1 0 (4 + i) = 1 ∧ σ.1 84 i = 1 ∧ ∃ V, VOK V 9999 ∧ HV σ (31 + 15 * i) V ∧ ∀ j, j < 195 → σ.1 83 (196 * i + j) = V j)
def Txt (σ : Sg) : Prop := RS σ 62 150 1 ∧ ∃ n, n ≤ 150 ∧ σ.1 62 3 = nI n ∧ σ.1 68 9 = nI n ∧ ∀ j, j < n → σ.1 63 j = σ.1 75 j ∧ ∃ b, b < 128 ∧ σ.1 75 j = nI b
def Rest (σ : Sg) : Prop :=
  (HS σ 16 ∧ HS σ 31 ∧ HS σ 46 ∧ RS σ 65 2 4) ∧ Img σ 0 ∧ Img σ 1 ∧ Txt σ ∧ (σ.1 0 9 = σ.1 69 0 ∧ σ.1 0 10 = σ.1 69 1 ∧ σ.1 0 11 = σ.1 69 2) ∧ σ.2 67 0 = σ.2 68 22 ∧ σ.2 67 1 = σ.2 68 23
def Core (σ : Sg) (V : Vw) : Prop := VOK V 9999 ∧ HS σ 1 ∧ HV σ 1 V ∧ Live σ V
def Rel (σ : Sg) : Prop := Rest σ ∧ ∃ V, Core σ V
-- rows
theorem row_lt {i c lim w : Nat} (hi : i < lim) (hc : c < w) : i * w + c < lim * w := by
  have : (i + 1) * w ≤ lim * w := Nat.mul_le_mul_right w hi
  rw [Nat.add_mul] at this
  omega
theorem g_ok {σ : Sg} {k lim w i c : Nat} (hR : RS σ k lim w) (hi : i < lim) (hc : c < w) : m_X6_get k (nI i) (nI c) σ = some (σ.1 (k + 1) (i * w + c)) := by
  obtain ⟨h0, h1, h2, h3, h4, h5⟩ := hR
  have hlt := row_lt hi hc
  unfold m_X6_get
  rw [h1, pk_mul, nI_add, nm_eq, if_neg (nI_pos (by omega)), if_neg (nI_ge hc (by omega)), if_neg (nI_pos (by omega)), h2, if_neg (nI_ge hlt (by omega)), ix_if hlt (by omega), nI_clamp (by omega)]
theorem s_ok {σ : Sg} {k lim w i c : Nat} {x : Int32} (hR : RS σ k lim w) (hi : i < lim) (hc : c < w) : m_X6_set k (nI i) (nI c) x σ = some (si σ (k + 1) (i * w + c) x) := by
  obtain ⟨h0, h1, h2, h3, h4, h5⟩ := hR
  have hlt := row_lt hi hc
  unfold m_X6_set
  rw [h1, pk_mul, nI_add, nm_eq, if_neg (nI_pos (by omega)), if_neg (nI_ge hc (by omega)), if_neg (nI_pos (by omega)), h2, if_neg (nI_ge hlt (by omega)), ix_if hlt (by omega), nI_clamp (by omega), nm_eq]
theorem s_out {σ : Sg} {k lim w c : Nat} {i x : Int32} (hR : RS σ k lim w) (hc : w ≤ c) (hc2 : c < 200) : m_X6_set k i (nI c) x σ = some σ := by
  obtain ⟨h0, h1, h2, h3, h4, h5⟩ := hR
  unfold m_X6_set
  rw [h1, nm_eq, if_neg (nI_pos (by omega)), if_pos (nI_le hc (by omega))]
theorem RS.keep {σ σ' : Sg} {k lim w : Nat} (hR : RS σ k lim w) (h0 : σ'.1 k 0 = σ.1 k 0) (h1 : σ'.1 k 1 = σ.1 k 1) : RS σ' k lim w := by
  obtain ⟨g0, g1, g2⟩ := hR
  exact ⟨h0.trans g0, h1.trans g1, g2⟩
theorem full_no {σ : Sg} {k lim w n : Nat} (hR : RS σ k lim w) (hs : σ.1 k 3 = nI n) (hn : n < lim) : m_X6_isFull k σ = some 0 := by
  unfold m_X6_isFull
  rw [hs, hR.1, if_pos (nI_lt hn (by have := hR.2.2.2.2.1; omega))]
theorem full_yes {σ : Sg} {k lim w n : Nat} (hR : RS σ k lim w) (hs : σ.1 k 3 = nI n) (hn : n = lim) : m_X6_isFull k σ = some 1 := by
  unfold m_X6_isFull
  subst hn
  rw [hs, hR.1, if_neg (nI_nlt (Nat.le_refl _) (by have := hR.2.2.2.2.1; omega))]
theorem e_empty (k : Nat) (σ : Sg) : m_X6_empty k σ = some (σ.1 k 3, si σ k 3 0) := rfl
/-- add, three wide -/
theorem add3 {σ : Sg} {k lim n : Nat} {a b c d : Int32} (hR : RS σ k lim 3) (hs : σ.1 k 3 = nI n) (hn : n < lim) : m_X6_add k a b c d σ = some (nI n, si (si (si (si σ k 3 (nI (n + 1))) (k + 1) (n * 3) a) (k + 1) (n * 3 + 1) b) (k + 1) (n * 3 + 2) c) := by
  have R1 : RS (si σ k 3 (nI (n + 1))) k lim 3 := hR.keep (si_off' _ _ _ _ _ (by decide)) (si_off' _ _ _ _ _ (by decide))
  have hk : k ≠ k + 1 := by omega
  have R2 : ∀ (σ' : Sg) j x, RS σ' k lim 3 → RS (si σ' (k + 1) j x) k lim 3 := fun σ' j x h => h.keep (by rw [si_row _ _ _ _ hk]) (by rw [si_row _ _ _ _ hk])
  unfold m_X6_add
  rw [full_no hR hs hn, bd1_s, if_pos rfl, nm_eq, hs, nm_eq, nI_1, show (0 : Int32) = nI 0 from rfl, s_ok R1 hn (by omega), bd1_s, show (1 : Int32) = nI 1 from rfl, s_ok (R2 _ _ _ R1) hn (by omega), bd1_s, show (2 : Int32) = nI 2 from rfl, s_ok (R2 _ _ _ (R2 _ _ _ R1)) hn (by omega), bd1_s, show (3 : Int32) = nI 3 from rfl, s_out (R2 _ _ _ (R2 _ _ _ (R2 _ _ _ R1))) (by omega) (by omega), bd1_s]
  rfl
/-- add, one wide -/
theorem add1 {σ : Sg} {k lim n : Nat} {a b c d : Int32} (hR : RS σ k lim 1) (hs : σ.1 k 3 = nI n) (hn : n < lim) : m_X6_add k a b c d σ = some (nI n, si (si σ k 3 (nI (n + 1))) (k + 1) n a) := by
  have R1 : RS (si σ k 3 (nI (n + 1))) k lim 1 := hR.keep (si_off' _ _ _ _ _ (by decide)) (si_off' _ _ _ _ _ (by decide))
  have hk : k ≠ k + 1 := by omega
  have R2 : ∀ (σ' : Sg) j x, RS σ' k lim 1 → RS (si σ' (k + 1) j x) k lim 1 := fun σ' j x h => h.keep (by rw [si_row _ _ _ _ hk]) (by rw [si_row _ _ _ _ hk])
  unfold m_X6_add
  rw [full_no hR hs hn, bd1_s, if_pos rfl, nm_eq, hs, nm_eq, nI_1, show (0 : Int32) = nI 0 from rfl, s_ok R1 hn (by omega), bd1_s, show (1 : Int32) = nI 1 from rfl, s_out (R2 _ _ _ R1) (by omega) (by omega), bd1_s, show (2 : Int32) = nI 2 from rfl, s_out (R2 _ _ _ R1) (by omega) (by omega), bd1_s, show (3 : Int32) = nI 3 from rfl, s_out (R2 _ _ _ R1) (by omega) (by omega), bd1_s, Nat.mul_one]
  rfl
/-- add, four wide or wider -/
theorem add4 {σ : Sg} {k lim w n : Nat} {a b c d : Int32} (hR : RS σ k lim w) (hw : 4 ≤ w) (hs : σ.1 k 3 = nI n) (hn : n < lim) : m_X6_add k a b c d σ = some (nI n, si (si (si (si (si σ k 3 (nI (n + 1))) (k + 1) (n * w) a) (k + 1) (n * w + 1) b) (k + 1) (n * w + 2) c) (k + 1) (n * w + 3) d) := by
  have R1 : RS (si σ k 3 (nI (n + 1))) k lim w := hR.keep (si_off' _ _ _ _ _ (by decide)) (si_off' _ _ _ _ _ (by decide))
  have hk : k ≠ k + 1 := by omega
  have R2 : ∀ (σ' : Sg) j x, RS σ' k lim w → RS (si σ' (k + 1) j x) k lim w := fun σ' j x h => h.keep (by rw [si_row _ _ _ _ hk]) (by rw [si_row _ _ _ _ hk])
  unfold m_X6_add
  rw [full_no hR hs hn, bd1_s, if_pos rfl, nm_eq, hs, nm_eq, nI_1, show (0 : Int32) = nI 0 from rfl, s_ok R1 hn (by omega), bd1_s, show (1 : Int32) = nI 1 from rfl, s_ok (R2 _ _ _ R1) hn (by omega), bd1_s, show (2 : Int32) = nI 2 from rfl, s_ok (R2 _ _ _ (R2 _ _ _ R1)) hn (by omega), bd1_s, show (3 : Int32) = nI 3 from rfl, s_ok (R2 _ _ _ (R2 _ _ _ (R2 _ _ _ R1))) hn (by omega), bd1_s]
  rfl
