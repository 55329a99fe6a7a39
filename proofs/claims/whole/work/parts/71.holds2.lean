/-! ===== PURE: holds ===== -/
/-- how loud a set is together -/
def LOb (V : Vw) (b : Nat → Bool) (m : Int32) : Nat → Int32
  | 0 => 0
  | n + 1 => if b n = true then LOb V b m n + lb V m n else LOb V b m n
abbrev hereB (V : Vw) (r : Int32) (t : Nat) : Bool := decide (V (14 + t) = r)
def gH (V : Vw) (k m : Int32) (N s : Nat) (b : Nat → Bool) : Nat := if b s = true ∧ ¬ hb k (lb V m s) (LOb V b m N - lb V m s) = 0 then 1 else 0
theorem gH_le (V : Vw) (k m : Int32) (N s : Nat) (b : Nat → Bool) : gH V k m N s b ≤ 1 := by
  unfold gH
  split <;> omega
theorem TG_LOb {V : Vw} {r m : Int32} (hm : ¬ m < 0) {n : Nat} (hn : n < 256) : ∀ j, j ≤ 8 → TG V (nI n) r m j = LOb V (fun t => hereB V r t && n.testBit t) m j := by
  intro j
  induction j with
  | zero => intro _; rfl
  | succ j ih =>
    intro hj
    have hb := bit_nI hn (show j < 8 by omega)
    unfold TG LOb
    rw [ih (by omega), if_neg hm]
    by_cases c : V (14 + j) = r
    · rw [if_pos c]
      by_cases c2 : n.testBit j = true
      · rw [if_pos (hb.mpr c2), if_pos (by rw [c2]; simp [hereB, c])]
      · rw [if_neg (fun z => c2 (hb.mp z)), if_neg (by simp [c2]), Int32.add_zero]
    · rw [if_neg c, if_neg (by simp [hereB, c]), Int32.add_zero]
theorem LO_LOb {V : Vw} {r m : Int32} {n : Nat} (hn : n < 256) : ∀ j, j ≤ 8 → (∀ t, t < j → n.testBit t = true → V (14 + t) = r) → LO V (nI n) m j = LOb V (fun t => hereB V r t && n.testBit t) m j := by
  intro j
  induction j with
  | zero => intro _ _; rfl
  | succ j ih =>
    intro hj h
    have hb := bit_nI hn (show j < 8 by omega)
    unfold LO LOb
    rw [ih (by omega) (fun t ht => h t (by omega))]
    by_cases c2 : n.testBit j = true
    · rw [if_pos (hb.mpr c2), if_pos (by rw [c2]; simp [hereB, h j (by omega) c2])]
    · rw [if_neg (fun z => c2 (hb.mp z)), if_neg (by simp [c2])]
theorem HM_bit {V : Vw} {k all r m : Int32} (hm : ¬ m < 0) {n : Nat} (hn : n < 256) : ∀ j, j ≤ 8 → ∃ w, w < 2 ^ j ∧ HM V k all (nI n) r m j = nI w ∧ ∀ s, w.testBit s = true ↔ s < j ∧ V (14 + s) = r ∧ n.testBit s = true ∧ ¬ hb k (lb V m s) (all - lb V m s) = 0 := by
  intro j
  induction j with
  | zero =>
    intro _
    refine ⟨0, Nat.one_pos, rfl, fun s => ?_⟩
    rw [Nat.zero_testBit]
    exact ⟨fun z => absurd z (by decide), fun z => absurd z.1 (by omega)⟩
  | succ j ih =>
    intro hj
    obtain ⟨w, hw, e, hs⟩ := ih (by omega)
    have h1 : 2 ^ j < 2 ^ (j + 1) := Nat.pow_lt_pow_right (by decide) (Nat.lt_succ_self j)
    have hbt := bit_nI hn (show j < 8 by omega)
    have keep : ¬ (V (14 + j) = r ∧ n.testBit j = true ∧ ¬ hb k (lb V m j) (all - lb V m j) = 0) → ∃ w', w' < 2 ^ (j + 1) ∧ nI w = nI w' ∧ ∀ s, w'.testBit s = true ↔ s < j + 1 ∧ V (14 + s) = r ∧ n.testBit s = true ∧ ¬ hb k (lb V m s) (all - lb V m s) = 0 := fun hno => by
      refine ⟨w, by omega, rfl, fun s => ?_⟩
      rw [hs s]
      constructor
      · rintro ⟨z1, z2⟩
        exact ⟨by omega, z2⟩
      · rintro ⟨z1, z2⟩
        by_cases c : s = j
        · subst c
          exact absurd z2 hno
        · exact ⟨by omega, z2⟩
    unfold HM
    rw [e, if_neg hm]
    by_cases c1 : V (14 + j) = r
    · rw [if_pos c1]
      by_cases c2 : n.testBit j = true
      · rw [if_pos (hbt.mpr c2)]
        by_cases c3 : hb k (lb V m j) (all - lb V m j) = 0
        · rw [if_pos c3, Int32.or_zero]
          exact keep (fun z => z.2.2 c3)
        · rw [if_neg c3, one_nI (by omega), or_nI]
          refine ⟨_, Nat.or_lt_two_pow (Nat.lt_trans hw h1) h1, rfl, fun s => ?_⟩
          rw [Nat.testBit_or, Bool.or_eq_true, hs s, Nat.testBit_two_pow]
          constructor
          · rintro (⟨z1, z2⟩ | z)
            · exact ⟨by omega, z2⟩
            · have : j = s := by simpa using z
              subst this
              exact ⟨by omega, c1, c2, c3⟩
          · rintro ⟨z1, z2⟩
            by_cases c : s = j
            · right
              simp [c]
            · exact .inl ⟨by omega, z2⟩
      · rw [if_neg (fun z => c2 (hbt.mp z))]
        exact keep (fun z => c2 z.2.1)
    · rw [if_neg c1]
      exact keep (fun z => c1 z.1)
/-- what the class adds for a set, what the model adds -/
abbrev tC (V : Vw) (k r m : Int32) (N s C D n : Nat) : Nat := Wt (wC (hereB V r) C D) n N * gH V k m N s (fun t => hereB V r t && n.testBit t)
def gM (V : Vw) (k r m : Int32) (N s n : Nat) : Nat := if V (14 + s) = r ∧ bit (HM V k (TG V (nI n) r m N) (nI n) r m N) s then 1 else 0
abbrev tM (V : Vw) (k r m : Int32) (N s C D n : Nat) : Nat := Wt (wM (hereB V r) C D) n N * gM V k r m N s n
theorem gM_gH {V : Vw} {k r m : Int32} {N s n : Nat} (hm : ¬ m < 0) (hr : V (14 + s) = r) (hN : N ≤ 8) (hs : s < N) (hn : n < 256) : gM V k r m N s n = gH V k m N s (fun t => hereB V r t && n.testBit t) := by
  obtain ⟨w, hw, e, hb⟩ := HM_bit (V := V) (k := k) (all := TG V (nI n) r m N) (r := r) hm hn N hN
  have hw8 : w < 256 := Nat.lt_of_lt_of_le hw (Nat.pow_le_pow_right (by decide) hN)
  unfold gM gH
  rw [e, ← TG_LOb hm hn N hN]
  by_cases c : bit (nI w) s
  · have c2 := (hb s).mp ((bit_nI hw8 (by omega)).mp c)
    rw [if_pos ⟨hr, c⟩, if_pos ⟨show (hereB V r s && n.testBit s) = true by rw [c2.2.2.1]; simp [hereB, hr], c2.2.2.2⟩]
  · rw [if_neg (fun z => c z.2), if_neg]
    rintro ⟨z1, z2⟩
    rw [Bool.and_eq_true] at z1
    exact c ((bit_nI hw8 (by omega)).mpr ((hb s).mpr ⟨hs, hr, z1.2, z2⟩))
theorem gM_0 {V : Vw} {k r m : Int32} {N s n : Nat} (h : m < 0 ∨ ¬ V (14 + s) = r) (hs : s < 8) : gM V k r m N s n = 0 := by
  unfold gM
  rw [if_neg]
  rintro ⟨z1, z2⟩
  rcases h with h | h
  · rw [HM_neg _ _ _ _ _ _ h, show (0 : Int32) = nI 0 from rfl, bit_nI (by decide) hs, Nat.zero_testBit] at z2
    exact absurd z2 (by decide)
  · exact h z1
theorem l_ofI {C : Nat} (hC : C ≤ 10) : (nI C).toInt64 = lN C := nI_l (by omega)
theorem ten_sub {C : Nat} (hC : C ≤ 10) : (10 : Int32) - nI C = nI (10 - C) := by
  rw [show (10 : Int32) = nI 10 from rfl, pk_sub hC]
section HOLDS
variable {σ : Sg} {V : Vw}
theorem x_holdsum (CL : CV σ V) {s C : Nat} (hs : s < nS V) (hC : C ≤ 10) (k r m : Int32) {β : Type} (kx : Int64 → Option β) : m_X1_becomeChance_L88 1 (lb V m s) k (nI (cH (hereB V r) (nS V))) (SR V r (nS V)) m (nI s) (nI C) σ kx 1000 0 0 = kx (lN (sumN (tC V k r m (nS V) s C (10 - C)) (2 ^ nS V))) := by
  obtain ⟨hv, S, H⟩ := id CL
  have h8 : nS V ≤ 8 := hv.1.2
  have hp : 2 ^ nS V ≤ 256 := Nat.pow_le_pow_right (n := 2) (by decide) h8
  have hR := SRN_lt V r (nS V)
  have hR8 := SRN_256 V r h8
  have hbit := fun t => SRN_bit V r t (nS V)
  have step : ∀ (n : Nat) (v : Int64) (kk : Int64 → Option β), n < 256 → (bd1 (
      if (nI n &&& SR V r (nS V)) = nI n then
      (bd1 (m_X7_isIn (nI n) (nI s) σ) (fun r35 =>
      if r35 = 0 then
      (some ((0 : Int32)))
      else
      (some ((1 : Int32)))))
      else
      (some ((0 : Int32)))) (fun o20 =>
      bd1 (
      if o20 = 0 then
      (some (v))
      else
      (bd1 (m_X2_loudnessOfSet 1 (nI n) m σ) (fun r24 =>
      bd1 (m_X3_hears k (lb V m s) (r24 - (lb V m s)) σ) (fun r26 =>
      if r26 = 0 then
      (some (v))
      else
      (bd1 (m_J6_bitCount_0f7a4 (nI n) σ) (fun r28 =>
      bd1 (m_X1_power (nI C) ((nI (cH (hereB V r) (nS V))) - r28) σ) (fun r30 =>
      bd1 (m_X1_power ((10 : Int32) - (nI C)) r28 σ) (fun r32 =>
      nm ((v + (r30 * r32))) (fun x34 =>
      some (x34)))))))))) (fun o22 => kk o22))) = kk (v + lN (if n < 2 ^ nS V then tC V k r m (nS V) s C (10 - C) n else 0)) := by
    intro n v kk hn
    have zero : ∀ x, x = 0 → v + lN x = v := fun x hx => by
      rw [hx]
      exact Int64.add_zero v
    have hand : n &&& SRN V r (nS V) < 256 := Nat.lt_of_le_of_lt Nat.and_le_left hn
    rw [SR_eq V r _ h8, and_nI]
    by_cases c : n &&& SRN V r (nS V) = n
    · have hsub : ∀ t, n.testBit t = true → t < nS V ∧ V (14 + t) = r := fun t ht => by
        rw [← c, Nat.testBit_and, Bool.and_eq_true] at ht
        exact (hbit t).mp ht.2
      have hlt : n < 2 ^ nS V := by
        have h1 : n &&& SRN V r (nS V) ≤ SRN V r (nS V) := Nat.and_le_right
        omega
      have hsb : ∀ t, t < nS V → n.testBit t = true → hereB V r t = true := fun t _ ht => decide_eq_true (hsub t ht).2
      obtain ⟨w1, w2⟩ := Wt_cls (C := C) (D := 10 - C) (nS V) hsb
      have hc8 : cb n 8 = cb n (nS V) := cb_stop hlt 8 h8
      have hcN := cH_le (hereB V r) (nS V)
      rw [if_pos (by rw [c]), e_isIn, bd1_s, b01_z, if_pos hlt]
      by_cases c2 : bit (nI n) s
      · have c3 := (bit_nI hn (show s < 8 by omega)).mp c2
        rw [if_pos c2, bd1_s, if_neg (by decide), e_LS S H hv.1, bd1_s, e_hears, bd1_s, LO_LOb (r := r) hn _ h8 (fun t _ ht => (hsub t ht).2)]
        by_cases c4 : hb k (lb V m s) (LOb V (fun t => hereB V r t && n.testBit t) m (nS V) - lb V m s) = 0
        · rw [if_pos c4, bd1_s, zero _ (by
            have : gH V k m (nS V) s (fun t => hereB V r t && n.testBit t) = 0 := if_neg (fun z => z.2 c4)
            exact (congrArg (fun z => Wt (wC (hereB V r) C (10 - C)) n (nS V) * z) this).trans (Nat.mul_zero _))]
        · have g1 : gH V k m (nS V) s (fun t => hereB V r t && n.testBit t) = 1 := if_pos ⟨by
            show (hereB V r s && n.testBit s) = true
            rw [c3, hsb s hs c3]
            rfl, c4⟩
          have et : tC V k r m (nS V) s C (10 - C) n = C ^ (cH (hereB V r) (nS V) - cb n (nS V)) * (10 - C) ^ cb n (nS V) := by
            show Wt (wC (hereB V r) C (10 - C)) n (nS V) * gH V k m (nS V) s (fun t => hereB V r t && n.testBit t) = _
            rw [g1, Nat.mul_one, w2]
          rw [if_neg c4, e_bc, bd1_s, bc_cb hn, hc8, pk_sub w1, x_pow (by omega) (by omega), bd1_s, ten_sub hC, x_pow (by omega) (by omega), bd1_s, nm_eq, bd1_s, lN_mul, et]
      · have c3 : ¬ n.testBit s = true := fun z => c2 ((bit_nI hn (show s < 8 by omega)).mpr z)
        rw [if_neg c2, bd1_s, if_pos rfl, bd1_s, zero _ (by
          have : gH V k m (nS V) s (fun t => hereB V r t && n.testBit t) = 0 := if_neg (fun z => by
            have z1 : (hereB V r s && n.testBit s) = true := z.1
            rw [Bool.and_eq_true] at z1
            exact c3 z1.2)
          exact (congrArg (fun z => Wt (wC (hereB V r) C (10 - C)) n (nS V) * z) this).trans (Nat.mul_zero _))]
    · rw [if_neg (fun z => c ((nI_eq (by omega) (by omega)).mp z)), bd1_s, if_pos rfl, bd1_s, zero]
      by_cases hlt : n < 2 ^ nS V
      · rw [if_pos hlt]
        have hex : ∃ t, n.testBit t = true ∧ ¬ (SRN V r (nS V)).testBit t = true := by
          refine Classical.byContradiction (fun hno => c ?_)
          apply Nat.eq_of_testBit_eq
          intro t
          rw [Nat.testBit_and]
          by_cases q : n.testBit t = true
          · rw [q]
            by_cases q2 : (SRN V r (nS V)).testBit t = true
            · rw [q2]
              rfl
            · exact absurd ⟨t, q, q2⟩ hno
          · have q : n.testBit t = false := by simpa using q
            rw [q]
            rfl
        obtain ⟨t, h1, h2⟩ := hex
        have ht : t < nS V := by
          rcases Nat.lt_or_ge t (nS V) with q | q
          · exact q
          · rw [tb_hi hlt q] at h1
            exact absurd h1 (by decide)
        have : Wt (wC (hereB V r) C (10 - C)) n (nS V) = 0 := Wt_cls0 h1 (fun z => h2 ((hbit t).mpr ⟨ht, of_decide_eq_true z⟩)) _ ht
        show Wt _ n (nS V) * _ = 0
        rw [this, Nat.zero_mul]
      · rw [if_neg hlt]
  have loop : ∀ F n, n ≤ 256 → 256 < n + F → m_X1_becomeChance_L88 1 (lb V m s) k (nI (cH (hereB V r) (nS V))) (SR V r (nS V)) m (nI s) (nI C) σ kx F (nI n) (lN (sumN (fun n => if n < 2 ^ nS V then tC V k r m (nS V) s C (10 - C) n else 0) n)) = kx (lN (sumN (fun n => if n < 2 ^ nS V then tC V k r m (nS V) s C (10 - C) n else 0) 256)) := by
    intro F
    induction F with
    | zero => intro t h1 h2; exact absurd h2 (by omega)
    | succ F ih =>
      intro n h1 h2
      rw [m_X1_becomeChance_L88.eq_2, show (256 : Int32) = nI 256 from rfl]
      rcases Nat.lt_or_ge n 256 with q | q
      · rw [if_neg (nI_ge q (by omega))]
        refine (step n _ (fun o22 => nm (nI n + (1 : Int32)) (fun x23 =>
          m_X1_becomeChance_L88 1 (lb V m s) k (nI (cH (hereB V r) (nS V))) (SR V r (nS V)) m (nI s) (nI C) σ kx F x23 o22)) q).trans ?_
        rw [nI_1, nm_eq, lN_add]
        exact ih (n + 1) (by omega) (by omega)
      · have : n = 256 := by omega
        subst this
        rw [if_pos (nI_le (Nat.le_refl _) (by omega))]
  refine (loop 1000 0 (by omega) (by omega)).trans (congrArg (fun z => kx (lN z)) ?_)
  rw [show 256 = 2 ^ nS V + (256 - 2 ^ nS V) by omega, sumN_add]
  have e1 : sumN (fun n => if n < 2 ^ nS V then tC V k r m (nS V) s C (10 - C) n else 0) (2 ^ nS V) = sumN (tC V k r m (nS V) s C (10 - C)) (2 ^ nS V) := sumN_congr _ (fun n hn => if_pos hn)
  rw [e1, sumN_0 _ (fun n hn => if_neg (by omega)), Nat.add_zero]
theorem y_holdsum (L : LV σ V) {i s C R : Nat} (hi : i < nL V) (hs : s < nS V) (hC : C ≤ 10) (hR : R < 4) (c8 : Int64) {β : Type} (kx : Int64 → Option β) : m_X8_holds_L102 c8 (mo V R 0) (nI R) (nI i) (nI s) (nI C) σ kx 1000 0 0 = kx (lN (sumN (tM V (V (30 + i)) (nI R) (mo V R 0) (nS V) s C (10 - C)) (2 ^ nS V))) := by
  obtain ⟨hv, H⟩ := id L
  have h8 : nS V ≤ 8 := hv.1.2
  have h3 : nL V ≤ 3 := hv.2.1.2
  have hp : 2 ^ nS V ≤ 256 := Nat.pow_le_pow_right (n := 2) (by decide) h8
  have hT : 10 ^ nS V ≤ 10 ^ 8 := Nat.pow_le_pow_right (by decide) h8
  have hT : 10 ^ nS V ≤ 100000000 := hT
  obtain ⟨k, hk, ek⟩ := hv.K.2 i hi
  have inner : ∀ (n : Nat) (c6 : Int64) (kk : Int64 → Option β), n < 256 → ∀ F t, t ≤ nS V → nS V < t + F → m_X8_holds_L119 (nI n) c8 c6 (mo V R 0) (nI R) (nI i) (nI s) (nI C) σ kk F (nI t) (lN (Wt (wM (hereB V (nI R)) C (10 - C)) n t)) = kk (lN (Wt (wM (hereB V (nI R)) C (10 - C)) n (nS V))) := by
    intro n c6 kk hn F
    induction F with
    | zero => intro t h1 h2; exact absurd h2 (by omega)
    | succ F ih =>
      intro t h1 h2
      rw [m_X8_holds_L119.eq_2, H.1.1, hv.1.1]
      rcases Nat.lt_or_ge t (nS V) with q | q
      · have hbt := bit_nI hn (show t < 8 by omega)
        rw [if_neg (nI_ge q (by omega)), ln_71, ix_if (by omega) (by omega), nI_clamp (by omega), H.2.2.1 t (by omega)]
        refine Eq.trans ?_ (ih (t + 1) (by omega) (by omega))
        have ew : Wt (wM (hereB V (nI R)) C (10 - C)) n (t + 1) = Wt (wM (hereB V (nI R)) C (10 - C)) n t * wM (hereB V (nI R)) C (10 - C) t (n.testBit t) := rfl
        rw [ew]
        unfold wM
        by_cases c : V (14 + t) = nI R
        · rw [if_pos c, bd1_s, if_pos (show hereB V (nI R) t = true from decide_eq_true c)]
          by_cases c2 : n.testBit t = true
          · rw [if_pos (show ((nI n >>> (nI t &&& 31)) &&& 1) = 1 from hbt.mpr c2), bd1_s, if_neg (by decide), if_neg (by decide), bd1_s, if_pos c2, ten_sub hC, l_ofI (by omega), lN_mul, nm_eq, nI_1, nm_eq]
          · rw [if_neg (show ¬ ((nI n >>> (nI t &&& 31)) &&& 1) = 1 from fun z => c2 (hbt.mp z)), bd1_s, if_neg (by decide), if_pos rfl, bd1_s, if_neg c2, l_ofI hC, lN_mul, nm_eq, nI_1, nm_eq]
        · rw [if_neg c, bd1_s, if_neg (show ¬ hereB V (nI R) t = true from fun z => c (of_decide_eq_true z))]
          by_cases c2 : n.testBit t = true
          · rw [if_pos (show ((nI n >>> (nI t &&& 31)) &&& 1) = 1 from hbt.mpr c2), bd1_s, if_pos rfl, if_neg (by decide), bd1_s, if_pos c2, show (1 : Int64) = lN 1 from rfl, lN_mul, nm_eq, nI_1, nm_eq]
          · rw [if_neg (show ¬ ((nI n >>> (nI t &&& 31)) &&& 1) = 1 from fun z => c2 (hbt.mp z)), bd1_s, if_pos rfl, if_pos rfl, bd1_s, if_neg c2, show (0 : Int64) = lN 0 from rfl, lN_mul, nm_eq, nI_1, nm_eq]
      · have : t = nS V := by omega
        subst this
        rw [if_pos (nI_le (Nat.le_refl _) (show nS V < 2 ^ 31 by omega))]
  have loop : ∀ F n, n ≤ 2 ^ nS V → 2 ^ nS V < n + F → m_X8_holds_L102 c8 (mo V R 0) (nI R) (nI i) (nI s) (nI C) σ kx F (nI n) (lN (sumN (tM V (V (30 + i)) (nI R) (mo V R 0) (nS V) s C (10 - C)) n)) = kx (lN (sumN (tM V (V (30 + i)) (nI R) (mo V R 0) (nS V) s C (10 - C)) (2 ^ nS V))) := by
    intro F
    induction F with
    | zero => intro t h1 h2; exact absurd h2 (by omega)
    | succ F ih =>
      intro n h1 h2
      rw [m_X8_holds_L102.eq_2, H.1.1, hv.1.1, (pow_9 (nS V) (by omega)).1]
      rcases Nat.lt_or_ge n (2 ^ nS V) with q | q
      · rw [if_neg (nI_ge q (by omega)), nm_eq, nm_eq]
        refine (inner n _ _ (by omega) 1000 0 (by omega) (by omega)).trans ?_
        refine Eq.trans ?_ (ih (n + 1) (by omega) (by omega))
        have es : sumN (tM V (V (30 + i)) (nI R) (mo V R 0) (nS V) s C (10 - C)) (n + 1) = sumN (tM V (V (30 + i)) (nI R) (mo V R 0) (nS V) s C (10 - C)) n + Wt (wM (hereB V (nI R)) C (10 - C)) n (nS V) * gM V (V (30 + i)) (nI R) (mo V R 0) (nS V) s n := rfl
        have hW := Wt_le (wM_le (hereB V (nI R)) (C := C) (D := 10 - C) (by omega)) n (nS V)
        have hle : (lg_cmp (lN (Wt (wM (hereB V (nI R)) C (10 - C)) n (nS V))) (0 : Int64) ≤ 0) ↔ Wt (wM (hereB V (nI R)) C (10 - C)) n (nS V) = 0 := by
          rw [lg_cmp_le, show (0 : Int64) = lN 0 from rfl, pk_lLE (by omega) (by decide)]
          omega
        rw [es, ← lN_add]
        by_cases c : Wt (wM (hereB V (nI R)) C (10 - C)) n (nS V) = 0
        · rw [if_pos (hle.mpr c), bd1_s, c, Nat.zero_mul, nI_1, nm_eq, nm_eq]
          rfl
        · rw [if_neg (fun z => c (hle.mp z)), ln_71, ix_if (show s < 8 by omega) (by omega), nI_clamp (by omega), H.2.2.1 s (by omega), ln_73, ix_if (show i < 3 by omega) (by omega), nI_clamp (by omega), H.2.2.2.2.1 i (by omega), ek, e_heardOf H hv.1 hv.K hk, bd1_s]
          unfold gM
          by_cases c2 : V (14 + s) = nI R
          · rw [if_pos c2]
            by_cases c3 : bit (HM V (nI k) (TG V (nI n) (nI R) (mo V R 0) (nS V)) (nI n) (nI R) (mo V R 0) (nS V)) s
            · rw [if_pos c3, bd1_s, if_pos ⟨c2, c3⟩, Nat.mul_one, nI_1, nm_eq, nm_eq]
            · rw [if_neg c3, bd1_s, if_neg (fun z => c3 z.2), Nat.mul_zero, nI_1, nm_eq, nm_eq]
              rfl
          · rw [if_neg c2, bd1_s, if_neg (fun z => c2 z.1), Nat.mul_zero, nI_1, nm_eq, nm_eq]
            rfl
      · have : n = 2 ^ nS V := by omega
        subst this
        rw [if_pos (nI_le (Nat.le_refl _) (by omega))]
  exact loop 1000 0 (Nat.zero_le _) (by omega)
theorem y_below (L : LV σ V) (R : Nat) (c6 : Int64) (c5 c1 c2 c3 : Int32) {β : Type} (kx : Int64 → Option β) : m_X8_holds_L60 c6 c5 (nI R) c1 c2 c3 σ kx 1000 0 1 = kx (lN (10 ^ cH (hereB V (nI R)) (nS V))) := by
  obtain ⟨hv, H⟩ := id L
  have h8 : nS V ≤ 8 := hv.1.2
  have loop : ∀ F t, t ≤ nS V → nS V < t + F → m_X8_holds_L60 c6 c5 (nI R) c1 c2 c3 σ kx F (nI t) (lN (10 ^ cH (hereB V (nI R)) t)) = kx (lN (10 ^ cH (hereB V (nI R)) (nS V))) := by
    intro F
    induction F with
    | zero => intro t h1 h2; exact absurd h2 (by omega)
    | succ F ih =>
      intro t h1 h2
      rw [m_X8_holds_L60.eq_2, H.1.1, hv.1.1]
      rcases Nat.lt_or_ge t (nS V) with q | q
      · rw [if_neg (nI_ge q (by omega)), ln_71, ix_if (by omega) (by omega), nI_clamp (by omega), H.2.2.1 t (by omega)]
        refine Eq.trans ?_ (ih (t + 1) (by omega) (by omega))
        conv => rhs; unfold cH
        by_cases c : V (14 + t) = nI R
        · rw [if_pos c, bd1_s, if_pos (show hereB V (nI R) t = true from decide_eq_true c), show (10 : Int64) = lN 10 from rfl, lN_mul, nm_eq, nI_1, nm_eq, Nat.pow_succ]
        · rw [if_neg c, bd1_s, if_neg (show ¬ hereB V (nI R) t = true from fun z => c (of_decide_eq_true z)), Int64.mul_one, nm_eq, nI_1, nm_eq]
      · have : t = nS V := by omega
        subst this
        rw [if_pos (nI_le (Nat.le_refl _) (show nS V < 2 ^ 31 by omega))]
  exact loop 1000 0 (by omega) (by omega)
/-- the case that counts -/
abbrev hP (V : Vw) (R s : Nat) : Prop := ¬ mo V R 0 = -1 ∧ V (14 + s) = nI R
def hE (V : Vw) (i R s C : Nat) : Nat := Ex (hereB V (nI R)) C (10 - C) (nS V) (gH V (V (30 + i)) (mo V R 0) (nS V) s)
def hA (V : Vw) (R : Nat) : Nat := 10 ^ cH (hereB V (nI R)) (nS V)
theorem hA_lt {V : Vw} {B : Nat} (hv : VOK V B) (R : Nat) : 0 < hA V R ∧ hA V R < 2 ^ 27 := by
  have h1 := cH_le (hereB V (nI R)) (nS V)
  have h2 : 10 ^ cH (hereB V (nI R)) (nS V) ≤ 10 ^ 8 := Nat.pow_le_pow_right (by decide) (Nat.le_trans h1 hv.1.2)
  have h3 : (10 : Nat) ^ 8 < 2 ^ 27 := by decide
  unfold hA
  exact ⟨Nat.pow_pos (by decide), by omega⟩
theorem hE_lt {V : Vw} {B : Nat} (hv : VOK V B) {i R s C : Nat} (hC : C ≤ 10) : hE V i R s C < 2 ^ 63 := by
  have h1 := Ex_le (here := hereB V (nI R)) (C := C) (D := 10 - C) (by omega) (nS V) (gH V (V (30 + i)) (mo V R 0) (nS V) s) (gH_le _ _ _ _ _)
  have h2 : 10 ^ nS V ≤ 10 ^ 8 := Nat.pow_le_pow_right (by decide) hv.1.2
  have h3 : (10 : Nat) ^ 8 < 2 ^ 63 := by decide
  unfold hE
  omega
theorem x_chance (CL : CV σ V) {i s C : Nat} (hi : i < nL V) (hs : s < nS V) (hC : C ≤ 10) {R : Nat} (hR : R < 4) (eR : V (38 + i) = nI R) : (hP V R s → m_X1_becomeChance 1 (nI i) (nI s) (nI C) σ = some (sl (sl σ 67 0 (lN (hE V i R s C / Nat.gcd (hE V i R s C) (hA V R)))) 67 1 (lN (hA V R / Nat.gcd (hE V i R s C) (hA V R))))) ∧ (¬ hP V R s → m_X1_becomeChance 1 (nI i) (nI s) (nI C) σ = some (sl (sl σ 67 0 (lN 0)) 67 1 (lN 1))) := by
  obtain ⟨hv, S, H⟩ := id CL
  have h3 : nL V ≤ 3 := hv.2.1.2
  have h8 : nS V ≤ 8 := hv.1.2
  have ha : σ.1 (1 + 3 + 1) (i * 3 + 1) = nI R := ((H.2.2.1 i hi).2.1).trans eR
  have hk : σ.1 (1 + 3 + 1) (i * 3 + 0) = V (30 + i) := (H.2.2.1 i hi).1
  have hsp : σ.1 (1 + 1 + 1) (s * 3 + 1) = V (14 + s) := (H.2.1 s hs).2.1
  have e01 : m_X1_become (0 : Int64) (1 : Int64) σ = some (sl (sl σ 67 0 (lN 0)) 67 1 (lN 1)) := by
    have := x_become (σ := σ) (a := 0) (b := 1) (by decide) (by decide) (by decide)
    rw [show Nat.gcd 0 1 = 1 from rfl] at this
    exact this
  have start : m_X1_becomeChance 1 (nI i) (nI s) (nI C) σ = (if mo V R 0 = (-1 : Int32) then
      (bd1 (m_X1_become (0 : Int64) (1 : Int64) σ) (fun σ5 =>
      some σ5))
      else
      (if V (14 + s) = nI R then
      (bd1 (m_X2_sayingsOfRoom 1 (nI R) σ) (fun r9 =>
      bd1 (m_J6_bitCount_0f7a4 r9 σ) (fun r11 =>
      bd1 (m_X6_get (1 + 3) (nI i) (0 : Int32) σ) (fun r13 =>
      bd1 (m_X2_loudness 1 (nI s) (mo V R 0) σ) (fun r15 =>
      nm ((0 : Int64)) (fun x17 =>
      nm ((0 : Int32)) (fun x18 =>
      m_X1_becomeChance_L88 1 r15 r13 r11 r9 (mo V R 0) (nI s) (nI C) σ (fun x37 =>
      bd1 (m_X1_power (10 : Int32) r11 σ) (fun r38 =>
      bd1 (m_X1_become x37 r38 σ) (fun σ40 =>
      some σ40))) 1000 x18 x17)))))))
      else
      (bd1 (m_X1_become (0 : Int64) (1 : Int64) σ) (fun σ42 =>
      some σ42)))) := by
    unfold m_X1_becomeChance
    rw [show m_X6_get (1 + 3) (nI i) (1 : Int32) σ = some (nI R) from (g_ok S.2.1 (show i < 3 by omega) (show 1 < 3 by omega)).trans (congrArg some ha), bd1_s, show m_X2_roomMinute 1 (nI R) (0 : Int32) σ = some (mo V R 0) from e_roomMinute (t := 0) S H hv.N (by omega) hR (by omega), bd1_s, show m_X6_get (1 + 1) (nI s) (1 : Int32) σ = some (V (14 + s)) from (g_ok S.1 (show s < 8 by omega) (show 1 < 3 by omega)).trans (congrArg some hsp), bd1_s]
  constructor
  · rintro ⟨c1, c2⟩
    obtain ⟨a1, a2⟩ := hA_lt hv R
    have hm : ¬ mo V R 0 < 0 := (mo_sign hv.N (by omega) hR (show 0 ≤ 1000 by omega)).resolve_left c1
    have hcb : bc (SR V (nI R) (nS V)) = nI (cH (hereB V (nI R)) (nS V)) := by
      rw [SR_eq V _ _ h8, bc_cb (SRN_256 V _ h8), cb_stop (SRN_lt V (nI R) (nS V)) 8 h8]
      refine congrArg nI (cb_cH _ (fun t ht => ?_))
      have := SRN_bit V (nI R) t (nS V)
      by_cases c : V (14 + t) = nI R
      · rw [this.mpr ⟨ht, c⟩]
        exact (decide_eq_true c).symm
      · have q : ¬ (SRN V (nI R) (nS V)).testBit t = true := fun z => c (this.mp z).2
        have q : (SRN V (nI R) (nS V)).testBit t = false := by simpa using q
        rw [q]
        exact (decide_eq_false c).symm
    have hcN := cH_le (hereB V (nI R)) (nS V)
    rw [start, if_neg c1, if_pos c2, e_SR S H hv.1, bd1_s, e_bc, bd1_s, hcb, show m_X6_get (1 + 3) (nI i) (0 : Int32) σ = some (V (30 + i)) from (g_ok S.2.1 (show i < 3 by omega) (show 0 < 3 by omega)).trans (congrArg some hk), bd1_s, e_hloud S H hv.1 hs, bd1_s, nm_eq, nm_eq]
    refine (x_holdsum CL hs hC (V (30 + i)) (nI R) (mo V R 0) _).trans ?_
    have eE : sumN (tC V (V (30 + i)) (nI R) (mo V R 0) (nS V) s C (10 - C)) (2 ^ nS V) = hE V i R s C := Ex_sum (wC_w _ _ _) (nS V) _
    rw [eE, show (10 : Int32) = nI 10 from rfl, x_pow (by omega) (by omega), bd1_s, show lN (10 ^ cH (hereB V (nI R)) (nS V)) = lN (hA V R) from rfl, x_become (hE_lt hv hC) a2 a1, bd1_s]
  · intro c
    rw [start, e01, bd1_s]
    by_cases c1 : mo V R 0 = -1
    · rw [if_pos c1]
    · rw [if_neg c1, if_neg (fun z => c ⟨c1, z⟩)]
theorem y_chance (L : LV σ V) {i s C : Nat} (hi : i < nL V) (hs : s < nS V) (hC : C ≤ 10) {R : Nat} (hR : R < 4) (eR : V (38 + i) = nI R) (c : rng (nI i) 0 ((nL V : Int) - 1) ∧ rng (nI s) 0 ((nS V : Int) - 1) ∧ rng (nI C) 0 10) : (hP V R s → m_X8_holds (nI i) (nI s) (nI C) σ = some (1, sl (sl σ 68 22 (lN (hE V i R s C / Nat.gcd (hE V i R s C) (hA V R)))) 68 23 (lN (hA V R / Nat.gcd (hE V i R s C) (hA V R))))) ∧ (¬ hP V R s → m_X8_holds (nI i) (nI s) (nI C) σ = some (1, sl (sl σ 68 22 (lN 0)) 68 23 (lN 1))) := by
  obtain ⟨hv, H⟩ := id L
  have h3 : nL V ≤ 3 := hv.2.1.2
  have h8 : nS V ≤ 8 := hv.1.2
  have hp : 2 ^ nS V ≤ 256 := Nat.pow_le_pow_right (n := 2) (by decide) h8
  obtain ⟨a1, a2⟩ := hA_lt hv R
  have h74 : σ.1 74 (5 + i) = nI R := ((H.2.2.2.2.2.1 (5 + i) (by omega)).trans (by rw [show 33 + (5 + i) = 38 + i by omega])).trans eR
  have main : ∀ E, sumN (tM V (V (30 + i)) (nI R) (mo V R 0) (nS V) s C (10 - C)) (2 ^ nS V) = E → E < 2 ^ 63 → m_X8_holds (nI i) (nI s) (nI C) σ = some (1, sl (sl σ 68 22 (lN (E / Nat.gcd E (hA V R)))) 68 23 (lN (hA V R / Nat.gcd E (hA V R)))) := fun E eE hE => by
    have g0 : 0 < Nat.gcd E (hA V R) := Nat.gcd_pos_of_pos_right E a1
    have g1 : Nat.gcd E (hA V R) ≤ hA V R := Nat.gcd_le_right E a1
    unfold m_X8_holds
    rw [y_isL L, bd1_s, b01_z, if_pos c.1, y_isS L, bd1_s, b01_z, if_pos c.2.1, ei_0_10, bd1_s, b01_z, if_pos c.2.2, show (5 : Int32) = nI 5 from rfl, nI_add, ln_74, ix_if (show 5 + i < 11 by omega) (by omega), nI_clamp (by omega), h74, nm_eq, e_minuteOf H hR, bd1_s, nm_eq, nm_eq, nm_eq]
    refine (y_below L R _ _ _ _ _ _).trans ?_
    rw [nm_eq]
    refine (y_holdsum L hi hs hC hR _ _).trans ?_
    rw [eE]
    refine (y_gcd _ _ _ 27 E (hA V R) 1000 hE (by omega) a2 (by omega)).trans ?_
    rw [if_neg (l_z (by omega) g0), nm_eq, if_neg (l_z (by omega) g0), nm_eq, pk_lDiv hE g0 (by omega), show lN (10 ^ cH (hereB V (nI R)) (nS V)) = lN (hA V R) from rfl, pk_lDiv (by omega) g0 (by omega)]
  constructor
  · rintro ⟨c1, c2⟩
    have hm : ¬ mo V R 0 < 0 := (mo_sign hv.N (by omega) hR (show 0 ≤ 1000 by omega)).resolve_left c1
    refine main (hE V i R s C) ?_ (hE_lt hv hC)
    refine Eq.trans (sumN_congr _ (fun n hn => ?_)) (Ex_sum (wM_w (hereB V (nI R)) C (10 - C)) (nS V) (gH V (V (30 + i)) (mo V R 0) (nS V) s))
    show Wt _ n (nS V) * gM V _ _ _ _ _ n = _
    rw [gM_gH hm c2 h8 hs (by omega)]
  · intro c0
    have h := main 0 (sumN_0 _ (fun n hn => by
      show Wt _ n (nS V) * gM V _ _ _ _ _ n = 0
      rw [gM_0 _ (show s < 8 by omega), Nat.mul_zero]
      by_cases c1 : mo V R 0 = -1
      · rw [c1]
        exact .inl (by decide)
      · exact .inr (fun z => c0 ⟨c1, z⟩))) (by decide)
    rw [Nat.gcd_zero_left, Nat.zero_div, Nat.div_self a1] at h
    exact h
end HOLDS
theorem Rel.frac {σ : Sg} (H : Rel σ) (x y : Int64) : Rel (sl (sl (sl (sl σ 67 0 x) 67 1 y) 68 22 x) 68 23 y) := by
  obtain ⟨⟨a1, a2, a3, a4, a5, a6⟩, V, HC⟩ := H
  exact ⟨⟨a1, a2, a3, a4, a5, by simp [sl], by simp [sl]⟩, V, HC⟩
theorem sp_holds : Sp_holds Rel := by
  intro σ H a1 a2 a3
  obtain ⟨HR, V, HC⟩ := id H
  have h3 : nL V ≤ 3 := HC.1.2.1.2
  have h8 : nS V ≤ 8 := HC.1.1.2
  by_cases c : rng a1 0 ((nL V : Int) - 1) ∧ rng a2 0 ((nS V : Int) - 1) ∧ rng a3 0 10
  · obtain ⟨i, hi, rfl⟩ := rng_idx c.1 (by omega)
    obtain ⟨s, hs, rfl⟩ := rng_idx c.2.1 (by omega)
    obtain ⟨C, hC, rfl⟩ := rng_nI (n := 10) (by omega) c.2.2
    obtain ⟨hp, ep⟩ := at_ok HC.1.N (show i < 3 by omega)
    obtain ⟨x1, x2⟩ := x_chance HC.C hi hs hC hp ep
    have both : ∀ x y : Int64, m_X1_becomeChance 1 (nI i) (nI s) (nI C) σ = some (sl (sl σ 67 0 x) 67 1 y) → m_X8_holds (nI i) (nI s) (nI C) (sl (sl σ 67 0 x) 67 1 y) = some (1, sl (sl (sl (sl σ 67 0 x) 67 1 y) 68 22 x) 68 23 y) → ∃ (r : Int32) (σ1 : Sg) (σ2 : Sg), m_X7_holds (nI i) (nI s) (nI C) σ = some (r, σ1) ∧ m_X8_holds (nI i) (nI s) (nI C) σ1 = some (r, σ2) ∧ Rel σ2 := fun x y e1 e2 => by
      refine ⟨1, _, _, ?_, e2, H.frac x y⟩
      unfold m_X7_holds
      rw [x_isL HC.C, bd1_s, b01_z, if_pos c.1, x_isS HC.C, bd1_s, b01_z, if_pos c.2.1, ew_0_10, bd1_s, b01_z, if_pos c.2.2, e1, bd1_s]
    have L : ∀ x y : Int64, LV (sl (sl σ 67 0 x) 67 1 y) V := fun x y => ⟨HC.1, HC.2.2.2⟩
    by_cases q : hP V (cnt (V (38 + i))) s
    · exact both _ _ (x1 q) ((y_chance (L _ _) hi hs hC hp ep c).1 q)
    · exact both _ _ (x2 q) ((y_chance (L _ _) hi hs hC hp ep c).2 q)
  · refine r_bad H ?_ (fun σ1 e1 => ?_)
    · unfold m_X7_holds
      simp only [x_isL HC.C, x_isS HC.C, ew_0_10, bd1_s, b01_z, bd2_id]
      rw [if_n3 c]
    · have L : LV σ1 V := by rw [e1]; exact HC.L.si0 _ _
      unfold m_X8_holds
      simp only [y_isL L, y_isS L, ei_0_10, bd1_s, b01_z, bd2_id]
      rw [if_n3 c]
