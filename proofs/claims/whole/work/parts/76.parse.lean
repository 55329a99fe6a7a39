/-! ===== PURE: how a text is read ===== -/
def sb {α β : Type} (x : Nat ⊕ α) (f : α → Nat ⊕ β) : Nat ⊕ β :=
  match x with
  | .inl e => .inl e
  | .inr a => f a
theorem sb_l {α β : Type} (e : Nat) (f : α → Nat ⊕ β) : sb (.inl e) f = .inl e := rfl
theorem sb_r {α β : Type} (a : α) (f : α → Nat ⊕ β) : sb (.inr a) f = f a := rfl
/-- the number told by the figures from b to q -/
def vN (t : Nat → Nat) (b q : Nat) : Nat := if q = b + 1 then t b - 48 else 10 * (t b - 48) + (t (b + 1) - 48)
def pNum (n : Nat) (t : Nat → Nat) (lo hi e : Nat) : Nat ⊕ (Nat × Nat) :=
  if sk n t e < rs n t 2 (sk n t e) ∧ rs n t 2 (sk n t e) ≤ sk n t e + 2 ∧ lo ≤ vN t (sk n t e) (rs n t 2 (sk n t e)) ∧ vN t (sk n t e) (rs n t 2 (sk n t e)) ≤ hi then .inr (rs n t 2 (sk n t e), vN t (sk n t e) (rs n t 2 (sk n t e))) else .inl (sk n t e)
def pEnd (n : Nat) (t : Nat → Nat) (e : Nat) : Nat ⊕ Nat := if so n t (sk n t e) = 3 then .inr (sk n t e + 1) else .inl (sk n t e)
def wS : List (List Nat) := [[104, 111, 117, 115, 101], [115, 97, 121], [101, 97, 114], [115, 116, 114, 105, 112], [112, 97, 112, 101, 114], [109, 105, 110, 117, 116, 101, 115]]
def wl' (i : Nat) : Nat := litN.getD i 0
def wc (i j : Nat) : Nat := (wS.getD i []).getD j 0
theorem wc_ch : ∀ i, i < 6 → ∀ j, j < 8 → j < wl' i → chS i (nI j) = nI (wc i j) := by decide +kernel
theorem wc_in : ∀ i, i < 6 → ∀ j, j < 8 → j < wl' i → 97 ≤ wc i j ∧ wc i j ≤ 122 := by decide +kernel
theorem wl_in : ∀ i, i < 6 → 3 ≤ wl' i ∧ wl' i < 8 := by decide +kernel
/-- the word from b on is the i-th -/
def isW (n : Nat) (t : Nat → Nat) (b i : Nat) : Bool := decide (rs n t 1 b = b + wl' i ∧ ∀ j, j < wl' i → t (b + j) = wc i j)
def wh (n : Nat) (t : Nat → Nat) (b : Nat) : Nat :=
  if isW n t b 1 = true then 1 else if isW n t b 2 = true then 2 else if isW n t b 3 = true then 3 else if isW n t b 4 = true then 4 else if isW n t b 5 = true then 5 else if isW n t b 0 = true then 0 else 6
/-- what follows the item's word -/
def pArgs (n : Nat) (t : Nat → Nat) (r q : Nat) : Nat ⊕ (Nat × Nat × Nat × Nat) :=
  if r = 0 then .inr (q, 0, 0, 0)
  else if r = 1 then sb (pNum n t 0 5 q) (fun a => sb (pNum n t 0 3 a.1) (fun b => sb (pNum n t 1 9 b.1) (fun c => .inr (c.1, a.2, b.2, c.2))))
  else if r = 2 then sb (pNum n t 0 5 q) (fun a => sb (pNum n t 0 3 a.1) (fun b => .inr (b.1, a.2, b.2, 0)))
  else if r = 5 then sb (pNum n t 1 99 q) (fun a => .inr (a.1, a.2, 0, 0))
  else sb (pNum n t 0 3 q) (fun a => .inr (a.1, a.2, 0, 0))
def noI (r k s l : Nat) : Prop := r = 6 ∨ (r = 0 ∧ k ≠ 0) ∨ (r ≠ 0 ∧ k = 0) ∨ (r = 1 ∧ 8 ≤ s) ∨ (r = 2 ∧ 3 ≤ l)
noncomputable def pItem (n : Nat) (t : Nat → Nat) (k s l e : Nat) : Nat ⊕ (Nat × Nat × Nat × Nat × Nat) :=
  @ite _ (noI (wh n t (sk n t e)) k s l) (Classical.propDecidable _) (.inl (sk n t e)) (sb (pArgs n t (wh n t (sk n t e)) (rs n t 1 (sk n t e))) (fun a => sb (pEnd n t a.1) (fun e' => .inr (e', wh n t (sk n t e), a.2))))
noncomputable def pAll (n : Nat) (t : Nat → Nat) : Nat → Nat → Nat → Nat → Nat → Nat ⊕ List (Nat × Nat × Nat × Nat)
  | 0, _, _, _, _ => .inr []
  | F + 1, k, s, l, e => if k ≠ 0 ∧ n ≤ sk n t e then .inr [] else sb (pItem n t k s l e) (fun a => sb (pAll n t F (k + 1) (s + if a.2.1 = 1 then 1 else 0) (l + if a.2.1 = 2 then 1 else 0) a.1) (fun L => .inr (a.2 :: L)))
/-- an item that may be obeyed -/
def okI (it : Nat × Nat × Nat × Nat) (s l : Nat) : Prop :=
  it.1 ≤ 5 ∧ (it.1 = 1 → s < 8 ∧ it.2.1 < 6 ∧ it.2.2.1 < 4) ∧ (it.1 = 2 → l < 3 ∧ it.2.1 < 6 ∧ it.2.2.1 < 4) ∧ (it.1 = 3 ∨ it.1 = 4 → it.2.1 < 4) ∧ (it.1 = 5 → it.2.1 ≤ 99) ∧ it.2.2.2 ≤ 9 ∧ it.2.1 ≤ 99 ∧ it.2.2.1 ≤ 99
section PRS
variable {n : Nat} {t : Nat → Nat}
theorem rs_pos {s b : Nat} (hb : b < n) (h : so n t b = s) : b < rs n t s b := by
  unfold rs
  rw [rn_s, if_pos (decide_eq_true ⟨hb, h⟩)]
  exact rn_ge _ _ _
theorem rs_none {s b : Nat} (h : ¬ so n t b = s ∨ n ≤ b) : rs n t s b = b := by
  unfold rs
  rw [rn_s, if_neg]
  intro z
  have := of_decide_eq_true z
  rcases h with h | h
  · exact h this.2
  · omega
theorem rs_at {s b j : Nat} (h1 : b ≤ j) (h2 : j < rs n t s b) : j < n ∧ so n t j = s := of_decide_eq_true (rn_in _ _ _ h1 h2)
theorem so_2 {p : Nat} (h : so n t p = 2) : 48 ≤ t p ∧ t p ≤ 57 := by
  unfold so at h
  repeat' split at h
  all_goals omega
theorem so_1 {p : Nat} (h : so n t p = 1) : 97 ≤ t p ∧ t p ≤ 122 := by
  unfold so at h
  repeat' split at h
  all_goals omega
theorem pNum_ok {lo hi e q v : Nat} (he : e ≤ n) (h : pNum n t lo hi e = .inr (q, v)) : e < q ∧ q ≤ n ∧ lo ≤ v ∧ v ≤ hi := by
  unfold pNum at h
  by_cases c : sk n t e < rs n t 2 (sk n t e) ∧ rs n t 2 (sk n t e) ≤ sk n t e + 2 ∧ lo ≤ vN t (sk n t e) (rs n t 2 (sk n t e)) ∧ vN t (sk n t e) (rs n t 2 (sk n t e)) ≤ hi
  · rw [if_pos c] at h
    have h := Sum.inr.inj h
    have h1 : rs n t 2 (sk n t e) = q := congrArg Prod.fst h
    have h2 : vN t (sk n t e) (rs n t 2 (sk n t e)) = v := congrArg Prod.snd h
    have g := sk_ge n t e
    have g2 : rs n t 2 (sk n t e) ≤ n := rs_le (sk_le he)
    omega
  · rw [if_neg c] at h
    exact absurd h (by simp)
theorem pNum_f {lo hi e f : Nat} (h : pNum n t lo hi e = .inl f) : f = sk n t e := by
  unfold pNum at h
  split at h
  · exact absurd h (by simp)
  · exact (Sum.inl.inj h).symm
theorem pEnd_ok {e q : Nat} (he : e ≤ n) (h : pEnd n t e = .inr q) : e < q ∧ q ≤ n := by
  unfold pEnd at h
  by_cases c : so n t (sk n t e) = 3
  · rw [if_pos c] at h
    have h1 : sk n t e + 1 = q := Sum.inr.inj h
    have g := sk_ge n t e
    have g2 : sk n t e ≤ n := sk_le he
    have g3 : ¬ n ≤ sk n t e := fun z => by
      rw [so_0.mpr z] at c
      omega
    omega
  · rw [if_neg c] at h
    exact absurd h (by simp)
theorem wh_le (b : Nat) : wh n t b ≤ 6 := by
  unfold wh
  repeat' split
  all_goals omega
theorem wh_is {b : Nat} (h : wh n t b < 6) : isW n t b (wh n t b) = true := by
  unfold wh at *
  repeat' split
  all_goals first | assumption | (exfalso; simp_all)
theorem pArgs_ok {r q e' x y z : Nat} (hq : q ≤ n) (h : pArgs n t r q = .inr (e', x, y, z)) : q ≤ e' ∧ e' ≤ n ∧ (r = 1 → x < 6 ∧ y < 4) ∧ (r = 2 → x < 6 ∧ y < 4) ∧ (r = 3 ∨ r = 4 → x < 4) ∧ (r = 5 → x ≤ 99) ∧ z ≤ 9 ∧ x ≤ 99 ∧ y ≤ 99 := by
  unfold pArgs at h
  by_cases r0 : r = 0
  · rw [if_pos r0] at h
    have h := Sum.inr.inj h
    simp only [Prod.mk.injEq] at h
    omega
  rw [if_neg r0] at h
  by_cases r1 : r = 1
  · rw [if_pos r1] at h
    rcases c1 : pNum n t 0 5 q with f | ⟨q1, a⟩
    · rw [c1, sb_l] at h
      exact absurd h (by simp)
    · have o1 := pNum_ok hq c1
      rw [c1, sb_r] at h
      rcases c2 : pNum n t 0 3 q1 with f | ⟨q2, b⟩
      · rw [c2, sb_l] at h
        exact absurd h (by simp)
      · have o2 := pNum_ok o1.2.1 c2
        rw [c2, sb_r] at h
        rcases c3 : pNum n t 1 9 q2 with f | ⟨q3, c⟩
        · rw [c3, sb_l] at h
          exact absurd h (by simp)
        · have o3 := pNum_ok o2.2.1 c3
          rw [c3, sb_r] at h
          have h := Sum.inr.inj h
          simp only [Prod.mk.injEq] at h
          omega
  rw [if_neg r1] at h
  by_cases r2 : r = 2
  · rw [if_pos r2] at h
    rcases c1 : pNum n t 0 5 q with f | ⟨q1, a⟩
    · rw [c1, sb_l] at h
      exact absurd h (by simp)
    · have o1 := pNum_ok hq c1
      rw [c1, sb_r] at h
      rcases c2 : pNum n t 0 3 q1 with f | ⟨q2, b⟩
      · rw [c2, sb_l] at h
        exact absurd h (by simp)
      · have o2 := pNum_ok o1.2.1 c2
        rw [c2, sb_r] at h
        have h := Sum.inr.inj h
        simp only [Prod.mk.injEq] at h
        omega
  rw [if_neg r2] at h
  by_cases r5 : r = 5
  · rw [if_pos r5] at h
    rcases c1 : pNum n t 1 99 q with f | ⟨q1, a⟩
    · rw [c1, sb_l] at h
      exact absurd h (by simp)
    · have o1 := pNum_ok hq c1
      rw [c1, sb_r] at h
      have h := Sum.inr.inj h
      simp only [Prod.mk.injEq] at h
      omega
  · rw [if_neg r5] at h
    rcases c1 : pNum n t 0 3 q with f | ⟨q1, a⟩
    · rw [c1, sb_l] at h
      exact absurd h (by simp)
    · have o1 := pNum_ok hq c1
      rw [c1, sb_r] at h
      have h := Sum.inr.inj h
      simp only [Prod.mk.injEq] at h
      omega
theorem pItem_no {k s l e : Nat} (h : noI (wh n t (sk n t e)) k s l) : pItem n t k s l e = .inl (sk n t e) := by
  unfold pItem
  exact if_pos h
theorem pItem_yes {k s l e : Nat} (h : ¬ noI (wh n t (sk n t e)) k s l) : pItem n t k s l e = sb (pArgs n t (wh n t (sk n t e)) (rs n t 1 (sk n t e))) (fun a => sb (pEnd n t a.1) (fun e' => .inr (e', wh n t (sk n t e), a.2))) := by
  unfold pItem
  exact if_neg h
theorem pItem_ok {k s l e e' : Nat} {it : Nat × Nat × Nat × Nat} (he : e ≤ n) (h : pItem n t k s l e = .inr (e', it)) : e + 4 ≤ e' ∧ e' ≤ n ∧ okI it s l ∧ (it.1 = 0 ↔ k = 0) := by
  by_cases c : noI (wh n t (sk n t e)) k s l
  · rw [pItem_no c] at h
    exact absurd h (by simp)
  rw [pItem_yes c] at h
  have hb : sk n t e ≤ n := sk_le he
  have hg := sk_ge n t e
  have hq : rs n t 1 (sk n t e) ≤ n := rs_le hb
  unfold noI at c
  have h6 := wh_le (n := n) (t := t) (sk n t e)
  have hw := of_decide_eq_true (wh_is (n := n) (t := t) (b := sk n t e) (by omega))
  have hl := wl_in (wh n t (sk n t e)) (by omega)
  rcases c1 : pArgs n t (wh n t (sk n t e)) (rs n t 1 (sk n t e)) with f | ⟨q1, x, y, z⟩
  · rw [c1, sb_l] at h
    exact absurd h (by simp)
  · have o1 := pArgs_ok hq c1
    rw [c1, sb_r] at h
    rcases c2 : pEnd n t q1 with f | q2
    · rw [c2, sb_l] at h
      exact absurd h (by simp)
    · have o2 := pEnd_ok o1.2.1 c2
      rw [c2, sb_r] at h
      have h := Sum.inr.inj h
      have h1 : q2 = e' := congrArg Prod.fst h
      have h2 : (wh n t (sk n t e), x, y, z) = it := congrArg Prod.snd h
      subst h2
      refine ⟨by omega, by omega, ?_, ?_⟩
      · unfold okI
        show wh n t (sk n t e) ≤ 5 ∧ (wh n t (sk n t e) = 1 → s < 8 ∧ x < 6 ∧ y < 4) ∧ (wh n t (sk n t e) = 2 → l < 3 ∧ x < 6 ∧ y < 4) ∧ (wh n t (sk n t e) = 3 ∨ wh n t (sk n t e) = 4 → x < 4) ∧ (wh n t (sk n t e) = 5 → x ≤ 99) ∧ z ≤ 9 ∧ x ≤ 99 ∧ y ≤ 99
        omega
      · show wh n t (sk n t e) = 0 ↔ k = 0
        omega
end PRS
-- words as numbers
def Wc (t : Nat → Nat) (b : Nat) : Nat → Nat
  | 0 => 0
  | k + 1 => if 99999999999 ≤ Wc t b k then Wc t b k else 27 * Wc t b k + t (b + k) - 96
def cd (c : Nat → Nat) : Nat → Nat
  | 0 => 0
  | k + 1 => 27 * cd c k + c k - 96
theorem Wc_iff {t c : Nat → Nat} {b : Nat} : ∀ m L, (∀ j, j < L → 97 ≤ t (b + j) ∧ t (b + j) ≤ 122) → (∀ j, j < m → 97 ≤ c j ∧ c j ≤ 122) → cd c m < 99999999999 → (Wc t b L = cd c m ↔ L = m ∧ ∀ j, j < m → t (b + j) = c j) := by
  intro m
  induction m with
  | zero =>
    intro L hL hc hm
    cases L with
    | zero => exact ⟨fun _ => ⟨rfl, fun j hj => absurd hj (by omega)⟩, fun _ => rfl⟩
    | succ k =>
      have h1 := hL k (by omega)
      have h2 : Wc t b (k + 1) = if 99999999999 ≤ Wc t b k then Wc t b k else 27 * Wc t b k + t (b + k) - 96 := rfl
      have h3 : cd c 0 = 0 := rfl
      rw [h2, h3]
      split <;> omega
  | succ m ih =>
    intro L hL hc hm
    have e1 : cd c (m + 1) = 27 * cd c m + c m - 96 := rfl
    have g := hc m (by omega)
    rw [e1] at hm ⊢
    cases L with
    | zero =>
      have h3 : Wc t b 0 = 0 := rfl
      rw [h3]
      omega
    | succ k =>
      have h1 := hL k (by omega)
      have h2 : Wc t b (k + 1) = if 99999999999 ≤ Wc t b k then Wc t b k else 27 * Wc t b k + t (b + k) - 96 := rfl
      have I := ih k (fun j hj => hL j (by omega)) (fun j hj => hc j (by omega)) (by omega)
      rw [h2]
      by_cases q : 99999999999 ≤ Wc t b k
      · rw [if_pos q]
        constructor
        · intro z
          omega
        · rintro ⟨z1, z2⟩
          have := I.mpr ⟨by omega, fun j hj => z2 j (by omega)⟩
          omega
      · rw [if_neg q]
        constructor
        · intro z
          have z1 : Wc t b k = cd c m := by omega
          have z2 : t (b + k) = c m := by omega
          obtain ⟨y1, y2⟩ := I.mp z1
          refine ⟨by omega, fun j hj => ?_⟩
          by_cases e : j = m
          · subst e
            rw [← y1]
            rw [← y1] at z2
            exact z2
          · exact y2 j (by omega)
        · rintro ⟨z1, z2⟩
          have y := I.mpr ⟨by omega, fun j hj => z2 j (by omega)⟩
          have y2 := z2 m (by omega)
          have : k = m := by omega
          subst this
          omega
theorem Wc_lt (t : Nat → Nat) (b : Nat) (ht : ∀ j, t j < 128) : ∀ k, Wc t b k < 2800000000000 := by
  intro k
  induction k with
  | zero => exact (by decide : (0 : Nat) < 2800000000000)
  | succ k ih =>
    have h2 : Wc t b (k + 1) = if 99999999999 ≤ Wc t b k then Wc t b k else 27 * Wc t b k + t (b + k) - 96 := rfl
    have := ht (b + k)
    rw [h2]
    split <;> omega
def cK (i : Nat) : Nat := cd (wc i) (wl' i)
theorem cK_in : ∀ i, i < 6 → cK i < 99999999999 := by decide +kernel
theorem cK_inj : ∀ i, i < 6 → ∀ j, j < 6 → cK i = cK j → i = j := by decide +kernel
theorem isW_iff {n : Nat} {t : Nat → Nat} {b i : Nat} (hi : i < 6) : isW n t b i = true ↔ Wc t b (rs n t 1 b - b) = cK i := by
  have hg := rs_ge n t 1 b
  have hl := wl_in i hi
  have I := Wc_iff (t := t) (c := wc i) (b := b) (wl' i) (rs n t 1 b - b) (fun j hj => so_1 (rs_at (n := n) (t := t) (s := 1) (b := b) (j := b + j) (by omega) (by omega)).2) (fun j hj => wc_in i hi j (by omega) hj) (cK_in i hi)
  show isW n t b i = true ↔ Wc t b (rs n t 1 b - b) = cd (wc i) (wl' i)
  rw [I]
  unfold isW
  constructor
  · intro z
    obtain ⟨z1, z2⟩ := of_decide_eq_true z
    exact ⟨by omega, z2⟩
  · rintro ⟨z1, z2⟩
    exact decide_eq_true ⟨by omega, z2⟩
theorem isW_one {n : Nat} {t : Nat → Nat} {b i j : Nat} (hi : i < 6) (hj : j < 6) (h1 : isW n t b i = true) (h2 : isW n t b j = true) : i = j :=
  cK_inj i hi j hj (((isW_iff hi).mp h1).symm.trans ((isW_iff hj).mp h2))
theorem wh_of {n : Nat} {t : Nat → Nat} {b i : Nat} (hi : i < 6) (h : isW n t b i = true) : wh n t b = i := by
  have hlt : wh n t b < 6 := by
    unfold wh
    rcases (show i = 0 ∨ i = 1 ∨ i = 2 ∨ i = 3 ∨ i = 4 ∨ i = 5 by omega) with rfl | rfl | rfl | rfl | rfl | rfl
    all_goals (repeat' split)
    all_goals first | omega | (exfalso; simp_all)
  exact isW_one hlt hi (wh_is hlt) h
theorem wh_no {n : Nat} {t : Nat → Nat} {b i : Nat} (hi : i < 6) (h : ¬ wh n t b = i) : ¬ isW n t b i = true := fun z => h (wh_of hi z)
