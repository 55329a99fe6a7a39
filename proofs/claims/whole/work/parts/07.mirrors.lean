/-! ===== MIRRORS: printed by wip/gen: each method as a function of its numbers ===== -/
def m_X6_get (k0 : Nat) (a1 : Int32) (a2 : Int32) (σ : Sg) : Option (Int32) :=
    nm (((a1 * (σ.1 k0 1)) + a2)) (fun x1 =>
    if a2 < 0 then
    (some (0 : Int32))
    else
    (if (σ.1 k0 1) ≤ a2 then
    (some (0 : Int32))
    else
    (if x1 < 0 then
    (some (0 : Int32))
    else
    (if (nI (len (k0 + 1))) ≤ x1 then
    (some (0 : Int32))
    else
    (if (x1 < 0 ∨ len (k0 + 1) ≤ x1.toNatClampNeg) then none else
    (some (σ.1 (k0 + 1) x1.toNatClampNeg)))))))

def m_X2_sayingsOfRoom_L4 (k0 : Nat) (c1 : Int32) (σ : Sg) (kx : Unit → Option (Int32)) : Nat → Int32 → Int32 → Option (Int32)
  | 0, _, _ => none
  | n + 1, v3, v2 =>
    if (σ.1 (k0 + 1) 3) ≤ v3 then
    (some v2)
    else
    (bd1 (m_X6_get (k0 + 1) v3 (1 : Int32) σ) (fun r3 =>
    bd1 (
    if r3 = c1 then
    (nm ((v2 ||| ((1 : Int32) <<< (v3 &&& 31)))) (fun x8 =>
    some (x8)))
    else
    (some (v2))) (fun o6 =>
    nm (v3 + (1 : Int32)) (fun x7 =>
    m_X2_sayingsOfRoom_L4 k0 c1 σ kx n x7 o6))))
def m_X2_sayingsOfRoom (k0 : Nat) (a1 : Int32) (σ : Sg) : Option (Int32) :=
    nm ((0 : Int32)) (fun x1 =>
    nm ((0 : Int32)) (fun x2 =>
    m_X2_sayingsOfRoom_L4 k0 a1 σ (fun _ => none) 1000 x2 x1))

def m_X7_isIn (a0 : Int32) (a1 : Int32) (σ : Sg) : Option (Int32) :=
    if ((a0 >>> (a1 &&& 31)) &&& (1 : Int32)) = (1 : Int32) then
    (some (1 : Int32))
    else
    (some (0 : Int32))

def m_X3_loudness (a0 : Int32) (a1 : Int32) (a2 : Int32) (σ : Sg) : Option (Int32) :=
    nm ((a1 - (a2 / (4 : Int32)))) (fun x1 =>
    bd1 (
    if x1 ≤ 0 then
    (some ((0 : Int32)))
    else
    (some (x1))) (fun o3 =>
    nm (((o3 + (1 : Int32)) / (2 : Int32))) (fun x4 =>
    bd1 (
    if (2 : Int32) < a2 then
    (some (o3))
    else
    (some ((o3 + (4 : Int32))))) (fun o6 =>
    if a0 = 1 then
    (some x4)
    else
    (if a0 = 2 then
    (some o6)
    else
    (if a0 = 3 then
    (if a2 < (20 : Int32) then
    (some x4)
    else
    (some (x4 + (3 : Int32))))
    else
    (if a0 = 4 then
    (if (a2 - a2 / (5 : Int32) * (5 : Int32)) = 0 then
    (some o3)
    else
    (some (0 : Int32)))
    else
    (if a0 = 5 then
    (if (a2 - a2 / (2 : Int32) * (2 : Int32)) = 0 then
    (some o6)
    else
    (some (0 : Int32)))
    else
    (some o3)))))))))

def m_X2_loudnessOfSet_L5 (k0 : Nat) (c1 : Int32) (c2 : Int32) (σ : Sg) (kx : Unit → Option (Int32)) : Nat → Int32 → Int32 → Option (Int32)
  | 0, _, _ => none
  | n + 1, v4, v3 =>
    if (σ.1 (k0 + 1) 3) ≤ v4 then
    (some v3)
    else
    (bd1 (m_X7_isIn c1 v4 σ) (fun r3 =>
    bd1 (
    if r3 = 0 then
    (some (v3))
    else
    (bd1 (m_X6_get (k0 + 1) v4 (0 : Int32) σ) (fun r8 =>
    bd1 (m_X6_get (k0 + 1) v4 (2 : Int32) σ) (fun r10 =>
    bd1 (m_X3_loudness r8 r10 c2 σ) (fun r12 =>
    nm ((v3 + r12)) (fun x14 =>
    some (x14))))))) (fun o6 =>
    nm (v4 + (1 : Int32)) (fun x7 =>
    m_X2_loudnessOfSet_L5 k0 c1 c2 σ kx n x7 o6))))
def m_X2_loudnessOfSet (k0 : Nat) (a1 : Int32) (a2 : Int32) (σ : Sg) : Option (Int32) :=
    nm ((0 : Int32)) (fun x1 =>
    nm ((0 : Int32)) (fun x2 =>
    m_X2_loudnessOfSet_L5 k0 a1 a2 σ (fun _ => none) 1000 x2 x1))

def m_X0_fitsTold_L2 (k0 : Nat) (c1 : Int32) (c2 : Int32) (σ : Sg) (kx : Unit → Option (Int32)) : Nat → Int32 → Option (Int32)
  | 0, _ => none
  | n + 1, v3 =>
    if (σ.1 (k0 + 7) 3) ≤ v3 then
    (some (1 : Int32))
    else
    (bd1 (m_X6_get (k0 + 7) v3 (0 : Int32) σ) (fun r2 =>
    bd1 (
    if r2 = c1 then
    (some ((1 : Int32)))
    else
    (some ((0 : Int32)))) (fun o5 =>
    if o5 = 0 then
    (nm (v3 + (1 : Int32)) (fun x6 =>
    m_X0_fitsTold_L2 k0 c1 c2 σ kx n x6))
    else
    (bd1 (m_X6_get (k0 + 7) v3 (1 : Int32) σ) (fun r7 =>
    bd1 (m_X2_loudnessOfSet k0 c2 r7 σ) (fun r9 =>
    bd1 (m_X6_get (k0 + 7) v3 (2 : Int32) σ) (fun r11 =>
    if r9 = r11 then
    (nm (v3 + (1 : Int32)) (fun x13 =>
    m_X0_fitsTold_L2 k0 c1 c2 σ kx n x13))
    else
    (some (0 : Int32)))))))))
def m_X0_fitsTold (k0 : Nat) (a1 : Int32) (a2 : Int32) (σ : Sg) : Option (Int32) :=
    nm ((0 : Int32)) (fun x1 =>
    m_X0_fitsTold_L2 k0 a1 a2 σ (fun _ => none) 1000 x1)

def m_X0_setsSaid_L18 {β : Type} (k0 : Nat) (c3 : Int32) (c1 : Int32) (c2 : Int32) (σ : Sg) (kx : Int32 → Int32 → Int32 → Option (β)) : Nat → Int32 → Int32 → Int32 → Int32 → Option (β)
  | 0, _, _, _, _ => none
  | n + 1, v7, v6, v5, v4 =>
    if (256 : Int32) ≤ v7 then
    (kx v6 v5 v4)
    else
    (bd3 (
    if (v7 &&& c3) = v7 then
    (bd1 (m_X0_fitsTold k0 c1 v7 σ) (fun r11 =>
    if r11 = 0 then
    (some (v4, v5, v6))
    else
    (nm (v4 + (1 : Int32)) (fun x13 =>
    nm ((v5 &&& v7)) (fun x14 =>
    nm ((v6 ||| v7)) (fun x15 =>
    some (x13, x14, x15)))))))
    else
    (some (v4, v5, v6))) (fun o7 o8 o9 =>
    nm (v7 + (1 : Int32)) (fun x10 =>
    m_X0_setsSaid_L18 k0 c3 c1 c2 σ kx n x10 o9 o8 o7)))
def m_X0_setsSaid (k0 : Nat) (a1 : Int32) (a2 : Int32) (σ : Sg) : Option (Int32) :=
    bd1 (m_X2_sayingsOfRoom k0 a1 σ) (fun r1 =>
    nm ((0 : Int32)) (fun x3 =>
    nm ((0 : Int32)) (fun x4 =>
    nm ((0 : Int32)) (fun x5 =>
    m_X0_setsSaid_L18 k0 r1 a1 a2 σ (fun x16 x17 x18 =>
    if a2 = 0 then
    (some x18)
    else
    (if a2 = (1 : Int32) then
    (if x18 = 0 then
    (some (-1 : Int32))
    else
    (some x17))
    else
    (some x16))) 1000 x5 x4 r1 x3))))

def m_X0_fitsNotes_L2 (k0 : Nat) (c1 : Int32) (c2 : Int32) (σ : Sg) (kx : Unit → Option (Int32)) : Nat → Int32 → Option (Int32)
  | 0, _ => none
  | n + 1, v3 =>
    if (σ.1 (k0 + 9) 3) ≤ v3 then
    (some (1 : Int32))
    else
    (bd1 (m_X6_get (k0 + 9) v3 (1 : Int32) σ) (fun r2 =>
    bd1 (m_X6_get (k0 + 9) v3 (2 : Int32) σ) (fun r4 =>
    bd1 (m_X3_loudness c2 r2 r4 σ) (fun r6 =>
    bd1 (m_X6_get (k0 + 9) v3 (0 : Int32) σ) (fun r8 =>
    if r8 = c1 then
    (bd1 (m_X6_get (k0 + 9) v3 (3 : Int32) σ) (fun r11 =>
    if r6 = r11 then
    (nm (v3 + (1 : Int32)) (fun x13 =>
    m_X0_fitsNotes_L2 k0 c1 c2 σ kx n x13))
    else
    (some (0 : Int32))))
    else
    (nm (v3 + (1 : Int32)) (fun x10 =>
    m_X0_fitsNotes_L2 k0 c1 c2 σ kx n x10)))))))
def m_X0_fitsNotes (k0 : Nat) (a1 : Int32) (a2 : Int32) (σ : Sg) : Option (Int32) :=
    nm ((0 : Int32)) (fun x1 =>
    m_X0_fitsNotes_L2 k0 a1 a2 σ (fun _ => none) 1000 x1)

def m_X0_sayingKinds_L4 (k0 : Nat) (c1 : Int32) (σ : Sg) (kx : Unit → Option (Int32)) : Nat → Int32 → Int32 → Option (Int32)
  | 0, _, _ => none
  | n + 1, v3, v2 =>
    if (6 : Int32) ≤ v3 then
    (some v2)
    else
    (bd1 (m_X0_fitsNotes k0 c1 v3 σ) (fun r3 =>
    bd1 (
    if r3 = 0 then
    (some (v2))
    else
    (nm ((v2 ||| ((1 : Int32) <<< (v3 &&& 31)))) (fun x8 =>
    some (x8)))) (fun o6 =>
    nm (v3 + (1 : Int32)) (fun x7 =>
    m_X0_sayingKinds_L4 k0 c1 σ kx n x7 o6))))
def m_X0_sayingKinds (k0 : Nat) (a1 : Int32) (σ : Sg) : Option (Int32) :=
    nm ((0 : Int32)) (fun x1 =>
    nm ((0 : Int32)) (fun x2 =>
    m_X0_sayingKinds_L4 k0 a1 σ (fun _ => none) 1000 x2 x1))

def m_X0_asLoudAs_L14  (c4 : Int32) (c1 : Int32) (c2 : Int32) (c3 : Int32) (σ : Sg) (kx : Unit → Option (Int32)) : Nat → Int32 → Int32 → Option (Int32)
  | 0, _, _ => none
  | n + 1, v6, v5 =>
    if (6 : Int32) ≤ v6 then
    (some v5)
    else
    (bd1 (m_X7_isIn c1 v6 σ) (fun r5 =>
    bd1 (
    if r5 = 0 then
    (some (v5))
    else
    (bd1 (m_X3_loudness v6 c2 c3 σ) (fun r10 =>
    if r10 = c4 then
    (nm (v5 + (1 : Int32)) (fun x12 =>
    some (x12)))
    else
    (some (v5))))) (fun o8 =>
    nm (v6 + (1 : Int32)) (fun x9 =>
    m_X0_asLoudAs_L14 c4 c1 c2 c3 σ kx n x9 o8))))
def m_X0_asLoudAs (a0 : Int32) (a1 : Int32) (a2 : Int32) (a3 : Int32) (σ : Sg) : Option (Int32) :=
    bd1 (m_X3_loudness a0 a2 a3 σ) (fun r1 =>
    nm ((0 : Int32)) (fun x3 =>
    nm ((0 : Int32)) (fun x4 =>
    m_X0_asLoudAs_L14 r1 a1 a2 a3 σ (fun _ => none) 1000 x4 x3)))

def m_X0_mostAlike_L5  (c0 : Int32) (c1 : Int32) (c2 : Int32) (σ : Sg) (kx : Unit → Option (Int32)) : Nat → Int32 → Int32 → Option (Int32)
  | 0, _, _ => none
  | n + 1, v4, v3 =>
    if (6 : Int32) ≤ v4 then
    (some v3)
    else
    (bd1 (m_X7_isIn c0 v4 σ) (fun r3 =>
    bd1 (
    if r3 = 0 then
    (some (v3))
    else
    (bd1 (m_X0_asLoudAs v4 c0 c1 c2 σ) (fun r8 =>
    nm (if v3 < r8 then r8 else v3) (fun x10 =>
    some (x10))))) (fun o6 =>
    nm (v4 + (1 : Int32)) (fun x7 =>
    m_X0_mostAlike_L5 c0 c1 c2 σ kx n x7 o6))))
def m_X0_mostAlike (a0 : Int32) (a1 : Int32) (a2 : Int32) (σ : Sg) : Option (Int32) :=
    nm ((0 : Int32)) (fun x1 =>
    nm ((0 : Int32)) (fun x2 =>
    m_X0_mostAlike_L5 a0 a1 a2 σ (fun _ => none) 1000 x2 x1))

def m_X0_nextLook_L32 (k0 : Nat) (c3 : Int32) (c2 : Int32) (σ : Sg) (kx : Unit → Option (Int32)) : Nat → Int32 → Int32 → Int32 → Option (Int32)
  | 0, _, _, _ => none
  | n + 1, v6, v5, v4 =>
    if (30 : Int32) ≤ v6 then
    (some v5)
    else
    (bd1 (m_X0_mostAlike c2 c3 v6 σ) (fun r8 =>
    bd2 (
    if v4 ≤ r8 then
    (some (v4, v5))
    else
    (some (r8, v6))) (fun o11 o12 =>
    nm (v6 + (1 : Int32)) (fun x13 =>
    m_X0_nextLook_L32 k0 c3 c2 σ kx n x13 o12 o11))))
def m_X0_nextLook (k0 : Nat) (a1 : Int32) (σ : Sg) : Option (Int32) :=
    bd1 (m_X0_sayingKinds k0 a1 σ) (fun r1 =>
    if r1 = 0 then
    (some (-1 : Int32))
    else
    (bd1 (m_X6_get (k0 + 1) a1 (2 : Int32) σ) (fun r3 =>
    nm ((7 : Int32)) (fun x5 =>
    nm ((-1 : Int32)) (fun x6 =>
    nm ((0 : Int32)) (fun x7 =>
    m_X0_nextLook_L32 k0 r3 r1 σ (fun _ => none) 1000 x7 x6 x5))))))

def m_X3_heard (a0 : Int32) (a1 : Int32) (a2 : Int32) (σ : Sg) : Option (Int32) :=
    nm ((a1 - (a2 / (4 : Int32)))) (fun x1 =>
    nm ((x1 - (3 : Int32))) (fun x2 =>
    bd1 (
    if a1 < (1 : Int32) then
    (some ((0 : Int32)))
    else
    (some ((2 : Int32)))) (fun o4 =>
    nm ((x1 + o4)) (fun x5 =>
    if a0 = 1 then
    (some x2)
    else
    (if a0 = 2 then
    (some x5)
    else
    (if a0 = 3 then
    (if a2 ≤ (12 : Int32) then
    (some x2)
    else
    (some (x2 + (2 : Int32))))
    else
    (if a0 = 4 then
    (if x5 ≤ (4 : Int32) then
    (some x5)
    else
    (some (4 : Int32)))
    else
    (if a0 = 5 then
    (some ((a1 - ((a2 / (2 : Int32)) / (4 : Int32))) + o4))
    else
    (some x1)))))))))

def m_X3_hears (a0 : Int32) (a1 : Int32) (a2 : Int32) (σ : Sg) : Option (Int32) :=
    bd1 (m_X3_heard a0 a1 a2 σ) (fun r1 =>
    if r1 < (1 : Int32) then
    (some (0 : Int32))
    else
    (some (1 : Int32)))

def m_X0_fitsMarks_L2 (k0 : Nat) (c1 : Int32) (c2 : Int32) (σ : Sg) (kx : Unit → Option (Int32)) : Nat → Int32 → Option (Int32)
  | 0, _ => none
  | n + 1, v3 =>
    if (σ.1 (k0 + 11) 3) ≤ v3 then
    (some (1 : Int32))
    else
    (bd1 (m_X6_get (k0 + 11) v3 (1 : Int32) σ) (fun r2 =>
    bd1 (m_X6_get (k0 + 11) v3 (2 : Int32) σ) (fun r4 =>
    bd1 (m_X3_hears c2 r2 r4 σ) (fun r6 =>
    bd1 (m_X6_get (k0 + 11) v3 (3 : Int32) σ) (fun r8 =>
    bd1 (
    if r8 = (1 : Int32) then
    (some ((1 : Int32)))
    else
    (some ((0 : Int32)))) (fun o11 =>
    bd1 (m_X6_get (k0 + 11) v3 (0 : Int32) σ) (fun r12 =>
    if r12 = c1 then
    (if r6 = o11 then
    (nm (v3 + (1 : Int32)) (fun x15 =>
    m_X0_fitsMarks_L2 k0 c1 c2 σ kx n x15))
    else
    (some (0 : Int32)))
    else
    (nm (v3 + (1 : Int32)) (fun x14 =>
    m_X0_fitsMarks_L2 k0 c1 c2 σ kx n x14)))))))))
def m_X0_fitsMarks (k0 : Nat) (a1 : Int32) (a2 : Int32) (σ : Sg) : Option (Int32) :=
    nm ((0 : Int32)) (fun x1 =>
    m_X0_fitsMarks_L2 k0 a1 a2 σ (fun _ => none) 1000 x1)

def m_X0_listenerKinds_L4 (k0 : Nat) (c1 : Int32) (σ : Sg) (kx : Unit → Option (Int32)) : Nat → Int32 → Int32 → Option (Int32)
  | 0, _, _ => none
  | n + 1, v3, v2 =>
    if (6 : Int32) ≤ v3 then
    (some v2)
    else
    (bd1 (m_X0_fitsMarks k0 c1 v3 σ) (fun r3 =>
    bd1 (
    if r3 = 0 then
    (some (v2))
    else
    (nm ((v2 ||| ((1 : Int32) <<< (v3 &&& 31)))) (fun x8 =>
    some (x8)))) (fun o6 =>
    nm (v3 + (1 : Int32)) (fun x7 =>
    m_X0_listenerKinds_L4 k0 c1 σ kx n x7 o6))))
def m_X0_listenerKinds (k0 : Nat) (a1 : Int32) (σ : Sg) : Option (Int32) :=
    nm ((0 : Int32)) (fun x1 =>
    nm ((0 : Int32)) (fun x2 =>
    m_X0_listenerKinds_L4 k0 a1 σ (fun _ => none) 1000 x2 x1))

def m_J6_bitCount_0f7a4 (a0 : Int32) (σ : Sg) : Option (Int32) :=
    nm ((a0 - (((Int32.toUInt32 a0 >>> (Int32.toUInt32 (1 : Int32) &&& Int32.toUInt32 31)).toInt32) &&& (1431655765 : Int32)))) (fun x1 =>
    nm (((x1 &&& (858993459 : Int32)) + (((Int32.toUInt32 x1 >>> (Int32.toUInt32 (2 : Int32) &&& Int32.toUInt32 31)).toInt32) &&& (858993459 : Int32)))) (fun x2 =>
    nm (((x2 + ((Int32.toUInt32 x2 >>> (Int32.toUInt32 (4 : Int32) &&& Int32.toUInt32 31)).toInt32)) &&& (252645135 : Int32))) (fun x3 =>
    nm ((x3 + ((Int32.toUInt32 x3 >>> (Int32.toUInt32 (8 : Int32) &&& Int32.toUInt32 31)).toInt32))) (fun x4 =>
    nm ((x4 + ((Int32.toUInt32 x4 >>> (Int32.toUInt32 (16 : Int32) &&& Int32.toUInt32 31)).toInt32))) (fun x5 =>
    some (x5 &&& (63 : Int32)))))))

def m_X0_greaterPart_L5 {β : Type}  (c0 : Int32) (c1 : Int32) (c2 : Int32) (σ : Sg) (kx : Int32 → Option (β)) : Nat → Int32 → Int32 → Option (β)
  | 0, _, _ => none
  | n + 1, v4, v3 =>
    if (6 : Int32) ≤ v4 then
    (kx v3)
    else
    (bd1 (m_X7_isIn c0 v4 σ) (fun r3 =>
    bd1 (
    if r3 = 0 then
    (some (v3))
    else
    (bd1 (m_X3_hears v4 c1 c2 σ) (fun r8 =>
    if r8 = 0 then
    (some (v3))
    else
    (nm (v3 + (1 : Int32)) (fun x10 =>
    some (x10)))))) (fun o6 =>
    nm (v4 + (1 : Int32)) (fun x7 =>
    m_X0_greaterPart_L5 c0 c1 c2 σ kx n x7 o6))))
def m_X0_greaterPart (a0 : Int32) (a1 : Int32) (a2 : Int32) (σ : Sg) : Option (Int32) :=
    nm ((0 : Int32)) (fun x1 =>
    nm ((0 : Int32)) (fun x2 =>
    m_X0_greaterPart_L5 a0 a1 a2 σ (fun x11 =>
    bd1 (m_J6_bitCount_0f7a4 a0 σ) (fun r12 =>
    nm (if x11 < (r12 - x11) then (r12 - x11) else x11) (fun x14 =>
    some x14))) 1000 x2 x1))

def m_X0_nextQuestion_L31 {β : Type} (k0 : Nat) (c5 : Int32) (c2 : Int32) (σ : Sg) (kx : Int32 → Int32 → Option (β)) : Nat → Int32 → Int32 → Int32 → Option (β)
  | 0, _, _, _ => none
  | n + 1, v6, v4, v3 =>
    if (60 : Int32) < v6 then
    (kx v4 v3)
    else
    (bd1 (m_X0_greaterPart c2 c5 v6 σ) (fun r7 =>
    bd2 (
    if v3 ≤ r7 then
    (some (v3, v4))
    else
    (nm ((((100 : Int32) * c5) + v6)) (fun x13 =>
    some (r7, x13)))) (fun o10 o11 =>
    nm (v6 + (1 : Int32)) (fun x12 =>
    m_X0_nextQuestion_L31 k0 c5 c2 σ kx n x12 o11 o10))))
def m_X0_nextQuestion_L21 (k0 : Nat) (c2 : Int32) (σ : Sg) (kx : Unit → Option (Int32)) : Nat → Int32 → Int32 → Int32 → Option (Int32)
  | 0, _, _, _ => none
  | n + 1, v5, v4, v3 =>
    if (9 : Int32) < v5 then
    (some v4)
    else
    (nm ((0 : Int32)) (fun x6 =>
    m_X0_nextQuestion_L31 k0 v5 c2 σ (fun x14 x15 =>
    nm (v5 + (1 : Int32)) (fun x16 =>
    m_X0_nextQuestion_L21 k0 c2 σ kx n x16 x14 x15)) 1000 x6 v4 v3))
def m_X0_nextQuestion (k0 : Nat) (a1 : Int32) (σ : Sg) : Option (Int32) :=
    bd1 (m_X0_listenerKinds k0 a1 σ) (fun r1 =>
    if r1 = 0 then
    (some (-1 : Int32))
    else
    (nm ((7 : Int32)) (fun x3 =>
    nm ((-1 : Int32)) (fun x4 =>
    nm ((0 : Int32)) (fun x5 =>
    m_X0_nextQuestion_L21 k0 r1 σ (fun _ => none) 1000 x5 x4 x3)))))

def m_X2_isStripped (k0 : Nat) (a1 : Int32) (σ : Sg) : Option (Int32) :=
    bd1 (m_X6_get (k0 + 5) a1 (0 : Int32) σ) (fun r1 =>
    if r1 ≤ 0 then
    (some (0 : Int32))
    else
    (some (1 : Int32)))

def m_X7_isSpeakingMinute (a0 : Int32) (σ : Sg) : Option (Int32) :=
    if a0 < 0 then
    (some (0 : Int32))
    else
    (if (30 : Int32) ≤ a0 then
    (some (0 : Int32))
    else
    (some (1 : Int32)))

def m_X2_roomMinute (k0 : Nat) (a1 : Int32) (a2 : Int32) (σ : Sg) : Option (Int32) :=
    bd1 (m_X6_get (k0 + 5) a1 (0 : Int32) σ) (fun r1 =>
    nm (((((σ.1 k0 0) + a2) + (1 : Int32)) - r1)) (fun x3 =>
    bd1 (m_X2_isStripped k0 a1 σ) (fun r4 =>
    if r4 = 0 then
    (some (-1 : Int32))
    else
    (bd1 (m_X7_isSpeakingMinute x3 σ) (fun r6 =>
    if r6 = 0 then
    (some (-1 : Int32))
    else
    (some x3))))))

def m_X1_commonDivisor_L9   (σ : Sg) (kx : Unit → Option (Int64)) : Nat → Int32 → Int64 → Int64 → Option (Int64)
  | 0, _, _, _ => none
  | n + 1, v8, v6, v4 =>
    if (200 : Int32) ≤ v8 then
    (some v4)
    else
    (if (lg_cmp v6 (0 : Int64)) = 0 then
    (some v4)
    else
    (if v6 = 0 then none else
    (nm ((v4 - v4 / v6 * v6)) (fun x2 =>
    nm (v8 + (1 : Int32)) (fun x3 =>
    m_X1_commonDivisor_L9 σ kx n x3 x2 v6)))))
def m_X1_commonDivisor (a0 : Int64) (a2 : Int64) (σ : Sg) : Option (Int64) :=
    nm ((0 : Int32)) (fun x1 =>
    m_X1_commonDivisor_L9 σ (fun _ => none) 1000 x1 a2 a0)

def m_X1_become (a1 : Int64) (a3 : Int64) (σ : Sg) : Option (Sg) :=
    bd1 (m_X1_commonDivisor a1 a3 σ) (fun r1 =>
    if (lg_cmp r1 (0 : Int64)) ≤ 0 then
    (some σ)
    else
    (if r1 = 0 then none else
    (nm (sl σ 67 0 (a1 / r1)) (fun σ3 =>
    if r1 = 0 then none else
    (nm (sl σ3 67 1 (a3 / r1)) (fun σ4 =>
    some σ4))))))

def m_X2_loudness (k0 : Nat) (a1 : Int32) (a2 : Int32) (σ : Sg) : Option (Int32) :=
    bd1 (m_X6_get (k0 + 1) a1 (0 : Int32) σ) (fun r1 =>
    bd1 (m_X6_get (k0 + 1) a1 (2 : Int32) σ) (fun r3 =>
    bd1 (m_X3_loudness r1 r3 a2 σ) (fun r5 =>
    some r5)))

def m_X1_power_L5  (c0 : Int32) (c1 : Int32) (σ : Sg) (kx : Unit → Option (Int64)) : Nat → Int32 → Int64 → Option (Int64)
  | 0, _, _ => none
  | n + 1, v4, v2 =>
    if c1 ≤ v4 then
    (some v2)
    else
    (nm ((v2 * (Int32.toInt64 c0))) (fun x3 =>
    nm (v4 + (1 : Int32)) (fun x4 =>
    m_X1_power_L5 c0 c1 σ kx n x4 x3)))
def m_X1_power (a0 : Int32) (a1 : Int32) (σ : Sg) : Option (Int64) :=
    nm ((1 : Int64)) (fun x1 =>
    nm ((0 : Int32)) (fun x2 =>
    m_X1_power_L5 a0 a1 σ (fun _ => none) 1000 x2 x1))

def m_X1_becomeChance_L88 {β : Type} (k1 : Nat) (c10 : Int32) (c9 : Int32) (c8 : Int32) (c7 : Int32) (c6 : Int32) (c3 : Int32) (c4 : Int32) (σ : Sg) (kx : Int64 → Option (β)) : Nat → Int32 → Int64 → Option (β)
  | 0, _, _ => none
  | n + 1, v13, v11 =>
    if (256 : Int32) ≤ v13 then
    (kx v11)
    else
    (bd1 (
    if (v13 &&& c7) = v13 then
    (bd1 (m_X7_isIn v13 c3 σ) (fun r35 =>
    if r35 = 0 then
    (some ((0 : Int32)))
    else
    (some ((1 : Int32)))))
    else
    (some ((0 : Int32)))) (fun o20 =>
    bd1 (
    if o20 = 0 then
    (some (v11))
    else
    (bd1 (m_X2_loudnessOfSet k1 v13 c6 σ) (fun r24 =>
    bd1 (m_X3_hears c9 c10 (r24 - c10) σ) (fun r26 =>
    if r26 = 0 then
    (some (v11))
    else
    (bd1 (m_J6_bitCount_0f7a4 v13 σ) (fun r28 =>
    bd1 (m_X1_power c4 (c8 - r28) σ) (fun r30 =>
    bd1 (m_X1_power ((10 : Int32) - c4) r28 σ) (fun r32 =>
    nm ((v11 + (r30 * r32))) (fun x34 =>
    some (x34)))))))))) (fun o22 =>
    nm (v13 + (1 : Int32)) (fun x23 =>
    m_X1_becomeChance_L88 k1 c10 c9 c8 c7 c6 c3 c4 σ kx n x23 o22))))
def m_X1_becomeChance (k1 : Nat) (a2 : Int32) (a3 : Int32) (a4 : Int32) (σ : Sg) : Option (Sg) :=
    bd1 (m_X6_get (k1 + 3) a2 (1 : Int32) σ) (fun r1 =>
    bd1 (m_X2_roomMinute k1 r1 (0 : Int32) σ) (fun r3 =>
    if r3 = (-1 : Int32) then
    (bd1 (m_X1_become (0 : Int64) (1 : Int64) σ) (fun σ5 =>
    some σ5))
    else
    (bd1 (m_X6_get (k1 + 1) a3 (1 : Int32) σ) (fun r7 =>
    if r7 = r1 then
    (bd1 (m_X2_sayingsOfRoom k1 r1 σ) (fun r9 =>
    bd1 (m_J6_bitCount_0f7a4 r9 σ) (fun r11 =>
    bd1 (m_X6_get (k1 + 3) a2 (0 : Int32) σ) (fun r13 =>
    bd1 (m_X2_loudness k1 a3 r3 σ) (fun r15 =>
    nm ((0 : Int64)) (fun x17 =>
    nm ((0 : Int32)) (fun x18 =>
    m_X1_becomeChance_L88 k1 r15 r13 r11 r9 r3 a3 a4 σ (fun x37 =>
    bd1 (m_X1_power (10 : Int32) r11 σ) (fun r38 =>
    bd1 (m_X1_become x37 r38 σ) (fun σ40 =>
    some σ40))) 1000 x18 x17)))))))
    else
    (bd1 (m_X1_become (0 : Int64) (1 : Int64) σ) (fun σ42 =>
    some σ42))))))

def m_X6_empty (k0 : Nat) (σ : Sg) : Option (Int32 × Sg) :=
    nm ((σ.1 k0 3)) (fun x1 =>
    nm (si σ k0 3 (0 : Int32)) (fun σ2 =>
    some (x1, σ2)))

def m_X6_set (k0 : Nat) (a1 : Int32) (a2 : Int32) (a3 : Int32) (σ : Sg) : Option (Sg) :=
    nm (((a1 * (σ.1 k0 1)) + a2)) (fun x1 =>
    if a2 < 0 then
    (some σ)
    else
    (if (σ.1 k0 1) ≤ a2 then
    (some σ)
    else
    (if x1 < 0 then
    (some σ)
    else
    (if (nI (len (k0 + 1))) ≤ x1 then
    (some σ)
    else
    (if (x1 < 0 ∨ len (k0 + 1) ≤ x1.toNatClampNeg) then none else
    (nm (si σ (k0 + 1) x1.toNatClampNeg a3) (fun σ2 =>
    some σ2)))))))

def m_X2_paper (k0 : Nat) (a1 : Int32) (σ : Sg) : Option (Sg) :=
    bd1 (m_X6_set (k0 + 5) a1 (0 : Int32) (0 : Int32) σ) (fun σ1 =>
    some σ1)

def m_X2_reset_L23 {β : Type} (k0 : Nat)  (kx : Sg → Option (β)) : Nat → Int32 → Sg → Option (β)
  | 0, _, _ => none
  | n + 1, v1, σ =>
    if (4 : Int32) ≤ v1 then
    (kx σ)
    else
    (bd1 (m_X2_paper k0 v1 σ) (fun σ9 =>
    nm (v1 + (1 : Int32)) (fun x11 =>
    m_X2_reset_L23 k0 kx n x11 σ9)))
def m_X2_reset (k0 : Nat) (σ : Sg) : Option (Sg) :=
    nm (si σ k0 0 (0 : Int32)) (fun σ1 =>
    bd2 (m_X6_empty (k0 + 1) σ1) (fun r2 σ3 =>
    bd2 (m_X6_empty (k0 + 3) σ3) (fun r5 σ6 =>
    nm ((0 : Int32)) (fun x8 =>
    m_X2_reset_L23 k0 (fun σ12 =>
    bd2 (m_X6_empty (k0 + 7) σ12) (fun r13 σ14 =>
    bd2 (m_X6_empty (k0 + 9) σ14) (fun r16 σ17 =>
    bd2 (m_X6_empty (k0 + 11) σ17) (fun r19 σ20 =>
    bd2 (m_X6_empty (k0 + 13) σ20) (fun r22 σ23 =>
    some σ23))))) 1000 x8 σ6))))

def m_X6_copy_L7 {β : Type} (k0 : Nat) (k1 : Nat)  (kx : Sg → Option (β)) : Nat → Int32 → Sg → Option (β)
  | 0, _, _ => none
  | n + 1, v2, σ =>
    if (nI (len (k0 + 1))) ≤ v2 then
    (kx σ)
    else
    (if (nI (len (k1 + 1))) ≤ v2 then
    (kx σ)
    else
    (if (v2 < 0 ∨ len (k1 + 1) ≤ v2.toNatClampNeg) then none else
    (if (v2 < 0 ∨ len (k0 + 1) ≤ v2.toNatClampNeg) then none else
    (nm (si σ (k0 + 1) v2.toNatClampNeg (σ.1 (k1 + 1) v2.toNatClampNeg)) (fun σ2 =>
    nm (v2 + (1 : Int32)) (fun x3 =>
    m_X6_copy_L7 k0 k1 kx n x3 σ2))))))
def m_X6_copy (k0 : Nat) (k1 : Nat) (σ : Sg) : Option (Sg) :=
    nm ((0 : Int32)) (fun x1 =>
    m_X6_copy_L7 k0 k1 (fun σ4 =>
    nm (if (σ4.1 k0 0) < (σ4.1 k1 3) then (σ4.1 k0 0) else (σ4.1 k1 3)) (fun x5 =>
    nm (si σ4 k0 3 x5) (fun σ6 =>
    some σ6))) 1000 x1 σ)

def m_X2_copy (k0 : Nat) (k1 : Nat) (σ : Sg) : Option (Sg) :=
    nm (si σ k0 0 (σ.1 k1 0)) (fun σ1 =>
    bd1 (m_X6_copy (k0 + 1) (k1 + 1) σ1) (fun σ2 =>
    bd1 (m_X6_copy (k0 + 3) (k1 + 3) σ2) (fun σ4 =>
    bd1 (m_X6_copy (k0 + 5) (k1 + 5) σ4) (fun σ6 =>
    bd1 (m_X6_copy (k0 + 7) (k1 + 7) σ6) (fun σ8 =>
    bd1 (m_X6_copy (k0 + 9) (k1 + 9) σ8) (fun σ10 =>
    bd1 (m_X6_copy (k0 + 11) (k1 + 11) σ10) (fun σ12 =>
    bd1 (m_X6_copy (k0 + 13) (k1 + 13) σ12) (fun σ14 =>
    some σ14))))))))

def m_X6_isFull (k0 : Nat) (σ : Sg) : Option (Int32) :=
    if (σ.1 k0 3) < (σ.1 k0 0) then
    (some (0 : Int32))
    else
    (some (1 : Int32))

def m_X6_add (k0 : Nat) (a1 : Int32) (a2 : Int32) (a3 : Int32) (a4 : Int32) (σ : Sg) : Option (Int32 × Sg) :=
    bd1 (m_X6_isFull k0 σ) (fun r1 =>
    if r1 = 0 then
    (nm ((σ.1 k0 3)) (fun x3 =>
    nm (si σ k0 3 ((σ.1 k0 3) + (1 : Int32))) (fun σ4 =>
    bd1 (m_X6_set k0 x3 (0 : Int32) a1 σ4) (fun σ5 =>
    bd1 (m_X6_set k0 x3 (1 : Int32) a2 σ5) (fun σ7 =>
    bd1 (m_X6_set k0 x3 (2 : Int32) a3 σ7) (fun σ9 =>
    bd1 (m_X6_set k0 x3 (3 : Int32) a4 σ9) (fun σ11 =>
    some (x3, σ11))))))))
    else
    (some ((-1 : Int32), σ)))

def m_X2_addSaying (k0 : Nat) (a1 : Int32) (a2 : Int32) (a3 : Int32) (σ : Sg) : Option (Int32 × Sg) :=
    bd2 (m_X6_empty (k0 + 13) σ) (fun r1 σ2 =>
    bd2 (m_X6_add (k0 + 1) a1 a2 a3 (0 : Int32) σ2) (fun r4 σ5 =>
    some (r4, σ5)))

def m_X2_addListener (k0 : Nat) (a1 : Int32) (a2 : Int32) (σ : Sg) : Option (Int32 × Sg) :=
    bd2 (m_X6_empty (k0 + 13) σ) (fun r1 σ2 =>
    bd2 (m_X6_add (k0 + 3) a1 a2 (0 : Int32) (0 : Int32) σ2) (fun r4 σ5 =>
    some (r4, σ5)))

def m_X2_strip (k0 : Nat) (a1 : Int32) (σ : Sg) : Option (Sg) :=
    bd1 (m_X6_set (k0 + 5) a1 (0 : Int32) ((σ.1 k0 0) + (1 : Int32)) σ) (fun σ1 =>
    some σ1)

def m_X2_strippedRooms_L4 (k0 : Nat)  (σ : Sg) (kx : Unit → Option (Int32)) : Nat → Int32 → Int32 → Option (Int32)
  | 0, _, _ => none
  | n + 1, v2, v1 =>
    if (4 : Int32) ≤ v2 then
    (some v1)
    else
    (bd1 (m_X2_isStripped k0 v2 σ) (fun r3 =>
    bd1 (
    if r3 = 0 then
    (some (v1))
    else
    (nm (v1 + (1 : Int32)) (fun x8 =>
    some (x8)))) (fun o6 =>
    nm (v2 + (1 : Int32)) (fun x7 =>
    m_X2_strippedRooms_L4 k0 σ kx n x7 o6))))
def m_X2_strippedRooms (k0 : Nat) (σ : Sg) : Option (Int32) :=
    nm ((0 : Int32)) (fun x1 =>
    nm ((0 : Int32)) (fun x2 =>
    m_X2_strippedRooms_L4 k0 σ (fun _ => none) 1000 x2 x1))

def m_X2_roomLoudness (k0 : Nat) (a1 : Int32) (σ : Sg) : Option (Int32) :=
    bd1 (m_X2_roomMinute k0 a1 (0 : Int32) σ) (fun r1 =>
    if r1 = (-1 : Int32) then
    (some (0 : Int32))
    else
    (bd1 (m_X2_sayingsOfRoom k0 a1 σ) (fun r3 =>
    bd1 (m_X2_loudnessOfSet k0 r3 r1 σ) (fun r5 =>
    some r5))))

def m_X2_heardIn_L40 (k0 : Nat) (c6 : Int32) (c5 : Int32) (c4 : Int32) (c3 : Int32) (σ : Sg) (kx : Unit → Option (Int32)) : Nat → Int32 → Int32 → Option (Int32)
  | 0, _, _ => none
  | n + 1, v8, v7 =>
    if (σ.1 (k0 + 1) 3) ≤ v8 then
    (some v7)
    else
    (bd1 (m_X2_loudness k0 v8 c3 σ) (fun r9 =>
    bd1 (m_X7_isIn c4 v8 σ) (fun r11 =>
    bd1 (
    if r11 = 0 then
    (some (v7))
    else
    (bd1 (m_X3_hears c6 r9 (c5 - r9) σ) (fun r16 =>
    if r16 = 0 then
    (some (v7))
    else
    (nm ((v7 ||| ((1 : Int32) <<< (v8 &&& 31)))) (fun x18 =>
    some (x18)))))) (fun o14 =>
    nm (v8 + (1 : Int32)) (fun x15 =>
    m_X2_heardIn_L40 k0 c6 c5 c4 c3 σ kx n x15 o14)))))
def m_X2_heardIn (k0 : Nat) (a1 : Int32) (a2 : Int32) (a3 : Int32) (σ : Sg) : Option (Int32) :=
    if a3 = (-1 : Int32) then
    (some (0 : Int32))
    else
    (bd1 (m_X2_sayingsOfRoom k0 a2 σ) (fun r1 =>
    bd1 (m_X2_loudnessOfSet k0 r1 a3 σ) (fun r3 =>
    bd1 (m_X6_get (k0 + 3) a1 (0 : Int32) σ) (fun r5 =>
    nm ((0 : Int32)) (fun x7 =>
    nm ((0 : Int32)) (fun x8 =>
    m_X2_heardIn_L40 k0 r5 r3 r1 a3 σ (fun _ => none) 1000 x8 x7))))))

def m_X2_heardNow (k0 : Nat) (a1 : Int32) (σ : Sg) : Option (Int32) :=
    bd1 (m_X6_get (k0 + 3) a1 (1 : Int32) σ) (fun r1 =>
    bd1 (m_X2_roomMinute k0 r1 (0 : Int32) σ) (fun r3 =>
    bd1 (m_X2_heardIn k0 a1 r1 r3 σ) (fun r5 =>
    some r5)))

def m_X2_passMinutes_L18 {β : Type} (k0 : Nat) (c3 : Int32) (c1 : Int32) (c2 : Int32) (kx : Sg → Option (β)) : Nat → Int32 → Sg → Option (β)
  | 0, _, _ => none
  | n + 1, v4, σ =>
    if (σ.1 (k0 + 3) 3) ≤ v4 then
    (kx σ)
    else
    (bd1 (m_X6_get (k0 + 3) v4 (1 : Int32) σ) (fun r3 =>
    bd1 (m_X2_roomMinute k0 r3 (0 : Int32) σ) (fun r5 =>
    bd1 (m_X2_heardIn k0 v4 r3 r5 σ) (fun r7 =>
    bd1 (m_X6_get (k0 + 3) v4 (2 : Int32) σ) (fun r9 =>
    bd1 (m_X6_set (k0 + 3) v4 (2 : Int32) (r9 ||| r7) σ) (fun σ11 =>
    nm (v4 + (1 : Int32)) (fun x13 =>
    m_X2_passMinutes_L18 k0 c3 c1 c2 kx n x13 σ11)))))))
def m_X2_passMinutes_L2 (k0 : Nat) (c1 : Int32) (c2 : Int32) (kx : Sg → Option (Sg)) : Nat → Int32 → Sg → Option (Sg)
  | 0, _, _ => none
  | n + 1, v3, σ =>
    if c1 ≤ v3 then
    (some σ)
    else
    (if c2 ≤ (σ.1 k0 0) then
    (some σ)
    else
    (nm ((0 : Int32)) (fun x2 =>
    m_X2_passMinutes_L18 k0 v3 c1 c2 (fun σ14 =>
    nm (si σ14 k0 0 ((σ14.1 k0 0) + (1 : Int32))) (fun σ15 =>
    nm (v3 + (1 : Int32)) (fun x16 =>
    m_X2_passMinutes_L2 k0 c1 c2 kx n x16 σ15))) 1000 x2 σ)))
def m_X2_passMinutes (k0 : Nat) (a1 : Int32) (a2 : Int32) (σ : Sg) : Option (Sg) :=
    nm ((0 : Int32)) (fun x1 =>
    m_X2_passMinutes_L2 k0 a1 a2 (fun _ => none) 1000 x1 σ)

def m_X2_knownByAny_L4 (k0 : Nat)  (σ : Sg) (kx : Unit → Option (Int32)) : Nat → Int32 → Int32 → Option (Int32)
  | 0, _, _ => none
  | n + 1, v2, v1 =>
    if (σ.1 (k0 + 3) 3) ≤ v2 then
    (bd1 (m_J6_bitCount_0f7a4 v1 σ) (fun r3 =>
    some r3))
    else
    (bd1 (m_X6_get (k0 + 3) v2 (2 : Int32) σ) (fun r5 =>
    nm ((v1 ||| r5)) (fun x7 =>
    nm (v2 + (1 : Int32)) (fun x8 =>
    m_X2_knownByAny_L4 k0 σ kx n x8 x7))))
def m_X2_knownByAny (k0 : Nat) (σ : Sg) : Option (Int32) :=
    nm ((0 : Int32)) (fun x1 =>
    nm ((0 : Int32)) (fun x2 =>
    m_X2_knownByAny_L4 k0 σ (fun _ => none) 1000 x2 x1))

def m_X6_dropFirst_L2 {β : Type} (k0 : Nat)  (kx : Sg → Option (β)) : Nat → Int32 → Sg → Option (β)
  | 0, _, _ => none
  | n + 1, v1, σ =>
    if (nI (len (k0 + 1))) ≤ v1 then
    (kx σ)
    else
    (nm ((v1 + (σ.1 k0 1))) (fun x2 =>
    bd1 (
    if x2 < 0 then
    (some (σ))
    else
    (if (nI (len (k0 + 1))) ≤ x2 then
    (some (σ))
    else
    (if (x2 < 0 ∨ len (k0 + 1) ≤ x2.toNatClampNeg) then none else
    (if (v1 < 0 ∨ len (k0 + 1) ≤ v1.toNatClampNeg) then none else
    (nm (si σ (k0 + 1) v1.toNatClampNeg (σ.1 (k0 + 1) x2.toNatClampNeg)) (fun σ6 =>
    some (σ6))))))) (fun σ4 =>
    nm (v1 + (1 : Int32)) (fun x5 =>
    m_X6_dropFirst_L2 k0 kx n x5 σ4))))
def m_X6_dropFirst (k0 : Nat) (σ : Sg) : Option (Sg) :=
    nm ((0 : Int32)) (fun x1 =>
    m_X6_dropFirst_L2 k0 (fun σ7 =>
    nm (if (0 : Int32) < ((σ7.1 k0 3) - (1 : Int32)) then ((σ7.1 k0 3) - (1 : Int32)) else (0 : Int32)) (fun x8 =>
    nm (si σ7 k0 3 x8) (fun σ9 =>
    some σ9))) 1000 x1 σ)

def m_X2_remember_L34 {β : Type} (k0 : Nat) (c1 : Int32) (kx : Sg → Option (β)) : Nat → Int32 → Sg → Option (β)
  | 0, _, _ => none
  | n + 1, v2, σ =>
    if (4 : Int32) ≤ v2 then
    (kx σ)
    else
    (bd1 (m_X6_get (k0 + 5) v2 (0 : Int32) σ) (fun r9 =>
    bd1 (m_X6_set (k0 + 13) c1 ((1 : Int32) + v2) r9 σ) (fun σ11 =>
    nm (v2 + (1 : Int32)) (fun x13 =>
    m_X2_remember_L34 k0 c1 kx n x13 σ11))))
def m_X2_remember_L67 (k0 : Nat) (c1 : Int32) (kx : Sg → Option (Sg)) : Nat → Int32 → Sg → Option (Sg)
  | 0, _, _ => none
  | n + 1, v2, σ =>
    if (3 : Int32) ≤ v2 then
    (some σ)
    else
    (bd1 (m_X6_get (k0 + 3) v2 (1 : Int32) σ) (fun r16 =>
    bd1 (m_X6_set (k0 + 13) c1 ((5 : Int32) + v2) r16 σ) (fun σ18 =>
    bd1 (m_X6_get (k0 + 3) v2 (2 : Int32) σ18) (fun r20 =>
    bd1 (m_X6_set (k0 + 13) c1 ((8 : Int32) + v2) r20 σ18) (fun σ22 =>
    nm (v2 + (1 : Int32)) (fun x24 =>
    m_X2_remember_L67 k0 c1 kx n x24 σ22))))))
def m_X2_remember (k0 : Nat) (σ : Sg) : Option (Sg) :=
    bd1 (m_X6_isFull (k0 + 13) σ) (fun r1 =>
    bd1 (
    if r1 = 0 then
    (some (σ))
    else
    (bd1 (m_X6_dropFirst (k0 + 13) σ) (fun σ26 =>
    some (σ26)))) (fun σ4 =>
    bd2 (m_X6_add (k0 + 13) (σ4.1 k0 0) (0 : Int32) (0 : Int32) (0 : Int32) σ4) (fun r5 σ6 =>
    nm ((0 : Int32)) (fun x8 =>
    m_X2_remember_L34 k0 r5 (fun σ14 =>
    nm ((0 : Int32)) (fun x15 =>
    m_X2_remember_L67 k0 r5 (fun _ => none) 1000 x15 σ14)) 1000 x8 σ6))))

def m_X2_recall_L48 {β : Type} (k0 : Nat) (c1 : Int32) (kx : Sg → Option (β)) : Nat → Int32 → Sg → Option (β)
  | 0, _, _ => none
  | n + 1, v2, σ =>
    if (4 : Int32) ≤ v2 then
    (kx σ)
    else
    (bd1 (m_X6_get (k0 + 13) c1 ((1 : Int32) + v2) σ) (fun r7 =>
    bd1 (m_X6_set (k0 + 5) v2 (0 : Int32) r7 σ) (fun σ9 =>
    nm (v2 + (1 : Int32)) (fun x11 =>
    m_X2_recall_L48 k0 c1 kx n x11 σ9))))
def m_X2_recall_L81 (k0 : Nat) (c1 : Int32) (kx : Sg → Option (Sg)) : Nat → Int32 → Sg → Option (Sg)
  | 0, _, _ => none
  | n + 1, v2, σ =>
    if (3 : Int32) ≤ v2 then
    (some σ)
    else
    (bd1 (m_X6_get (k0 + 13) c1 ((5 : Int32) + v2) σ) (fun r14 =>
    bd1 (m_X6_set (k0 + 3) v2 (1 : Int32) r14 σ) (fun σ16 =>
    bd1 (m_X6_get (k0 + 13) c1 ((8 : Int32) + v2) σ16) (fun r18 =>
    bd1 (m_X6_set (k0 + 3) v2 (2 : Int32) r18 σ16) (fun σ20 =>
    nm (v2 + (1 : Int32)) (fun x22 =>
    m_X2_recall_L81 k0 c1 kx n x22 σ20))))))
def m_X2_recall (k0 : Nat) (σ : Sg) : Option (Sg) :=
    if (1 : Int32) ≤ (σ.1 (k0 + 13) 3) then
    (nm (si σ (k0 + 13) 3 ((σ.1 (k0 + 13) 3) - (1 : Int32))) (fun σ1 =>
    nm ((σ1.1 (k0 + 13) 3)) (fun x2 =>
    bd1 (m_X6_get (k0 + 13) x2 (0 : Int32) σ1) (fun r3 =>
    nm (si σ1 k0 0 r3) (fun σ5 =>
    nm ((0 : Int32)) (fun x6 =>
    m_X2_recall_L48 k0 x2 (fun σ12 =>
    nm ((0 : Int32)) (fun x13 =>
    m_X2_recall_L81 k0 x2 (fun _ => none) 1000 x13 σ12)) 1000 x6 σ5))))))
    else
    (some σ)

def m_X4_firstHearing_L13 (k0 : Nat) (c3 : Int32) (c1 : Int32) (c2 : Int32) (σ : Sg) (kx : Unit → Option (Int32)) : Nat → Int32 → Option (Int32)
  | 0, _ => none
  | n + 1, v4 =>
    if (40 : Int32) < v4 then
    (some (-1 : Int32))
    else
    (bd1 (m_X2_roomMinute k0 c3 v4 σ) (fun r4 =>
    bd1 (m_X2_heardIn k0 c1 c3 r4 σ) (fun r6 =>
    bd1 (m_X7_isIn r6 c2 σ) (fun r8 =>
    if r8 = 0 then
    (nm (v4 + (1 : Int32)) (fun x10 =>
    m_X4_firstHearing_L13 k0 c3 c1 c2 σ kx n x10))
    else
    (some v4)))))
def m_X4_firstHearing (k0 : Nat) (a1 : Int32) (a2 : Int32) (σ : Sg) : Option (Int32) :=
    bd1 (m_X6_get (k0 + 3) a1 (1 : Int32) σ) (fun r1 =>
    nm ((0 : Int32)) (fun x3 =>
    m_X4_firstHearing_L13 k0 r1 a1 a2 σ (fun _ => none) 1000 x3))

def m_X4_stayIn_L17 (k0 : Nat) (c5 : Int32) (c1 : Int32) (c2 : Int32) (c3 : Int32) (c4 : Int32) (σ : Sg) (kx : Unit → Option (Int32)) : Nat → Int32 → Int32 → Option (Int32)
  | 0, _, _ => none
  | n + 1, v7, v6 =>
    if (30 : Int32) < v7 then
    (some (-1 : Int32))
    else
    (if (v6 &&& c3) = 0 then
    (if ((c5 ||| v6) &&& c2) = c2 then
    (some v7)
    else
    (bd1 (
    if (30 : Int32) ≤ v7 then
    (some ((-1 : Int32)))
    else
    (some (v7))) (fun o6 =>
    bd1 (m_X2_heardIn k0 c1 c4 o6 σ) (fun r7 =>
    nm ((v6 ||| r7)) (fun x9 =>
    nm (v7 + (1 : Int32)) (fun x10 =>
    m_X4_stayIn_L17 k0 c5 c1 c2 c3 c4 σ kx n x10 x9))))))
    else
    (some (-1 : Int32)))
def m_X4_stayIn (k0 : Nat) (a1 : Int32) (a2 : Int32) (a3 : Int32) (a4 : Int32) (σ : Sg) : Option (Int32) :=
    bd1 (m_X6_get (k0 + 3) a1 (2 : Int32) σ) (fun r1 =>
    nm ((0 : Int32)) (fun x3 =>
    nm ((0 : Int32)) (fun x4 =>
    m_X4_stayIn_L17 k0 r1 a1 a2 a3 a4 σ (fun _ => none) 1000 x4 x3)))

def m_X4_bestStay_L10 {β : Type} (k0 : Nat) (c1 : Int32) (c2 : Int32) (c3 : Int32) (σ : Sg) (kx : Int32 → Int32 → Option (β)) : Nat → Int32 → Int32 → Int32 → Option (β)
  | 0, _, _, _ => none
  | n + 1, v6, v5, v4 =>
    if (4 : Int32) ≤ v6 then
    (kx v5 v4)
    else
    (bd1 (m_X4_stayIn k0 c1 c2 c3 v6 σ) (fun r4 =>
    bd2 (
    if r4 = (-1 : Int32) then
    (some (v4, v5))
    else
    (if v4 ≤ r4 then
    (some (v4, v5))
    else
    (some (r4, v6)))) (fun o7 o8 =>
    nm (v6 + (1 : Int32)) (fun x9 =>
    m_X4_bestStay_L10 k0 c1 c2 c3 σ kx n x9 o8 o7))))
def m_X4_bestStay (k0 : Nat) (a1 : Int32) (a2 : Int32) (a3 : Int32) (σ : Sg) : Option (Int32) :=
    nm ((31 : Int32)) (fun x1 =>
    nm ((-1 : Int32)) (fun x2 =>
    nm ((0 : Int32)) (fun x3 =>
    m_X4_bestStay_L10 k0 a1 a2 a3 σ (fun x10 x11 =>
    if x10 = (-1 : Int32) then
    (some (-1 : Int32))
    else
    (some (((100 : Int32) * x11) + x10))) 1000 x3 x2 x1)))

def m_X4_knownBehind_L14 (k0 : Nat) (c1 : Int32) (c2 : Int32) (c3 : Int32) (σ : Sg) (kx : Unit → Option (Int32)) : Nat → Int32 → Int32 → Option (Int32)
  | 0, _, _ => none
  | n + 1, v5, v4 =>
    if c3 ≤ v5 then
    (some v4)
    else
    (bd1 (m_X2_heardIn k0 c1 c2 v5 σ) (fun r4 =>
    nm ((v4 ||| r4)) (fun x6 =>
    nm (v5 + (1 : Int32)) (fun x7 =>
    m_X4_knownBehind_L14 k0 c1 c2 c3 σ kx n x7 x6))))
def m_X4_knownBehind (k0 : Nat) (a1 : Int32) (a2 : Int32) (a3 : Int32) (σ : Sg) : Option (Int32) :=
    bd1 (m_X6_get (k0 + 3) a1 (2 : Int32) σ) (fun r1 =>
    nm ((0 : Int32)) (fun x3 =>
    m_X4_knownBehind_L14 k0 a1 a2 a3 σ (fun _ => none) 1000 x3 r1))

def m_X4_bestStand_L3 {β : Type} (k1 : Nat) (c2 : Int32) (c3 : Int32) (kx : Sg → Option (β)) : Nat → Int32 → Sg → Option (β)
  | 0, _, _ => none
  | n + 1, v4, σ =>
    if (4 : Int32) ≤ v4 then
    (kx σ)
    else
    (bd1 (m_X4_knownBehind k1 (0 : Int32) v4 c2 σ) (fun r2 =>
    bd1 (m_X6_set 65 (0 : Int32) v4 r2 σ) (fun σ4 =>
    bd1 (m_X4_knownBehind k1 (1 : Int32) v4 c2 σ4) (fun r6 =>
    bd1 (m_X6_set 65 (1 : Int32) v4 r6 σ4) (fun σ8 =>
    nm (v4 + (1 : Int32)) (fun x10 =>
    m_X4_bestStand_L3 k1 c2 c3 kx n x10 σ8))))))
def m_X4_bestStand_L69 {β : Type} (k1 : Nat) (c6 : Int32) (c3 : Int32) (σ : Sg) (kx : Int32 → Int32 → Option (β)) : Nat → Int32 → Int32 → Int32 → Option (β)
  | 0, _, _, _ => none
  | n + 1, v7, v5, v4 =>
    if (4 : Int32) ≤ v7 then
    (kx v5 v4)
    else
    (bd1 (m_X6_get 65 (0 : Int32) c6 σ) (fun r16 =>
    bd1 (m_X6_get 65 (1 : Int32) v7 σ) (fun r18 =>
    bd1 (m_J6_bitCount_0f7a4 (r16 ||| r18) σ) (fun r20 =>
    bd2 (
    if r20 ≤ v4 then
    (some (v4, v5))
    else
    (nm ((((10 : Int32) * c6) + v7)) (fun x26 =>
    some (r20, x26)))) (fun o23 o24 =>
    nm (v7 + (1 : Int32)) (fun x25 =>
    m_X4_bestStand_L69 k1 c6 c3 σ kx n x25 o24 o23))))))
def m_X4_bestStand_L60 {β : Type} (k1 : Nat) (c3 : Int32) (σ : Sg) (kx : Int32 → Int32 → Option (β)) : Nat → Int32 → Int32 → Int32 → Option (β)
  | 0, _, _, _ => none
  | n + 1, v6, v5, v4 =>
    if (4 : Int32) ≤ v6 then
    (kx v5 v4)
    else
    (nm ((0 : Int32)) (fun x15 =>
    m_X4_bestStand_L69 k1 v6 c3 σ (fun x27 x28 =>
    nm (v6 + (1 : Int32)) (fun x29 =>
    m_X4_bestStand_L60 k1 c3 σ kx n x29 x27 x28)) 1000 x15 v5 v4))
def m_X4_bestStand (k1 : Nat) (a2 : Int32) (a3 : Int32) (σ : Sg) : Option (Int32 × Sg) :=
    nm ((0 : Int32)) (fun x1 =>
    m_X4_bestStand_L3 k1 a2 a3 (fun σ11 =>
    nm ((-1 : Int32)) (fun x12 =>
    nm ((-1 : Int32)) (fun x13 =>
    nm ((0 : Int32)) (fun x14 =>
    m_X4_bestStand_L60 k1 a3 σ11 (fun x30 x31 =>
    if a3 = 0 then
    (some (x31, σ11))
    else
    (some (x30, σ11))) 1000 x14 x13 x12)))) 1000 x1 σ)

def m_X4_gain (a1 : Int32) (a2 : Int32) (a3 : Int32) (σ : Sg) : Option (Int32) :=
    bd1 (m_X6_get 65 a1 a2 σ) (fun r1 =>
    if a2 = a3 then
    (some (r1 - (1 : Int32)))
    else
    (some r1))

def m_X4_wouldRest_L12  (c4 : Int32) (c1 : Int32) (c3 : Int32) (σ : Sg) (kx : Unit → Option (Int32)) : Nat → Int32 → Option (Int32)
  | 0, _ => none
  | n + 1, v5 =>
    if (4 : Int32) ≤ v5 then
    (some (1 : Int32))
    else
    (bd1 (m_X4_gain c1 v5 c3 σ) (fun r4 =>
    if r4 ≤ c4 then
    (nm (v5 + (1 : Int32)) (fun x6 =>
    m_X4_wouldRest_L12 c4 c1 c3 σ kx n x6))
    else
    (some (0 : Int32))))
def m_X4_wouldRest (a1 : Int32) (a2 : Int32) (a3 : Int32) (σ : Sg) : Option (Int32) :=
    bd1 (m_X4_gain a1 a2 a3 σ) (fun r1 =>
    nm ((0 : Int32)) (fun x3 =>
    m_X4_wouldRest_L12 r1 a1 a3 σ (fun _ => none) 1000 x3))

def m_X4_restingPair_L2 {β : Type} (k1 : Nat) (c2 : Int32) (kx : Sg → Option (β)) : Nat → Int32 → Sg → Option (β)
  | 0, _, _ => none
  | n + 1, v3, σ =>
    if (4 : Int32) ≤ v3 then
    (kx σ)
    else
    (bd1 (m_X2_roomMinute k1 v3 (0 : Int32) σ) (fun r2 =>
    bd1 (m_X2_heardIn k1 (0 : Int32) v3 r2 σ) (fun r4 =>
    bd1 (m_J6_bitCount_0f7a4 r4 σ) (fun r6 =>
    bd1 (m_X6_set 65 (0 : Int32) v3 r6 σ) (fun σ8 =>
    bd1 (m_X2_heardIn k1 (1 : Int32) v3 r2 σ8) (fun r10 =>
    bd1 (m_J6_bitCount_0f7a4 r10 σ8) (fun r12 =>
    bd1 (m_X6_set 65 (1 : Int32) v3 r12 σ8) (fun σ14 =>
    nm (v3 + (1 : Int32)) (fun x16 =>
    m_X4_restingPair_L2 k1 c2 kx n x16 σ14)))))))))
def m_X4_restingPair_L75 (k1 : Nat) (c4 : Int32) (c2 : Int32) (σ : Sg) (kx : Int32 → Option (Int32 × Sg)) : Nat → Int32 → Int32 → Option (Int32 × Sg)
  | 0, _, _ => none
  | n + 1, v5, v3 =>
    if (4 : Int32) ≤ v5 then
    (kx v3)
    else
    (bd1 (m_X4_wouldRest (0 : Int32) c4 v5 σ) (fun r21 =>
    if r21 = 0 then
    (nm (v5 + (1 : Int32)) (fun x23 =>
    m_X4_restingPair_L75 k1 c4 c2 σ kx n x23 v3))
    else
    (bd1 (m_X4_wouldRest (1 : Int32) v5 c4 σ) (fun r24 =>
    if r24 = 0 then
    (nm (v5 + (1 : Int32)) (fun x26 =>
    m_X4_restingPair_L75 k1 c4 c2 σ kx n x26 v3))
    else
    (if v3 = c2 then
    (some ((((10 : Int32) * c4) + v5), σ))
    else
    (nm (v3 + (1 : Int32)) (fun x27 =>
    nm (v5 + (1 : Int32)) (fun x28 =>
    m_X4_restingPair_L75 k1 c4 c2 σ kx n x28 x27))))))))
def m_X4_restingPair_L66 (k1 : Nat) (c2 : Int32) (σ : Sg) (kx : Int32 → Option (Int32 × Sg)) : Nat → Int32 → Int32 → Option (Int32 × Sg)
  | 0, _, _ => none
  | n + 1, v4, v3 =>
    if (4 : Int32) ≤ v4 then
    (kx v3)
    else
    (nm ((0 : Int32)) (fun x20 =>
    m_X4_restingPair_L75 k1 v4 c2 σ (fun x29 =>
    nm (v4 + (1 : Int32)) (fun x30 =>
    m_X4_restingPair_L66 k1 c2 σ kx n x30 x29)) 1000 x20 v3))
def m_X4_restingPair (k1 : Nat) (a2 : Int32) (σ : Sg) : Option (Int32 × Sg) :=
    nm ((0 : Int32)) (fun x1 =>
    m_X4_restingPair_L2 k1 a2 (fun σ17 =>
    nm ((0 : Int32)) (fun x18 =>
    nm ((0 : Int32)) (fun x19 =>
    m_X4_restingPair_L66 k1 a2 σ17 (fun x31 =>
    if a2 = (-1 : Int32) then
    (some (x31, σ17))
    else
    (some ((-5 : Int32), σ17))) 1000 x19 x18))) 1000 x1 σ)

def m_X4_workJobs_L6 (k0 : Nat) (c2 : Int32) (kx : Sg → Option (Sg)) : Nat → Int32 → Int64 → Sg → Option (Sg)
  | 0, _, _, _ => none
  | n + 1, v5, v3, σ =>
    if c2 ≤ v5 then
    (some σ)
    else
    (nm ((((v3 * (1103515245 : Int64)) + (12345 : Int64)) - ((v3 * (1103515245 : Int64)) + (12345 : Int64)) / (2147483648 : Int64) * (2147483648 : Int64))) (fun x3 =>
    nm ((Int64.toInt32 ((x3 / (65536 : Int64)) - (x3 / (65536 : Int64)) / (3 : Int64) * (3 : Int64)))) (fun x4 =>
    nm ((Int64.toInt32 ((x3 / (1048576 : Int64)) - (x3 / (1048576 : Int64)) / (4 : Int64) * (4 : Int64)))) (fun x5 =>
    bd1 (
    if (σ.1 (k0 + 3) 3) ≤ x4 then
    (some (σ))
    else
    (bd1 (m_X6_set (k0 + 3) x4 (1 : Int32) x5 σ) (fun σ11 =>
    bd1 (m_X2_roomMinute k0 x5 (0 : Int32) σ11) (fun r13 =>
    if r13 = (-1 : Int32) then
    (bd1 (m_X2_strip k0 x5 σ11) (fun σ15 =>
    some (σ15)))
    else
    (some (σ11)))))) (fun σ7 =>
    bd1 (m_X2_passMinutes k0 (1 : Int32) (1000000 : Int32) σ7) (fun σ8 =>
    nm (v5 + (1 : Int32)) (fun x10 =>
    m_X4_workJobs_L6 k0 c2 kx n x10 x3 σ8)))))))
def m_X4_workJobs (k0 : Nat) (a1 : Int32) (a2 : Int32) (σ : Sg) : Option (Sg) :=
    nm ((Int32.toInt64 a1)) (fun x1 =>
    nm ((0 : Int32)) (fun x2 =>
    m_X4_workJobs_L6 k0 a2 (fun _ => none) 1000 x2 x1 σ))

def m_X5_sortAt (a1 : Int32) (σ : Sg) : Option (Int32) :=
    if a1 < (σ.1 62 3) then
    (bd1 (m_X6_get 62 a1 (0 : Int32) σ) (fun r1 =>
    if r1 < (97 : Int32) then
    (if r1 < (48 : Int32) then
    (if r1 = (59 : Int32) then
    (some (3 : Int32))
    else
    (some (4 : Int32)))
    else
    (if (57 : Int32) < r1 then
    (if r1 = (59 : Int32) then
    (some (3 : Int32))
    else
    (some (4 : Int32)))
    else
    (some (2 : Int32))))
    else
    (if (122 : Int32) < r1 then
    (if r1 < (48 : Int32) then
    (if r1 = (59 : Int32) then
    (some (3 : Int32))
    else
    (some (4 : Int32)))
    else
    (if (57 : Int32) < r1 then
    (if r1 = (59 : Int32) then
    (some (3 : Int32))
    else
    (some (4 : Int32)))
    else
    (some (2 : Int32))))
    else
    (some (1 : Int32)))))
    else
    (some (0 : Int32))

def m_X5_advance_L8 {β : Type}   (kx : Sg → Option (β)) : Nat → Sg → Option (β)
  | 0, _ => none
  | n + 1, σ =>
    if (σ.1 62 3) ≤ (σ.1 61 1) then
    (kx σ)
    else
    (bd1 (m_X6_get 62 (σ.1 61 1) (0 : Int32) σ) (fun r2 =>
    if r2 = (32 : Int32) then
    (nm (si σ 61 1 ((σ.1 61 1) + (1 : Int32))) (fun σ4 =>
    m_X5_advance_L8 kx n σ4))
    else
    (kx σ)))
def m_X5_advance_L104 {β : Type}   (kx : Sg → Option (β)) : Nat → Sg → Option (β)
  | 0, _ => none
  | n + 1, σ =>
    if (σ.1 62 3) ≤ (σ.1 61 2) then
    (kx σ)
    else
    (bd1 (m_X5_sortAt (σ.1 61 2) σ) (fun r12 =>
    if r12 = (σ.1 61 3) then
    (bd1 (m_X6_get 62 (σ.1 61 2) (0 : Int32) σ) (fun r14 =>
    nm (si σ 61 4 ((((10 : Int32) * (σ.1 61 4)) + r14) - (48 : Int32))) (fun σ16 =>
    nm (si σ16 61 2 ((σ16.1 61 2) + (1 : Int32))) (fun σ17 =>
    m_X5_advance_L104 kx n σ17))))
    else
    (kx σ)))
def m_X5_advance  (σ : Sg) : Option (Sg) :=
    nm (si σ 61 1 (σ.1 61 2)) (fun σ1 =>
    m_X5_advance_L8 (fun σ5 =>
    nm (si σ5 61 2 (σ5.1 61 1)) (fun σ6 =>
    bd1 (m_X5_sortAt (σ6.1 61 1) σ6) (fun r7 =>
    nm (si σ6 61 3 r7) (fun σ9 =>
    if (σ9.1 61 3) = (3 : Int32) then
    (nm (si σ9 61 2 ((σ9.1 61 2) + (1 : Int32))) (fun σ10 =>
    some σ10))
    else
    (if (σ9.1 61 3) = (4 : Int32) then
    (nm (si σ9 61 2 ((σ9.1 61 2) + (1 : Int32))) (fun σ20 =>
    some σ20))
    else
    (nm (si σ9 61 4 (0 : Int32)) (fun σ11 =>
    m_X5_advance_L104 (fun σ18 =>
    if (σ18.1 61 3) = (2 : Int32) then
    (if ((σ18.1 61 2) - (σ18.1 61 1)) ≤ (2 : Int32) then
    (some σ18)
    else
    (nm (si σ18 61 3 (4 : Int32)) (fun σ19 =>
    some σ19)))
    else
    (some σ18)) 1000 σ11))))))) 1000 σ1)

def m_X5_isWord_L28 (k1 : Nat)  (σ : Sg) (kx : Unit → Option (Int32)) : Nat → Int32 → Option (Int32)
  | 0, _ => none
  | n + 1, v2 =>
    if (nI (litN.getD k1 0)) ≤ v2 then
    (some (1 : Int32))
    else
    (bd1 (m_X6_get 62 ((σ.1 61 1) + v2) (0 : Int32) σ) (fun r2 =>
    if (v2 < 0 ∨ litN.getD k1 0 ≤ v2.toNatClampNeg) then none else
    (if r2 = (chS k1 v2) then
    (nm (v2 + (1 : Int32)) (fun x4 =>
    m_X5_isWord_L28 k1 σ kx n x4))
    else
    (some (0 : Int32)))))
def m_X5_isWord (k1 : Nat) (σ : Sg) : Option (Int32) :=
    if (σ.1 61 3) = (1 : Int32) then
    (if ((σ.1 61 2) - (σ.1 61 1)) = (nI (litN.getD k1 0)) then
    (nm ((0 : Int32)) (fun x1 =>
    m_X5_isWord_L28 k1 σ (fun _ => none) 1000 x1))
    else
    (some (0 : Int32)))
    else
    (some (0 : Int32))

def m_X5_readStop  (σ : Sg) : Option (Int32 × Sg) :=
    bd1 (m_X5_advance σ) (fun σ1 =>
    if (σ1.1 61 3) = (3 : Int32) then
    (some ((1 : Int32), σ1))
    else
    (some ((0 : Int32), σ1)))

def m_X5_itemBegun  (σ : Sg) : Option (Int32) :=
    bd1 (m_X5_isWord 1 σ) (fun r1 =>
    if r1 = 0 then
    (bd1 (m_X5_isWord 2 σ) (fun r3 =>
    if r3 = 0 then
    (bd1 (m_X5_isWord 3 σ) (fun r5 =>
    if r5 = 0 then
    (bd1 (m_X5_isWord 4 σ) (fun r7 =>
    if r7 = 0 then
    (bd1 (m_X5_isWord 5 σ) (fun r9 =>
    if r9 = 0 then
    (some (0 : Int32))
    else
    (some (5 : Int32))))
    else
    (some (4 : Int32))))
    else
    (some (3 : Int32))))
    else
    (some (2 : Int32))))
    else
    (some (1 : Int32)))

def m_X5_mayBegin (k0 : Nat) (a1 : Int32) (σ : Sg) : Option (Int32) :=
    if a1 = 0 then
    (some (0 : Int32))
    else
    (if a1 = 1 then
    (bd1 (m_X6_isFull (k0 + 1) σ) (fun r1 =>
    if r1 = 0 then
    (some (1 : Int32))
    else
    (some (0 : Int32))))
    else
    (if a1 = 2 then
    (bd1 (m_X6_isFull (k0 + 3) σ) (fun r3 =>
    if r3 = 0 then
    (some (1 : Int32))
    else
    (some (0 : Int32))))
    else
    (some (1 : Int32))))

def m_X7_within (a0 : Int32) (a1 : Int32) (a2 : Int32) (σ : Sg) : Option (Int32) :=
    if a0 < a1 then
    (some (0 : Int32))
    else
    (if a2 < a0 then
    (some (0 : Int32))
    else
    (some (1 : Int32)))

def m_X5_readNumber (a1 : Int32) (a2 : Int32) (σ : Sg) : Option (Int32 × Sg) :=
    bd1 (m_X5_advance σ) (fun σ1 =>
    if (σ1.1 61 3) = (2 : Int32) then
    (bd1 (m_X7_within (σ1.1 61 4) a1 a2 σ1) (fun r3 =>
    if r3 = 0 then
    (some ((0 : Int32), σ1))
    else
    (some ((1 : Int32), σ1))))
    else
    (some ((0 : Int32), σ1)))

def m_X5_readNumbers (a1 : Int32) (σ : Sg) : Option (Int32 × Sg) :=
    if a1 = (5 : Int32) then
    (bd2 (m_X5_readNumber (1 : Int32) (99 : Int32) σ) (fun r30 σ31 =>
    if ¬ (r30 = 0 ∨ r30 = 1) then none else
    (some (r30, σ31))))
    else
    (if a1 = (1 : Int32) then
    (bd2 (m_X5_readNumber (0 : Int32) (5 : Int32) σ) (fun r1 σ2 =>
    if r1 = 0 then
    (some ((0 : Int32), σ2))
    else
    (nm (si σ2 61 5 (σ2.1 61 4)) (fun σ4 =>
    bd2 (m_X5_readNumber (0 : Int32) (3 : Int32) σ4) (fun r5 σ6 =>
    if r5 = 0 then
    (some ((0 : Int32), σ6))
    else
    (nm (si σ6 61 6 (σ6.1 61 4)) (fun σ8 =>
    if a1 = (1 : Int32) then
    (bd2 (m_X5_readNumber (1 : Int32) (9 : Int32) σ8) (fun r9 σ10 =>
    if r9 = 0 then
    (some ((0 : Int32), σ10))
    else
    (some ((1 : Int32), σ10))))
    else
    (some ((1 : Int32), σ8)))))))))
    else
    (if a1 = (2 : Int32) then
    (bd2 (m_X5_readNumber (0 : Int32) (5 : Int32) σ) (fun r19 σ20 =>
    if r19 = 0 then
    (some ((0 : Int32), σ20))
    else
    (nm (si σ20 61 5 (σ20.1 61 4)) (fun σ22 =>
    bd2 (m_X5_readNumber (0 : Int32) (3 : Int32) σ22) (fun r23 σ24 =>
    if r23 = 0 then
    (some ((0 : Int32), σ24))
    else
    (nm (si σ24 61 6 (σ24.1 61 4)) (fun σ26 =>
    if a1 = (1 : Int32) then
    (bd2 (m_X5_readNumber (1 : Int32) (9 : Int32) σ26) (fun r27 σ28 =>
    if r27 = 0 then
    (some ((0 : Int32), σ28))
    else
    (some ((1 : Int32), σ28))))
    else
    (some ((1 : Int32), σ26)))))))))
    else
    (bd2 (m_X5_readNumber (0 : Int32) (3 : Int32) σ) (fun r12 σ13 =>
    if r12 = 0 then
    (some ((0 : Int32), σ13))
    else
    (nm (si σ13 61 6 (σ13.1 61 4)) (fun σ15 =>
    if a1 = (1 : Int32) then
    (bd2 (m_X5_readNumber (1 : Int32) (9 : Int32) σ15) (fun r16 σ17 =>
    if r16 = 0 then
    (some ((0 : Int32), σ17))
    else
    (some ((1 : Int32), σ17))))
    else
    (some ((1 : Int32), σ15))))))))

def m_X5_obey (k1 : Nat) (a2 : Int32) (σ : Sg) : Option (Sg) :=
    if a2 = 1 then
    (bd2 (m_X2_addSaying k1 (σ.1 61 5) (σ.1 61 6) (σ.1 61 4) σ) (fun r1 σ2 =>
    some σ2))
    else
    (if a2 = 2 then
    (bd2 (m_X2_addListener k1 (σ.1 61 5) (σ.1 61 6) σ) (fun r4 σ5 =>
    some σ5))
    else
    (if a2 = 3 then
    (bd1 (m_X2_strip k1 (σ.1 61 6) σ) (fun σ7 =>
    some σ7))
    else
    (if a2 = 4 then
    (bd1 (m_X2_paper k1 (σ.1 61 6) σ) (fun σ9 =>
    some σ9))
    else
    (bd1 (m_X2_passMinutes k1 (σ.1 61 4) (9999 : Int32) σ) (fun σ11 =>
    some σ11)))))

def m_X5_readInto_L39 (k1 : Nat)  (kx : Sg → Option (Int32 × Sg)) : Nat → Int32 → Sg → Option (Int32 × Sg)
  | 0, _, _ => none
  | n + 1, v2, σ =>
    if (150 : Int32) < v2 then
    (some (((-10 : Int32) - (σ.1 61 1)), σ))
    else
    (bd1 (m_X5_advance σ) (fun σ12 =>
    if (σ12.1 61 3) = 0 then
    (some (v2, σ12))
    else
    (bd1 (m_X5_itemBegun σ12) (fun r14 =>
    bd1 (m_X5_mayBegin k1 r14 σ12) (fun r16 =>
    if r16 = 0 then
    (some (((-10 : Int32) - (σ12.1 61 1)), σ12))
    else
    (bd2 (m_X5_readNumbers r14 σ12) (fun r18 σ19 =>
    if r18 = 0 then
    (some (((-10 : Int32) - (σ19.1 61 1)), σ19))
    else
    (bd2 (m_X5_readStop σ19) (fun r21 σ22 =>
    if r21 = 0 then
    (some (((-10 : Int32) - (σ22.1 61 1)), σ22))
    else
    (bd1 (m_X5_obey k1 r14 σ22) (fun σ24 =>
    nm (v2 + (1 : Int32)) (fun x26 =>
    m_X5_readInto_L39 k1 kx n x26 σ24))))))))))))
def m_X5_readInto (k1 : Nat) (σ : Sg) : Option (Int32 × Sg) :=
    bd1 (m_X2_reset k1 σ) (fun σ1 =>
    nm (si σ1 61 2 (0 : Int32)) (fun σ3 =>
    bd1 (m_X5_advance σ3) (fun σ4 =>
    bd1 (m_X5_isWord 0 σ4) (fun r6 =>
    if r6 = 0 then
    (some (((-10 : Int32) - (σ4.1 61 1)), σ4))
    else
    (bd2 (m_X5_readStop σ4) (fun r8 σ9 =>
    if r8 = 0 then
    (some (((-10 : Int32) - (σ9.1 61 1)), σ9))
    else
    (nm ((1 : Int32)) (fun x11 =>
    m_X5_readInto_L39 k1 (fun _ => none) 1000 x11 σ9))))))))

def m_X6_mixedInto_L17 {β : Type} (k0 : Nat) (c5 : Int32) (σ : Sg) (kx : Int64 → Option (β)) : Nat → Int32 → Int64 → Option (β)
  | 0, _, _ => none
  | n + 1, v6, v3 =>
    if (σ.1 k0 1) ≤ v6 then
    (kx v3)
    else
    (bd1 (m_X6_get k0 c5 v6 σ) (fun r3 =>
    nm ((((31 : Int64) * v3) + (Int32.toInt64 r3))) (fun x5 =>
    nm (v6 + (1 : Int32)) (fun x6 =>
    m_X6_mixedInto_L17 k0 c5 σ kx n x6 x5))))
def m_X6_mixedInto_L5 (k0 : Nat)  (σ : Sg) (kx : Unit → Option (Int64)) : Nat → Int32 → Int64 → Option (Int64)
  | 0, _, _ => none
  | n + 1, v5, v3 =>
    if (σ.1 k0 3) ≤ v5 then
    (some v3)
    else
    (nm ((0 : Int32)) (fun x2 =>
    m_X6_mixedInto_L17 k0 v5 σ (fun x7 =>
    nm (v5 + (1 : Int32)) (fun x8 =>
    m_X6_mixedInto_L5 k0 σ kx n x8 x7)) 1000 x2 v3))
def m_X6_mixedInto (k0 : Nat) (a1 : Int64) (σ : Sg) : Option (Int64) :=
    nm ((0 : Int32)) (fun x1 =>
    m_X6_mixedInto_L5 k0 σ (fun _ => none) 1000 x1 a1)

def m_X7_house  (σ : Sg) : Option (Int32 × Sg) :=
    nm ((σ.1 (1 + 1) 3)) (fun x1 =>
    bd1 (m_X2_reset 1 σ) (fun σ2 =>
    some (x1, σ2)))

def m_X7_isKind (a0 : Int32) (σ : Sg) : Option (Int32) :=
    if a0 < 0 then
    (some (0 : Int32))
    else
    (if (6 : Int32) ≤ a0 then
    (some (0 : Int32))
    else
    (some (1 : Int32)))

def m_X7_isRoom (a0 : Int32) (σ : Sg) : Option (Int32) :=
    if a0 < 0 then
    (some (0 : Int32))
    else
    (if (4 : Int32) ≤ a0 then
    (some (0 : Int32))
    else
    (some (1 : Int32)))

def m_X7_refuseBad  (σ : Sg) : Option (Int32 × Sg) :=
    nm (si σ 0 9 ((σ.1 0 9) + (1 : Int32))) (fun σ1 =>
    some ((-2 : Int32), σ1))

def m_X7_refuseFull  (σ : Sg) : Option (Int32 × Sg) :=
    nm (si σ 0 11 ((σ.1 0 11) + (1 : Int32))) (fun σ1 =>
    some ((-4 : Int32), σ1))

def m_X7_say (a1 : Int32) (a2 : Int32) (a3 : Int32) (σ : Sg) : Option (Int32 × Sg) :=
    bd1 (m_X7_isKind a1 σ) (fun r1 =>
    if r1 = 0 then
    (bd2 (m_X7_refuseBad σ) (fun r3 σ4 =>
    some (r3, σ4)))
    else
    (bd1 (m_X7_isRoom a2 σ) (fun r6 =>
    if r6 = 0 then
    (bd2 (m_X7_refuseBad σ) (fun r8 σ9 =>
    some (r8, σ9)))
    else
    (bd1 (m_X7_within a3 (1 : Int32) (9 : Int32) σ) (fun r11 =>
    if r11 = 0 then
    (bd2 (m_X7_refuseBad σ) (fun r21 σ22 =>
    some (r21, σ22)))
    else
    (bd1 (m_X6_isFull (1 + 1) σ) (fun r13 =>
    if r13 = 0 then
    (bd2 (m_X2_addSaying 1 a1 a2 a3 σ) (fun r15 σ16 =>
    some (r15, σ16)))
    else
    (bd2 (m_X7_refuseFull σ) (fun r18 σ19 =>
    some (r18, σ19))))))))))

def m_X7_ear (a1 : Int32) (σ : Sg) : Option (Int32 × Sg) :=
    bd1 (m_X7_isKind a1 σ) (fun r1 =>
    if r1 = 0 then
    (bd2 (m_X7_refuseBad σ) (fun r11 σ12 =>
    some (r11, σ12)))
    else
    (bd1 (m_X6_isFull (1 + 3) σ) (fun r3 =>
    if r3 = 0 then
    (bd2 (m_X2_addListener 1 a1 (0 : Int32) σ) (fun r5 σ6 =>
    some (r5, σ6)))
    else
    (bd2 (m_X7_refuseFull σ) (fun r8 σ9 =>
    some (r8, σ9))))))

def m_X7_type (a1 : Int32) (σ : Sg) : Option (Int32 × Sg) :=
    bd1 (m_X7_within a1 (0 : Int32) (127 : Int32) σ) (fun r1 =>
    if r1 = 0 then
    (bd2 (m_X7_refuseBad σ) (fun r11 σ12 =>
    some (r11, σ12)))
    else
    (bd1 (m_X6_isFull 62 σ) (fun r3 =>
    if r3 = 0 then
    (bd2 (m_X6_add 62 a1 (0 : Int32) (0 : Int32) (0 : Int32) σ) (fun r5 σ6 =>
    some ((r5 + (1 : Int32)), σ6)))
    else
    (bd2 (m_X7_refuseFull σ) (fun r8 σ9 =>
    some (r8, σ9))))))

def m_X7_clear  (σ : Sg) : Option (Int32 × Sg) :=
    bd2 (m_X6_empty 62 σ) (fun r1 σ2 =>
    some (r1, σ2))

def m_X7_read  (σ : Sg) : Option (Int32 × Sg) :=
    bd2 (m_X5_readInto 16 σ) (fun r1 σ2 =>
    bd1 (
    if r1 < 0 then
    (some (σ2))
    else
    (bd1 (m_X2_copy 1 16 σ2) (fun σ6 =>
    some (σ6)))) (fun σ5 =>
    some (r1, σ5)))

def m_X7_strips (a1 : Int32) (σ : Sg) : Option (Int32 × Sg) :=
    bd1 (m_X7_isRoom a1 σ) (fun r1 =>
    if r1 = 0 then
    (bd2 (m_X7_refuseBad σ) (fun r9 σ10 =>
    some (r9, σ10)))
    else
    (bd1 (m_X2_remember 1 σ) (fun σ3 =>
    bd1 (m_X2_strip 1 a1 σ3) (fun σ5 =>
    bd1 (m_X2_roomLoudness 1 a1 σ5) (fun r7 =>
    some (r7, σ5))))))

def m_X7_refuseNo  (σ : Sg) : Option (Int32 × Sg) :=
    nm (si σ 0 10 ((σ.1 0 10) + (1 : Int32))) (fun σ1 =>
    some ((-3 : Int32), σ1))

def m_X7_papers (a1 : Int32) (σ : Sg) : Option (Int32 × Sg) :=
    bd1 (m_X7_isRoom a1 σ) (fun r1 =>
    if r1 = 0 then
    (bd2 (m_X7_refuseBad σ) (fun r12 σ13 =>
    some (r12, σ13)))
    else
    (bd1 (m_X2_isStripped 1 a1 σ) (fun r3 =>
    if r3 = 0 then
    (bd2 (m_X7_refuseNo σ) (fun r9 σ10 =>
    some (r9, σ10)))
    else
    (bd1 (m_X2_remember 1 σ) (fun σ5 =>
    bd1 (m_X2_paper 1 a1 σ5) (fun σ7 =>
    some ((1 : Int32), σ7)))))))

def m_X7_isListener (a1 : Int32) (σ : Sg) : Option (Int32) :=
    if a1 < 0 then
    (some (0 : Int32))
    else
    (if (σ.1 (1 + 3) 3) ≤ a1 then
    (some (0 : Int32))
    else
    (some (1 : Int32)))

def m_X7_goes (a1 : Int32) (a2 : Int32) (σ : Sg) : Option (Int32 × Sg) :=
    bd1 (m_X7_isListener a1 σ) (fun r1 =>
    if r1 = 0 then
    (bd2 (m_X7_refuseBad σ) (fun r3 σ4 =>
    some (r3, σ4)))
    else
    (bd1 (m_X7_isRoom a2 σ) (fun r6 =>
    if r6 = 0 then
    (bd2 (m_X7_refuseBad σ) (fun r17 σ18 =>
    some (r17, σ18)))
    else
    (bd1 (m_X6_get (1 + 3) a1 (1 : Int32) σ) (fun r8 =>
    if r8 = a2 then
    (bd2 (m_X7_refuseNo σ) (fun r14 σ15 =>
    some (r14, σ15)))
    else
    (bd1 (m_X2_remember 1 σ) (fun σ10 =>
    bd1 (m_X6_set (1 + 3) a1 (1 : Int32) a2 σ10) (fun σ12 =>
    some (r8, σ12)))))))))

def m_X7_minutes (a1 : Int32) (σ : Sg) : Option (Int32 × Sg) :=
    bd1 (m_X7_within a1 (1 : Int32) (99 : Int32) σ) (fun r1 =>
    if r1 = 0 then
    (bd2 (m_X7_refuseBad σ) (fun r9 σ10 =>
    some (r9, σ10)))
    else
    (bd1 (m_X2_remember 1 σ) (fun σ3 =>
    bd1 (m_X2_passMinutes 1 a1 (9999 : Int32) σ3) (fun σ5 =>
    bd1 (m_X2_knownByAny 1 σ5) (fun r7 =>
    some (r7, σ5))))))

def m_X7_undo  (σ : Sg) : Option (Int32 × Sg) :=
    if (σ.1 (1 + 13) 3) = 0 then
    (bd2 (m_X7_refuseNo σ) (fun r3 σ4 =>
    some (r3, σ4)))
    else
    (bd1 (m_X2_recall 1 σ) (fun σ1 =>
    some ((σ1.1 1 0), σ1)))

def m_X7_isSaying (a1 : Int32) (σ : Sg) : Option (Int32) :=
    if a1 < 0 then
    (some (0 : Int32))
    else
    (if (σ.1 (1 + 1) 3) ≤ a1 then
    (some (0 : Int32))
    else
    (some (1 : Int32)))

def m_X7_of (a1 : Int32) (a2 : Int32) (σ : Sg) : Option (Int32 × Sg) :=
    bd1 (m_X7_isSaying a1 σ) (fun r1 =>
    if r1 = 0 then
    (bd2 (m_X7_refuseBad σ) (fun r3 σ4 =>
    some (r3, σ4)))
    else
    (bd1 (m_X7_within a2 (0 : Int32) (2 : Int32) σ) (fun r6 =>
    if r6 = 0 then
    (bd2 (m_X7_refuseBad σ) (fun r10 σ11 =>
    some (r10, σ11)))
    else
    (bd1 (m_X6_get (1 + 1) a1 a2 σ) (fun r8 =>
    some (r8, σ))))))

def m_X7_about (a1 : Int32) (a2 : Int32) (σ : Sg) : Option (Int32 × Sg) :=
    bd1 (m_X7_isListener a1 σ) (fun r1 =>
    if r1 = 0 then
    (bd2 (m_X7_refuseBad σ) (fun r3 σ4 =>
    some (r3, σ4)))
    else
    (bd1 (m_X7_within a2 (0 : Int32) (3 : Int32) σ) (fun r6 =>
    if r6 = 0 then
    (bd2 (m_X7_refuseBad σ) (fun r12 σ13 =>
    some (r12, σ13)))
    else
    (if a2 = (3 : Int32) then
    (bd1 (m_X2_heardNow 1 a1 σ) (fun r10 =>
    some (r10, σ)))
    else
    (bd1 (m_X6_get (1 + 3) a1 a2 σ) (fun r8 =>
    some (r8, σ)))))))

def m_X7_room (a1 : Int32) (a2 : Int32) (σ : Sg) : Option (Int32 × Sg) :=
    bd1 (m_X7_isRoom a1 σ) (fun r1 =>
    if r1 = 0 then
    (bd2 (m_X7_refuseBad σ) (fun r3 σ4 =>
    some (r3, σ4)))
    else
    (bd1 (m_X7_within a2 (0 : Int32) (1 : Int32) σ) (fun r6 =>
    if r6 = 0 then
    (bd2 (m_X7_refuseBad σ) (fun r12 σ13 =>
    some (r12, σ13)))
    else
    (if a2 = 0 then
    (bd1 (m_X2_roomMinute 1 a1 (0 : Int32) σ) (fun r10 =>
    some (r10, σ)))
    else
    (bd1 (m_X2_roomLoudness 1 a1 σ) (fun r8 =>
    some (r8, σ)))))))

def m_X7_loud (a1 : Int32) (a2 : Int32) (σ : Sg) : Option (Int32 × Sg) :=
    bd1 (m_X7_isSaying a1 σ) (fun r1 =>
    if r1 = 0 then
    (bd2 (m_X7_refuseBad σ) (fun r3 σ4 =>
    some (r3, σ4)))
    else
    (bd1 (m_X7_isSpeakingMinute a2 σ) (fun r6 =>
    if r6 = 0 then
    (bd2 (m_X7_refuseBad σ) (fun r10 σ11 =>
    some (r10, σ11)))
    else
    (bd1 (m_X2_loudness 1 a1 a2 σ) (fun r8 =>
    some (r8, σ))))))

def m_X7_first (a1 : Int32) (a2 : Int32) (σ : Sg) : Option (Int32 × Sg) :=
    bd1 (m_X7_isListener a1 σ) (fun r1 =>
    if r1 = 0 then
    (bd2 (m_X7_refuseBad σ) (fun r3 σ4 =>
    some (r3, σ4)))
    else
    (bd1 (m_X7_isSaying a2 σ) (fun r6 =>
    if r6 = 0 then
    (bd2 (m_X7_refuseBad σ) (fun r10 σ11 =>
    some (r10, σ11)))
    else
    (bd1 (m_X4_firstHearing 1 a1 a2 σ) (fun r8 =>
    some (r8, σ))))))

def m_X7_isSet (a1 : Int32) (σ : Sg) : Option (Int32) :=
    if a1 < 0 then
    (some (0 : Int32))
    else
    (if ((1 : Int32) <<< ((σ.1 (1 + 1) 3) &&& 31)) ≤ a1 then
    (some (0 : Int32))
    else
    (some (1 : Int32)))

def m_X7_stay (a1 : Int32) (a2 : Int32) (a3 : Int32) (a4 : Int32) (σ : Sg) : Option (Int32 × Sg) :=
    bd1 (m_X7_isListener a1 σ) (fun r1 =>
    bd1 (
    if r1 = 0 then
    (some ((0 : Int32)))
    else
    (bd1 (m_X7_isSet a2 σ) (fun r17 =>
    if r17 = 0 then
    (some ((0 : Int32)))
    else
    (bd1 (m_X7_isSet a3 σ) (fun r19 =>
    if r19 = 0 then
    (some ((0 : Int32)))
    else
    (if (a2 &&& a3) = 0 then
    (some ((1 : Int32)))
    else
    (some ((0 : Int32))))))))) (fun o4 =>
    if o4 = 0 then
    (bd2 (m_X7_refuseBad σ) (fun r5 σ6 =>
    some (r5, σ6)))
    else
    (bd1 (m_X7_within a4 (-1 : Int32) (3 : Int32) σ) (fun r8 =>
    if r8 = 0 then
    (bd2 (m_X7_refuseBad σ) (fun r14 σ15 =>
    some (r14, σ15)))
    else
    (if a4 = (-1 : Int32) then
    (bd1 (m_X4_bestStay 1 a1 a2 a3 σ) (fun r12 =>
    some (r12, σ)))
    else
    (bd1 (m_X4_stayIn 1 a1 a2 a3 a4 σ) (fun r10 =>
    some (r10, σ))))))))

def m_X7_areBrothers  (σ : Sg) : Option (Int32) :=
    if (σ.1 (1 + 3) 3) < (2 : Int32) then
    (some (0 : Int32))
    else
    (some (1 : Int32))

def m_X7_stand (a1 : Int32) (a2 : Int32) (σ : Sg) : Option (Int32 × Sg) :=
    bd1 (m_X7_within a1 (1 : Int32) (30 : Int32) σ) (fun r1 =>
    if r1 = 0 then
    (bd2 (m_X7_refuseBad σ) (fun r3 σ4 =>
    some (r3, σ4)))
    else
    (bd1 (m_X7_within a2 (0 : Int32) (1 : Int32) σ) (fun r6 =>
    if r6 = 0 then
    (bd2 (m_X7_refuseBad σ) (fun r16 σ17 =>
    some (r16, σ17)))
    else
    (bd1 (m_X7_areBrothers σ) (fun r8 =>
    if r8 = 0 then
    (bd2 (m_X7_refuseNo σ) (fun r13 σ14 =>
    some (r13, σ14)))
    else
    (bd2 (m_X4_bestStand 1 a1 a2 σ) (fun r10 σ11 =>
    some (r10, σ11))))))))

def m_X7_told (a1 : Int32) (a2 : Int32) (a3 : Int32) (σ : Sg) : Option (Int32 × Sg) :=
    bd1 (m_X7_isRoom a1 σ) (fun r1 =>
    if r1 = 0 then
    (bd2 (m_X7_refuseBad σ) (fun r3 σ4 =>
    some (r3, σ4)))
    else
    (bd1 (m_X7_isSpeakingMinute a2 σ) (fun r6 =>
    if r6 = 0 then
    (bd2 (m_X7_refuseBad σ) (fun r8 σ9 =>
    some (r8, σ9)))
    else
    (bd1 (m_X7_within a3 (0 : Int32) (99 : Int32) σ) (fun r11 =>
    if r11 = 0 then
    (bd2 (m_X7_refuseBad σ) (fun r21 σ22 =>
    some (r21, σ22)))
    else
    (bd1 (m_X6_isFull (1 + 7) σ) (fun r13 =>
    if r13 = 0 then
    (bd2 (m_X6_add (1 + 7) a1 a2 a3 (0 : Int32) σ) (fun r15 σ16 =>
    some ((r15 + (1 : Int32)), σ16)))
    else
    (bd2 (m_X7_refuseFull σ) (fun r18 σ19 =>
    some (r18, σ19))))))))))

def m_X7_said (a1 : Int32) (a2 : Int32) (σ : Sg) : Option (Int32 × Sg) :=
    bd1 (m_X7_isRoom a1 σ) (fun r1 =>
    if r1 = 0 then
    (bd2 (m_X7_refuseBad σ) (fun r3 σ4 =>
    some (r3, σ4)))
    else
    (bd1 (m_X7_within a2 (0 : Int32) (2 : Int32) σ) (fun r6 =>
    if r6 = 0 then
    (bd2 (m_X7_refuseBad σ) (fun r10 σ11 =>
    some (r10, σ11)))
    else
    (bd1 (m_X0_setsSaid 1 a1 a2 σ) (fun r8 =>
    some (r8, σ))))))

def m_X7_note (a1 : Int32) (a2 : Int32) (a3 : Int32) (a4 : Int32) (σ : Sg) : Option (Int32 × Sg) :=
    bd1 (m_X7_isSaying a1 σ) (fun r1 =>
    bd1 (
    if r1 = 0 then
    (some ((0 : Int32)))
    else
    (bd1 (m_X7_within a2 (1 : Int32) (9 : Int32) σ) (fun r21 =>
    if r21 = 0 then
    (some ((0 : Int32)))
    else
    (bd1 (m_X7_isSpeakingMinute a3 σ) (fun r23 =>
    if r23 = 0 then
    (some ((0 : Int32)))
    else
    (some ((1 : Int32)))))))) (fun o4 =>
    if o4 = 0 then
    (bd2 (m_X7_refuseBad σ) (fun r5 σ6 =>
    some (r5, σ6)))
    else
    (bd1 (m_X7_within a4 (0 : Int32) (20 : Int32) σ) (fun r8 =>
    if r8 = 0 then
    (bd2 (m_X7_refuseBad σ) (fun r18 σ19 =>
    some (r18, σ19)))
    else
    (bd1 (m_X6_isFull (1 + 9) σ) (fun r10 =>
    if r10 = 0 then
    (bd2 (m_X6_add (1 + 9) a1 a2 a3 a4 σ) (fun r12 σ13 =>
    some ((r12 + (1 : Int32)), σ13)))
    else
    (bd2 (m_X7_refuseFull σ) (fun r15 σ16 =>
    some (r15, σ16)))))))))

def m_X7_mark (a1 : Int32) (a2 : Int32) (a3 : Int32) (a4 : Int32) (σ : Sg) : Option (Int32 × Sg) :=
    bd1 (m_X7_isListener a1 σ) (fun r1 =>
    bd1 (
    if r1 = 0 then
    (some ((0 : Int32)))
    else
    (bd1 (m_X7_within a2 (0 : Int32) (20 : Int32) σ) (fun r21 =>
    if r21 = 0 then
    (some ((0 : Int32)))
    else
    (bd1 (m_X7_within a3 (0 : Int32) (99 : Int32) σ) (fun r23 =>
    if r23 = 0 then
    (some ((0 : Int32)))
    else
    (some ((1 : Int32)))))))) (fun o4 =>
    if o4 = 0 then
    (bd2 (m_X7_refuseBad σ) (fun r5 σ6 =>
    some (r5, σ6)))
    else
    (bd1 (m_X7_within a4 (0 : Int32) (1 : Int32) σ) (fun r8 =>
    if r8 = 0 then
    (bd2 (m_X7_refuseBad σ) (fun r18 σ19 =>
    some (r18, σ19)))
    else
    (bd1 (m_X6_isFull (1 + 11) σ) (fun r10 =>
    if r10 = 0 then
    (bd2 (m_X6_add (1 + 11) a1 a2 a3 a4 σ) (fun r12 σ13 =>
    some ((r12 + (1 : Int32)), σ13)))
    else
    (bd2 (m_X7_refuseFull σ) (fun r15 σ16 =>
    some (r15, σ16)))))))))

def m_X7_forget (a1 : Int32) (σ : Sg) : Option (Int32 × Sg) :=
    if a1 = 0 then
    (bd2 (m_X6_empty (1 + 7) σ) (fun r1 σ2 =>
    some (r1, σ2)))
    else
    (if a1 = 1 then
    (bd2 (m_X6_empty (1 + 9) σ) (fun r4 σ5 =>
    some (r4, σ5)))
    else
    (if a1 = 2 then
    (bd2 (m_X6_empty (1 + 11) σ) (fun r7 σ8 =>
    some (r7, σ8)))
    else
    (bd2 (m_X7_refuseBad σ) (fun r10 σ11 =>
    some (r10, σ11)))))

def m_X7_is (a1 : Int32) (σ : Sg) : Option (Int32 × Sg) :=
    bd1 (m_X7_isSaying a1 σ) (fun r1 =>
    if r1 = 0 then
    (bd2 (m_X7_refuseBad σ) (fun r5 σ6 =>
    some (r5, σ6)))
    else
    (bd1 (m_X0_sayingKinds 1 a1 σ) (fun r3 =>
    some (r3, σ))))

def m_X7_look (a1 : Int32) (σ : Sg) : Option (Int32 × Sg) :=
    bd1 (m_X7_isSaying a1 σ) (fun r1 =>
    if r1 = 0 then
    (bd2 (m_X7_refuseBad σ) (fun r5 σ6 =>
    some (r5, σ6)))
    else
    (bd1 (m_X0_nextLook 1 a1 σ) (fun r3 =>
    some (r3, σ))))

def m_X7_kinds (a1 : Int32) (σ : Sg) : Option (Int32 × Sg) :=
    bd1 (m_X7_isListener a1 σ) (fun r1 =>
    if r1 = 0 then
    (bd2 (m_X7_refuseBad σ) (fun r5 σ6 =>
    some (r5, σ6)))
    else
    (bd1 (m_X0_listenerKinds 1 a1 σ) (fun r3 =>
    some (r3, σ))))

def m_X7_ask (a1 : Int32) (σ : Sg) : Option (Int32 × Sg) :=
    bd1 (m_X7_isListener a1 σ) (fun r1 =>
    if r1 = 0 then
    (bd2 (m_X7_refuseBad σ) (fun r5 σ6 =>
    some (r5, σ6)))
    else
    (bd1 (m_X0_nextQuestion 1 a1 σ) (fun r3 =>
    some (r3, σ))))

def m_X7_brothers (a1 : Int32) (σ : Sg) : Option (Int32 × Sg) :=
    if (-1 : Int32) ≤ a1 then
    (bd1 (m_X7_areBrothers σ) (fun r1 =>
    if r1 = 0 then
    (bd2 (m_X7_refuseNo σ) (fun r6 σ7 =>
    some (r6, σ7)))
    else
    (bd2 (m_X4_restingPair 1 a1 σ) (fun r3 σ4 =>
    some (r3, σ4)))))
    else
    (bd2 (m_X7_refuseBad σ) (fun r9 σ10 =>
    some ((-10 : Int32), σ10)))

def m_X7_holds (a1 : Int32) (a2 : Int32) (a3 : Int32) (σ : Sg) : Option (Int32 × Sg) :=
    bd1 (m_X7_isListener a1 σ) (fun r1 =>
    if r1 = 0 then
    (bd2 (m_X7_refuseBad σ) (fun r3 σ4 =>
    some (r3, σ4)))
    else
    (bd1 (m_X7_isSaying a2 σ) (fun r6 =>
    if r6 = 0 then
    (bd2 (m_X7_refuseBad σ) (fun r8 σ9 =>
    some (r8, σ9)))
    else
    (bd1 (m_X7_within a3 (0 : Int32) (10 : Int32) σ) (fun r11 =>
    if r11 = 0 then
    (bd2 (m_X7_refuseBad σ) (fun r15 σ16 =>
    some (r15, σ16)))
    else
    (bd1 (m_X1_becomeChance 1 a1 a2 a3 σ) (fun σ13 =>
    some ((1 : Int32), σ13))))))))

def m_X7_jobs (a1 : Int32) (a2 : Int32) (σ : Sg) : Option (Int32 × Sg) :=
    bd1 (m_X7_within a1 (0 : Int32) (999999 : Int32) σ) (fun r1 =>
    if r1 = 0 then
    (bd2 (m_X7_refuseBad σ) (fun r3 σ4 =>
    some (r3, σ4)))
    else
    (bd1 (m_X7_within a2 (0 : Int32) (60 : Int32) σ) (fun r6 =>
    if r6 = 0 then
    (bd2 (m_X7_refuseBad σ) (fun r14 σ15 =>
    some (r14, σ15)))
    else
    (bd1 (m_X2_copy 16 1 σ) (fun σ8 =>
    bd1 (m_X4_workJobs 16 a1 a2 σ8) (fun σ10 =>
    bd1 (m_X2_knownByAny 16 σ10) (fun r12 =>
    some (r12, σ10))))))))

def m_X7_part (a1 : Int32) (σ : Sg) : Option (Int64 × Sg) :=
    bd1 (m_X7_within a1 (0 : Int32) (1 : Int32) σ) (fun r1 =>
    if r1 = 0 then
    (bd2 (m_X7_refuseBad σ) (fun r3 σ4 =>
    some ((Int32.toInt64 r3), σ4)))
    else
    (if a1 = 0 then
    (some ((σ.2 67 0), σ))
    else
    (some ((σ.2 67 1), σ))))

def m_X7_image (a1 : Int32) (σ : Sg) : Option (Int32 × Sg) :=
    if a1 = 0 then
    (bd1 (m_X2_copy 31 1 σ) (fun σ1 =>
    nm (si σ1 0 4 (1 : Int32)) (fun σ3 =>
    some ((1 : Int32), σ3))))
    else
    (if a1 = 1 then
    (bd1 (m_X2_copy 46 1 σ) (fun σ4 =>
    nm (si σ4 0 5 (1 : Int32)) (fun σ6 =>
    some ((1 : Int32), σ6))))
    else
    (bd2 (m_X7_refuseBad σ) (fun r7 σ8 =>
    some (r7, σ8))))

def m_X7_from (a1 : Int32) (σ : Sg) : Option (Int32 × Sg) :=
    bd1 (m_X7_within a1 (0 : Int32) (1 : Int32) σ) (fun r1 =>
    if r1 = 0 then
    (bd2 (m_X7_refuseBad σ) (fun r12 σ13 =>
    some (r12, σ13)))
    else
    (bd1 (
    if a1 = 0 then
    (some ((σ.1 0 4)))
    else
    (some ((σ.1 0 5)))) (fun o4 =>
    if o4 = 0 then
    (bd2 (m_X7_refuseNo σ) (fun r9 σ10 =>
    some (r9, σ10)))
    else
    (if a1 = 0 then
    (bd1 (m_X2_copy 1 31 σ) (fun σ7 =>
    some ((1 : Int32), σ7)))
    else
    (bd1 (m_X2_copy 1 46 σ) (fun σ5 =>
    some ((1 : Int32), σ5)))))))

def m_X7_status (a1 : Int32) (σ : Sg) : Option (Int32 × Sg) :=
    if a1 = 0 then
    (some ((σ.1 0 9), σ))
    else
    (if a1 = 1 then
    (some ((σ.1 0 10), σ))
    else
    (if a1 = 2 then
    (some ((σ.1 0 11), σ))
    else
    (bd2 (m_X7_refuseBad σ) (fun r1 σ2 =>
    some ((-1 : Int32), σ2)))))

def m_X7_howMany (a1 : Int32) (σ : Sg) : Option (Int32) :=
    if a1 = 0 then
    (some (σ.1 (1 + 1) 3))
    else
    (if a1 = 1 then
    (some (σ.1 (1 + 3) 3))
    else
    (if a1 = 2 then
    (some (σ.1 1 0))
    else
    (if a1 = 3 then
    (bd1 (m_X2_strippedRooms 1 σ) (fun r1 =>
    some r1))
    else
    (if a1 = 4 then
    (bd1 (m_X2_knownByAny 1 σ) (fun r3 =>
    some r3))
    else
    (if a1 = 5 then
    (some (σ.1 (1 + 7) 3))
    else
    (if a1 = 6 then
    (some (σ.1 (1 + 9) 3))
    else
    (if a1 = 7 then
    (some (σ.1 (1 + 11) 3))
    else
    (if a1 = 8 then
    (some (σ.1 (1 + 13) 3))
    else
    (some (σ.1 62 3))))))))))

def m_X7_count (a1 : Int32) (σ : Sg) : Option (Int32 × Sg) :=
    bd1 (m_X7_within a1 (0 : Int32) (9 : Int32) σ) (fun r1 =>
    if r1 = 0 then
    (bd2 (m_X7_refuseBad σ) (fun r5 σ6 =>
    some (r5, σ6)))
    else
    (bd1 (m_X7_howMany a1 σ) (fun r3 =>
    some (r3, σ))))

def m_X7_digest_L6 {β : Type}   (σ : Sg) (kx : Int64 → Option (β)) : Nat → Int32 → Int64 → Option (β)
  | 0, _, _ => none
  | n + 1, v3, v1 =>
    if (10 : Int32) ≤ v3 then
    (kx v1)
    else
    (bd1 (m_X7_howMany v3 σ) (fun r3 =>
    nm ((((31 : Int64) * v1) + (Int32.toInt64 r3))) (fun x5 =>
    nm (v3 + (1 : Int32)) (fun x6 =>
    m_X7_digest_L6 σ kx n x6 x5))))
def m_X7_digest_L33 {β : Type}   (σ : Sg) (kx : Int64 → Option (β)) : Nat → Int32 → Int64 → Option (β)
  | 0, _, _ => none
  | n + 1, v3, v1 =>
    if (4 : Int32) ≤ v3 then
    (kx v1)
    else
    (bd1 (m_X2_roomMinute 1 v3 (0 : Int32) σ) (fun r9 =>
    nm ((((31 : Int64) * v1) + (Int32.toInt64 r9))) (fun x11 =>
    nm (v3 + (1 : Int32)) (fun x12 =>
    m_X7_digest_L33 σ kx n x12 x11))))
def m_X7_digest  (σ : Sg) : Option (Int64) :=
    nm ((1583 : Int64)) (fun x1 =>
    nm ((0 : Int32)) (fun x2 =>
    m_X7_digest_L6 σ (fun x7 =>
    nm ((0 : Int32)) (fun x8 =>
    m_X7_digest_L33 σ (fun x13 =>
    bd1 (m_X6_mixedInto (1 + 1) x13 σ) (fun r14 =>
    bd1 (m_X6_mixedInto (1 + 3) r14 σ) (fun r16 =>
    bd1 (m_X6_mixedInto (1 + 7) r16 σ) (fun r18 =>
    bd1 (m_X6_mixedInto (1 + 9) r18 σ) (fun r20 =>
    bd1 (m_X6_mixedInto (1 + 11) r20 σ) (fun r22 =>
    nm ((((31 : Int64) * r22) + (σ.2 67 0))) (fun x24 =>
    some (((31 : Int64) * x24) + (σ.2 67 1))))))))) 1000 x8 x7)) 1000 x2 x1))

def m_X8_in (a0 : Int64) (a2 : Int64) (a4 : Int64) (σ : Sg) : Option (Int32) :=
    if (lg_cmp a0 a2) < 0 then
    (some (0 : Int32))
    else
    (if 0 < (lg_cmp a0 a4) then
    (some (0 : Int32))
    else
    (some (1 : Int32)))

def m_X8_bad  (σ : Sg) : Option (Int32 × Sg) :=
    if ((0 : Int32) < 0 ∨ len 69 ≤ (0 : Int32).toNatClampNeg) then none else
    (if ((0 : Int32) < 0 ∨ len 69 ≤ (0 : Int32).toNatClampNeg) then none else
    (nm (si σ 69 (0 : Int32).toNatClampNeg ((σ.1 69 (0 : Int32).toNatClampNeg) + (1 : Int32))) (fun σ1 =>
    some ((-2 : Int32), σ1))))

def m_X8_no  (σ : Sg) : Option (Int32 × Sg) :=
    if ((1 : Int32) < 0 ∨ len 69 ≤ (1 : Int32).toNatClampNeg) then none else
    (if ((1 : Int32) < 0 ∨ len 69 ≤ (1 : Int32).toNatClampNeg) then none else
    (nm (si σ 69 (1 : Int32).toNatClampNeg ((σ.1 69 (1 : Int32).toNatClampNeg) + (1 : Int32))) (fun σ1 =>
    some ((-3 : Int32), σ1))))

def m_X8_full  (σ : Sg) : Option (Int32 × Sg) :=
    if ((2 : Int32) < 0 ∨ len 69 ≤ (2 : Int32).toNatClampNeg) then none else
    (if ((2 : Int32) < 0 ∨ len 69 ≤ (2 : Int32).toNatClampNeg) then none else
    (nm (si σ 69 (2 : Int32).toNatClampNeg ((σ.1 69 (2 : Int32).toNatClampNeg) + (1 : Int32))) (fun σ1 =>
    some ((-4 : Int32), σ1))))

def m_X8_status (a1 : Int32) (σ : Sg) : Option (Int32 × Sg) :=
    bd1 (m_X8_in (Int32.toInt64 a1) (0 : Int64) (2 : Int64) σ) (fun r1 =>
    if r1 = 0 then
    (if ((0 : Int32) < 0 ∨ len 69 ≤ (0 : Int32).toNatClampNeg) then none else
    (if ((0 : Int32) < 0 ∨ len 69 ≤ (0 : Int32).toNatClampNeg) then none else
    (nm (si σ 69 (0 : Int32).toNatClampNeg ((σ.1 69 (0 : Int32).toNatClampNeg) + (1 : Int32))) (fun σ3 =>
    some ((-1 : Int32), σ3)))))
    else
    (if (a1 < 0 ∨ len 69 ≤ a1.toNatClampNeg) then none else
    (some ((σ.1 69 a1.toNatClampNeg), σ))))

def m_X8_isSaying (a1 : Int32) (σ : Sg) : Option (Int32) :=
    bd1 (m_X8_in (Int32.toInt64 a1) (0 : Int64) (Int32.toInt64 ((σ.1 68 1) - (1 : Int32))) σ) (fun r1 =>
    if ¬ (r1 = 0 ∨ r1 = 1) then none else
    (some r1))

def m_X8_isEar (a1 : Int32) (σ : Sg) : Option (Int32) :=
    bd1 (m_X8_in (Int32.toInt64 a1) (0 : Int64) (Int32.toInt64 ((σ.1 68 5) - (1 : Int32))) σ) (fun r1 =>
    if ¬ (r1 = 0 ∨ r1 = 1) then none else
    (some r1))

def m_X8_isRoom (a0 : Int32) (σ : Sg) : Option (Int32) :=
    bd1 (m_X8_in (Int32.toInt64 a0) (0 : Int64) (3 : Int64) σ) (fun r1 =>
    if ¬ (r1 = 0 ∨ r1 = 1) then none else
    (some r1))

def m_X8_empties_L12 {β : Type}   (kx : Sg → Option (β)) : Nat → Int32 → Sg → Option (β)
  | 0, _, _ => none
  | n + 1, v1, σ =>
    if (11 : Int32) ≤ v1 then
    (kx σ)
    else
    (if (v1 < 0 ∨ len 74 ≤ v1.toNatClampNeg) then none else
    (nm (si σ 74 v1.toNatClampNeg (0 : Int32)) (fun σ4 =>
    nm (v1 + (1 : Int32)) (fun x5 =>
    m_X8_empties_L12 kx n x5 σ4))))
def m_X8_empties_L33 {β : Type}   (kx : Sg → Option (β)) : Nat → Int32 → Sg → Option (β)
  | 0, _, _ => none
  | n + 1, v1, σ =>
    if (4 : Int32) ≤ v1 then
    (kx σ)
    else
    (if (((1 : Int32) + v1) < 0 ∨ len 74 ≤ ((1 : Int32) + v1).toNatClampNeg) then none else
    (nm (si σ 74 ((1 : Int32) + v1).toNatClampNeg (-1 : Int32)) (fun σ8 =>
    nm (v1 + (1 : Int32)) (fun x9 =>
    m_X8_empties_L33 kx n x9 σ8))))
def m_X8_empties  (σ : Sg) : Option (Sg) :=
    nm (si σ 68 1 (0 : Int32)) (fun σ1 =>
    nm (si σ1 68 5 (0 : Int32)) (fun σ2 =>
    nm ((0 : Int32)) (fun x3 =>
    m_X8_empties_L12 (fun σ6 =>
    nm ((0 : Int32)) (fun x7 =>
    m_X8_empties_L33 (fun σ10 =>
    nm (si σ10 68 16 (0 : Int32)) (fun σ11 =>
    nm (si σ11 68 18 (0 : Int32)) (fun σ12 =>
    nm (si σ12 68 20 (0 : Int32)) (fun σ13 =>
    nm (si σ13 68 14 (0 : Int32)) (fun σ14 =>
    some σ14))))) 1000 x7 σ6)) 1000 x3 σ2)))

def m_X8_house  (σ : Sg) : Option (Int32 × Sg) :=
    nm ((σ.1 68 1)) (fun x1 =>
    bd1 (m_X8_empties σ) (fun σ2 =>
    some (x1, σ2)))

def m_X8_sayingComes (a1 : Int32) (a2 : Int32) (a3 : Int32) (σ : Sg) : Option (Sg) :=
    if ((σ.1 68 1) < 0 ∨ len 70 ≤ (σ.1 68 1).toNatClampNeg) then none else
    (nm (si σ 70 (σ.1 68 1).toNatClampNeg a1) (fun σ1 =>
    if ((σ1.1 68 1) < 0 ∨ len 71 ≤ (σ1.1 68 1).toNatClampNeg) then none else
    (nm (si σ1 71 (σ1.1 68 1).toNatClampNeg a2) (fun σ2 =>
    if ((σ2.1 68 1) < 0 ∨ len 72 ≤ (σ2.1 68 1).toNatClampNeg) then none else
    (nm (si σ2 72 (σ2.1 68 1).toNatClampNeg a3) (fun σ3 =>
    nm (si σ3 68 1 ((σ3.1 68 1) + (1 : Int32))) (fun σ4 =>
    nm (si σ4 68 14 (0 : Int32)) (fun σ5 =>
    some σ5))))))))

def m_X8_earComes (a1 : Int32) (a2 : Int32) (σ : Sg) : Option (Sg) :=
    if ((σ.1 68 5) < 0 ∨ len 73 ≤ (σ.1 68 5).toNatClampNeg) then none else
    (nm (si σ 73 (σ.1 68 5).toNatClampNeg a1) (fun σ1 =>
    if (((5 : Int32) + (σ1.1 68 5)) < 0 ∨ len 74 ≤ ((5 : Int32) + (σ1.1 68 5)).toNatClampNeg) then none else
    (nm (si σ1 74 ((5 : Int32) + (σ1.1 68 5)).toNatClampNeg a2) (fun σ2 =>
    if (((8 : Int32) + (σ2.1 68 5)) < 0 ∨ len 74 ≤ ((8 : Int32) + (σ2.1 68 5)).toNatClampNeg) then none else
    (nm (si σ2 74 ((8 : Int32) + (σ2.1 68 5)).toNatClampNeg (0 : Int32)) (fun σ3 =>
    nm (si σ3 68 5 ((σ3.1 68 5) + (1 : Int32))) (fun σ4 =>
    nm (si σ4 68 14 (0 : Int32)) (fun σ5 =>
    some σ5))))))))

def m_X8_say (a1 : Int32) (a2 : Int32) (a3 : Int32) (σ : Sg) : Option (Int32 × Sg) :=
    bd1 (m_X8_in (Int32.toInt64 a1) (0 : Int64) (5 : Int64) σ) (fun r1 =>
    if r1 = 0 then
    (bd2 (m_X8_bad σ) (fun r3 σ4 =>
    some (r3, σ4)))
    else
    (bd1 (m_X8_isRoom a2 σ) (fun r6 =>
    if r6 = 0 then
    (bd2 (m_X8_bad σ) (fun r8 σ9 =>
    some (r8, σ9)))
    else
    (bd1 (m_X8_in (Int32.toInt64 a3) (1 : Int64) (9 : Int64) σ) (fun r11 =>
    if r11 = 0 then
    (bd2 (m_X8_bad σ) (fun r18 σ19 =>
    some (r18, σ19)))
    else
    (if (σ.1 68 1) = (8 : Int32) then
    (bd2 (m_X8_full σ) (fun r15 σ16 =>
    some (r15, σ16)))
    else
    (bd1 (m_X8_sayingComes a1 a2 a3 σ) (fun σ13 =>
    some (((σ13.1 68 1) - (1 : Int32)), σ13)))))))))

def m_X8_ear (a1 : Int32) (σ : Sg) : Option (Int32 × Sg) :=
    bd1 (m_X8_in (Int32.toInt64 a1) (0 : Int64) (5 : Int64) σ) (fun r1 =>
    if r1 = 0 then
    (bd2 (m_X8_bad σ) (fun r8 σ9 =>
    some (r8, σ9)))
    else
    (if (σ.1 68 5) = (3 : Int32) then
    (bd2 (m_X8_full σ) (fun r5 σ6 =>
    some (r5, σ6)))
    else
    (bd1 (m_X8_earComes a1 (0 : Int32) σ) (fun σ3 =>
    some (((σ3.1 68 5) - (1 : Int32)), σ3)))))

def m_X8_loudBy (a0 : Int32) (a1 : Int32) (a2 : Int32) (σ : Sg) : Option (Int32) :=
    bd1 (
    if 0 ≤ (a1 - (a2 / (4 : Int32))) then
    (some ((a1 - (a2 / (4 : Int32)))))
    else
    (some ((0 : Int32)))) (fun o2 =>
    nm (((o2 + (1 : Int32)) / (2 : Int32))) (fun x3 =>
    bd1 (
    if (2 : Int32) < a2 then
    (some ((0 : Int32)))
    else
    (some ((4 : Int32)))) (fun o5 =>
    nm ((o2 + o5)) (fun x6 =>
    if a0 = 0 then
    (some o2)
    else
    (if a0 = 1 then
    (some x3)
    else
    (if a0 = 2 then
    (some x6)
    else
    (if a0 = 3 then
    (bd1 (
    if a2 < (20 : Int32) then
    (some ((0 : Int32)))
    else
    (some ((3 : Int32)))) (fun o8 =>
    some (x3 + o8)))
    else
    (if a0 = 4 then
    (if (a2 - a2 / (5 : Int32) * (5 : Int32)) = 0 then
    (some o2)
    else
    (some (0 : Int32)))
    else
    (if (a2 - a2 / (2 : Int32) * (2 : Int32)) = 0 then
    (some x6)
    else
    (some (0 : Int32)))))))))))

def m_X8_youngBy (a0 : Int32) (a1 : Int32) (σ : Sg) : Option (Int32) :=
    bd1 (
    if a0 < (1 : Int32) then
    (some ((0 : Int32)))
    else
    (some ((2 : Int32)))) (fun o2 =>
    some ((a0 - (a1 / (4 : Int32))) + o2))

def m_X8_hearsBy (a0 : Int32) (a1 : Int32) (a2 : Int32) (σ : Sg) : Option (Int32) :=
    nm ((a1 - (a2 / (4 : Int32)))) (fun x1 =>
    bd1 (m_X8_youngBy a1 a2 σ) (fun r2 =>
    if a0 = 0 then
    (if x1 < (1 : Int32) then
    (some (0 : Int32))
    else
    (some (1 : Int32)))
    else
    (if a0 = 1 then
    (if (x1 - (3 : Int32)) < (1 : Int32) then
    (some (0 : Int32))
    else
    (some (1 : Int32)))
    else
    (if a0 = 2 then
    (if r2 < (1 : Int32) then
    (some (0 : Int32))
    else
    (some (1 : Int32)))
    else
    (if a0 = 3 then
    (bd1 (
    if a2 ≤ (12 : Int32) then
    (some ((0 : Int32)))
    else
    (some ((2 : Int32)))) (fun o5 =>
    if ((x1 - (3 : Int32)) + o5) < (1 : Int32) then
    (some (0 : Int32))
    else
    (some (1 : Int32))))
    else
    (if a0 = 4 then
    (bd1 (
    if r2 ≤ (4 : Int32) then
    (some (r2))
    else
    (some ((4 : Int32)))) (fun o7 =>
    if o7 < (1 : Int32) then
    (some (0 : Int32))
    else
    (some (1 : Int32))))
    else
    (bd1 (m_X8_youngBy a1 (a2 / (2 : Int32)) σ) (fun r8 =>
    if r8 < (1 : Int32) then
    (some (0 : Int32))
    else
    (some (1 : Int32))))))))))

def m_X8_minuteOf (a1 : Int32) (σ : Sg) : Option (Int32) :=
    if ((0 : Int32) < 0 ∨ len 74 ≤ (0 : Int32).toNatClampNeg) then none else
    (if (((1 : Int32) + a1) < 0 ∨ len 74 ≤ ((1 : Int32) + a1).toNatClampNeg) then none else
    (nm (((σ.1 74 (0 : Int32).toNatClampNeg) - (σ.1 74 ((1 : Int32) + a1).toNatClampNeg))) (fun x1 =>
    if (((1 : Int32) + a1) < 0 ∨ len 74 ≤ ((1 : Int32) + a1).toNatClampNeg) then none else
    (if (σ.1 74 ((1 : Int32) + a1).toNatClampNeg) < 0 then
    (some (-1 : Int32))
    else
    (if (30 : Int32) ≤ x1 then
    (some (-1 : Int32))
    else
    (some x1))))))

def m_X8_loudIn (a1 : Int32) (a2 : Int32) (σ : Sg) : Option (Int32) :=
    if (a1 < 0 ∨ len 70 ≤ a1.toNatClampNeg) then none else
    (if (a1 < 0 ∨ len 72 ≤ a1.toNatClampNeg) then none else
    (bd1 (m_X8_loudBy (σ.1 70 a1.toNatClampNeg) (σ.1 72 a1.toNatClampNeg) a2 σ) (fun r1 =>
    some r1)))

def m_X8_together_L6  (c1 : Int32) (c2 : Int32) (c3 : Int32) (σ : Sg) (kx : Unit → Option (Int32)) : Nat → Int32 → Int32 → Option (Int32)
  | 0, _, _ => none
  | n + 1, v5, v4 =>
    if (σ.1 68 1) ≤ v5 then
    (some v4)
    else
    (bd1 (
    if c3 < 0 then
    (some ((0 : Int32)))
    else
    (if (v5 < 0 ∨ len 71 ≤ v5.toNatClampNeg) then none else
    (if (σ.1 71 v5.toNatClampNeg) = c2 then
    (if ((c1 >>> (v5 &&& 31)) &&& (1 : Int32)) = (1 : Int32) then
    (bd1 (m_X8_loudIn v5 c3 σ) (fun r7 =>
    some (r7)))
    else
    (some ((0 : Int32))))
    else
    (some ((0 : Int32)))))) (fun o4 =>
    nm ((v4 + o4)) (fun x5 =>
    nm (v5 + (1 : Int32)) (fun x6 =>
    m_X8_together_L6 c1 c2 c3 σ kx n x6 x5))))
def m_X8_together (a1 : Int32) (a2 : Int32) (a3 : Int32) (σ : Sg) : Option (Int32) :=
    nm ((0 : Int32)) (fun x1 =>
    nm ((0 : Int32)) (fun x2 =>
    m_X8_together_L6 a1 a2 a3 σ (fun _ => none) 1000 x2 x1))

def m_X8_heardOf_L16  (c5 : Int32) (c1 : Int32) (c2 : Int32) (c3 : Int32) (c4 : Int32) (σ : Sg) (kx : Unit → Option (Int32)) : Nat → Int32 → Int32 → Option (Int32)
  | 0, _, _ => none
  | n + 1, v7, v6 =>
    if (σ.1 68 1) ≤ v7 then
    (some v6)
    else
    (bd1 (
    if c4 < 0 then
    (some (v6))
    else
    (if (v7 < 0 ∨ len 71 ≤ v7.toNatClampNeg) then none else
    (if (σ.1 71 v7.toNatClampNeg) = c3 then
    (if ((c2 >>> (v7 &&& 31)) &&& (1 : Int32)) = (1 : Int32) then
    (bd1 (m_X8_loudIn v7 c4 σ) (fun r8 =>
    bd1 (m_X8_hearsBy c1 r8 (c5 - r8) σ) (fun r10 =>
    bd1 (
    if r10 = 0 then
    (some ((0 : Int32)))
    else
    (some (((1 : Int32) <<< (v7 &&& 31))))) (fun o13 =>
    nm ((v6 ||| o13)) (fun x14 =>
    some (x14))))))
    else
    (some (v6)))
    else
    (some (v6))))) (fun o6 =>
    nm (v7 + (1 : Int32)) (fun x7 =>
    m_X8_heardOf_L16 c5 c1 c2 c3 c4 σ kx n x7 o6)))
def m_X8_heardOf (a1 : Int32) (a2 : Int32) (a3 : Int32) (a4 : Int32) (σ : Sg) : Option (Int32) :=
    bd1 (m_X8_together a2 a3 a4 σ) (fun r1 =>
    nm ((0 : Int32)) (fun x3 =>
    nm ((0 : Int32)) (fun x4 =>
    m_X8_heardOf_L16 r1 a1 a2 a3 a4 σ (fun _ => none) 1000 x4 x3)))

def m_X8_heardIn (a1 : Int32) (a2 : Int32) (a3 : Int32) (σ : Sg) : Option (Int32) :=
    if (a1 < 0 ∨ len 73 ≤ a1.toNatClampNeg) then none else
    (bd1 (m_X8_heardOf (σ.1 73 a1.toNatClampNeg) (255 : Int32) a2 a3 σ) (fun r1 =>
    some r1))

def m_X8_heardNow (a1 : Int32) (σ : Sg) : Option (Int32) :=
    if (((5 : Int32) + a1) < 0 ∨ len 74 ≤ ((5 : Int32) + a1).toNatClampNeg) then none else
    (if (((5 : Int32) + a1) < 0 ∨ len 74 ≤ ((5 : Int32) + a1).toNatClampNeg) then none else
    (bd1 (m_X8_minuteOf (σ.1 74 ((5 : Int32) + a1).toNatClampNeg) σ) (fun r1 =>
    bd1 (m_X8_heardIn a1 (σ.1 74 ((5 : Int32) + a1).toNatClampNeg) r1 σ) (fun r3 =>
    some r3))))

def m_X8_many_L4   (σ : Sg) (kx : Unit → Option (Int32)) : Nat → Int32 → Int32 → Option (Int32)
  | 0, _, _ => none
  | n + 1, v2, v1 =>
    if v2 = 0 then
    (some v1)
    else
    (nm (v1 + (1 : Int32)) (fun x2 =>
    nm ((v2 &&& (v2 - (1 : Int32)))) (fun x3 =>
    m_X8_many_L4 σ kx n x3 x2)))
def m_X8_many (a0 : Int32) (σ : Sg) : Option (Int32) :=
    nm ((0 : Int32)) (fun x1 =>
    m_X8_many_L4 σ (fun _ => none) 1000 a0 x1)

def m_X8_knownByAll  (σ : Sg) : Option (Int32) :=
    if ((8 : Int32) < 0 ∨ len 74 ≤ (8 : Int32).toNatClampNeg) then none else
    (if ((9 : Int32) < 0 ∨ len 74 ≤ (9 : Int32).toNatClampNeg) then none else
    (if ((10 : Int32) < 0 ∨ len 74 ≤ (10 : Int32).toNatClampNeg) then none else
    (bd1 (m_X8_many (((σ.1 74 (8 : Int32).toNatClampNeg) ||| (σ.1 74 (9 : Int32).toNatClampNeg)) ||| (σ.1 74 (10 : Int32).toNatClampNeg)) σ) (fun r1 =>
    some r1))))

def m_X8_goesBy_L2 {β : Type}   (kx : Sg → Option (β)) : Nat → Int32 → Sg → Option (β)
  | 0, _, _ => none
  | n + 1, v1, σ =>
    if (σ.1 68 5) ≤ v1 then
    (kx σ)
    else
    (if (((8 : Int32) + v1) < 0 ∨ len 74 ≤ ((8 : Int32) + v1).toNatClampNeg) then none else
    (bd1 (m_X8_heardNow v1 σ) (fun r2 =>
    if (((8 : Int32) + v1) < 0 ∨ len 74 ≤ ((8 : Int32) + v1).toNatClampNeg) then none else
    (nm (si σ 74 ((8 : Int32) + v1).toNatClampNeg ((σ.1 74 ((8 : Int32) + v1).toNatClampNeg) ||| r2)) (fun σ4 =>
    nm (v1 + (1 : Int32)) (fun x5 =>
    m_X8_goesBy_L2 kx n x5 σ4))))))
def m_X8_goesBy  (σ : Sg) : Option (Sg) :=
    nm ((0 : Int32)) (fun x1 =>
    m_X8_goesBy_L2 (fun σ6 =>
    if ((0 : Int32) < 0 ∨ len 74 ≤ (0 : Int32).toNatClampNeg) then none else
    (if ((0 : Int32) < 0 ∨ len 74 ≤ (0 : Int32).toNatClampNeg) then none else
    (nm (si σ6 74 (0 : Int32).toNatClampNeg ((σ6.1 74 (0 : Int32).toNatClampNeg) + (1 : Int32))) (fun σ7 =>
    some σ7)))) 1000 x1 σ)

def m_X8_goMinutes_L2  (c1 : Int32) (kx : Sg → Option (Sg)) : Nat → Int32 → Sg → Option (Sg)
  | 0, _, _ => none
  | n + 1, v2, σ =>
    if c1 ≤ v2 then
    (some σ)
    else
    (if ((0 : Int32) < 0 ∨ len 74 ≤ (0 : Int32).toNatClampNeg) then none else
    (if (9999 : Int32) ≤ (σ.1 74 (0 : Int32).toNatClampNeg) then
    (some σ)
    else
    (bd1 (m_X8_goesBy σ) (fun σ2 =>
    nm (v2 + (1 : Int32)) (fun x4 =>
    m_X8_goMinutes_L2 c1 kx n x4 σ2)))))
def m_X8_goMinutes (a1 : Int32) (σ : Sg) : Option (Sg) :=
    nm ((0 : Int32)) (fun x1 =>
    m_X8_goMinutes_L2 a1 (fun _ => none) 1000 x1 σ)

def m_X8_type (a1 : Int32) (σ : Sg) : Option (Int32 × Sg) :=
    bd1 (m_X8_in (Int32.toInt64 a1) (0 : Int64) (127 : Int64) σ) (fun r1 =>
    if r1 = 0 then
    (bd2 (m_X8_bad σ) (fun r8 σ9 =>
    some (r8, σ9)))
    else
    (if (σ.1 68 9) = (150 : Int32) then
    (bd2 (m_X8_full σ) (fun r5 σ6 =>
    some (r5, σ6)))
    else
    (if ((σ.1 68 9) < 0 ∨ len 75 ≤ (σ.1 68 9).toNatClampNeg) then none else
    (nm (si σ 75 (σ.1 68 9).toNatClampNeg a1) (fun σ3 =>
    nm (si σ3 68 9 ((σ3.1 68 9) + (1 : Int32))) (fun σ4 =>
    some ((σ4.1 68 9), σ4)))))))

def m_X8_clear  (σ : Sg) : Option (Int32 × Sg) :=
    nm ((σ.1 68 9)) (fun x1 =>
    nm (si σ 68 9 (0 : Int32)) (fun σ2 =>
    some (x1, σ2)))

def m_X8_byteAt (a1 : Int32) (σ : Sg) : Option (Int32) :=
    if (σ.1 68 9) ≤ a1 then
    (some (-1 : Int32))
    else
    (if (a1 < 0 ∨ len 75 ≤ a1.toNatClampNeg) then none else
    (some (σ.1 75 a1.toNatClampNeg)))

def m_X8_skips_L0   (kx : Sg → Option (Sg)) : Nat → Sg → Option (Sg)
  | 0, _ => none
  | n + 1, σ =>
    bd1 (m_X8_byteAt (σ.1 68 10) σ) (fun r1 =>
    if r1 = (32 : Int32) then
    (nm (si σ 68 10 ((σ.1 68 10) + (1 : Int32))) (fun σ3 =>
    m_X8_skips_L0 kx n σ3))
    else
    (some σ))
def m_X8_skips  (σ : Sg) : Option (Sg) :=
    m_X8_skips_L0 (fun _ => none) 1000 σ

def m_X8_faults (a1 : Int32) (σ : Sg) : Option (Sg) :=
    bd1 (
    if 0 ≤ (σ.1 68 11) then
    (some ((σ.1 68 11)))
    else
    (some (a1))) (fun o2 =>
    nm (si σ 68 11 o2) (fun σ3 =>
    some σ3))

def m_X8_isLetter (a0 : Int32) (σ : Sg) : Option (Int32) :=
    bd1 (m_X8_in (Int32.toInt64 a0) (97 : Int64) (122 : Int64) σ) (fun r1 =>
    if ¬ (r1 = 0 ∨ r1 = 1) then none else
    (some r1))

def m_X8_isFigure (a0 : Int32) (σ : Sg) : Option (Int32) :=
    bd1 (m_X8_in (Int32.toInt64 a0) (48 : Int64) (57 : Int64) σ) (fun r1 =>
    if ¬ (r1 = 0 ∨ r1 = 1) then none else
    (some r1))

def m_X8_word_L2   (kx : Sg → Option (Int64 × Sg)) : Nat → Int64 → Sg → Option (Int64 × Sg)
  | 0, _, _ => none
  | n + 1, v1, σ =>
    bd1 (m_X8_byteAt (σ.1 68 10) σ) (fun r2 =>
    bd1 (m_X8_isLetter r2 σ) (fun r4 =>
    if r4 = 0 then
    (some (v1, σ))
    else
    (bd1 (
    if 0 ≤ (lg_cmp v1 (99999999999 : Int64)) then
    (some (v1))
    else
    (bd1 (m_X8_byteAt (σ.1 68 10) σ) (fun r9 =>
    some (((((27 : Int64) * v1) + (Int32.toInt64 r9)) - (96 : Int64)))))) (fun o7 =>
    nm (si σ 68 10 ((σ.1 68 10) + (1 : Int32))) (fun σ8 =>
    m_X8_word_L2 kx n o7 σ8)))))
def m_X8_word  (σ : Sg) : Option (Int64 × Sg) :=
    nm ((0 : Int64)) (fun x1 =>
    m_X8_word_L2 (fun _ => none) 1000 x1 σ)

def m_X8_letters (a0 : Int32) (a1 : Int32) (a2 : Int32) (a3 : Int32) (a4 : Int32) (σ : Sg) : Option (Int64) :=
    nm ((Int32.toInt64 a0)) (fun x1 =>
    bd1 (
    if a1 ≤ 0 then
    (some (x1))
    else
    (some ((((27 : Int64) * x1) + (Int32.toInt64 a1))))) (fun o3 =>
    bd1 (
    if a2 ≤ 0 then
    (some (o3))
    else
    (some ((((27 : Int64) * o3) + (Int32.toInt64 a2))))) (fun o5 =>
    bd1 (
    if a3 ≤ 0 then
    (some (o5))
    else
    (some ((((27 : Int64) * o5) + (Int32.toInt64 a3))))) (fun o7 =>
    if a4 ≤ 0 then
    (some o7)
    else
    (some (((27 : Int64) * o7) + (Int32.toInt64 a4)))))))

def m_X8_itemBy (a0 : Int64) (σ : Sg) : Option (Int32) :=
    bd1 (m_X8_letters (13 : Int32) (9 : Int32) (14 : Int32) (21 : Int32) (20 : Int32) σ) (fun r1 =>
    nm (((((r1 * (27 : Int64)) + (5 : Int64)) * (27 : Int64)) + (19 : Int64))) (fun x3 =>
    bd1 (m_X8_letters (8 : Int32) (15 : Int32) (21 : Int32) (19 : Int32) (5 : Int32) σ) (fun r4 =>
    if (lg_cmp a0 r4) = 0 then
    (some (0 : Int32))
    else
    (bd1 (m_X8_letters (19 : Int32) (1 : Int32) (25 : Int32) (0 : Int32) (0 : Int32) σ) (fun r6 =>
    if (lg_cmp a0 r6) = 0 then
    (some (1 : Int32))
    else
    (bd1 (m_X8_letters (5 : Int32) (1 : Int32) (18 : Int32) (0 : Int32) (0 : Int32) σ) (fun r8 =>
    if (lg_cmp a0 r8) = 0 then
    (some (2 : Int32))
    else
    (bd1 (m_X8_letters (19 : Int32) (20 : Int32) (18 : Int32) (9 : Int32) (16 : Int32) σ) (fun r10 =>
    if (lg_cmp a0 r10) = 0 then
    (some (3 : Int32))
    else
    (bd1 (m_X8_letters (16 : Int32) (1 : Int32) (16 : Int32) (5 : Int32) (18 : Int32) σ) (fun r12 =>
    if (lg_cmp a0 r12) = 0 then
    (some (4 : Int32))
    else
    (if (lg_cmp a0 x3) = 0 then
    (some (5 : Int32))
    else
    (some (-1 : Int32))))))))))))))

def m_X8_number_L12 {β : Type}  (c3 : Int32) (c1 : Int32) (c2 : Int32) (kx : Int32 → Sg → Option (β)) : Nat → Int32 → Sg → Option (β)
  | 0, _, _ => none
  | n + 1, v4, σ =>
    bd1 (m_X8_byteAt (σ.1 68 10) σ) (fun r5 =>
    bd1 (m_X8_isFigure r5 σ) (fun r7 =>
    if r7 = 0 then
    (kx v4 σ)
    else
    (bd1 (
    if (3 : Int32) ≤ ((σ.1 68 10) - c3) then
    (some (v4))
    else
    (bd1 (m_X8_byteAt (σ.1 68 10) σ) (fun r12 =>
    some (((((10 : Int32) * v4) + r12) - (48 : Int32)))))) (fun o10 =>
    nm (si σ 68 10 ((σ.1 68 10) + (1 : Int32))) (fun σ11 =>
    m_X8_number_L12 c3 c1 c2 kx n o10 σ11)))))
def m_X8_number (a1 : Int32) (a2 : Int32) (σ : Sg) : Option (Int32 × Sg) :=
    bd1 (m_X8_skips σ) (fun σ1 =>
    nm ((σ1.1 68 10)) (fun x3 =>
    nm ((0 : Int32)) (fun x4 =>
    m_X8_number_L12 x3 a1 a2 (fun x14 σ15 =>
    nm (((σ15.1 68 10) - x3)) (fun x16 =>
    bd1 (
    if x16 = 0 then
    (bd1 (m_X8_faults x3 σ15) (fun σ19 =>
    some (σ19)))
    else
    (if (2 : Int32) < x16 then
    (bd1 (m_X8_faults x3 σ15) (fun σ21 =>
    some (σ21)))
    else
    (bd1 (m_X8_in (Int32.toInt64 x14) (Int32.toInt64 a1) (Int32.toInt64 a2) σ15) (fun r23 =>
    if r23 = 0 then
    (bd1 (m_X8_faults x3 σ15) (fun σ25 =>
    some (σ25)))
    else
    (some (σ15)))))) (fun σ18 =>
    some (x14, σ18)))) 1000 x4 σ1)))

def m_X8_ends  (σ : Sg) : Option (Sg) :=
    bd1 (m_X8_skips σ) (fun σ1 =>
    bd1 (m_X8_byteAt (σ1.1 68 10) σ1) (fun r3 =>
    bd1 (
    if r3 = (59 : Int32) then
    (some (σ1))
    else
    (bd1 (m_X8_faults (σ1.1 68 10) σ1) (fun σ8 =>
    some (σ8)))) (fun σ6 =>
    nm (si σ6 68 10 ((σ6.1 68 10) + (1 : Int32))) (fun σ7 =>
    some σ7))))

def m_X8_readItem (a1 : Int32) (a2 : Int32) (σ : Sg) : Option (Sg) :=
    if (a2 < 0 ∨ len 76 ≤ a2.toNatClampNeg) then none else
    (nm (si σ 76 a2.toNatClampNeg a1) (fun σ1 =>
    bd1 (
    if a1 = (1 : Int32) then
    (bd2 (m_X8_number (0 : Int32) (5 : Int32) σ1) (fun r22 σ23 =>
    if ((a2 + (1 : Int32)) < 0 ∨ len 76 ≤ (a2 + (1 : Int32)).toNatClampNeg) then none else
    (nm (si σ23 76 (a2 + (1 : Int32)).toNatClampNeg r22) (fun σ25 =>
    bd2 (m_X8_number (0 : Int32) (3 : Int32) σ25) (fun r26 σ27 =>
    if ((a2 + (2 : Int32)) < 0 ∨ len 76 ≤ (a2 + (2 : Int32)).toNatClampNeg) then none else
    (nm (si σ27 76 (a2 + (2 : Int32)).toNatClampNeg r26) (fun σ29 =>
    bd2 (m_X8_number (1 : Int32) (9 : Int32) σ29) (fun r30 σ31 =>
    if ((a2 + (3 : Int32)) < 0 ∨ len 76 ≤ (a2 + (3 : Int32)).toNatClampNeg) then none else
    (nm (si σ31 76 (a2 + (3 : Int32)).toNatClampNeg r30) (fun σ33 =>
    some (σ33)))))))))))
    else
    (if a1 = (2 : Int32) then
    (bd2 (m_X8_number (0 : Int32) (5 : Int32) σ1) (fun r14 σ15 =>
    if ((a2 + (1 : Int32)) < 0 ∨ len 76 ≤ (a2 + (1 : Int32)).toNatClampNeg) then none else
    (nm (si σ15 76 (a2 + (1 : Int32)).toNatClampNeg r14) (fun σ17 =>
    bd2 (m_X8_number (0 : Int32) (3 : Int32) σ17) (fun r18 σ19 =>
    if ((a2 + (2 : Int32)) < 0 ∨ len 76 ≤ (a2 + (2 : Int32)).toNatClampNeg) then none else
    (nm (si σ19 76 (a2 + (2 : Int32)).toNatClampNeg r18) (fun σ21 =>
    some (σ21))))))))
    else
    (if a1 = (5 : Int32) then
    (bd2 (m_X8_number (1 : Int32) (99 : Int32) σ1) (fun r10 σ11 =>
    if ((a2 + (1 : Int32)) < 0 ∨ len 76 ≤ (a2 + (1 : Int32)).toNatClampNeg) then none else
    (nm (si σ11 76 (a2 + (1 : Int32)).toNatClampNeg r10) (fun σ13 =>
    some (σ13)))))
    else
    (if a1 ≤ (2 : Int32) then
    (some (σ1))
    else
    (bd2 (m_X8_number (0 : Int32) (3 : Int32) σ1) (fun r6 σ7 =>
    if ((a2 + (1 : Int32)) < 0 ∨ len 76 ≤ (a2 + (1 : Int32)).toNatClampNeg) then none else
    (nm (si σ7 76 (a2 + (1 : Int32)).toNatClampNeg r6) (fun σ9 =>
    some (σ9))))))))) (fun σ3 =>
    bd1 (m_X8_ends σ3) (fun σ4 =>
    some σ4))))

def m_X8_readAll_L20   (kx : Sg → Option (Int32 × Sg)) : Nat → Int32 → Int32 → Int32 → Sg → Option (Int32 × Sg)
  | 0, _, _, _, _ => none
  | n + 1, v3, v2, v1, σ =>
    if 0 ≤ (σ.1 68 11) then
    (some (v1, σ))
    else
    (if v1 = 0 then
    (nm ((σ.1 68 10)) (fun x8 =>
    bd2 (m_X8_word σ) (fun r9 σ10 =>
    bd1 (m_X8_itemBy r9 σ10) (fun r12 =>
    bd1 (
    if r12 = (1 : Int32) then
    (some ((1 : Int32)))
    else
    (some ((0 : Int32)))) (fun o15 =>
    nm ((v2 + o15)) (fun x16 =>
    bd1 (
    if r12 = (2 : Int32) then
    (some ((1 : Int32)))
    else
    (some ((0 : Int32)))) (fun o18 =>
    nm ((v3 + o18)) (fun x19 =>
    bd1 (
    if r12 < 0 then
    (bd1 (m_X8_faults x8 σ10) (fun σ25 =>
    some (σ25)))
    else
    (bd1 (
    if r12 = 0 then
    (some ((1 : Int32)))
    else
    (some ((0 : Int32)))) (fun o28 =>
    bd1 (
    if v1 = 0 then
    (some ((1 : Int32)))
    else
    (some ((0 : Int32)))) (fun o30 =>
    if o28 = o30 then
    (if (8 : Int32) < x16 then
    (bd1 (m_X8_faults x8 σ10) (fun σ33 =>
    some (σ33)))
    else
    (if x19 ≤ (3 : Int32) then
    (bd1 (m_X8_readItem r12 ((4 : Int32) * v1) σ10) (fun σ35 =>
    some (σ35)))
    else
    (bd1 (m_X8_faults x8 σ10) (fun σ37 =>
    some (σ37)))))
    else
    (bd1 (m_X8_faults x8 σ10) (fun σ31 =>
    some (σ31))))))) (fun σ21 =>
    nm (v1 + (1 : Int32)) (fun x22 =>
    bd1 (m_X8_skips σ21) (fun σ23 =>
    m_X8_readAll_L20 kx n x19 x16 x22 σ23)))))))))))
    else
    (if (σ.1 68 9) ≤ (σ.1 68 10) then
    (some (v1, σ))
    else
    (nm ((σ.1 68 10)) (fun x39 =>
    bd2 (m_X8_word σ) (fun r40 σ41 =>
    bd1 (m_X8_itemBy r40 σ41) (fun r43 =>
    bd1 (
    if r43 = (1 : Int32) then
    (some ((1 : Int32)))
    else
    (some ((0 : Int32)))) (fun o46 =>
    nm ((v2 + o46)) (fun x47 =>
    bd1 (
    if r43 = (2 : Int32) then
    (some ((1 : Int32)))
    else
    (some ((0 : Int32)))) (fun o49 =>
    nm ((v3 + o49)) (fun x50 =>
    bd1 (
    if r43 < 0 then
    (bd1 (m_X8_faults x39 σ41) (fun σ56 =>
    some (σ56)))
    else
    (bd1 (
    if r43 = 0 then
    (some ((1 : Int32)))
    else
    (some ((0 : Int32)))) (fun o59 =>
    bd1 (
    if v1 = 0 then
    (some ((1 : Int32)))
    else
    (some ((0 : Int32)))) (fun o61 =>
    if o59 = o61 then
    (if (8 : Int32) < x47 then
    (bd1 (m_X8_faults x39 σ41) (fun σ64 =>
    some (σ64)))
    else
    (if x50 ≤ (3 : Int32) then
    (bd1 (m_X8_readItem r43 ((4 : Int32) * v1) σ41) (fun σ66 =>
    some (σ66)))
    else
    (bd1 (m_X8_faults x39 σ41) (fun σ68 =>
    some (σ68)))))
    else
    (bd1 (m_X8_faults x39 σ41) (fun σ62 =>
    some (σ62))))))) (fun σ52 =>
    nm (v1 + (1 : Int32)) (fun x53 =>
    bd1 (m_X8_skips σ52) (fun σ54 =>
    m_X8_readAll_L20 kx n x50 x47 x53 σ54)))))))))))))
def m_X8_readAll  (σ : Sg) : Option (Int32 × Sg) :=
    nm ((0 : Int32)) (fun x1 =>
    nm ((0 : Int32)) (fun x2 =>
    nm ((0 : Int32)) (fun x3 =>
    nm (si σ 68 10 (0 : Int32)) (fun σ4 =>
    nm (si σ4 68 11 (-1 : Int32)) (fun σ5 =>
    bd1 (m_X8_skips σ5) (fun σ6 =>
    m_X8_readAll_L20 (fun _ => none) 1000 x3 x2 x1 σ6))))))

def m_X8_becomes (a1 : Int32) (σ : Sg) : Option (Sg) :=
    if ((a1 + (1 : Int32)) < 0 ∨ len 76 ≤ (a1 + (1 : Int32)).toNatClampNeg) then none else
    (nm ((σ.1 76 (a1 + (1 : Int32)).toNatClampNeg)) (fun x1 =>
    if (a1 < 0 ∨ len 76 ≤ a1.toNatClampNeg) then none else
    (nm ((σ.1 76 a1.toNatClampNeg)) (fun x2 =>
    if x2 = 0 then
    (bd1 (m_X8_empties σ) (fun σ3 =>
    some σ3))
    else
    (if x2 = 1 then
    (if ((a1 + (2 : Int32)) < 0 ∨ len 76 ≤ (a1 + (2 : Int32)).toNatClampNeg) then none else
    (if ((a1 + (3 : Int32)) < 0 ∨ len 76 ≤ (a1 + (3 : Int32)).toNatClampNeg) then none else
    (bd1 (m_X8_sayingComes x1 (σ.1 76 (a1 + (2 : Int32)).toNatClampNeg) (σ.1 76 (a1 + (3 : Int32)).toNatClampNeg) σ) (fun σ5 =>
    some σ5))))
    else
    (if x2 = 2 then
    (if ((a1 + (2 : Int32)) < 0 ∨ len 76 ≤ (a1 + (2 : Int32)).toNatClampNeg) then none else
    (bd1 (m_X8_earComes x1 (σ.1 76 (a1 + (2 : Int32)).toNatClampNeg) σ) (fun σ7 =>
    some σ7)))
    else
    (if x2 = 3 then
    (if ((0 : Int32) < 0 ∨ len 74 ≤ (0 : Int32).toNatClampNeg) then none else
    (if (((1 : Int32) + x1) < 0 ∨ len 74 ≤ ((1 : Int32) + x1).toNatClampNeg) then none else
    (nm (si σ 74 ((1 : Int32) + x1).toNatClampNeg (σ.1 74 (0 : Int32).toNatClampNeg)) (fun σ9 =>
    some σ9))))
    else
    (if x2 = 4 then
    (if (((1 : Int32) + x1) < 0 ∨ len 74 ≤ ((1 : Int32) + x1).toNatClampNeg) then none else
    (nm (si σ 74 ((1 : Int32) + x1).toNatClampNeg (-1 : Int32)) (fun σ10 =>
    some σ10)))
    else
    (bd1 (m_X8_goMinutes x1 σ) (fun σ11 =>
    some σ11))))))))))

def m_X8_read_L40  (c1 : Int32) (kx : Sg → Option (Int32 × Sg)) : Nat → Int32 → Sg → Option (Int32 × Sg)
  | 0, _, _ => none
  | n + 1, v2, σ =>
    if c1 ≤ v2 then
    (some (c1, σ))
    else
    (bd1 (m_X8_becomes ((4 : Int32) * v2) σ) (fun σ5 =>
    nm (v2 + (1 : Int32)) (fun x7 =>
    m_X8_read_L40 c1 kx n x7 σ5)))
def m_X8_read  (σ : Sg) : Option (Int32 × Sg) :=
    bd2 (m_X8_readAll σ) (fun r1 σ2 =>
    if (σ2.1 68 11) < 0 then
    (nm ((0 : Int32)) (fun x4 =>
    m_X8_read_L40 r1 (fun _ => none) 1000 x4 σ2))
    else
    (bd1 (
    if (σ2.1 68 9) ≤ (σ2.1 68 11) then
    (some ((σ2.1 68 9)))
    else
    (some ((σ2.1 68 11)))) (fun o10 =>
    some (((-10 : Int32) - o10), σ2))))

def m_X8_keeps_L47 {β : Type}   (kx : Sg → Option (β)) : Nat → Int32 → Sg → Option (β)
  | 0, _, _ => none
  | n + 1, v1, σ =>
    if (11 : Int32) ≤ v1 then
    (kx σ)
    else
    (if (v1 < 0 ∨ len 74 ≤ v1.toNatClampNeg) then none else
    (if ((((11 : Int32) * (σ.1 68 14)) + v1) < 0 ∨ len 77 ≤ (((11 : Int32) * (σ.1 68 14)) + v1).toNatClampNeg) then none else
    (nm (si σ 77 (((11 : Int32) * (σ.1 68 14)) + v1).toNatClampNeg (σ.1 74 v1.toNatClampNeg)) (fun σ4 =>
    nm (v1 + (1 : Int32)) (fun x5 =>
    m_X8_keeps_L47 kx n x5 σ4)))))
def m_X8_keeps_L12 {β : Type}   (kx : Sg → Option (β)) : Nat → Int32 → Sg → Option (β)
  | 0, _, _ => none
  | n + 1, v1, σ =>
    if (88 : Int32) ≤ v1 then
    (kx σ)
    else
    (if (v1 < 0 ∨ len 77 ≤ v1.toNatClampNeg) then none else
    (if ((v1 - (11 : Int32)) < 0 ∨ len 77 ≤ (v1 - (11 : Int32)).toNatClampNeg) then none else
    (nm (si σ 77 (v1 - (11 : Int32)).toNatClampNeg (σ.1 77 v1.toNatClampNeg)) (fun σ9 =>
    nm (v1 + (1 : Int32)) (fun x10 =>
    m_X8_keeps_L12 kx n x10 σ9)))))
def m_X8_keeps  (σ : Sg) : Option (Sg) :=
    bd1 (
    if (σ.1 68 14) = (8 : Int32) then
    (nm ((11 : Int32)) (fun x8 =>
    m_X8_keeps_L12 (fun σ11 =>
    nm (si σ11 68 14 (7 : Int32)) (fun σ12 =>
    some (σ12))) 1000 x8 σ))
    else
    (some (σ))) (fun σ2 =>
    nm ((0 : Int32)) (fun x3 =>
    m_X8_keeps_L47 (fun σ6 =>
    nm (si σ6 68 14 ((σ6.1 68 14) + (1 : Int32))) (fun σ7 =>
    some σ7)) 1000 x3 σ2))

def m_X8_loudNow (a1 : Int32) (σ : Sg) : Option (Int32) :=
    bd1 (m_X8_minuteOf a1 σ) (fun r1 =>
    bd1 (m_X8_together (255 : Int32) a1 r1 σ) (fun r3 =>
    some r3))

def m_X8_strips (a1 : Int32) (σ : Sg) : Option (Int32 × Sg) :=
    bd1 (m_X8_isRoom a1 σ) (fun r1 =>
    if r1 = 0 then
    (bd2 (m_X8_bad σ) (fun r8 σ9 =>
    some (r8, σ9)))
    else
    (bd1 (m_X8_keeps σ) (fun σ3 =>
    if ((0 : Int32) < 0 ∨ len 74 ≤ (0 : Int32).toNatClampNeg) then none else
    (if (((1 : Int32) + a1) < 0 ∨ len 74 ≤ ((1 : Int32) + a1).toNatClampNeg) then none else
    (nm (si σ3 74 ((1 : Int32) + a1).toNatClampNeg (σ3.1 74 (0 : Int32).toNatClampNeg)) (fun σ5 =>
    bd1 (m_X8_loudNow a1 σ5) (fun r6 =>
    some (r6, σ5))))))))

def m_X8_papers (a1 : Int32) (σ : Sg) : Option (Int32 × Sg) :=
    bd1 (m_X8_isRoom a1 σ) (fun r1 =>
    if r1 = 0 then
    (bd2 (m_X8_bad σ) (fun r9 σ10 =>
    some (r9, σ10)))
    else
    (if (((1 : Int32) + a1) < 0 ∨ len 74 ≤ ((1 : Int32) + a1).toNatClampNeg) then none else
    (if 0 ≤ (σ.1 74 ((1 : Int32) + a1).toNatClampNeg) then
    (bd1 (m_X8_keeps σ) (fun σ3 =>
    if (((1 : Int32) + a1) < 0 ∨ len 74 ≤ ((1 : Int32) + a1).toNatClampNeg) then none else
    (nm (si σ3 74 ((1 : Int32) + a1).toNatClampNeg (-1 : Int32)) (fun σ5 =>
    some ((1 : Int32), σ5)))))
    else
    (bd2 (m_X8_no σ) (fun r6 σ7 =>
    some (r6, σ7))))))

def m_X8_goes (a1 : Int32) (a2 : Int32) (σ : Sg) : Option (Int32 × Sg) :=
    bd1 (m_X8_isEar a1 σ) (fun r1 =>
    if r1 = 0 then
    (bd2 (m_X8_bad σ) (fun r3 σ4 =>
    some (r3, σ4)))
    else
    (bd1 (m_X8_isRoom a2 σ) (fun r6 =>
    if r6 = 0 then
    (bd2 (m_X8_bad σ) (fun r15 σ16 =>
    some (r15, σ16)))
    else
    (if (((5 : Int32) + a1) < 0 ∨ len 74 ≤ ((5 : Int32) + a1).toNatClampNeg) then none else
    (nm ((σ.1 74 ((5 : Int32) + a1).toNatClampNeg)) (fun x8 =>
    if x8 = a2 then
    (bd2 (m_X8_no σ) (fun r12 σ13 =>
    some (r12, σ13)))
    else
    (bd1 (m_X8_keeps σ) (fun σ9 =>
    if (((5 : Int32) + a1) < 0 ∨ len 74 ≤ ((5 : Int32) + a1).toNatClampNeg) then none else
    (nm (si σ9 74 ((5 : Int32) + a1).toNatClampNeg a2) (fun σ11 =>
    some (x8, σ11)))))))))))

def m_X8_minutes (a1 : Int32) (σ : Sg) : Option (Int32 × Sg) :=
    bd1 (m_X8_in (Int32.toInt64 a1) (1 : Int64) (99 : Int64) σ) (fun r1 =>
    if r1 = 0 then
    (bd2 (m_X8_bad σ) (fun r9 σ10 =>
    some (r9, σ10)))
    else
    (bd1 (m_X8_keeps σ) (fun σ3 =>
    bd1 (m_X8_goMinutes a1 σ3) (fun σ5 =>
    bd1 (m_X8_knownByAll σ5) (fun r7 =>
    some (r7, σ5))))))

def m_X8_undo_L24   (kx : Sg → Option (Int32 × Sg)) : Nat → Int32 → Sg → Option (Int32 × Sg)
  | 0, _, _ => none
  | n + 1, v1, σ =>
    if (11 : Int32) ≤ v1 then
    (if ((0 : Int32) < 0 ∨ len 74 ≤ (0 : Int32).toNatClampNeg) then none else
    (some ((σ.1 74 (0 : Int32).toNatClampNeg), σ)))
    else
    (if ((((11 : Int32) * (σ.1 68 14)) + v1) < 0 ∨ len 77 ≤ (((11 : Int32) * (σ.1 68 14)) + v1).toNatClampNeg) then none else
    (if (v1 < 0 ∨ len 74 ≤ v1.toNatClampNeg) then none else
    (nm (si σ 74 v1.toNatClampNeg (σ.1 77 (((11 : Int32) * (σ.1 68 14)) + v1).toNatClampNeg)) (fun σ3 =>
    nm (v1 + (1 : Int32)) (fun x4 =>
    m_X8_undo_L24 kx n x4 σ3)))))
def m_X8_undo  (σ : Sg) : Option (Int32 × Sg) :=
    if (σ.1 68 14) = 0 then
    (bd2 (m_X8_no σ) (fun r6 σ7 =>
    some (r6, σ7)))
    else
    (nm (si σ 68 14 ((σ.1 68 14) - (1 : Int32))) (fun σ1 =>
    nm ((0 : Int32)) (fun x2 =>
    m_X8_undo_L24 (fun _ => none) 1000 x2 σ1)))

def m_X8_of (a1 : Int32) (a2 : Int32) (σ : Sg) : Option (Int32 × Sg) :=
    bd1 (m_X8_isSaying a1 σ) (fun r1 =>
    if r1 = 0 then
    (bd2 (m_X8_bad σ) (fun r3 σ4 =>
    some (r3, σ4)))
    else
    (bd1 (m_X8_in (Int32.toInt64 a2) (0 : Int64) (2 : Int64) σ) (fun r6 =>
    if r6 = 0 then
    (bd2 (m_X8_bad σ) (fun r8 σ9 =>
    some (r8, σ9)))
    else
    (if a2 = 0 then
    (if (a1 < 0 ∨ len 70 ≤ a1.toNatClampNeg) then none else
    (some ((σ.1 70 a1.toNatClampNeg), σ)))
    else
    (if a2 = (1 : Int32) then
    (if (a1 < 0 ∨ len 71 ≤ a1.toNatClampNeg) then none else
    (some ((σ.1 71 a1.toNatClampNeg), σ)))
    else
    (if (a1 < 0 ∨ len 72 ≤ a1.toNatClampNeg) then none else
    (some ((σ.1 72 a1.toNatClampNeg), σ))))))))

def m_X8_about (a1 : Int32) (a2 : Int32) (σ : Sg) : Option (Int32 × Sg) :=
    bd1 (m_X8_isEar a1 σ) (fun r1 =>
    if r1 = 0 then
    (bd2 (m_X8_bad σ) (fun r3 σ4 =>
    some (r3, σ4)))
    else
    (bd1 (m_X8_in (Int32.toInt64 a2) (0 : Int64) (3 : Int64) σ) (fun r6 =>
    if r6 = 0 then
    (bd2 (m_X8_bad σ) (fun r10 σ11 =>
    some (r10, σ11)))
    else
    (if a2 = 0 then
    (if (a1 < 0 ∨ len 73 ≤ a1.toNatClampNeg) then none else
    (some ((σ.1 73 a1.toNatClampNeg), σ)))
    else
    (if a2 = (1 : Int32) then
    (if (((5 : Int32) + a1) < 0 ∨ len 74 ≤ ((5 : Int32) + a1).toNatClampNeg) then none else
    (some ((σ.1 74 ((5 : Int32) + a1).toNatClampNeg), σ)))
    else
    (if a2 = (2 : Int32) then
    (if (((8 : Int32) + a1) < 0 ∨ len 74 ≤ ((8 : Int32) + a1).toNatClampNeg) then none else
    (some ((σ.1 74 ((8 : Int32) + a1).toNatClampNeg), σ)))
    else
    (bd1 (m_X8_heardNow a1 σ) (fun r8 =>
    some (r8, σ)))))))))

def m_X8_room (a1 : Int32) (a2 : Int32) (σ : Sg) : Option (Int32 × Sg) :=
    bd1 (m_X8_isRoom a1 σ) (fun r1 =>
    if r1 = 0 then
    (bd2 (m_X8_bad σ) (fun r3 σ4 =>
    some (r3, σ4)))
    else
    (bd1 (m_X8_in (Int32.toInt64 a2) (0 : Int64) (1 : Int64) σ) (fun r6 =>
    if r6 = 0 then
    (bd2 (m_X8_bad σ) (fun r12 σ13 =>
    some (r12, σ13)))
    else
    (if a2 = 0 then
    (bd1 (m_X8_minuteOf a1 σ) (fun r10 =>
    some (r10, σ)))
    else
    (bd1 (m_X8_loudNow a1 σ) (fun r8 =>
    some (r8, σ)))))))

def m_X8_loud (a1 : Int32) (a2 : Int32) (σ : Sg) : Option (Int32 × Sg) :=
    bd1 (m_X8_isSaying a1 σ) (fun r1 =>
    if r1 = 0 then
    (bd2 (m_X8_bad σ) (fun r3 σ4 =>
    some (r3, σ4)))
    else
    (bd1 (m_X8_in (Int32.toInt64 a2) (0 : Int64) (29 : Int64) σ) (fun r6 =>
    if r6 = 0 then
    (bd2 (m_X8_bad σ) (fun r8 σ9 =>
    some (r8, σ9)))
    else
    (bd1 (m_X8_loudIn a1 a2 σ) (fun r11 =>
    some (r11, σ))))))

def m_X8_first_L34 {β : Type}  (c3 : Int32) (c1 : Int32) (c2 : Int32) (kx : Int32 → Sg → Option (β)) : Nat → Int32 → Int32 → Sg → Option (β)
  | 0, _, _, _ => none
  | n + 1, v5, v4, σ =>
    if (41 : Int32) ≤ v5 then
    (kx v4 σ)
    else
    (if v4 = (-1 : Int32) then
    (bd1 (m_X8_heardNow c1 σ) (fun r11 =>
    bd1 (
    if ((r11 >>> (c2 &&& 31)) &&& (1 : Int32)) = (1 : Int32) then
    (some (v5))
    else
    (some ((-1 : Int32)))) (fun o14 =>
    if ((0 : Int32) < 0 ∨ len 74 ≤ (0 : Int32).toNatClampNeg) then none else
    (if ((0 : Int32) < 0 ∨ len 74 ≤ (0 : Int32).toNatClampNeg) then none else
    (nm (si σ 74 (0 : Int32).toNatClampNeg ((σ.1 74 (0 : Int32).toNatClampNeg) + (1 : Int32))) (fun σ15 =>
    nm (v5 + (1 : Int32)) (fun x16 =>
    m_X8_first_L34 c3 c1 c2 kx n x16 o14 σ15)))))))
    else
    (kx v4 σ))
def m_X8_first (a1 : Int32) (a2 : Int32) (σ : Sg) : Option (Int32 × Sg) :=
    bd1 (m_X8_isEar a1 σ) (fun r1 =>
    if r1 = 0 then
    (bd2 (m_X8_bad σ) (fun r3 σ4 =>
    some (r3, σ4)))
    else
    (bd1 (m_X8_isSaying a2 σ) (fun r6 =>
    if r6 = 0 then
    (bd2 (m_X8_bad σ) (fun r20 σ21 =>
    some (r20, σ21)))
    else
    (if ((0 : Int32) < 0 ∨ len 74 ≤ (0 : Int32).toNatClampNeg) then none else
    (nm ((σ.1 74 (0 : Int32).toNatClampNeg)) (fun x8 =>
    nm ((-1 : Int32)) (fun x9 =>
    nm ((0 : Int32)) (fun x10 =>
    m_X8_first_L34 x8 a1 a2 (fun x17 σ18 =>
    if ((0 : Int32) < 0 ∨ len 74 ≤ (0 : Int32).toNatClampNeg) then none else
    (nm (si σ18 74 (0 : Int32).toNatClampNeg x8) (fun σ19 =>
    some (x17, σ19)))) 1000 x10 x9 σ))))))))

def m_X8_stays_L9  (c1 : Int32) (c2 : Int32) (c3 : Int32) (c4 : Int32) (σ : Sg) (kx : Unit → Option (Int32)) : Nat → Int32 → Int32 → Int32 → Option (Int32)
  | 0, _, _, _ => none
  | n + 1, v7, v6, v5 =>
    if (31 : Int32) ≤ v7 then
    (some v6)
    else
    (if v6 = (-1 : Int32) then
    (if (((8 : Int32) + c1) < 0 ∨ len 74 ≤ ((8 : Int32) + c1).toNatClampNeg) then none else
    (bd1 (
    if (c2 &&& (((σ.1 74 ((8 : Int32) + c1).toNatClampNeg) ||| v5) ^^^ (-1 : Int32))) = 0 then
    (if (c3 &&& v5) = 0 then
    (some (v7))
    else
    (some ((-1 : Int32))))
    else
    (some ((-1 : Int32)))) (fun o5 =>
    bd1 (
    if (30 : Int32) ≤ v7 then
    (some ((0 : Int32)))
    else
    (bd1 (m_X8_heardIn c1 c4 v7 σ) (fun r10 =>
    some (r10)))) (fun o7 =>
    nm ((v5 ||| o7)) (fun x8 =>
    nm (v7 + (1 : Int32)) (fun x9 =>
    m_X8_stays_L9 c1 c2 c3 c4 σ kx n x9 o5 x8))))))
    else
    (some v6))
def m_X8_stays (a1 : Int32) (a2 : Int32) (a3 : Int32) (a4 : Int32) (σ : Sg) : Option (Int32) :=
    nm ((0 : Int32)) (fun x1 =>
    nm ((-1 : Int32)) (fun x2 =>
    nm ((0 : Int32)) (fun x3 =>
    m_X8_stays_L9 a1 a2 a3 a4 σ (fun _ => none) 1000 x3 x2 x1)))

def m_X8_stay_L90  (c1 : Int32) (c2 : Int32) (c3 : Int32) (σ : Sg) (kx : Unit → Option (Int32 × Sg)) : Nat → Int32 → Int32 → Option (Int32 × Sg)
  | 0, _, _ => none
  | n + 1, v7, v6 =>
    if v7 < 0 then
    (some (v6, σ))
    else
    (bd1 (m_X8_stays c1 c2 c3 v7 σ) (fun r24 =>
    bd1 (
    if r24 = (-1 : Int32) then
    (some (v6))
    else
    (if v6 = (-1 : Int32) then
    (some ((((100 : Int32) * r24) + v7)))
    else
    (if (v6 / (100 : Int32)) < r24 then
    (some (v6))
    else
    (some ((((100 : Int32) * r24) + v7)))))) (fun o27 =>
    nm (v7 + (-1 : Int32)) (fun x28 =>
    m_X8_stay_L90 c1 c2 c3 σ kx n x28 o27))))
def m_X8_stay (a1 : Int32) (a2 : Int32) (a3 : Int32) (a4 : Int32) (σ : Sg) : Option (Int32 × Sg) :=
    nm ((((1 : Int32) <<< ((σ.1 68 1) &&& 31)) - (1 : Int32))) (fun x1 =>
    bd1 (m_X8_isEar a1 σ) (fun r2 =>
    if r2 = 0 then
    (bd2 (m_X8_bad σ) (fun r4 σ5 =>
    some (r4, σ5)))
    else
    (bd1 (m_X8_in (Int32.toInt64 a2) (0 : Int64) (Int32.toInt64 x1) σ) (fun r7 =>
    if r7 = 0 then
    (bd2 (m_X8_bad σ) (fun r9 σ10 =>
    some (r9, σ10)))
    else
    (bd1 (m_X8_in (Int32.toInt64 a3) (0 : Int64) (Int32.toInt64 x1) σ) (fun r12 =>
    if r12 = 0 then
    (bd2 (m_X8_bad σ) (fun r14 σ15 =>
    some (r14, σ15)))
    else
    (if (a2 &&& a3) = 0 then
    (bd1 (m_X8_in (Int32.toInt64 a4) (-1 : Int64) (3 : Int64) σ) (fun r20 =>
    if r20 = 0 then
    (bd2 (m_X8_bad σ) (fun r31 σ32 =>
    some (r31, σ32)))
    else
    (if a4 = (-1 : Int32) then
    (nm ((-1 : Int32)) (fun x22 =>
    nm ((3 : Int32)) (fun x23 =>
    m_X8_stay_L90 a1 a2 a3 σ (fun _ => none) 1000 x23 x22)))
    else
    (bd1 (m_X8_stays a1 a2 a3 a4 σ) (fun r29 =>
    some (r29, σ))))))
    else
    (bd2 (m_X8_bad σ) (fun r17 σ18 =>
    some (r17, σ18))))))))))

def m_X8_heardBehind_L14  (c1 : Int32) (c2 : Int32) (c3 : Int32) (σ : Sg) (kx : Unit → Option (Int32)) : Nat → Int32 → Int32 → Option (Int32)
  | 0, _, _ => none
  | n + 1, v5, v4 =>
    if c3 ≤ v5 then
    (some v4)
    else
    (bd1 (m_X8_heardIn c1 c2 v5 σ) (fun r3 =>
    nm ((v4 ||| r3)) (fun x5 =>
    nm (v5 + (1 : Int32)) (fun x6 =>
    m_X8_heardBehind_L14 c1 c2 c3 σ kx n x6 x5))))
def m_X8_heardBehind (a1 : Int32) (a2 : Int32) (a3 : Int32) (σ : Sg) : Option (Int32) :=
    if (((8 : Int32) + a1) < 0 ∨ len 74 ≤ ((8 : Int32) + a1).toNatClampNeg) then none else
    (nm ((σ.1 74 ((8 : Int32) + a1).toNatClampNeg)) (fun x1 =>
    nm ((0 : Int32)) (fun x2 =>
    m_X8_heardBehind_L14 a1 a2 a3 σ (fun _ => none) 1000 x2 x1)))

def m_X8_stand_L48 {β : Type}  (c1 : Int32) (c2 : Int32) (σ : Sg) (kx : Int32 → Int32 → Option (β)) : Nat → Int32 → Int32 → Int32 → Option (β)
  | 0, _, _, _ => none
  | n + 1, v5, v4, v3 =>
    if (16 : Int32) ≤ v5 then
    (kx v4 v3)
    else
    (bd1 (m_X8_heardBehind (0 : Int32) (v5 / (4 : Int32)) c1 σ) (fun r11 =>
    bd1 (m_X8_heardBehind (1 : Int32) (v5 - v5 / (4 : Int32) * (4 : Int32)) c1 σ) (fun r13 =>
    bd1 (m_X8_many (r11 ||| r13) σ) (fun r15 =>
    bd1 (
    if r15 ≤ v4 then
    (some (v3))
    else
    (some ((((10 : Int32) * (v5 / (4 : Int32))) + (v5 - v5 / (4 : Int32) * (4 : Int32)))))) (fun o18 =>
    bd1 (
    if r15 ≤ v4 then
    (some (v4))
    else
    (some (r15))) (fun o20 =>
    nm (v5 + (1 : Int32)) (fun x21 =>
    m_X8_stand_L48 c1 c2 σ kx n x21 o20 o18)))))))
def m_X8_stand (a1 : Int32) (a2 : Int32) (σ : Sg) : Option (Int32 × Sg) :=
    bd1 (m_X8_in (Int32.toInt64 a1) (1 : Int64) (30 : Int64) σ) (fun r1 =>
    if r1 = 0 then
    (bd2 (m_X8_bad σ) (fun r3 σ4 =>
    some (r3, σ4)))
    else
    (bd1 (m_X8_in (Int32.toInt64 a2) (0 : Int64) (1 : Int64) σ) (fun r6 =>
    if r6 = 0 then
    (bd2 (m_X8_bad σ) (fun r27 σ28 =>
    some (r27, σ28)))
    else
    (if (2 : Int32) ≤ (σ.1 68 5) then
    (nm ((0 : Int32)) (fun x8 =>
    nm ((-1 : Int32)) (fun x9 =>
    nm ((0 : Int32)) (fun x10 =>
    m_X8_stand_L48 a1 a2 σ (fun x22 x23 =>
    if a2 = 0 then
    (some (x22, σ))
    else
    (some (x23, σ))) 1000 x10 x9 x8))))
    else
    (bd2 (m_X8_no σ) (fun r24 σ25 =>
    some (r24, σ25)))))))

def m_X8_told (a1 : Int32) (a2 : Int32) (a3 : Int32) (σ : Sg) : Option (Int32 × Sg) :=
    bd1 (m_X8_isRoom a1 σ) (fun r1 =>
    if r1 = 0 then
    (bd2 (m_X8_bad σ) (fun r3 σ4 =>
    some (r3, σ4)))
    else
    (bd1 (m_X8_in (Int32.toInt64 a2) (0 : Int64) (29 : Int64) σ) (fun r6 =>
    if r6 = 0 then
    (bd2 (m_X8_bad σ) (fun r8 σ9 =>
    some (r8, σ9)))
    else
    (bd1 (m_X8_in (Int32.toInt64 a3) (0 : Int64) (99 : Int64) σ) (fun r11 =>
    if r11 = 0 then
    (bd2 (m_X8_bad σ) (fun r20 σ21 =>
    some (r20, σ21)))
    else
    (if (σ.1 68 16) = (5 : Int32) then
    (bd2 (m_X8_full σ) (fun r17 σ18 =>
    some (r17, σ18)))
    else
    (if (((3 : Int32) * (σ.1 68 16)) < 0 ∨ len 78 ≤ ((3 : Int32) * (σ.1 68 16)).toNatClampNeg) then none else
    (nm (si σ 78 ((3 : Int32) * (σ.1 68 16)).toNatClampNeg a1) (fun σ13 =>
    if ((((3 : Int32) * (σ13.1 68 16)) + (1 : Int32)) < 0 ∨ len 78 ≤ (((3 : Int32) * (σ13.1 68 16)) + (1 : Int32)).toNatClampNeg) then none else
    (nm (si σ13 78 (((3 : Int32) * (σ13.1 68 16)) + (1 : Int32)).toNatClampNeg a2) (fun σ14 =>
    if ((((3 : Int32) * (σ14.1 68 16)) + (2 : Int32)) < 0 ∨ len 78 ≤ (((3 : Int32) * (σ14.1 68 16)) + (2 : Int32)).toNatClampNeg) then none else
    (nm (si σ14 78 (((3 : Int32) * (σ14.1 68 16)) + (2 : Int32)).toNatClampNeg a3) (fun σ15 =>
    nm (si σ15 68 16 ((σ15.1 68 16) + (1 : Int32))) (fun σ16 =>
    some ((σ16.1 68 16), σ16)))))))))))))))

def m_X8_isSo_L5  (c1 : Int32) (c2 : Int32) (σ : Sg) (kx : Unit → Option (Int32)) : Nat → Int32 → Int32 → Option (Int32)
  | 0, _, _ => none
  | n + 1, v4, v3 =>
    if (σ.1 68 16) ≤ v4 then
    (if ¬ (v3 = 0 ∨ v3 = 1) then none else
    (some v3))
    else
    (bd1 (
    if v3 = 0 then
    (some ((0 : Int32)))
    else
    (if (((3 : Int32) * v4) < 0 ∨ len 78 ≤ ((3 : Int32) * v4).toNatClampNeg) then none else
    (if (σ.1 78 ((3 : Int32) * v4).toNatClampNeg) = c2 then
    (if ((((3 : Int32) * v4) + (1 : Int32)) < 0 ∨ len 78 ≤ (((3 : Int32) * v4) + (1 : Int32)).toNatClampNeg) then none else
    (bd1 (m_X8_together c1 c2 (σ.1 78 (((3 : Int32) * v4) + (1 : Int32)).toNatClampNeg) σ) (fun r6 =>
    if ((((3 : Int32) * v4) + (2 : Int32)) < 0 ∨ len 78 ≤ (((3 : Int32) * v4) + (2 : Int32)).toNatClampNeg) then none else
    (if r6 = (σ.1 78 (((3 : Int32) * v4) + (2 : Int32)).toNatClampNeg) then
    (some ((1 : Int32)))
    else
    (some ((0 : Int32)))))))
    else
    (some ((1 : Int32)))))) (fun o4 =>
    nm (v4 + (1 : Int32)) (fun x5 =>
    m_X8_isSo_L5 c1 c2 σ kx n x5 o4)))
def m_X8_isSo (a1 : Int32) (a2 : Int32) (σ : Sg) : Option (Int32) :=
    nm ((1 : Int32)) (fun x1 =>
    nm ((0 : Int32)) (fun x2 =>
    m_X8_isSo_L5 a1 a2 σ (fun _ => none) 1000 x2 x1))

def m_X8_said_L29 {β : Type}  (c1 : Int32) (c2 : Int32) (σ : Sg) (kx : Int32 → Option (β)) : Nat → Int32 → Int32 → Option (β)
  | 0, _, _ => none
  | n + 1, v4, v3 =>
    if (σ.1 68 1) ≤ v4 then
    (kx v3)
    else
    (if (v4 < 0 ∨ len 71 ≤ v4.toNatClampNeg) then none else
    (bd1 (
    if (σ.1 71 v4.toNatClampNeg) = c1 then
    (some (((1 : Int32) <<< (v4 &&& 31))))
    else
    (some ((0 : Int32)))) (fun o11 =>
    nm ((v3 ||| o11)) (fun x12 =>
    nm (v4 + (1 : Int32)) (fun x13 =>
    m_X8_said_L29 c1 c2 σ kx n x13 x12)))))
def m_X8_said_L78 {β : Type}  (c3 : Int32) (c1 : Int32) (c2 : Int32) (σ : Sg) (kx : Int32 → Int32 → Int32 → Option (β)) : Nat → Int32 → Int32 → Int32 → Int32 → Option (β)
  | 0, _, _, _, _ => none
  | n + 1, v7, v6, v5, v4 =>
    if (256 : Int32) ≤ v7 then
    (kx v6 v5 v4)
    else
    (bd3 (
    if (v7 &&& (c3 ^^^ (-1 : Int32))) = 0 then
    (bd1 (m_X8_isSo v7 c1 σ) (fun r23 =>
    if r23 = 0 then
    (some (v4, v5, v6))
    else
    (nm (v4 + (1 : Int32)) (fun x25 =>
    nm ((v5 &&& v7)) (fun x26 =>
    nm ((v6 ||| v7)) (fun x27 =>
    some (x25, x26, x27)))))))
    else
    (some (v4, v5, v6))) (fun o19 o20 o21 =>
    nm (v7 + (1 : Int32)) (fun x22 =>
    m_X8_said_L78 c3 c1 c2 σ kx n x22 o21 o20 o19)))
def m_X8_said (a1 : Int32) (a2 : Int32) (σ : Sg) : Option (Int32 × Sg) :=
    bd1 (m_X8_isRoom a1 σ) (fun r1 =>
    if r1 = 0 then
    (bd2 (m_X8_bad σ) (fun r3 σ4 =>
    some (r3, σ4)))
    else
    (bd1 (m_X8_in (Int32.toInt64 a2) (0 : Int64) (2 : Int64) σ) (fun r6 =>
    if r6 = 0 then
    (bd2 (m_X8_bad σ) (fun r31 σ32 =>
    some (r31, σ32)))
    else
    (nm ((0 : Int32)) (fun x8 =>
    nm ((0 : Int32)) (fun x9 =>
    m_X8_said_L29 a1 a2 σ (fun x14 =>
    nm ((0 : Int32)) (fun x15 =>
    nm ((0 : Int32)) (fun x16 =>
    nm ((0 : Int32)) (fun x17 =>
    m_X8_said_L78 x14 a1 a2 σ (fun x28 x29 x30 =>
    if a2 = 0 then
    (some (x30, σ))
    else
    (if a2 = (1 : Int32) then
    (if x30 = 0 then
    (some ((-1 : Int32), σ))
    else
    (some (x29, σ)))
    else
    (some (x28, σ)))) 1000 x17 x16 x14 x15)))) 1000 x9 x8))))))

def m_X8_add (k0 : Nat) (a1 : Int32) (a2 : Int32) (a3 : Int32) (a4 : Int32) (a5 : Int32) (σ : Sg) : Option (Int32 × Sg) :=
    if (((4 : Int32) * a1) < 0 ∨ len k0 ≤ ((4 : Int32) * a1).toNatClampNeg) then none else
    (nm (si σ k0 ((4 : Int32) * a1).toNatClampNeg a2) (fun σ1 =>
    if ((((4 : Int32) * a1) + (1 : Int32)) < 0 ∨ len k0 ≤ (((4 : Int32) * a1) + (1 : Int32)).toNatClampNeg) then none else
    (nm (si σ1 k0 (((4 : Int32) * a1) + (1 : Int32)).toNatClampNeg a3) (fun σ2 =>
    if ((((4 : Int32) * a1) + (2 : Int32)) < 0 ∨ len k0 ≤ (((4 : Int32) * a1) + (2 : Int32)).toNatClampNeg) then none else
    (nm (si σ2 k0 (((4 : Int32) * a1) + (2 : Int32)).toNatClampNeg a4) (fun σ3 =>
    if ((((4 : Int32) * a1) + (3 : Int32)) < 0 ∨ len k0 ≤ (((4 : Int32) * a1) + (3 : Int32)).toNatClampNeg) then none else
    (nm (si σ3 k0 (((4 : Int32) * a1) + (3 : Int32)).toNatClampNeg a5) (fun σ4 =>
    some ((a1 + (1 : Int32)), σ4)))))))))

def m_X8_note (a1 : Int32) (a2 : Int32) (a3 : Int32) (a4 : Int32) (σ : Sg) : Option (Int32 × Sg) :=
    bd1 (m_X8_isSaying a1 σ) (fun r1 =>
    if r1 = 0 then
    (bd2 (m_X8_bad σ) (fun r3 σ4 =>
    some (r3, σ4)))
    else
    (bd1 (m_X8_in (Int32.toInt64 a2) (1 : Int64) (9 : Int64) σ) (fun r6 =>
    if r6 = 0 then
    (bd2 (m_X8_bad σ) (fun r8 σ9 =>
    some (r8, σ9)))
    else
    (bd1 (m_X8_in (Int32.toInt64 a3) (0 : Int64) (29 : Int64) σ) (fun r11 =>
    if r11 = 0 then
    (bd2 (m_X8_bad σ) (fun r13 σ14 =>
    some (r13, σ14)))
    else
    (bd1 (m_X8_in (Int32.toInt64 a4) (0 : Int64) (20 : Int64) σ) (fun r16 =>
    if r16 = 0 then
    (bd2 (m_X8_bad σ) (fun r25 σ26 =>
    some (r25, σ26)))
    else
    (if (σ.1 68 18) = (6 : Int32) then
    (bd2 (m_X8_full σ) (fun r22 σ23 =>
    some (r22, σ23)))
    else
    (bd2 (m_X8_add 79 (σ.1 68 18) a1 a2 a3 a4 σ) (fun r18 σ19 =>
    nm (si σ19 68 18 r18) (fun σ21 =>
    some ((σ21.1 68 18), σ21))))))))))))

def m_X8_mark (a1 : Int32) (a2 : Int32) (a3 : Int32) (a4 : Int32) (σ : Sg) : Option (Int32 × Sg) :=
    bd1 (m_X8_isEar a1 σ) (fun r1 =>
    if r1 = 0 then
    (bd2 (m_X8_bad σ) (fun r3 σ4 =>
    some (r3, σ4)))
    else
    (bd1 (m_X8_in (Int32.toInt64 a2) (0 : Int64) (20 : Int64) σ) (fun r6 =>
    if r6 = 0 then
    (bd2 (m_X8_bad σ) (fun r8 σ9 =>
    some (r8, σ9)))
    else
    (bd1 (m_X8_in (Int32.toInt64 a3) (0 : Int64) (99 : Int64) σ) (fun r11 =>
    if r11 = 0 then
    (bd2 (m_X8_bad σ) (fun r13 σ14 =>
    some (r13, σ14)))
    else
    (bd1 (m_X8_in (Int32.toInt64 a4) (0 : Int64) (1 : Int64) σ) (fun r16 =>
    if r16 = 0 then
    (bd2 (m_X8_bad σ) (fun r25 σ26 =>
    some (r25, σ26)))
    else
    (if (σ.1 68 20) = (6 : Int32) then
    (bd2 (m_X8_full σ) (fun r22 σ23 =>
    some (r22, σ23)))
    else
    (bd2 (m_X8_add 80 (σ.1 68 20) a1 a2 a3 a4 σ) (fun r18 σ19 =>
    nm (si σ19 68 20 r18) (fun σ21 =>
    some ((σ21.1 68 20), σ21))))))))))))

def m_X8_forget (a1 : Int32) (σ : Sg) : Option (Int32 × Sg) :=
    bd1 (m_X8_in (Int32.toInt64 a1) (0 : Int64) (2 : Int64) σ) (fun r1 =>
    if r1 = 0 then
    (bd2 (m_X8_bad σ) (fun r14 σ15 =>
    some (r14, σ15)))
    else
    (bd1 (
    if a1 = 0 then
    (some ((σ.1 68 16)))
    else
    (if a1 = (1 : Int32) then
    (some ((σ.1 68 18)))
    else
    (some ((σ.1 68 20))))) (fun o4 =>
    bd1 (
    if a1 = 0 then
    (some ((0 : Int32)))
    else
    (some ((σ.1 68 16)))) (fun o6 =>
    nm (si σ 68 16 o6) (fun σ7 =>
    bd1 (
    if a1 = (1 : Int32) then
    (some ((0 : Int32)))
    else
    (some ((σ7.1 68 18)))) (fun o9 =>
    nm (si σ7 68 18 o9) (fun σ10 =>
    bd1 (
    if a1 = (2 : Int32) then
    (some ((0 : Int32)))
    else
    (some ((σ10.1 68 20)))) (fun o12 =>
    nm (si σ10 68 20 o12) (fun σ13 =>
    some (o4, σ13))))))))))

def m_X8_kindsOf_L16 {β : Type}  (c3 : Int32) (c1 : Int32) (σ : Sg) (kx : Int32 → Option (β)) : Nat → Int32 → Int32 → Option (β)
  | 0, _, _ => none
  | n + 1, v4, v2 =>
    if (6 : Int32) ≤ v4 then
    (kx v2)
    else
    (if (((4 : Int32) * c3) < 0 ∨ len 79 ≤ ((4 : Int32) * c3).toNatClampNeg) then none else
    (if (σ.1 79 ((4 : Int32) * c3).toNatClampNeg) = c1 then
    (if ((((4 : Int32) * c3) + (1 : Int32)) < 0 ∨ len 79 ≤ (((4 : Int32) * c3) + (1 : Int32)).toNatClampNeg) then none else
    (if ((((4 : Int32) * c3) + (2 : Int32)) < 0 ∨ len 79 ≤ (((4 : Int32) * c3) + (2 : Int32)).toNatClampNeg) then none else
    (bd1 (m_X8_loudBy v4 (σ.1 79 (((4 : Int32) * c3) + (1 : Int32)).toNatClampNeg) (σ.1 79 (((4 : Int32) * c3) + (2 : Int32)).toNatClampNeg) σ) (fun r4 =>
    if ((((4 : Int32) * c3) + (3 : Int32)) < 0 ∨ len 79 ≤ (((4 : Int32) * c3) + (3 : Int32)).toNatClampNeg) then none else
    (bd1 (
    if r4 = (σ.1 79 (((4 : Int32) * c3) + (3 : Int32)).toNatClampNeg) then
    (some ((63 : Int32)))
    else
    (some ((((1 : Int32) <<< (v4 &&& 31)) ^^^ (-1 : Int32))))) (fun o7 =>
    nm ((v2 &&& o7)) (fun x8 =>
    nm (v4 + (1 : Int32)) (fun x9 =>
    m_X8_kindsOf_L16 c3 c1 σ kx n x9 x8))))))))
    else
    (kx v2)))
def m_X8_kindsOf_L5  (c1 : Int32) (σ : Sg) (kx : Unit → Option (Int32)) : Nat → Int32 → Int32 → Option (Int32)
  | 0, _, _ => none
  | n + 1, v3, v2 =>
    if (σ.1 68 18) ≤ v3 then
    (some v2)
    else
    (nm ((0 : Int32)) (fun x3 =>
    m_X8_kindsOf_L16 v3 c1 σ (fun x10 =>
    nm (v3 + (1 : Int32)) (fun x11 =>
    m_X8_kindsOf_L5 c1 σ kx n x11 x10)) 1000 x3 v2))
def m_X8_kindsOf (a1 : Int32) (σ : Sg) : Option (Int32) :=
    nm ((63 : Int32)) (fun x1 =>
    nm ((0 : Int32)) (fun x2 =>
    m_X8_kindsOf_L5 a1 σ (fun _ => none) 1000 x2 x1))

def m_X8_is (a1 : Int32) (σ : Sg) : Option (Int32 × Sg) :=
    bd1 (m_X8_isSaying a1 σ) (fun r1 =>
    if r1 = 0 then
    (bd2 (m_X8_bad σ) (fun r3 σ4 =>
    some (r3, σ4)))
    else
    (bd1 (m_X8_kindsOf a1 σ) (fun r6 =>
    some (r6, σ))))

def m_X8_look_L58 {β : Type}  (c7 : Int32) (c6 : Int32) (c5 : Int32) (c4 : Int32) (c3 : Int32) (c2 : Int32) (c1 : Int32) (σ : Sg) (kx : Int32 → Option (β)) : Nat → Int32 → Int32 → Option (β)
  | 0, _, _ => none
  | n + 1, v9, v8 =>
    if (6 : Int32) ≤ v9 then
    (kx v8)
    else
    (bd1 (
    if (((c2 >>> (c7 &&& 31)) &&& (c2 >>> (v9 &&& 31))) &&& (1 : Int32)) = (1 : Int32) then
    (if (c1 < 0 ∨ len 72 ≤ c1.toNatClampNeg) then none else
    (bd1 (m_X8_loudBy c7 (σ.1 72 c1.toNatClampNeg) c5 σ) (fun r16 =>
    if (c1 < 0 ∨ len 72 ≤ c1.toNatClampNeg) then none else
    (bd1 (m_X8_loudBy v9 (σ.1 72 c1.toNatClampNeg) c5 σ) (fun r18 =>
    if r16 = r18 then
    (some ((1 : Int32)))
    else
    (some ((0 : Int32))))))))
    else
    (some ((0 : Int32)))) (fun o13 =>
    nm ((v8 + o13)) (fun x14 =>
    nm (v9 + (1 : Int32)) (fun x15 =>
    m_X8_look_L58 c7 c6 c5 c4 c3 c2 c1 σ kx n x15 x14))))
def m_X8_look_L45 {β : Type}  (c5 : Int32) (c4 : Int32) (c3 : Int32) (c2 : Int32) (c1 : Int32) (σ : Sg) (kx : Int32 → Option (β)) : Nat → Int32 → Int32 → Option (β)
  | 0, _, _ => none
  | n + 1, v7, v6 =>
    if (6 : Int32) ≤ v7 then
    (kx v6)
    else
    (nm ((0 : Int32)) (fun x10 =>
    nm ((0 : Int32)) (fun x11 =>
    m_X8_look_L58 v7 v6 c5 c4 c3 c2 c1 σ (fun x20 =>
    bd1 (
    if x20 ≤ v6 then
    (some (v6))
    else
    (some (x20))) (fun o22 =>
    nm (v7 + (1 : Int32)) (fun x23 =>
    m_X8_look_L45 c5 c4 c3 c2 c1 σ kx n x23 o22))) 1000 x11 x10)))
def m_X8_look_L28  (c2 : Int32) (c1 : Int32) (σ : Sg) (kx : Unit → Option (Int32 × Sg)) : Nat → Int32 → Int32 → Int32 → Option (Int32 × Sg)
  | 0, _, _, _ => none
  | n + 1, v5, v4, v3 =>
    if (30 : Int32) ≤ v5 then
    (some (v3, σ))
    else
    (if c2 = 0 then
    (some (v3, σ))
    else
    (nm ((0 : Int32)) (fun x8 =>
    nm ((0 : Int32)) (fun x9 =>
    m_X8_look_L45 v5 v4 v3 c2 c1 σ (fun x24 =>
    bd1 (
    if v4 ≤ x24 then
    (some (v3))
    else
    (some (v5))) (fun o26 =>
    bd1 (
    if v4 ≤ x24 then
    (some (v4))
    else
    (some (x24))) (fun o28 =>
    nm (v5 + (1 : Int32)) (fun x29 =>
    m_X8_look_L28 c2 c1 σ kx n x29 o28 o26)))) 1000 x9 x8))))
def m_X8_look (a1 : Int32) (σ : Sg) : Option (Int32 × Sg) :=
    bd1 (m_X8_isSaying a1 σ) (fun r1 =>
    if r1 = 0 then
    (bd2 (m_X8_bad σ) (fun r30 σ31 =>
    some (r30, σ31)))
    else
    (bd1 (m_X8_kindsOf a1 σ) (fun r3 =>
    nm ((-1 : Int32)) (fun x5 =>
    nm ((99 : Int32)) (fun x6 =>
    nm ((0 : Int32)) (fun x7 =>
    m_X8_look_L28 r3 a1 σ (fun _ => none) 1000 x7 x6 x5))))))

def m_X8_sortsOf_L16 {β : Type}  (c3 : Int32) (c1 : Int32) (σ : Sg) (kx : Int32 → Option (β)) : Nat → Int32 → Int32 → Option (β)
  | 0, _, _ => none
  | n + 1, v4, v2 =>
    if (6 : Int32) ≤ v4 then
    (kx v2)
    else
    (if (((4 : Int32) * c3) < 0 ∨ len 80 ≤ ((4 : Int32) * c3).toNatClampNeg) then none else
    (if (σ.1 80 ((4 : Int32) * c3).toNatClampNeg) = c1 then
    (if ((((4 : Int32) * c3) + (1 : Int32)) < 0 ∨ len 80 ≤ (((4 : Int32) * c3) + (1 : Int32)).toNatClampNeg) then none else
    (if ((((4 : Int32) * c3) + (2 : Int32)) < 0 ∨ len 80 ≤ (((4 : Int32) * c3) + (2 : Int32)).toNatClampNeg) then none else
    (bd1 (m_X8_hearsBy v4 (σ.1 80 (((4 : Int32) * c3) + (1 : Int32)).toNatClampNeg) (σ.1 80 (((4 : Int32) * c3) + (2 : Int32)).toNatClampNeg) σ) (fun r4 =>
    if ((((4 : Int32) * c3) + (3 : Int32)) < 0 ∨ len 80 ≤ (((4 : Int32) * c3) + (3 : Int32)).toNatClampNeg) then none else
    (bd1 (
    if (σ.1 80 (((4 : Int32) * c3) + (3 : Int32)).toNatClampNeg) = (1 : Int32) then
    (some ((1 : Int32)))
    else
    (some ((0 : Int32)))) (fun o7 =>
    bd1 (
    if r4 = o7 then
    (some ((63 : Int32)))
    else
    (some ((((1 : Int32) <<< (v4 &&& 31)) ^^^ (-1 : Int32))))) (fun o9 =>
    nm ((v2 &&& o9)) (fun x10 =>
    nm (v4 + (1 : Int32)) (fun x11 =>
    m_X8_sortsOf_L16 c3 c1 σ kx n x11 x10)))))))))
    else
    (kx v2)))
def m_X8_sortsOf_L5  (c1 : Int32) (σ : Sg) (kx : Unit → Option (Int32)) : Nat → Int32 → Int32 → Option (Int32)
  | 0, _, _ => none
  | n + 1, v3, v2 =>
    if (σ.1 68 20) ≤ v3 then
    (some v2)
    else
    (nm ((0 : Int32)) (fun x3 =>
    m_X8_sortsOf_L16 v3 c1 σ (fun x12 =>
    nm (v3 + (1 : Int32)) (fun x13 =>
    m_X8_sortsOf_L5 c1 σ kx n x13 x12)) 1000 x3 v2))
def m_X8_sortsOf (a1 : Int32) (σ : Sg) : Option (Int32) :=
    nm ((63 : Int32)) (fun x1 =>
    nm ((0 : Int32)) (fun x2 =>
    m_X8_sortsOf_L5 a1 σ (fun _ => none) 1000 x2 x1))

def m_X8_kinds (a1 : Int32) (σ : Sg) : Option (Int32 × Sg) :=
    bd1 (m_X8_isEar a1 σ) (fun r1 =>
    if r1 = 0 then
    (bd2 (m_X8_bad σ) (fun r3 σ4 =>
    some (r3, σ4)))
    else
    (bd1 (m_X8_sortsOf a1 σ) (fun r6 =>
    some (r6, σ))))

def m_X8_ask_L56 {β : Type}  (c5 : Int32) (c4 : Int32) (c3 : Int32) (c2 : Int32) (σ : Sg) (kx : Int32 → Option (β)) : Nat → Int32 → Int32 → Option (β)
  | 0, _, _ => none
  | n + 1, v7, v6 =>
    if (6 : Int32) ≤ v7 then
    (kx v6)
    else
    (bd1 (
    if ((c2 >>> (v7 &&& 31)) &&& (1 : Int32)) = (1 : Int32) then
    (bd1 (m_X8_hearsBy v7 (c5 / (100 : Int32)) (c5 - c5 / (100 : Int32) * (100 : Int32)) σ) (fun r18 =>
    if r18 = 0 then
    (some ((0 : Int32)))
    else
    (some ((1 : Int32)))))
    else
    (some ((0 : Int32)))) (fun o15 =>
    nm ((v6 + o15)) (fun x16 =>
    nm (v7 + (1 : Int32)) (fun x17 =>
    m_X8_ask_L56 c5 c4 c3 c2 σ kx n x17 x16))))
def m_X8_ask_L28  (c2 : Int32) (σ : Sg) (kx : Unit → Option (Int32 × Sg)) : Nat → Int32 → Int32 → Int32 → Option (Int32 × Sg)
  | 0, _, _, _ => none
  | n + 1, v5, v4, v3 =>
    if (961 : Int32) ≤ v5 then
    (some (v3, σ))
    else
    (if c2 = 0 then
    (some (v3, σ))
    else
    (bd2 (
    if (60 : Int32) < (v5 - v5 / (100 : Int32) * (100 : Int32)) then
    (some (v3, v4))
    else
    (nm ((0 : Int32)) (fun x12 =>
    nm ((0 : Int32)) (fun x13 =>
    m_X8_ask_L56 v5 v4 v3 c2 σ (fun x20 =>
    bd1 (m_X8_many c2 σ) (fun r21 =>
    bd1 (
    if ((2 : Int32) * x20) ≤ r21 then
    (bd1 (m_X8_many c2 σ) (fun r29 =>
    some ((r29 - x20))))
    else
    (some (x20))) (fun o24 =>
    bd1 (
    if v4 ≤ o24 then
    (some (v3))
    else
    (some (v5))) (fun o26 =>
    bd1 (
    if v4 ≤ o24 then
    (some (v4))
    else
    (some (o24))) (fun o28 =>
    some (o26, o28)))))) 1000 x13 x12)))) (fun o9 o10 =>
    nm (v5 + (1 : Int32)) (fun x11 =>
    m_X8_ask_L28 c2 σ kx n x11 o10 o9))))
def m_X8_ask (a1 : Int32) (σ : Sg) : Option (Int32 × Sg) :=
    bd1 (m_X8_isEar a1 σ) (fun r1 =>
    if r1 = 0 then
    (bd2 (m_X8_bad σ) (fun r31 σ32 =>
    some (r31, σ32)))
    else
    (bd1 (m_X8_sortsOf a1 σ) (fun r3 =>
    nm ((-1 : Int32)) (fun x5 =>
    nm ((99 : Int32)) (fun x6 =>
    nm ((0 : Int32)) (fun x7 =>
    m_X8_ask_L28 r3 σ (fun _ => none) 1000 x7 x6 x5))))))

def m_X8_gain (a1 : Int32) (a2 : Int32) (a3 : Int32) (σ : Sg) : Option (Int32) :=
    if ((((4 : Int32) * a1) + a2) < 0 ∨ len 81 ≤ (((4 : Int32) * a1) + a2).toNatClampNeg) then none else
    (bd1 (
    if a2 = a3 then
    (some ((1 : Int32)))
    else
    (some ((0 : Int32)))) (fun o2 =>
    some ((σ.1 81 (((4 : Int32) * a1) + a2).toNatClampNeg) - o2)))

def m_X8_rests_L5  (c1 : Int32) (c2 : Int32) (σ : Sg) (kx : Unit → Option (Int32)) : Nat → Int32 → Int32 → Option (Int32)
  | 0, _, _ => none
  | n + 1, v4, v3 =>
    if (4 : Int32) ≤ v4 then
    (if ¬ (v3 = 0 ∨ v3 = 1) then none else
    (some v3))
    else
    (bd1 (
    if v3 = 0 then
    (some ((0 : Int32)))
    else
    (bd1 (m_X8_gain (0 : Int32) v4 c2 σ) (fun r6 =>
    bd1 (m_X8_gain (0 : Int32) c1 c2 σ) (fun r8 =>
    if r8 < r6 then
    (some ((0 : Int32)))
    else
    (bd1 (m_X8_gain (1 : Int32) v4 c1 σ) (fun r10 =>
    bd1 (m_X8_gain (1 : Int32) c2 c1 σ) (fun r12 =>
    if r12 < r10 then
    (some ((0 : Int32)))
    else
    (some ((1 : Int32)))))))))) (fun o4 =>
    nm (v4 + (1 : Int32)) (fun x5 =>
    m_X8_rests_L5 c1 c2 σ kx n x5 o4)))
def m_X8_rests (a1 : Int32) (a2 : Int32) (σ : Sg) : Option (Int32) :=
    nm ((1 : Int32)) (fun x1 =>
    nm ((0 : Int32)) (fun x2 =>
    m_X8_rests_L5 a1 a2 σ (fun _ => none) 1000 x2 x1))

def m_X8_brothers_L33 {β : Type}  (c1 : Int32) (kx : Sg → Option (β)) : Nat → Int32 → Sg → Option (β)
  | 0, _, _ => none
  | n + 1, v2, σ =>
    if (8 : Int32) ≤ v2 then
    (kx σ)
    else
    (bd1 (m_X8_minuteOf (v2 - v2 / (4 : Int32) * (4 : Int32)) σ) (fun r2 =>
    bd1 (m_X8_heardIn (v2 / (4 : Int32)) (v2 - v2 / (4 : Int32) * (4 : Int32)) r2 σ) (fun r4 =>
    bd1 (m_X8_many r4 σ) (fun r6 =>
    if (v2 < 0 ∨ len 81 ≤ v2.toNatClampNeg) then none else
    (nm (si σ 81 v2.toNatClampNeg r6) (fun σ8 =>
    nm (v2 + (1 : Int32)) (fun x9 =>
    m_X8_brothers_L33 c1 kx n x9 σ8)))))))
def m_X8_brothers_L79 {β : Type}  (c1 : Int32) (σ : Sg) (kx : Int32 → Int32 → Option (β)) : Nat → Int32 → Int32 → Int32 → Option (β)
  | 0, _, _, _ => none
  | n + 1, v4, v3, v2 =>
    if (16 : Int32) ≤ v4 then
    (kx v3 v2)
    else
    (bd1 (m_X8_rests (v4 / (4 : Int32)) (v4 - v4 / (4 : Int32) * (4 : Int32)) σ) (fun r14 =>
    bd2 (
    if r14 = 0 then
    (some (v2, v3))
    else
    (bd1 (
    if v2 = c1 then
    (some ((((10 : Int32) * (v4 / (4 : Int32))) + (v4 - v4 / (4 : Int32) * (4 : Int32)))))
    else
    (some (v3))) (fun o21 =>
    nm (v2 + (1 : Int32)) (fun x22 =>
    some (x22, o21))))) (fun o17 o18 =>
    nm (v4 + (1 : Int32)) (fun x19 =>
    m_X8_brothers_L79 c1 σ kx n x19 o18 o17))))
def m_X8_brothers (a1 : Int32) (σ : Sg) : Option (Int32 × Sg) :=
    if (-1 : Int32) ≤ a1 then
    (if (2 : Int32) ≤ (σ.1 68 5) then
    (nm ((0 : Int32)) (fun x1 =>
    m_X8_brothers_L33 a1 (fun σ10 =>
    nm ((0 : Int32)) (fun x11 =>
    nm ((-5 : Int32)) (fun x12 =>
    nm ((0 : Int32)) (fun x13 =>
    m_X8_brothers_L79 a1 σ10 (fun x23 x24 =>
    if a1 = (-1 : Int32) then
    (some (x24, σ10))
    else
    (some (x23, σ10))) 1000 x13 x12 x11)))) 1000 x1 σ))
    else
    (bd2 (m_X8_no σ) (fun r25 σ26 =>
    some (r25, σ26))))
    else
    (if ((0 : Int32) < 0 ∨ len 69 ≤ (0 : Int32).toNatClampNeg) then none else
    (if ((0 : Int32) < 0 ∨ len 69 ≤ (0 : Int32).toNatClampNeg) then none else
    (nm (si σ 69 (0 : Int32).toNatClampNeg ((σ.1 69 (0 : Int32).toNatClampNeg) + (1 : Int32))) (fun σ28 =>
    some ((-10 : Int32), σ28)))))

def m_X8_holds_L60 {β : Type}  (c6 : Int64) (c5 : Int32) (c4 : Int32) (c1 : Int32) (c2 : Int32) (c3 : Int32) (σ : Sg) (kx : Int64 → Option (β)) : Nat → Int32 → Int64 → Option (β)
  | 0, _, _ => none
  | n + 1, v10, v8 =>
    if (σ.1 68 1) ≤ v10 then
    (kx v8)
    else
    (if (v10 < 0 ∨ len 71 ≤ v10.toNatClampNeg) then none else
    (bd1 (
    if (σ.1 71 v10.toNatClampNeg) = c4 then
    (some ((10 : Int64)))
    else
    (some ((1 : Int64)))) (fun o20 =>
    nm ((v8 * o20)) (fun x21 =>
    nm (v10 + (1 : Int32)) (fun x22 =>
    m_X8_holds_L60 c6 c5 c4 c1 c2 c3 σ kx n x22 x21)))))
def m_X8_holds_L119 {β : Type}  (c10 : Int32) (c8 : Int64) (c6 : Int64) (c5 : Int32) (c4 : Int32) (c1 : Int32) (c2 : Int32) (c3 : Int32) (σ : Sg) (kx : Int64 → Option (β)) : Nat → Int32 → Int64 → Option (β)
  | 0, _, _ => none
  | n + 1, v13, v11 =>
    if (σ.1 68 1) ≤ v13 then
    (kx v11)
    else
    (if (v13 < 0 ∨ len 71 ≤ v13.toNatClampNeg) then none else
    (bd1 (
    if (σ.1 71 v13.toNatClampNeg) = c4 then
    (some ((1 : Int32)))
    else
    (some ((0 : Int32)))) (fun o28 =>
    bd1 (
    if ((c10 >>> (v13 &&& 31)) &&& (1 : Int32)) = (1 : Int32) then
    (some ((1 : Int32)))
    else
    (some ((0 : Int32)))) (fun o30 =>
    bd1 (
    if o28 = 0 then
    (if o30 = 0 then
    (some ((0 : Int64)))
    else
    (some ((1 : Int64))))
    else
    (if o30 = 0 then
    (some ((Int32.toInt64 c3)))
    else
    (some ((Int32.toInt64 ((10 : Int32) - c3)))))) (fun o32 =>
    nm ((v11 * o32)) (fun x33 =>
    nm (v13 + (1 : Int32)) (fun x34 =>
    m_X8_holds_L119 c10 c8 c6 c5 c4 c1 c2 c3 σ kx n x34 x33)))))))
def m_X8_holds_L102 {β : Type}  (c8 : Int64) (c5 : Int32) (c4 : Int32) (c1 : Int32) (c2 : Int32) (c3 : Int32) (σ : Sg) (kx : Int64 → Option (β)) : Nat → Int32 → Int64 → Option (β)
  | 0, _, _ => none
  | n + 1, v10, v6 =>
    if ((1 : Int32) <<< ((σ.1 68 1) &&& 31)) ≤ v10 then
    (kx v6)
    else
    (nm ((1 : Int64)) (fun x25 =>
    nm ((0 : Int32)) (fun x26 =>
    m_X8_holds_L119 v10 c8 v6 c5 c4 c1 c2 c3 σ (fun x35 =>
    bd1 (
    if (lg_cmp x35 (0 : Int64)) ≤ 0 then
    (some ((0 : Int64)))
    else
    (if (c2 < 0 ∨ len 71 ≤ c2.toNatClampNeg) then none else
    (if (σ.1 71 c2.toNatClampNeg) = c4 then
    (if (c1 < 0 ∨ len 73 ≤ c1.toNatClampNeg) then none else
    (bd1 (m_X8_heardOf (σ.1 73 c1.toNatClampNeg) v10 c4 c5 σ) (fun r40 =>
    if ((r40 >>> (c2 &&& 31)) &&& (1 : Int32)) = (1 : Int32) then
    (some (x35))
    else
    (some ((0 : Int64))))))
    else
    (some ((0 : Int64)))))) (fun o37 =>
    nm ((v6 + o37)) (fun x38 =>
    nm (v10 + (1 : Int32)) (fun x39 =>
    m_X8_holds_L102 c8 c5 c4 c1 c2 c3 σ kx n x39 x38)))) 1000 x26 x25)))
def m_X8_holds_L276 {β : Type}  (c8 : Int64) (c6 : Int64) (σ : Sg) (kx : Int64 → Option (β)) : Nat → Int64 → Int64 → Option (β)
  | 0, _, _ => none
  | n + 1, v12, v10 =>
    if (lg_cmp v12 (0 : Int64)) = 0 then
    (kx v10)
    else
    (if v12 = 0 then none else
    (nm ((v10 - v10 / v12 * v12)) (fun x43 =>
    m_X8_holds_L276 c8 c6 σ kx n x43 v12)))
def m_X8_holds (a1 : Int32) (a2 : Int32) (a3 : Int32) (σ : Sg) : Option (Int32 × Sg) :=
    bd1 (m_X8_isEar a1 σ) (fun r1 =>
    if r1 = 0 then
    (bd2 (m_X8_bad σ) (fun r3 σ4 =>
    some (r3, σ4)))
    else
    (bd1 (m_X8_isSaying a2 σ) (fun r6 =>
    if r6 = 0 then
    (bd2 (m_X8_bad σ) (fun r8 σ9 =>
    some (r8, σ9)))
    else
    (bd1 (m_X8_in (Int32.toInt64 a3) (0 : Int64) (10 : Int64) σ) (fun r11 =>
    if r11 = 0 then
    (bd2 (m_X8_bad σ) (fun r47 σ48 =>
    some (r47, σ48)))
    else
    (if (((5 : Int32) + a1) < 0 ∨ len 74 ≤ ((5 : Int32) + a1).toNatClampNeg) then none else
    (nm ((σ.1 74 ((5 : Int32) + a1).toNatClampNeg)) (fun x13 =>
    bd1 (m_X8_minuteOf x13 σ) (fun r14 =>
    nm ((0 : Int64)) (fun x16 =>
    nm ((1 : Int64)) (fun x17 =>
    nm ((0 : Int32)) (fun x18 =>
    m_X8_holds_L60 x16 r14 x13 a1 a2 a3 σ (fun x23 =>
    nm ((0 : Int32)) (fun x24 =>
    m_X8_holds_L102 x23 r14 x13 a1 a2 a3 σ (fun x42 =>
    m_X8_holds_L276 x23 x42 σ (fun x44 =>
    if x44 = 0 then none else
    (nm (sl σ 68 22 (x42 / x44)) (fun σ45 =>
    if x44 = 0 then none else
    (nm (sl σ45 68 23 (x23 / x44)) (fun σ46 =>
    some ((1 : Int32), σ46)))))) 1000 x23 x42) 1000 x24 x16)) 1000 x18 x17))))))))))))

def m_X8_jobs_L31 {β : Type}  (c1 : Int32) (c2 : Int32) (kx : Sg → Option (β)) : Nat → Int32 → Sg → Option (β)
  | 0, _, _ => none
  | n + 1, v3, σ =>
    if (11 : Int32) ≤ v3 then
    (kx σ)
    else
    (if (v3 < 0 ∨ len 74 ≤ v3.toNatClampNeg) then none else
    (if (v3 < 0 ∨ len 82 ≤ v3.toNatClampNeg) then none else
    (nm (si σ 82 v3.toNatClampNeg (σ.1 74 v3.toNatClampNeg)) (fun σ9 =>
    nm (v3 + (1 : Int32)) (fun x10 =>
    m_X8_jobs_L31 c1 c2 kx n x10 σ9)))))
def m_X8_jobs_L61 {β : Type}  (c2 : Int32) (kx : Sg → Option (β)) : Nat → Int32 → Int64 → Sg → Option (β)
  | 0, _, _, _ => none
  | n + 1, v5, v3, σ =>
    if c2 ≤ v5 then
    (kx σ)
    else
    (nm ((((v3 * (1103515245 : Int64)) + (12345 : Int64)) - ((v3 * (1103515245 : Int64)) + (12345 : Int64)) / (2147483648 : Int64) * (2147483648 : Int64))) (fun x14 =>
    nm ((Int64.toInt32 ((x14 / (65536 : Int64)) - (x14 / (65536 : Int64)) / (3 : Int64) * (3 : Int64)))) (fun x15 =>
    nm ((Int64.toInt32 ((x14 / (1048576 : Int64)) - (x14 / (1048576 : Int64)) / (4 : Int64) * (4 : Int64)))) (fun x16 =>
    bd1 (m_X8_isEar x15 σ) (fun r17 =>
    bd1 (
    if r17 = 0 then
    (some (σ))
    else
    (if (((5 : Int32) + x15) < 0 ∨ len 74 ≤ ((5 : Int32) + x15).toNatClampNeg) then none else
    (nm (si σ 74 ((5 : Int32) + x15).toNatClampNeg x16) (fun σ24 =>
    bd1 (m_X8_minuteOf x16 σ24) (fun r25 =>
    bd1 (
    if r25 = (-1 : Int32) then
    (if ((0 : Int32) < 0 ∨ len 74 ≤ (0 : Int32).toNatClampNeg) then none else
    (some ((σ24.1 74 (0 : Int32).toNatClampNeg))))
    else
    (if (((1 : Int32) + x16) < 0 ∨ len 74 ≤ ((1 : Int32) + x16).toNatClampNeg) then none else
    (some ((σ24.1 74 ((1 : Int32) + x16).toNatClampNeg))))) (fun o28 =>
    if (((1 : Int32) + x16) < 0 ∨ len 74 ≤ ((1 : Int32) + x16).toNatClampNeg) then none else
    (nm (si σ24 74 ((1 : Int32) + x16).toNatClampNeg o28) (fun σ29 =>
    some (σ29))))))))) (fun σ20 =>
    bd1 (m_X8_goesBy σ20) (fun σ21 =>
    nm (v5 + (1 : Int32)) (fun x23 =>
    m_X8_jobs_L61 c2 kx n x23 x14 σ21))))))))
def m_X8_jobs_L181  (c5 : Int32) (kx : Sg → Option (Int32 × Sg)) : Nat → Int32 → Sg → Option (Int32 × Sg)
  | 0, _, _ => none
  | n + 1, v6, σ =>
    if (11 : Int32) ≤ v6 then
    (some (c5, σ))
    else
    (if (v6 < 0 ∨ len 82 ≤ v6.toNatClampNeg) then none else
    (if (v6 < 0 ∨ len 74 ≤ v6.toNatClampNeg) then none else
    (nm (si σ 74 v6.toNatClampNeg (σ.1 82 v6.toNatClampNeg)) (fun σ34 =>
    nm (v6 + (1 : Int32)) (fun x35 =>
    m_X8_jobs_L181 c5 kx n x35 σ34)))))
def m_X8_jobs (a1 : Int32) (a2 : Int32) (σ : Sg) : Option (Int32 × Sg) :=
    bd1 (m_X8_in (Int32.toInt64 a1) (0 : Int64) (999999 : Int64) σ) (fun r1 =>
    if r1 = 0 then
    (bd2 (m_X8_bad σ) (fun r3 σ4 =>
    some (r3, σ4)))
    else
    (bd1 (m_X8_in (Int32.toInt64 a2) (0 : Int64) (60 : Int64) σ) (fun r6 =>
    if r6 = 0 then
    (bd2 (m_X8_bad σ) (fun r37 σ38 =>
    some (r37, σ38)))
    else
    (nm ((0 : Int32)) (fun x8 =>
    m_X8_jobs_L31 a1 a2 (fun σ11 =>
    nm ((Int32.toInt64 a1)) (fun x12 =>
    nm ((0 : Int32)) (fun x13 =>
    m_X8_jobs_L61 a2 (fun σ30 =>
    bd1 (m_X8_knownByAll σ30) (fun r31 =>
    nm ((0 : Int32)) (fun x33 =>
    m_X8_jobs_L181 r31 (fun _ => none) 1000 x33 σ30))) 1000 x13 x12 σ11))) 1000 x8 σ)))))

def m_X8_part (a1 : Int32) (σ : Sg) : Option (Int64 × Sg) :=
    if a1 = 0 then
    (some ((σ.2 68 22), σ))
    else
    (if a1 = (1 : Int32) then
    (some ((σ.2 68 23), σ))
    else
    (bd2 (m_X8_bad σ) (fun r1 σ2 =>
    some ((Int32.toInt64 r1), σ2))))

def m_X8_moves (a1 : Int32) (a2 : Int32) (a3 : Int32) (σ : Sg) : Option (Int32 × Sg) :=
    bd1 (
    if a1 = 0 then
    (if (a2 < 0 ∨ len 83 ≤ a2.toNatClampNeg) then none else
    (some ((σ.1 83 a2.toNatClampNeg))))
    else
    (some (a3))) (fun o2 =>
    if (a2 < 0 ∨ len 83 ≤ a2.toNatClampNeg) then none else
    (nm (si σ 83 a2.toNatClampNeg o2) (fun σ3 =>
    if (a2 < 0 ∨ len 83 ≤ a2.toNatClampNeg) then none else
    (some ((σ3.1 83 a2.toNatClampNeg), σ3)))))

def m_X8_moveRow_L3 (k3 : Nat) (c1 : Int32) (c2 : Int32) (c4 : Int32) (kx : Sg → Option (Sg)) : Nat → Int32 → Sg → Option (Sg)
  | 0, _, _ => none
  | n + 1, v5, σ =>
    if c4 ≤ v5 then
    (some σ)
    else
    (if (v5 < 0 ∨ len k3 ≤ v5.toNatClampNeg) then none else
    (bd2 (m_X8_moves c1 (c2 + v5) (σ.1 k3 v5.toNatClampNeg) σ) (fun r2 σ3 =>
    if (v5 < 0 ∨ len k3 ≤ v5.toNatClampNeg) then none else
    (nm (si σ3 k3 v5.toNatClampNeg r2) (fun σ5 =>
    nm (v5 + (1 : Int32)) (fun x6 =>
    m_X8_moveRow_L3 k3 c1 c2 c4 kx n x6 σ5))))))
def m_X8_moveRow (a1 : Int32) (a2 : Int32) (k3 : Nat) (a4 : Int32) (σ : Sg) : Option (Sg) :=
    nm ((0 : Int32)) (fun x1 =>
    m_X8_moveRow_L3 k3 a1 a2 a4 (fun _ => none) 1000 x1 σ)

def m_X8_moveAll (a1 : Int32) (a2 : Int32) (σ : Sg) : Option (Sg) :=
    bd2 (m_X8_moves a1 a2 (σ.1 68 1) σ) (fun r1 σ2 =>
    nm (si σ2 68 1 r1) (fun σ4 =>
    bd2 (m_X8_moves a1 (a2 + (1 : Int32)) (σ4.1 68 5) σ4) (fun r5 σ6 =>
    nm (si σ6 68 5 r5) (fun σ8 =>
    bd2 (m_X8_moves a1 (a2 + (2 : Int32)) (σ8.1 68 16) σ8) (fun r9 σ10 =>
    nm (si σ10 68 16 r9) (fun σ12 =>
    bd2 (m_X8_moves a1 (a2 + (3 : Int32)) (σ12.1 68 18) σ12) (fun r13 σ14 =>
    nm (si σ14 68 18 r13) (fun σ16 =>
    bd2 (m_X8_moves a1 (a2 + (4 : Int32)) (σ16.1 68 20) σ16) (fun r17 σ18 =>
    nm (si σ18 68 20 r17) (fun σ20 =>
    bd2 (m_X8_moves a1 (a2 + (5 : Int32)) (σ20.1 68 14) σ20) (fun r21 σ22 =>
    nm (si σ22 68 14 r21) (fun σ24 =>
    bd1 (m_X8_moveRow a1 (a2 + (6 : Int32)) 70 (8 : Int32) σ24) (fun σ25 =>
    bd1 (m_X8_moveRow a1 (a2 + (14 : Int32)) 71 (8 : Int32) σ25) (fun σ27 =>
    bd1 (m_X8_moveRow a1 (a2 + (22 : Int32)) 72 (8 : Int32) σ27) (fun σ29 =>
    bd1 (m_X8_moveRow a1 (a2 + (30 : Int32)) 73 (3 : Int32) σ29) (fun σ31 =>
    bd1 (m_X8_moveRow a1 (a2 + (33 : Int32)) 74 (11 : Int32) σ31) (fun σ33 =>
    bd1 (m_X8_moveRow a1 (a2 + (44 : Int32)) 78 (15 : Int32) σ33) (fun σ35 =>
    bd1 (m_X8_moveRow a1 (a2 + (59 : Int32)) 79 (24 : Int32) σ35) (fun σ37 =>
    bd1 (m_X8_moveRow a1 (a2 + (83 : Int32)) 80 (24 : Int32) σ37) (fun σ39 =>
    bd1 (m_X8_moveRow a1 (a2 + (107 : Int32)) 77 (88 : Int32) σ39) (fun σ41 =>
    some σ41)))))))))))))))))))))

def m_X8_image (a1 : Int32) (σ : Sg) : Option (Int32 × Sg) :=
    bd1 (m_X8_in (Int32.toInt64 a1) (0 : Int64) (1 : Int64) σ) (fun r1 =>
    if r1 = 0 then
    (bd2 (m_X8_bad σ) (fun r6 σ7 =>
    some (r6, σ7)))
    else
    (bd1 (m_X8_moveAll (1 : Int32) ((196 : Int32) * a1) σ) (fun σ3 =>
    if (a1 < 0 ∨ len 84 ≤ a1.toNatClampNeg) then none else
    (nm (si σ3 84 a1.toNatClampNeg (1 : Int32)) (fun σ5 =>
    some ((1 : Int32), σ5))))))

def m_X8_from (a1 : Int32) (σ : Sg) : Option (Int32 × Sg) :=
    bd1 (m_X8_in (Int32.toInt64 a1) (0 : Int64) (1 : Int64) σ) (fun r1 =>
    if r1 = 0 then
    (bd2 (m_X8_bad σ) (fun r8 σ9 =>
    some (r8, σ9)))
    else
    (if (a1 < 0 ∨ len 84 ≤ a1.toNatClampNeg) then none else
    (if (σ.1 84 a1.toNatClampNeg) = 0 then
    (bd2 (m_X8_no σ) (fun r5 σ6 =>
    some (r5, σ6)))
    else
    (bd1 (m_X8_moveAll (0 : Int32) ((196 : Int32) * a1) σ) (fun σ3 =>
    some ((1 : Int32), σ3))))))

def m_X8_stripped_L4   (σ : Sg) (kx : Unit → Option (Int32)) : Nat → Int32 → Int32 → Option (Int32)
  | 0, _, _ => none
  | n + 1, v2, v1 =>
    if (4 : Int32) ≤ v2 then
    (some v1)
    else
    (if (((1 : Int32) + v2) < 0 ∨ len 74 ≤ ((1 : Int32) + v2).toNatClampNeg) then none else
    (bd1 (
    if (σ.1 74 ((1 : Int32) + v2).toNatClampNeg) < 0 then
    (some ((0 : Int32)))
    else
    (some ((1 : Int32)))) (fun o4 =>
    nm ((v1 + o4)) (fun x5 =>
    nm (v2 + (1 : Int32)) (fun x6 =>
    m_X8_stripped_L4 σ kx n x6 x5)))))
def m_X8_stripped  (σ : Sg) : Option (Int32) :=
    nm ((0 : Int32)) (fun x1 =>
    nm ((0 : Int32)) (fun x2 =>
    m_X8_stripped_L4 σ (fun _ => none) 1000 x2 x1))

def m_X8_counted (a1 : Int32) (σ : Sg) : Option (Int32) :=
    if a1 = 0 then
    (some (σ.1 68 1))
    else
    (if a1 = 1 then
    (some (σ.1 68 5))
    else
    (if a1 = 2 then
    (if ((0 : Int32) < 0 ∨ len 74 ≤ (0 : Int32).toNatClampNeg) then none else
    (some (σ.1 74 (0 : Int32).toNatClampNeg)))
    else
    (if a1 = 3 then
    (bd1 (m_X8_stripped σ) (fun r1 =>
    some r1))
    else
    (if a1 = 4 then
    (bd1 (m_X8_knownByAll σ) (fun r3 =>
    some r3))
    else
    (if a1 = 5 then
    (some (σ.1 68 16))
    else
    (if a1 = 6 then
    (some (σ.1 68 18))
    else
    (if a1 = 7 then
    (some (σ.1 68 20))
    else
    (if a1 = 8 then
    (some (σ.1 68 14))
    else
    (some (σ.1 68 9))))))))))

def m_X8_count (a1 : Int32) (σ : Sg) : Option (Int32 × Sg) :=
    bd1 (m_X8_in (Int32.toInt64 a1) (0 : Int64) (9 : Int64) σ) (fun r1 =>
    if r1 = 0 then
    (bd2 (m_X8_bad σ) (fun r3 σ4 =>
    some (r3, σ4)))
    else
    (bd1 (m_X8_counted a1 σ) (fun r6 =>
    some (r6, σ))))

def m_X8_adds_L6 (k2 : Nat) (c3 : Int32) (σ : Sg) (kx : Unit → Option (Int64)) : Nat → Int32 → Int64 → Option (Int64)
  | 0, _, _ => none
  | n + 1, v6, v4 =>
    if c3 ≤ v6 then
    (some v4)
    else
    (if (v6 < 0 ∨ len k2 ≤ v6.toNatClampNeg) then none else
    (nm ((((31 : Int64) * v4) + (Int32.toInt64 (σ.1 k2 v6.toNatClampNeg)))) (fun x2 =>
    nm (v6 + (1 : Int32)) (fun x3 =>
    m_X8_adds_L6 k2 c3 σ kx n x3 x2))))
def m_X8_adds (a0 : Int64) (k2 : Nat) (a3 : Int32) (σ : Sg) : Option (Int64) :=
    nm ((0 : Int32)) (fun x1 =>
    m_X8_adds_L6 k2 a3 σ (fun _ => none) 1000 x1 a0)

def m_X8_digest_L6 {β : Type}   (σ : Sg) (kx : Int64 → Option (β)) : Nat → Int32 → Int64 → Option (β)
  | 0, _, _ => none
  | n + 1, v3, v1 =>
    if (10 : Int32) ≤ v3 then
    (kx v1)
    else
    (bd1 (m_X8_counted v3 σ) (fun r3 =>
    nm ((((31 : Int64) * v1) + (Int32.toInt64 r3))) (fun x5 =>
    nm (v3 + (1 : Int32)) (fun x6 =>
    m_X8_digest_L6 σ kx n x6 x5))))
def m_X8_digest_L33 {β : Type}   (σ : Sg) (kx : Int64 → Option (β)) : Nat → Int32 → Int64 → Option (β)
  | 0, _, _ => none
  | n + 1, v3, v1 =>
    if (4 : Int32) ≤ v3 then
    (kx v1)
    else
    (bd1 (m_X8_minuteOf v3 σ) (fun r9 =>
    nm ((((31 : Int64) * v1) + (Int32.toInt64 r9))) (fun x11 =>
    nm (v3 + (1 : Int32)) (fun x12 =>
    m_X8_digest_L33 σ kx n x12 x11))))
def m_X8_digest_L59 {β : Type}   (σ : Sg) (kx : Int64 → Option (β)) : Nat → Int32 → Int64 → Option (β)
  | 0, _, _ => none
  | n + 1, v3, v1 =>
    if (σ.1 68 1) ≤ v3 then
    (kx v1)
    else
    (if (v3 < 0 ∨ len 70 ≤ v3.toNatClampNeg) then none else
    (if (v3 < 0 ∨ len 71 ≤ v3.toNatClampNeg) then none else
    (if (v3 < 0 ∨ len 72 ≤ v3.toNatClampNeg) then none else
    (nm ((((31 : Int64) * (((31 : Int64) * (((31 : Int64) * v1) + (Int32.toInt64 (σ.1 70 v3.toNatClampNeg)))) + (Int32.toInt64 (σ.1 71 v3.toNatClampNeg)))) + (Int32.toInt64 (σ.1 72 v3.toNatClampNeg)))) (fun x15 =>
    nm (v3 + (1 : Int32)) (fun x16 =>
    m_X8_digest_L59 σ kx n x16 x15))))))
def m_X8_digest_L113 {β : Type}   (σ : Sg) (kx : Int64 → Option (β)) : Nat → Int32 → Int64 → Option (β)
  | 0, _, _ => none
  | n + 1, v3, v1 =>
    if (σ.1 68 5) ≤ v3 then
    (kx v1)
    else
    (if (v3 < 0 ∨ len 73 ≤ v3.toNatClampNeg) then none else
    (if (((5 : Int32) + v3) < 0 ∨ len 74 ≤ ((5 : Int32) + v3).toNatClampNeg) then none else
    (if (((8 : Int32) + v3) < 0 ∨ len 74 ≤ ((8 : Int32) + v3).toNatClampNeg) then none else
    (nm ((((31 : Int64) * (((31 : Int64) * (((31 : Int64) * v1) + (Int32.toInt64 (σ.1 73 v3.toNatClampNeg)))) + (Int32.toInt64 (σ.1 74 ((5 : Int32) + v3).toNatClampNeg)))) + (Int32.toInt64 (σ.1 74 ((8 : Int32) + v3).toNatClampNeg)))) (fun x19 =>
    nm (v3 + (1 : Int32)) (fun x20 =>
    m_X8_digest_L113 σ kx n x20 x19))))))
def m_X8_digest  (σ : Sg) : Option (Int64) :=
    nm ((1583 : Int64)) (fun x1 =>
    nm ((0 : Int32)) (fun x2 =>
    m_X8_digest_L6 σ (fun x7 =>
    nm ((0 : Int32)) (fun x8 =>
    m_X8_digest_L33 σ (fun x13 =>
    nm ((0 : Int32)) (fun x14 =>
    m_X8_digest_L59 σ (fun x17 =>
    nm ((0 : Int32)) (fun x18 =>
    m_X8_digest_L113 σ (fun x21 =>
    bd1 (m_X8_adds x21 78 ((3 : Int32) * (σ.1 68 16)) σ) (fun r22 =>
    bd1 (m_X8_adds r22 79 ((4 : Int32) * (σ.1 68 18)) σ) (fun r24 =>
    bd1 (m_X8_adds r24 80 ((4 : Int32) * (σ.1 68 20)) σ) (fun r26 =>
    some (((31 : Int64) * (((31 : Int64) * r26) + (σ.2 68 22))) + (σ.2 68 23)))))) 1000 x18 x17)) 1000 x14 x13)) 1000 x8 x7)) 1000 x2 x1))
