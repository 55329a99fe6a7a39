/-! ===== CONSTRUCTORS: printed by wip/gen/mkctor.py ===== -/
def kR (k : Nat) (a b : Int32) (σ : Sg) : Sg := zi (si (si σ k 0 a) k 1 b) (k + 1)
def rR (ρ : Nat → Nat → Nat) (k : Nat) : Nat → Nat → Nat := rput ρ k 2 (k + 1 + 1)
theorem rR_RB {ρ : Nat → Nat → Nat} {k : Nat} (hr : RB ρ (k + 1)) : RB (rR ρ k) (k + 1 + 1) := (hr.up (Nat.le_succ _)).put (by omega) (by omega)
abbrev rmR (n : Nat) : Room := { frames := 1, cells := 1, slots := n, locals := 21 }
set_option maxHeartbeats 4000000 in
set_option maxRecDepth 100000 in
theorem c_X6_init (l : Launch) (E : Ev) (ad : Nat → Nat) (ρ : Nat → Nat → Nat) {k n : Nat} (hl : lay k = 4) (σ : Sg) {a b : Int32} (hlen : len (k + 1) = n) (hsm : n ≤ 1000) (h0 : ¬ (if 0 < a * b then a * b else 0) < 0) (h1 : (if 0 < a * b then a * b else 0).toNatClampNeg = n) (hr : RB ρ (k + 1)) : Met l yX6_init (wY yX6_init cX6_init 3 none) (rmR n) (va_Pc [.ref (ad k), .int a, .int b] (PreU E ad ρ (k + 1) σ)) (QcC E ad (k + 1) (k + 1 + 1) (rR ρ k) (kR k a b σ)) 1 n (EA E) := by
  refine met_ofC (L0 := [(0, .ref (ad k)), (1, .int a), (2, .int b)]) rfl rfl (Nat.le_of_ble_eq_true rfl) rfl (fun Γ X Y => ?_)
  have X : XC Γ E (rmR n) cX6_init 3 RX6 := X
  refine j_aload_n X 0 rfl rfl dX6_init_0 ?_
  refine j_objInit X bw_35 bw_22 bw_23 ⟨Nat.le_of_ble_eq_true rfl, Nat.le_of_ble_eq_true rfl⟩ dX6_init_1 ?_
  refine j_aload_n X 0 rfl rfl dX6_init_4 ?_
  refine j_iload_n X 1 rfl rfl dX6_init_5 ?_
  refine j_puti X cf4 (Nat.lt_succ_self k) hl 0 rfl ⟨rfl, rfl⟩ (.inr ⟨rfl, Y.2.2.1, rfl⟩) rfl rfl rfl bw_39 dX6_init_6 ?_
  refine j_aload_n X 0 rfl rfl dX6_init_9 ?_
  refine j_iload_n X 2 rfl rfl dX6_init_10 ?_
  refine j_puti X cf4 (Nat.lt_succ_self k) hl 1 rfl ⟨rfl, rfl⟩ (.inr ⟨rfl, Y.2.2.1, rfl⟩) rfl rfl rfl bw_40 dX6_init_11 ?_
  refine j_aload_n X 0 rfl rfl dX6_init_14 ?_
  refine j_iconst X (v := 0) (by decide) dX6_init_15 ?_
  refine j_iload_n X 1 rfl rfl dX6_init_16 ?_
  refine j_iload_n X 2 rfl rfl dX6_init_17 ?_
  refine j_imul X dX6_init_18 ?_
  refine j_mmaxG X bw_36 bw_37 bw_4 bw_38 ⟨Nat.le_of_ble_eq_true rfl, Nat.le_of_ble_eq_true rfl⟩ ⟨Nat.zero_le _, Nat.zero_le _⟩ dX6_init_19 ?_
  refine j_newa X (lay_R hl) hr bw_57 h0 (h1.trans hlen.symm) (by omega) ⟨Nat.le_refl _, by show 0 + len (k + 1) ≤ n; omega⟩ dX6_init_22 (fun ad1 hag => ?_)
  rw [← hag k (Nat.lt_succ_self k), hlen, Nat.zero_add, Nat.zero_add]
  refine j_putr X cf4 (by omega) hl 2 rfl ⟨rfl, rfl⟩ ⟨rfl, Y.2.2.1, rfl⟩ rfl rfl bw_41 dX6_init_24 ?_
  exact j_vretC X Y hag dX6_init_27

def kH (h : Nat) (σ : Sg) : Sg := (kR (h + 13) 8 11 (zi (kR (h + 11) 6 4 (zi (kR (h + 9) 6 4 (zi (kR (h + 7) 5 3 (zi (kR (h + 5) 4 1 (zi (kR (h + 3) 3 3 (zi (kR (h + 1) 8 3 (zi σ (h + 1))) (h + 3))) (h + 5))) (h + 7))) (h + 9))) (h + 11))) (h + 13)))
def rH (h : Nat) (ρ : Nat → Nat → Nat) : Nat → Nat → Nat := (rput (rR (rput (rR (rput (rR (rput (rR (rput (rR (rput (rR (rput (rR ρ (h + 1)) h 1 ((h + 1) + 1)) (h + 3)) h 2 ((h + 3) + 1)) (h + 5)) h 3 ((h + 5) + 1)) (h + 7)) h 4 ((h + 7) + 1)) (h + 9)) h 5 ((h + 9) + 1)) (h + 11)) h 6 ((h + 11) + 1)) (h + 13)) h 7 ((h + 13) + 1))
abbrev rmX2_init : Room := { frames := 2, cells := 14, slots := 216, locals := 43 }
set_option maxHeartbeats 4000000 in
set_option maxRecDepth 100000 in
theorem c_X2_init (l : Launch) (E : Ev) (ad : Nat → Nat) (ρ : Nat → Nat → Nat) {h : Nat} (hl : lay h = 1) (σ : Sg) (hr : RB ρ (h + 1)) : Met l yX2_init (wY yX2_init cX2_init 1 none) rmX2_init (va_Pc [.ref (ad h)] (PreU E ad ρ (h + 1) σ)) (QcC E ad (h + 1) (h + 15) (rH h ρ) (kH h σ)) 14 216 (EA E) := by
  refine met_ofC (L0 := [(0, .ref (ad h))]) rfl rfl (Nat.le_of_ble_eq_true rfl) rfl (fun Γ X Y => ?_)
  have X : XC Γ E rmX2_init cX2_init 1 RX2 := X
  refine j_aload_n X 0 rfl rfl dX2_init_0 ?_
  refine j_objInit X bw_29 bw_22 bw_23 ⟨Nat.le_of_ble_eq_true rfl, Nat.le_of_ble_eq_true rfl⟩ dX2_init_1 ?_
  refine j_aload_n X 0 rfl rfl dX2_init_4 ?_
  refine j_new X cf4 cd4 (lay_H1 hl) hr bw_30 bw_31 bw_3 ⟨Nat.le_of_ble_eq_true rfl, Nat.le_of_ble_eq_true rfl⟩ dX2_init_5 (fun ad1 hag1 => ?_)
  rw [← hag1 h (by omega)]
  have hr1 := hr.up (Nat.le_succ _)
  refine j_dup X rfl dX2_init_8 ?_
  refine j_bipush X (v := 8) (by decide) dX2_init_9 ?_
  refine j_iconst X (v := 3) (by decide) dX2_init_11 ?_
  refine j_callI X (As := [.int 8, .int 3]) (rest := [.ref (ad1 (h + 1)), .ref (ad1 h)]) mf_X6_init rfl bw_32 bw_33 ⟨rfl, rfl⟩ ⟨Nat.le_of_ble_eq_true rfl, Nat.le_of_ble_eq_true rfl⟩ ⟨Nat.le_of_ble_eq_true rfl, Nat.le_of_ble_eq_true rfl⟩ (c_X6_init Γ.2.1 E ad1 ρ (lay_H1 hl) (zi σ (h + 1)) (n := 24) (by rcases lay_1 hl with rfl | rfl | rfl | rfl <;> decide +kernel) (by decide) (by decide) (by decide) hr1) rfl rfl (Nat.le_of_ble_eq_true rfl) dX2_init_12 (fun ad2 hag2 => ?_)
  rw [← hag2 h (by omega), ← hag2 (h + 1) (by omega)]
  have hr2 := rR_RB (k := (h + 1)) hr1
  refine j_putr X cf1 (by omega) hl 1 rfl ⟨rfl, rfl⟩ ⟨rfl, Y.2.2.1, rfl⟩ rfl rfl bw_60 dX2_init_15 ?_
  have hr2p := hr2.put (k := h) (j := 1) (p := (h + 1)) (by omega) (by omega)
  refine j_aload_n X 0 rfl rfl dX2_init_18 ?_
  refine j_new X cf4 cd4 (lay_H2 hl) hr2p bw_30 bw_31 bw_3 ⟨Nat.le_of_ble_eq_true rfl, Nat.le_of_ble_eq_true rfl⟩ dX2_init_19 (fun ad3 hag3 => ?_)
  rw [← hag3 h (by omega)]
  have hr3 := hr2p.up (Nat.le_succ _)
  refine j_dup X rfl dX2_init_22 ?_
  refine j_iconst X (v := 3) (by decide) dX2_init_23 ?_
  refine j_iconst X (v := 3) (by decide) dX2_init_24 ?_
  refine j_callI X (As := [.int 3, .int 3]) (rest := [.ref (ad3 (h + 3)), .ref (ad3 h)]) mf_X6_init rfl bw_32 bw_33 ⟨rfl, rfl⟩ ⟨Nat.le_of_ble_eq_true rfl, Nat.le_of_ble_eq_true rfl⟩ ⟨Nat.le_of_ble_eq_true rfl, Nat.le_of_ble_eq_true rfl⟩ (c_X6_init Γ.2.1 E ad3 (rput (rR ρ (h + 1)) h 1 ((h + 1) + 1)) (lay_H2 hl) (zi (kR (h + 1) 8 3 (zi σ (h + 1))) (h + 3)) (n := 9) (by rcases lay_1 hl with rfl | rfl | rfl | rfl <;> decide +kernel) (by decide) (by decide) (by decide) hr3) rfl rfl (Nat.le_of_ble_eq_true rfl) dX2_init_25 (fun ad4 hag4 => ?_)
  rw [← hag4 h (by omega), ← hag4 (h + 3) (by omega)]
  have hr4 := rR_RB (k := (h + 3)) hr3
  refine j_putr X cf1 (by omega) hl 2 rfl ⟨rfl, rfl⟩ ⟨rfl, Y.2.2.1, rfl⟩ rfl rfl bw_65 dX2_init_28 ?_
  have hr4p := hr4.put (k := h) (j := 2) (p := (h + 3)) (by omega) (by omega)
  refine j_aload_n X 0 rfl rfl dX2_init_31 ?_
  refine j_new X cf4 cd4 (lay_H3 hl) hr4p bw_30 bw_31 bw_3 ⟨Nat.le_of_ble_eq_true rfl, Nat.le_of_ble_eq_true rfl⟩ dX2_init_32 (fun ad5 hag5 => ?_)
  rw [← hag5 h (by omega)]
  have hr5 := hr4p.up (Nat.le_succ _)
  refine j_dup X rfl dX2_init_35 ?_
  refine j_iconst X (v := 4) (by decide) dX2_init_36 ?_
  refine j_iconst X (v := 1) (by decide) dX2_init_37 ?_
  refine j_callI X (As := [.int 4, .int 1]) (rest := [.ref (ad5 (h + 5)), .ref (ad5 h)]) mf_X6_init rfl bw_32 bw_33 ⟨rfl, rfl⟩ ⟨Nat.le_of_ble_eq_true rfl, Nat.le_of_ble_eq_true rfl⟩ ⟨Nat.le_of_ble_eq_true rfl, Nat.le_of_ble_eq_true rfl⟩ (c_X6_init Γ.2.1 E ad5 (rput (rR (rput (rR ρ (h + 1)) h 1 ((h + 1) + 1)) (h + 3)) h 2 ((h + 3) + 1)) (lay_H3 hl) (zi (kR (h + 3) 3 3 (zi (kR (h + 1) 8 3 (zi σ (h + 1))) (h + 3))) (h + 5)) (n := 4) (by rcases lay_1 hl with rfl | rfl | rfl | rfl <;> decide +kernel) (by decide) (by decide) (by decide) hr5) rfl rfl (Nat.le_of_ble_eq_true rfl) dX2_init_38 (fun ad6 hag6 => ?_)
  rw [← hag6 h (by omega), ← hag6 (h + 5) (by omega)]
  have hr6 := rR_RB (k := (h + 5)) hr5
  refine j_putr X cf1 (by omega) hl 3 rfl ⟨rfl, rfl⟩ ⟨rfl, Y.2.2.1, rfl⟩ rfl rfl bw_70 dX2_init_41 ?_
  have hr6p := hr6.put (k := h) (j := 3) (p := (h + 5)) (by omega) (by omega)
  refine j_aload_n X 0 rfl rfl dX2_init_44 ?_
  refine j_new X cf4 cd4 (lay_H4 hl) hr6p bw_30 bw_31 bw_3 ⟨Nat.le_of_ble_eq_true rfl, Nat.le_of_ble_eq_true rfl⟩ dX2_init_45 (fun ad7 hag7 => ?_)
  rw [← hag7 h (by omega)]
  have hr7 := hr6p.up (Nat.le_succ _)
  refine j_dup X rfl dX2_init_48 ?_
  refine j_iconst X (v := 5) (by decide) dX2_init_49 ?_
  refine j_iconst X (v := 3) (by decide) dX2_init_50 ?_
  refine j_callI X (As := [.int 5, .int 3]) (rest := [.ref (ad7 (h + 7)), .ref (ad7 h)]) mf_X6_init rfl bw_32 bw_33 ⟨rfl, rfl⟩ ⟨Nat.le_of_ble_eq_true rfl, Nat.le_of_ble_eq_true rfl⟩ ⟨Nat.le_of_ble_eq_true rfl, Nat.le_of_ble_eq_true rfl⟩ (c_X6_init Γ.2.1 E ad7 (rput (rR (rput (rR (rput (rR ρ (h + 1)) h 1 ((h + 1) + 1)) (h + 3)) h 2 ((h + 3) + 1)) (h + 5)) h 3 ((h + 5) + 1)) (lay_H4 hl) (zi (kR (h + 5) 4 1 (zi (kR (h + 3) 3 3 (zi (kR (h + 1) 8 3 (zi σ (h + 1))) (h + 3))) (h + 5))) (h + 7)) (n := 15) (by rcases lay_1 hl with rfl | rfl | rfl | rfl <;> decide +kernel) (by decide) (by decide) (by decide) hr7) rfl rfl (Nat.le_of_ble_eq_true rfl) dX2_init_51 (fun ad8 hag8 => ?_)
  rw [← hag8 h (by omega), ← hag8 (h + 7) (by omega)]
  have hr8 := rR_RB (k := (h + 7)) hr7
  refine j_putr X cf1 (by omega) hl 4 rfl ⟨rfl, rfl⟩ ⟨rfl, Y.2.2.1, rfl⟩ rfl rfl bw_71 dX2_init_54 ?_
  have hr8p := hr8.put (k := h) (j := 4) (p := (h + 7)) (by omega) (by omega)
  refine j_aload_n X 0 rfl rfl dX2_init_57 ?_
  refine j_new X cf4 cd4 (lay_H5 hl) hr8p bw_30 bw_31 bw_3 ⟨Nat.le_of_ble_eq_true rfl, Nat.le_of_ble_eq_true rfl⟩ dX2_init_58 (fun ad9 hag9 => ?_)
  rw [← hag9 h (by omega)]
  have hr9 := hr8p.up (Nat.le_succ _)
  refine j_dup X rfl dX2_init_61 ?_
  refine j_bipush X (v := 6) (by decide) dX2_init_62 ?_
  refine j_iconst X (v := 4) (by decide) dX2_init_64 ?_
  refine j_callI X (As := [.int 6, .int 4]) (rest := [.ref (ad9 (h + 9)), .ref (ad9 h)]) mf_X6_init rfl bw_32 bw_33 ⟨rfl, rfl⟩ ⟨Nat.le_of_ble_eq_true rfl, Nat.le_of_ble_eq_true rfl⟩ ⟨Nat.le_of_ble_eq_true rfl, Nat.le_of_ble_eq_true rfl⟩ (c_X6_init Γ.2.1 E ad9 (rput (rR (rput (rR (rput (rR (rput (rR ρ (h + 1)) h 1 ((h + 1) + 1)) (h + 3)) h 2 ((h + 3) + 1)) (h + 5)) h 3 ((h + 5) + 1)) (h + 7)) h 4 ((h + 7) + 1)) (lay_H5 hl) (zi (kR (h + 7) 5 3 (zi (kR (h + 5) 4 1 (zi (kR (h + 3) 3 3 (zi (kR (h + 1) 8 3 (zi σ (h + 1))) (h + 3))) (h + 5))) (h + 7))) (h + 9)) (n := 24) (by rcases lay_1 hl with rfl | rfl | rfl | rfl <;> decide +kernel) (by decide) (by decide) (by decide) hr9) rfl rfl (Nat.le_of_ble_eq_true rfl) dX2_init_65 (fun ad10 hag10 => ?_)
  rw [← hag10 h (by omega), ← hag10 (h + 9) (by omega)]
  have hr10 := rR_RB (k := (h + 9)) hr9
  refine j_putr X cf1 (by omega) hl 5 rfl ⟨rfl, rfl⟩ ⟨rfl, Y.2.2.1, rfl⟩ rfl rfl bw_74 dX2_init_68 ?_
  have hr10p := hr10.put (k := h) (j := 5) (p := (h + 9)) (by omega) (by omega)
  refine j_aload_n X 0 rfl rfl dX2_init_71 ?_
  refine j_new X cf4 cd4 (lay_H6 hl) hr10p bw_30 bw_31 bw_3 ⟨Nat.le_of_ble_eq_true rfl, Nat.le_of_ble_eq_true rfl⟩ dX2_init_72 (fun ad11 hag11 => ?_)
  rw [← hag11 h (by omega)]
  have hr11 := hr10p.up (Nat.le_succ _)
  refine j_dup X rfl dX2_init_75 ?_
  refine j_bipush X (v := 6) (by decide) dX2_init_76 ?_
  refine j_iconst X (v := 4) (by decide) dX2_init_78 ?_
  refine j_callI X (As := [.int 6, .int 4]) (rest := [.ref (ad11 (h + 11)), .ref (ad11 h)]) mf_X6_init rfl bw_32 bw_33 ⟨rfl, rfl⟩ ⟨Nat.le_of_ble_eq_true rfl, Nat.le_of_ble_eq_true rfl⟩ ⟨Nat.le_of_ble_eq_true rfl, Nat.le_of_ble_eq_true rfl⟩ (c_X6_init Γ.2.1 E ad11 (rput (rR (rput (rR (rput (rR (rput (rR (rput (rR ρ (h + 1)) h 1 ((h + 1) + 1)) (h + 3)) h 2 ((h + 3) + 1)) (h + 5)) h 3 ((h + 5) + 1)) (h + 7)) h 4 ((h + 7) + 1)) (h + 9)) h 5 ((h + 9) + 1)) (lay_H6 hl) (zi (kR (h + 9) 6 4 (zi (kR (h + 7) 5 3 (zi (kR (h + 5) 4 1 (zi (kR (h + 3) 3 3 (zi (kR (h + 1) 8 3 (zi σ (h + 1))) (h + 3))) (h + 5))) (h + 7))) (h + 9))) (h + 11)) (n := 24) (by rcases lay_1 hl with rfl | rfl | rfl | rfl <;> decide +kernel) (by decide) (by decide) (by decide) hr11) rfl rfl (Nat.le_of_ble_eq_true rfl) dX2_init_79 (fun ad12 hag12 => ?_)
  rw [← hag12 h (by omega), ← hag12 (h + 11) (by omega)]
  have hr12 := rR_RB (k := (h + 11)) hr11
  refine j_putr X cf1 (by omega) hl 6 rfl ⟨rfl, rfl⟩ ⟨rfl, Y.2.2.1, rfl⟩ rfl rfl bw_77 dX2_init_82 ?_
  have hr12p := hr12.put (k := h) (j := 6) (p := (h + 11)) (by omega) (by omega)
  refine j_aload_n X 0 rfl rfl dX2_init_85 ?_
  refine j_new X cf4 cd4 (lay_H7 hl) hr12p bw_30 bw_31 bw_3 ⟨Nat.le_of_ble_eq_true rfl, Nat.le_of_ble_eq_true rfl⟩ dX2_init_86 (fun ad13 hag13 => ?_)
  rw [← hag13 h (by omega)]
  have hr13 := hr12p.up (Nat.le_succ _)
  refine j_dup X rfl dX2_init_89 ?_
  refine j_bipush X (v := 8) (by decide) dX2_init_90 ?_
  refine j_bipush X (v := 11) (by decide) dX2_init_92 ?_
  refine j_callI X (As := [.int 8, .int 11]) (rest := [.ref (ad13 (h + 13)), .ref (ad13 h)]) mf_X6_init rfl bw_32 bw_33 ⟨rfl, rfl⟩ ⟨Nat.le_of_ble_eq_true rfl, Nat.le_of_ble_eq_true rfl⟩ ⟨Nat.le_of_ble_eq_true rfl, Nat.le_of_ble_eq_true rfl⟩ (c_X6_init Γ.2.1 E ad13 (rput (rR (rput (rR (rput (rR (rput (rR (rput (rR (rput (rR ρ (h + 1)) h 1 ((h + 1) + 1)) (h + 3)) h 2 ((h + 3) + 1)) (h + 5)) h 3 ((h + 5) + 1)) (h + 7)) h 4 ((h + 7) + 1)) (h + 9)) h 5 ((h + 9) + 1)) (h + 11)) h 6 ((h + 11) + 1)) (lay_H7 hl) (zi (kR (h + 11) 6 4 (zi (kR (h + 9) 6 4 (zi (kR (h + 7) 5 3 (zi (kR (h + 5) 4 1 (zi (kR (h + 3) 3 3 (zi (kR (h + 1) 8 3 (zi σ (h + 1))) (h + 3))) (h + 5))) (h + 7))) (h + 9))) (h + 11))) (h + 13)) (n := 88) (by rcases lay_1 hl with rfl | rfl | rfl | rfl <;> decide +kernel) (by decide) (by decide) (by decide) hr13) rfl rfl (Nat.le_of_ble_eq_true rfl) dX2_init_94 (fun ad14 hag14 => ?_)
  rw [← hag14 h (by omega), ← hag14 (h + 13) (by omega)]
  have hr14 := rR_RB (k := (h + 13)) hr13
  refine j_putr X cf1 (by omega) hl 7 rfl ⟨rfl, rfl⟩ ⟨rfl, Y.2.2.1, rfl⟩ rfl rfl bw_80 dX2_init_97 ?_
  have hr14p := hr14.put (k := h) (j := 7) (p := (h + 13)) (by omega) (by omega)
  exact j_vretC X Y (fun i hi => by rw [hag14 i (by omega), hag13 i (by omega), hag12 i (by omega), hag11 i (by omega), hag10 i (by omega), hag9 i (by omega), hag8 i (by omega), hag7 i (by omega), hag6 i (by omega), hag5 i (by omega), hag4 i (by omega), hag3 i (by omega), hag2 i (by omega), hag1 i (by omega)]) dX2_init_100

theorem rH_RB {h : Nat} {ρ : Nat → Nat → Nat} (hr : RB ρ (h + 1)) : RB (rH h ρ) (h + 15) := by
  unfold rH rR
  have h0 := hr.up (show h + 1 ≤ h + 15 by omega)
  exact ((((((((((((((h0.put (by omega) (by omega)).put (by omega) (by omega)).put (by omega) (by omega)).put (by omega) (by omega)).put (by omega) (by omega)).put (by omega) (by omega)).put (by omega) (by omega)).put (by omega) (by omega)).put (by omega) (by omega)).put (by omega) (by omega)).put (by omega) (by omega)).put (by omega) (by omega)).put (by omega) (by omega)).put (by omega) (by omega))
abbrev rmX5_init : Room := { frames := 2, cells := 2, slots := 154, locals := 43 }
def kX5_init (σ : Sg) : Sg := (kR 62 150 1 (zi σ 62))
def rX5_init (ρ : Nat → Nat → Nat) : Nat → Nat → Nat := (rput (rR ρ 62) 61 0 (62 + 1))
set_option maxHeartbeats 4000000 in
set_option maxRecDepth 100000 in
theorem c_X5_init (l : Launch) (E : Ev) (ad : Nat → Nat) (ρ : Nat → Nat → Nat) (σ : Sg) (hr : RB ρ 62) : Met l yX5_init (wY yX5_init cX5_init 1 none) rmX5_init (va_Pc [.ref (ad 61)] (PreU E ad ρ 62 σ)) (QcC E ad 62 64 (rX5_init ρ) (kX5_init σ)) 2 154 (EA E) := by
  refine met_ofC (L0 := [(0, .ref (ad 61))]) rfl rfl (Nat.le_of_ble_eq_true rfl) rfl (fun Γ X Y => ?_)
  have X : XC Γ E rmX5_init cX5_init 1 RX5 := X
  refine j_aload_n X 0 rfl rfl dX5_init_0 ?_
  refine j_objInit X bw_104 bw_22 bw_23 ⟨Nat.le_of_ble_eq_true rfl, Nat.le_of_ble_eq_true rfl⟩ dX5_init_1 ?_
  refine j_aload_n X 0 rfl rfl dX5_init_4 ?_
  refine j_new X cf4 cd4 (by decide +kernel : lay 62 = 4) hr bw_105 bw_31 bw_3 ⟨Nat.le_of_ble_eq_true rfl, Nat.le_of_ble_eq_true rfl⟩ dX5_init_5 (fun ad1 hag1 => ?_)
  rw [← hag1 61 (by omega)]
  have hr1 := hr.up (Nat.le_succ _)
  refine j_dup X rfl dX5_init_8 ?_
  refine j_sipush X (v := 150) (by decide) dX5_init_9 ?_
  refine j_iconst X (v := 1) (by decide) dX5_init_12 ?_
  refine j_callI X (As := [.int 150, .int 1]) (rest := [.ref (ad1 62), .ref (ad1 61)]) mf_X6_init rfl bw_106 bw_33 ⟨rfl, rfl⟩ ⟨Nat.le_of_ble_eq_true rfl, Nat.le_of_ble_eq_true rfl⟩ ⟨Nat.le_of_ble_eq_true rfl, Nat.le_of_ble_eq_true rfl⟩ (c_X6_init Γ.2.1 E ad1 ρ (by decide +kernel : lay 62 = 4) (zi σ 62) (n := 150) (by decide +kernel) (by decide) (by decide) (by decide) hr1) rfl rfl (Nat.le_of_ble_eq_true rfl) dX5_init_13 (fun ad2 hag2 => ?_)
  rw [← hag2 61 (by omega), ← hag2 62 (by omega)]
  have hr2 := rR_RB (k := 62) hr1
  refine j_putr X cf3 (by omega) pl_61 0 rfl ⟨rfl, rfl⟩ ⟨rfl, Y.2.2.1, rfl⟩ rfl rfl bw_107 dX5_init_16 ?_
  have hr2p := hr2.put (k := 61) (j := 0) (p := 62) (by omega) (by omega)
  exact j_vretC X Y (fun i hi => by rw [hag2 i (by omega), hag1 i (by omega)]) dX5_init_19

theorem rX5_init_RB {ρ : Nat → Nat → Nat} (hr : RB ρ 62) : RB (rX5_init ρ) 64 := by
  unfold rX5_init
  try unfold rR
  have h0 := hr.up (show 62 ≤ 64 by omega)
  exact ((h0.put (by omega) (by omega)).put (by omega) (by omega))
abbrev rmX4_init : Room := { frames := 2, cells := 2, slots := 12, locals := 43 }
def kX4_init (σ : Sg) : Sg := (kR 65 2 4 (zi σ 65))
def rX4_init (ρ : Nat → Nat → Nat) : Nat → Nat → Nat := (rput (rR ρ 65) 64 0 (65 + 1))
set_option maxHeartbeats 4000000 in
set_option maxRecDepth 100000 in
theorem c_X4_init (l : Launch) (E : Ev) (ad : Nat → Nat) (ρ : Nat → Nat → Nat) (σ : Sg) (hr : RB ρ 65) : Met l yX4_init (wY yX4_init cX4_init 1 none) rmX4_init (va_Pc [.ref (ad 64)] (PreU E ad ρ 65 σ)) (QcC E ad 65 67 (rX4_init ρ) (kX4_init σ)) 2 12 (EA E) := by
  refine met_ofC (L0 := [(0, .ref (ad 64))]) rfl rfl (Nat.le_of_ble_eq_true rfl) rfl (fun Γ X Y => ?_)
  have X : XC Γ E rmX4_init cX4_init 1 RX4 := X
  refine j_aload_n X 0 rfl rfl dX4_init_0 ?_
  refine j_objInit X bw_135 bw_22 bw_23 ⟨Nat.le_of_ble_eq_true rfl, Nat.le_of_ble_eq_true rfl⟩ dX4_init_1 ?_
  refine j_aload_n X 0 rfl rfl dX4_init_4 ?_
  refine j_new X cf4 cd4 (by decide +kernel : lay 65 = 4) hr bw_136 bw_31 bw_3 ⟨Nat.le_of_ble_eq_true rfl, Nat.le_of_ble_eq_true rfl⟩ dX4_init_5 (fun ad1 hag1 => ?_)
  rw [← hag1 64 (by omega)]
  have hr1 := hr.up (Nat.le_succ _)
  refine j_dup X rfl dX4_init_8 ?_
  refine j_iconst X (v := 2) (by decide) dX4_init_9 ?_
  refine j_iconst X (v := 4) (by decide) dX4_init_10 ?_
  refine j_callI X (As := [.int 2, .int 4]) (rest := [.ref (ad1 65), .ref (ad1 64)]) mf_X6_init rfl bw_137 bw_33 ⟨rfl, rfl⟩ ⟨Nat.le_of_ble_eq_true rfl, Nat.le_of_ble_eq_true rfl⟩ ⟨Nat.le_of_ble_eq_true rfl, Nat.le_of_ble_eq_true rfl⟩ (c_X6_init Γ.2.1 E ad1 ρ (by decide +kernel : lay 65 = 4) (zi σ 65) (n := 8) (by decide +kernel) (by decide) (by decide) (by decide) hr1) rfl rfl (Nat.le_of_ble_eq_true rfl) dX4_init_11 (fun ad2 hag2 => ?_)
  rw [← hag2 64 (by omega), ← hag2 65 (by omega)]
  have hr2 := rR_RB (k := 65) hr1
  refine j_putr X cf2 (by omega) pl_64 0 rfl ⟨rfl, rfl⟩ ⟨rfl, Y.2.2.1, rfl⟩ rfl rfl bw_138 dX4_init_14 ?_
  have hr2p := hr2.put (k := 64) (j := 0) (p := 65) (by omega) (by omega)
  exact j_vretC X Y (fun i hi => by rw [hag2 i (by omega), hag1 i (by omega)]) dX4_init_17

theorem rX4_init_RB {ρ : Nat → Nat → Nat} (hr : RB ρ 65) : RB (rX4_init ρ) 67 := by
  unfold rX4_init
  try unfold rR
  have h0 := hr.up (show 65 ≤ 67 by omega)
  exact ((h0.put (by omega) (by omega)).put (by omega) (by omega))
abbrev rmX1_init : Room := { frames := 1, cells := 0, slots := 0, locals := 21 }
def kX1_init (σ : Sg) : Sg := (sl (sl σ 67 0 0) 67 1 1)
def rX1_init (ρ : Nat → Nat → Nat) : Nat → Nat → Nat := ρ
set_option maxHeartbeats 4000000 in
set_option maxRecDepth 100000 in
theorem c_X1_init (l : Launch) (E : Ev) (ad : Nat → Nat) (ρ : Nat → Nat → Nat) (σ : Sg) (hr : RB ρ 68) : Met l yX1_init (wY yX1_init cX1_init 1 none) rmX1_init (va_Pc [.ref (ad 67)] (PreU E ad ρ 68 σ)) (QcC E ad 68 68 (rX1_init ρ) (kX1_init σ)) 0 0 (EA E) := by
  refine met_ofC (L0 := [(0, .ref (ad 67))]) rfl rfl (Nat.le_of_ble_eq_true rfl) rfl (fun Γ X Y => ?_)
  have X : XC Γ E rmX1_init cX1_init 1 RX1 := X
  refine j_aload_n X 0 rfl rfl dX1_init_0 ?_
  refine j_objInit X bw_147 bw_22 bw_23 ⟨Nat.le_of_ble_eq_true rfl, Nat.le_of_ble_eq_true rfl⟩ dX1_init_1 ?_
  refine j_aload_n X 0 rfl rfl dX1_init_4 ?_
  refine j_lconst X (v := 0) (by decide) dX1_init_5 ?_
  refine j_putl X cf0 (by omega) pl_67 0 rfl ⟨rfl, rfl⟩ rfl rfl rfl rfl bw_148 dX1_init_6 ?_
  refine j_aload_n X 0 rfl rfl dX1_init_9 ?_
  refine j_lconst X (v := 1) (by decide) dX1_init_10 ?_
  refine j_putl X cf0 (by omega) pl_67 1 rfl ⟨rfl, rfl⟩ rfl rfl rfl rfl bw_150 dX1_init_11 ?_
  exact j_vretC X Y (fun i hi => rfl) dX1_init_14

theorem rX1_init_RB {ρ : Nat → Nat → Nat} (hr : RB ρ 68) : RB (rX1_init ρ) 68 := by
  unfold rX1_init
  try unfold rR
  have h0 := hr.up (show 68 ≤ 68 by omega)
  exact h0
abbrev rmX7_init : Room := { frames := 3, cells := 67, slots := 1072, locals := 63 }
def kX7 (σ : Sg) : Sg := (kX1_init (zi (kX4_init (zi (kX5_init (zi (kH 46 (zi (kH 31 (zi (kH 16 (zi (kH 1 (zi σ 1)) 16)) 31)) 46)) 61)) 64)) 67))
def rX7 (ρ : Nat → Nat → Nat) : Nat → Nat → Nat := (rput (rX1_init (rput (rX4_init (rput (rX5_init (rput (rH 46 (rput (rH 31 (rput (rH 16 (rput (rH 1 ρ) 0 0 (1 + 1))) 0 1 (16 + 1))) 0 2 (31 + 1))) 0 3 (46 + 1))) 0 6 (61 + 1))) 0 7 (64 + 1))) 0 8 (67 + 1))
set_option maxHeartbeats 4000000 in
set_option maxRecDepth 100000 in
theorem c_X7_init (l : Launch) (E : Ev) (ad : Nat → Nat) (ρ : Nat → Nat → Nat) (σ : Sg) (hr : RB ρ 1) : Met l yX7_init (wY yX7_init cX7_init 1 none) rmX7_init (va_Pc [.ref (ad 0)] (PreU E ad ρ 1 σ)) (QcC E ad 1 68 (rX7 ρ) (kX7 σ)) 67 1072 (EA E) := by
  refine met_ofC (L0 := [(0, .ref (ad 0))]) rfl rfl (Nat.le_of_ble_eq_true rfl) rfl (fun Γ X Y => ?_)
  have X : XC Γ E rmX7_init cX7_init 1 RX7 := X
  refine j_aload_n X 0 rfl rfl dX7_init_0 ?_
  refine j_objInit X bw_21 bw_22 bw_23 ⟨Nat.le_of_ble_eq_true rfl, Nat.le_of_ble_eq_true rfl⟩ dX7_init_1 ?_
  refine j_aload_n X 0 rfl rfl dX7_init_4 ?_
  refine j_new X cf1 cd1 (by decide +kernel : lay 1 = 1) hr bw_24 bw_25 bw_2 ⟨Nat.le_of_ble_eq_true rfl, Nat.le_of_ble_eq_true rfl⟩ dX7_init_5 (fun ad1 hag1 => ?_)
  rw [← hag1 0 (by omega)]
  have hr1 := hr.up (Nat.le_succ _)
  refine j_dup X rfl dX7_init_8 ?_
  refine j_callI X (As := []) (rest := [.ref (ad1 1), .ref (ad1 0)]) mf_X2_init rfl bw_26 bw_27 ⟨rfl, rfl⟩ ⟨Nat.le_of_ble_eq_true rfl, Nat.le_of_ble_eq_true rfl⟩ ⟨Nat.le_of_ble_eq_true rfl, Nat.le_of_ble_eq_true rfl⟩ (c_X2_init Γ.2.1 E ad1 ρ (h := 1) (by decide +kernel) (zi σ 1) hr1) rfl rfl (Nat.le_of_ble_eq_true rfl) dX7_init_9 (fun ad2 hag2 => ?_)
  rw [← hag2 0 (by omega), ← hag2 1 (by omega)]
  have hr2 := rH_RB hr1
  refine j_putr X cf5 (by omega) pl_0 0 rfl ⟨rfl, rfl⟩ ⟨rfl, Y.2.2.1, rfl⟩ rfl rfl bw_157 dX7_init_12 ?_
  have hr2p := hr2.put (k := 0) (j := 0) (p := 1) (by omega) (by omega)
  refine j_aload_n X 0 rfl rfl dX7_init_15 ?_
  refine j_new X cf1 cd1 (by decide +kernel : lay 16 = 1) hr2p bw_24 bw_25 bw_2 ⟨Nat.le_of_ble_eq_true rfl, Nat.le_of_ble_eq_true rfl⟩ dX7_init_16 (fun ad3 hag3 => ?_)
  rw [← hag3 0 (by omega)]
  have hr3 := hr2p.up (Nat.le_succ _)
  refine j_dup X rfl dX7_init_19 ?_
  refine j_callI X (As := []) (rest := [.ref (ad3 16), .ref (ad3 0)]) mf_X2_init rfl bw_26 bw_27 ⟨rfl, rfl⟩ ⟨Nat.le_of_ble_eq_true rfl, Nat.le_of_ble_eq_true rfl⟩ ⟨Nat.le_of_ble_eq_true rfl, Nat.le_of_ble_eq_true rfl⟩ (c_X2_init Γ.2.1 E ad3 (rput (rH 1 ρ) 0 0 (1 + 1)) (h := 16) (by decide +kernel) (zi (kH 1 (zi σ 1)) 16) hr3) rfl rfl (Nat.le_of_ble_eq_true rfl) dX7_init_20 (fun ad4 hag4 => ?_)
  rw [← hag4 0 (by omega), ← hag4 16 (by omega)]
  have hr4 := rH_RB hr3
  refine j_putr X cf5 (by omega) pl_0 1 rfl ⟨rfl, rfl⟩ ⟨rfl, Y.2.2.1, rfl⟩ rfl rfl bw_158 dX7_init_23 ?_
  have hr4p := hr4.put (k := 0) (j := 1) (p := 16) (by omega) (by omega)
  refine j_aload_n X 0 rfl rfl dX7_init_26 ?_
  refine j_new X cf1 cd1 (by decide +kernel : lay 31 = 1) hr4p bw_24 bw_25 bw_2 ⟨Nat.le_of_ble_eq_true rfl, Nat.le_of_ble_eq_true rfl⟩ dX7_init_27 (fun ad5 hag5 => ?_)
  rw [← hag5 0 (by omega)]
  have hr5 := hr4p.up (Nat.le_succ _)
  refine j_dup X rfl dX7_init_30 ?_
  refine j_callI X (As := []) (rest := [.ref (ad5 31), .ref (ad5 0)]) mf_X2_init rfl bw_26 bw_27 ⟨rfl, rfl⟩ ⟨Nat.le_of_ble_eq_true rfl, Nat.le_of_ble_eq_true rfl⟩ ⟨Nat.le_of_ble_eq_true rfl, Nat.le_of_ble_eq_true rfl⟩ (c_X2_init Γ.2.1 E ad5 (rput (rH 16 (rput (rH 1 ρ) 0 0 (1 + 1))) 0 1 (16 + 1)) (h := 31) (by decide +kernel) (zi (kH 16 (zi (kH 1 (zi σ 1)) 16)) 31) hr5) rfl rfl (Nat.le_of_ble_eq_true rfl) dX7_init_31 (fun ad6 hag6 => ?_)
  rw [← hag6 0 (by omega), ← hag6 31 (by omega)]
  have hr6 := rH_RB hr5
  refine j_putr X cf5 (by omega) pl_0 2 rfl ⟨rfl, rfl⟩ ⟨rfl, Y.2.2.1, rfl⟩ rfl rfl bw_159 dX7_init_34 ?_
  have hr6p := hr6.put (k := 0) (j := 2) (p := 31) (by omega) (by omega)
  refine j_aload_n X 0 rfl rfl dX7_init_37 ?_
  refine j_new X cf1 cd1 (by decide +kernel : lay 46 = 1) hr6p bw_24 bw_25 bw_2 ⟨Nat.le_of_ble_eq_true rfl, Nat.le_of_ble_eq_true rfl⟩ dX7_init_38 (fun ad7 hag7 => ?_)
  rw [← hag7 0 (by omega)]
  have hr7 := hr6p.up (Nat.le_succ _)
  refine j_dup X rfl dX7_init_41 ?_
  refine j_callI X (As := []) (rest := [.ref (ad7 46), .ref (ad7 0)]) mf_X2_init rfl bw_26 bw_27 ⟨rfl, rfl⟩ ⟨Nat.le_of_ble_eq_true rfl, Nat.le_of_ble_eq_true rfl⟩ ⟨Nat.le_of_ble_eq_true rfl, Nat.le_of_ble_eq_true rfl⟩ (c_X2_init Γ.2.1 E ad7 (rput (rH 31 (rput (rH 16 (rput (rH 1 ρ) 0 0 (1 + 1))) 0 1 (16 + 1))) 0 2 (31 + 1)) (h := 46) (by decide +kernel) (zi (kH 31 (zi (kH 16 (zi (kH 1 (zi σ 1)) 16)) 31)) 46) hr7) rfl rfl (Nat.le_of_ble_eq_true rfl) dX7_init_42 (fun ad8 hag8 => ?_)
  rw [← hag8 0 (by omega), ← hag8 46 (by omega)]
  have hr8 := rH_RB hr7
  refine j_putr X cf5 (by omega) pl_0 3 rfl ⟨rfl, rfl⟩ ⟨rfl, Y.2.2.1, rfl⟩ rfl rfl bw_160 dX7_init_45 ?_
  have hr8p := hr8.put (k := 0) (j := 3) (p := 46) (by omega) (by omega)
  refine j_aload_n X 0 rfl rfl dX7_init_48 ?_
  refine j_new X cf3 cd3 (by decide +kernel : lay 61 = 3) hr8p bw_99 bw_100 bw_5 ⟨Nat.le_of_ble_eq_true rfl, Nat.le_of_ble_eq_true rfl⟩ dX7_init_49 (fun ad9 hag9 => ?_)
  rw [← hag9 0 (by omega)]
  have hr9 := hr8p.up (Nat.le_succ _)
  refine j_dup X rfl dX7_init_52 ?_
  refine j_callI X (As := []) (rest := [.ref (ad9 61), .ref (ad9 0)]) mf_X5_init rfl bw_101 bw_102 ⟨rfl, rfl⟩ ⟨Nat.le_of_ble_eq_true rfl, Nat.le_of_ble_eq_true rfl⟩ ⟨Nat.le_of_ble_eq_true rfl, Nat.le_of_ble_eq_true rfl⟩ (c_X5_init Γ.2.1 E ad9 (rput (rH 46 (rput (rH 31 (rput (rH 16 (rput (rH 1 ρ) 0 0 (1 + 1))) 0 1 (16 + 1))) 0 2 (31 + 1))) 0 3 (46 + 1)) (zi (kH 46 (zi (kH 31 (zi (kH 16 (zi (kH 1 (zi σ 1)) 16)) 31)) 46)) 61) hr9) rfl rfl (Nat.le_of_ble_eq_true rfl) dX7_init_53 (fun ad10 hag10 => ?_)
  rw [← hag10 0 (by omega), ← hag10 61 (by omega)]
  have hr10 := rX5_init_RB hr9
  refine j_putr X cf5 (by omega) pl_0 6 rfl ⟨rfl, rfl⟩ ⟨rfl, Y.2.2.1, rfl⟩ rfl rfl bw_163 dX7_init_56 ?_
  have hr10p := hr10.put (k := 0) (j := 6) (p := 61) (by omega) (by omega)
  refine j_aload_n X 0 rfl rfl dX7_init_59 ?_
  refine j_new X cf2 cd2 (by decide +kernel : lay 64 = 2) hr10p bw_130 bw_131 bw_6 ⟨Nat.le_of_ble_eq_true rfl, Nat.le_of_ble_eq_true rfl⟩ dX7_init_60 (fun ad11 hag11 => ?_)
  rw [← hag11 0 (by omega)]
  have hr11 := hr10p.up (Nat.le_succ _)
  refine j_dup X rfl dX7_init_63 ?_
  refine j_callI X (As := []) (rest := [.ref (ad11 64), .ref (ad11 0)]) mf_X4_init rfl bw_132 bw_133 ⟨rfl, rfl⟩ ⟨Nat.le_of_ble_eq_true rfl, Nat.le_of_ble_eq_true rfl⟩ ⟨Nat.le_of_ble_eq_true rfl, Nat.le_of_ble_eq_true rfl⟩ (c_X4_init Γ.2.1 E ad11 (rput (rX5_init (rput (rH 46 (rput (rH 31 (rput (rH 16 (rput (rH 1 ρ) 0 0 (1 + 1))) 0 1 (16 + 1))) 0 2 (31 + 1))) 0 3 (46 + 1))) 0 6 (61 + 1)) (zi (kX5_init (zi (kH 46 (zi (kH 31 (zi (kH 16 (zi (kH 1 (zi σ 1)) 16)) 31)) 46)) 61)) 64) hr11) rfl rfl (Nat.le_of_ble_eq_true rfl) dX7_init_64 (fun ad12 hag12 => ?_)
  rw [← hag12 0 (by omega), ← hag12 64 (by omega)]
  have hr12 := rX4_init_RB hr11
  refine j_putr X cf5 (by omega) pl_0 7 rfl ⟨rfl, rfl⟩ ⟨rfl, Y.2.2.1, rfl⟩ rfl rfl bw_164 dX7_init_67 ?_
  have hr12p := hr12.put (k := 0) (j := 7) (p := 64) (by omega) (by omega)
  refine j_aload_n X 0 rfl rfl dX7_init_70 ?_
  refine j_new X cf0 cd0 (by decide +kernel : lay 67 = 0) hr12p bw_142 bw_143 bw_7 ⟨Nat.le_of_ble_eq_true rfl, Nat.le_of_ble_eq_true rfl⟩ dX7_init_71 (fun ad13 hag13 => ?_)
  rw [← hag13 0 (by omega)]
  have hr13 := hr12p.up (Nat.le_succ _)
  refine j_dup X rfl dX7_init_74 ?_
  refine j_callI X (As := []) (rest := [.ref (ad13 67), .ref (ad13 0)]) mf_X1_init rfl bw_144 bw_145 ⟨rfl, rfl⟩ ⟨Nat.le_of_ble_eq_true rfl, Nat.le_of_ble_eq_true rfl⟩ ⟨Nat.le_of_ble_eq_true rfl, Nat.le_of_ble_eq_true rfl⟩ (c_X1_init Γ.2.1 E ad13 (rput (rX4_init (rput (rX5_init (rput (rH 46 (rput (rH 31 (rput (rH 16 (rput (rH 1 ρ) 0 0 (1 + 1))) 0 1 (16 + 1))) 0 2 (31 + 1))) 0 3 (46 + 1))) 0 6 (61 + 1))) 0 7 (64 + 1)) (zi (kX4_init (zi (kX5_init (zi (kH 46 (zi (kH 31 (zi (kH 16 (zi (kH 1 (zi σ 1)) 16)) 31)) 46)) 61)) 64)) 67) hr13) rfl rfl (Nat.le_of_ble_eq_true rfl) dX7_init_75 (fun ad14 hag14 => ?_)
  rw [← hag14 0 (by omega), ← hag14 67 (by omega)]
  have hr14 := rX1_init_RB hr13
  refine j_putr X cf5 (by omega) pl_0 8 rfl ⟨rfl, rfl⟩ ⟨rfl, Y.2.2.1, rfl⟩ rfl rfl bw_165 dX7_init_78 ?_
  have hr14p := hr14.put (k := 0) (j := 8) (p := 67) (by omega) (by omega)
  exact j_vretC X Y (fun i hi => by rw [hag14 i (by omega), hag13 i (by omega), hag12 i (by omega), hag11 i (by omega), hag10 i (by omega), hag9 i (by omega), hag8 i (by omega), hag7 i (by omega), hag6 i (by omega), hag5 i (by omega), hag4 i (by omega), hag3 i (by omega), hag2 i (by omega), hag1 i (by omega)]) dX7_init_81

theorem rX7_RB {ρ : Nat → Nat → Nat} (hr : RB ρ 1) : RB (rX7 ρ) 68 := (RB.put (k := 0) (j := 8) (p := 67) (rX1_init_RB (RB.up (RB.put (k := 0) (j := 7) (p := 64) (rX4_init_RB (RB.up (RB.put (k := 0) (j := 6) (p := 61) (rX5_init_RB (RB.up (RB.put (k := 0) (j := 3) (p := 46) (rH_RB (RB.up (RB.put (k := 0) (j := 2) (p := 31) (rH_RB (RB.up (RB.put (k := 0) (j := 1) (p := 16) (rH_RB (RB.up (RB.put (k := 0) (j := 0) (p := 1) (rH_RB (RB.up hr (Nat.le_succ 1))) (by omega) (by omega)) (Nat.le_succ 16))) (by omega) (by omega)) (Nat.le_succ 31))) (by omega) (by omega)) (Nat.le_succ 46))) (by omega) (by omega)) (Nat.le_succ 61))) (by omega) (by omega)) (Nat.le_succ 64))) (by omega) (by omega)) (Nat.le_succ 67))) (by omega) (by omega))
abbrev rmX8_init : Room := { frames := 1, cells := 16, slots := 907, locals := 21 }
def rX8 (ρ : Nat → Nat → Nat) : Nat → Nat → Nat := (rput (rput (rput (rput (rput (rput (rput (rput (rput (rput (rput (rput (rput (rput (rput (rput ρ 68 0 (69 + 1)) 68 2 (70 + 1)) 68 3 (71 + 1)) 68 4 (72 + 1)) 68 6 (73 + 1)) 68 7 (74 + 1)) 68 8 (75 + 1)) 68 12 (76 + 1)) 68 13 (77 + 1)) 68 15 (78 + 1)) 68 17 (79 + 1)) 68 19 (80 + 1)) 68 21 (81 + 1)) 68 24 (82 + 1)) 68 25 (83 + 1)) 68 26 (84 + 1))
def kX8 (σ : Sg) : Sg := (zi (zi (zi (zi (zi (zi (zi (zi (zi (zi (zi (zi (zi (zi (zi (zi σ 69) 70) 71) 72) 73) 74) 75) 76) 77) 78) 79) 80) 81) 82) 83) 84)
def rho0 : Nat → Nat → Nat := fun _ _ => 0
theorem rho0_RB : RB rho0 0 := ⟨fun _ _ => Nat.le_refl _, fun _ _ _ => rfl⟩
set_option maxHeartbeats 4000000 in
set_option maxRecDepth 100000 in
theorem rho_fin : ∀ i j, i < 85 → 2 ≤ (fcl (lay i)).getD j 0 → rX8 (rX7 rho0) i j = RF i j := by
  intro i j hi h
  have hj : j < 27 := by
    rcases Nat.lt_or_ge j 27 with q | q
    · exact q
    · exfalso
      have h8 : ∀ i, i < 85 → (fcl (lay i)).length ≤ 27 := by decide +kernel
      have h9 : (fcl (lay i)).getD j 0 = 0 := by
        rw [List.getD_eq_getElem?_getD, List.getElem?_eq_none (Nat.le_trans (h8 i hi) q)]
        rfl
      omega
  have hall : ∀ i, i < 85 → ∀ j, j < 27 → 2 ≤ (fcl (lay i)).getD j 0 → rX8 (rX7 rho0) i j = RF i j := by decide +kernel
  exact hall i hi j hj h
set_option maxHeartbeats 4000000 in
set_option maxRecDepth 100000 in
theorem c_X8_init (l : Launch) (E : Ev) (ad : Nat → Nat) {σ σe : Sg} (he : m_X8_empties (kX8 σ) = some σe) (hr : RB (rX7 rho0) 69) : Met l yX8_init (wY yX8_init cX8_init 1 none) rmX8_init (va_Pc [.ref (ad 68)] (PreU E ad (rX7 rho0) 69 σ)) (QcC E ad 69 85 RF (sl σe 68 23 1)) 16 907 (EA E) := by
  refine met_ofC (L0 := [(0, .ref (ad 68))]) rfl rfl (Nat.le_of_ble_eq_true rfl) rfl (fun Γ X Y => ?_)
  have X : XC Γ E rmX8_init cX8_init 1 RX8 := X
  refine j_aload_n X 0 rfl rfl dX8_init_0 ?_
  refine j_objInit X bw_749 bw_22 bw_23 ⟨Nat.le_of_ble_eq_true rfl, Nat.le_of_ble_eq_true rfl⟩ dX8_init_1 ?_
  refine j_aload_n X 0 rfl rfl dX8_init_4 ?_
  refine j_iconst X (v := 3) (by decide) dX8_init_5 ?_
  refine j_newa X (by decide +kernel : lay 69 = 7) hr bw_57 (by decide) (by decide +kernel) (by decide +kernel) ⟨Nat.le_of_ble_eq_true rfl, Nat.le_of_ble_eq_true rfl⟩ dX8_init_6 (fun ad1 hag1 => ?_)
  rw [← hag1 68 (by omega)]
  have hr1 := hr.up (Nat.le_succ _)
  refine j_putr X cf6 (by omega) pl_68 0 rfl ⟨rfl, rfl⟩ ⟨rfl, Y.2.2.1, rfl⟩ rfl rfl bw_754 dX8_init_8 ?_
  have hr1p := hr1.put (k := 68) (j := 0) (p := 69) (by omega) (by omega)
  refine j_aload_n X 0 rfl rfl dX8_init_11 ?_
  refine j_bipush X (v := 8) (by decide) dX8_init_12 ?_
  refine j_newa X (by decide +kernel : lay 70 = 7) hr1p bw_57 (by decide) (by decide +kernel) (by decide +kernel) ⟨Nat.le_of_ble_eq_true rfl, Nat.le_of_ble_eq_true rfl⟩ dX8_init_14 (fun ad2 hag2 => ?_)
  rw [← hag2 68 (by omega)]
  have hr2 := hr1p.up (Nat.le_succ _)
  refine j_putr X cf6 (by omega) pl_68 2 rfl ⟨rfl, rfl⟩ ⟨rfl, Y.2.2.1, rfl⟩ rfl rfl bw_756 dX8_init_16 ?_
  have hr2p := hr2.put (k := 68) (j := 2) (p := 70) (by omega) (by omega)
  refine j_aload_n X 0 rfl rfl dX8_init_19 ?_
  refine j_bipush X (v := 8) (by decide) dX8_init_20 ?_
  refine j_newa X (by decide +kernel : lay 71 = 7) hr2p bw_57 (by decide) (by decide +kernel) (by decide +kernel) ⟨Nat.le_of_ble_eq_true rfl, Nat.le_of_ble_eq_true rfl⟩ dX8_init_22 (fun ad3 hag3 => ?_)
  rw [← hag3 68 (by omega)]
  have hr3 := hr2p.up (Nat.le_succ _)
  refine j_putr X cf6 (by omega) pl_68 3 rfl ⟨rfl, rfl⟩ ⟨rfl, Y.2.2.1, rfl⟩ rfl rfl bw_757 dX8_init_24 ?_
  have hr3p := hr3.put (k := 68) (j := 3) (p := 71) (by omega) (by omega)
  refine j_aload_n X 0 rfl rfl dX8_init_27 ?_
  refine j_bipush X (v := 8) (by decide) dX8_init_28 ?_
  refine j_newa X (by decide +kernel : lay 72 = 7) hr3p bw_57 (by decide) (by decide +kernel) (by decide +kernel) ⟨Nat.le_of_ble_eq_true rfl, Nat.le_of_ble_eq_true rfl⟩ dX8_init_30 (fun ad4 hag4 => ?_)
  rw [← hag4 68 (by omega)]
  have hr4 := hr3p.up (Nat.le_succ _)
  refine j_putr X cf6 (by omega) pl_68 4 rfl ⟨rfl, rfl⟩ ⟨rfl, Y.2.2.1, rfl⟩ rfl rfl bw_758 dX8_init_32 ?_
  have hr4p := hr4.put (k := 68) (j := 4) (p := 72) (by omega) (by omega)
  refine j_aload_n X 0 rfl rfl dX8_init_35 ?_
  refine j_iconst X (v := 3) (by decide) dX8_init_36 ?_
  refine j_newa X (by decide +kernel : lay 73 = 7) hr4p bw_57 (by decide) (by decide +kernel) (by decide +kernel) ⟨Nat.le_of_ble_eq_true rfl, Nat.le_of_ble_eq_true rfl⟩ dX8_init_37 (fun ad5 hag5 => ?_)
  rw [← hag5 68 (by omega)]
  have hr5 := hr4p.up (Nat.le_succ _)
  refine j_putr X cf6 (by omega) pl_68 6 rfl ⟨rfl, rfl⟩ ⟨rfl, Y.2.2.1, rfl⟩ rfl rfl bw_760 dX8_init_39 ?_
  have hr5p := hr5.put (k := 68) (j := 6) (p := 73) (by omega) (by omega)
  refine j_aload_n X 0 rfl rfl dX8_init_42 ?_
  refine j_bipush X (v := 11) (by decide) dX8_init_43 ?_
  refine j_newa X (by decide +kernel : lay 74 = 7) hr5p bw_57 (by decide) (by decide +kernel) (by decide +kernel) ⟨Nat.le_of_ble_eq_true rfl, Nat.le_of_ble_eq_true rfl⟩ dX8_init_45 (fun ad6 hag6 => ?_)
  rw [← hag6 68 (by omega)]
  have hr6 := hr5p.up (Nat.le_succ _)
  refine j_putr X cf6 (by omega) pl_68 7 rfl ⟨rfl, rfl⟩ ⟨rfl, Y.2.2.1, rfl⟩ rfl rfl bw_761 dX8_init_47 ?_
  have hr6p := hr6.put (k := 68) (j := 7) (p := 74) (by omega) (by omega)
  refine j_aload_n X 0 rfl rfl dX8_init_50 ?_
  refine j_sipush X (v := 150) (by decide) dX8_init_51 ?_
  refine j_newa X (by decide +kernel : lay 75 = 7) hr6p bw_57 (by decide) (by decide +kernel) (by decide +kernel) ⟨Nat.le_of_ble_eq_true rfl, Nat.le_of_ble_eq_true rfl⟩ dX8_init_54 (fun ad7 hag7 => ?_)
  rw [← hag7 68 (by omega)]
  have hr7 := hr6p.up (Nat.le_succ _)
  refine j_putr X cf6 (by omega) pl_68 8 rfl ⟨rfl, rfl⟩ ⟨rfl, Y.2.2.1, rfl⟩ rfl rfl bw_762 dX8_init_56 ?_
  have hr7p := hr7.put (k := 68) (j := 8) (p := 75) (by omega) (by omega)
  refine j_aload_n X 0 rfl rfl dX8_init_59 ?_
  refine j_sipush X (v := 152) (by decide) dX8_init_60 ?_
  refine j_newa X (by decide +kernel : lay 76 = 7) hr7p bw_57 (by decide) (by decide +kernel) (by decide +kernel) ⟨Nat.le_of_ble_eq_true rfl, Nat.le_of_ble_eq_true rfl⟩ dX8_init_63 (fun ad8 hag8 => ?_)
  rw [← hag8 68 (by omega)]
  have hr8 := hr7p.up (Nat.le_succ _)
  refine j_putr X cf6 (by omega) pl_68 12 rfl ⟨rfl, rfl⟩ ⟨rfl, Y.2.2.1, rfl⟩ rfl rfl bw_766 dX8_init_65 ?_
  have hr8p := hr8.put (k := 68) (j := 12) (p := 76) (by omega) (by omega)
  refine j_aload_n X 0 rfl rfl dX8_init_68 ?_
  refine j_bipush X (v := 88) (by decide) dX8_init_69 ?_
  refine j_newa X (by decide +kernel : lay 77 = 7) hr8p bw_57 (by decide) (by decide +kernel) (by decide +kernel) ⟨Nat.le_of_ble_eq_true rfl, Nat.le_of_ble_eq_true rfl⟩ dX8_init_71 (fun ad9 hag9 => ?_)
  rw [← hag9 68 (by omega)]
  have hr9 := hr8p.up (Nat.le_succ _)
  refine j_putr X cf6 (by omega) pl_68 13 rfl ⟨rfl, rfl⟩ ⟨rfl, Y.2.2.1, rfl⟩ rfl rfl bw_767 dX8_init_73 ?_
  have hr9p := hr9.put (k := 68) (j := 13) (p := 77) (by omega) (by omega)
  refine j_aload_n X 0 rfl rfl dX8_init_76 ?_
  refine j_bipush X (v := 15) (by decide) dX8_init_77 ?_
  refine j_newa X (by decide +kernel : lay 78 = 7) hr9p bw_57 (by decide) (by decide +kernel) (by decide +kernel) ⟨Nat.le_of_ble_eq_true rfl, Nat.le_of_ble_eq_true rfl⟩ dX8_init_79 (fun ad10 hag10 => ?_)
  rw [← hag10 68 (by omega)]
  have hr10 := hr9p.up (Nat.le_succ _)
  refine j_putr X cf6 (by omega) pl_68 15 rfl ⟨rfl, rfl⟩ ⟨rfl, Y.2.2.1, rfl⟩ rfl rfl bw_769 dX8_init_81 ?_
  have hr10p := hr10.put (k := 68) (j := 15) (p := 78) (by omega) (by omega)
  refine j_aload_n X 0 rfl rfl dX8_init_84 ?_
  refine j_bipush X (v := 24) (by decide) dX8_init_85 ?_
  refine j_newa X (by decide +kernel : lay 79 = 7) hr10p bw_57 (by decide) (by decide +kernel) (by decide +kernel) ⟨Nat.le_of_ble_eq_true rfl, Nat.le_of_ble_eq_true rfl⟩ dX8_init_87 (fun ad11 hag11 => ?_)
  rw [← hag11 68 (by omega)]
  have hr11 := hr10p.up (Nat.le_succ _)
  refine j_putr X cf6 (by omega) pl_68 17 rfl ⟨rfl, rfl⟩ ⟨rfl, Y.2.2.1, rfl⟩ rfl rfl bw_771 dX8_init_89 ?_
  have hr11p := hr11.put (k := 68) (j := 17) (p := 79) (by omega) (by omega)
  refine j_aload_n X 0 rfl rfl dX8_init_92 ?_
  refine j_bipush X (v := 24) (by decide) dX8_init_93 ?_
  refine j_newa X (by decide +kernel : lay 80 = 7) hr11p bw_57 (by decide) (by decide +kernel) (by decide +kernel) ⟨Nat.le_of_ble_eq_true rfl, Nat.le_of_ble_eq_true rfl⟩ dX8_init_95 (fun ad12 hag12 => ?_)
  rw [← hag12 68 (by omega)]
  have hr12 := hr11p.up (Nat.le_succ _)
  refine j_putr X cf6 (by omega) pl_68 19 rfl ⟨rfl, rfl⟩ ⟨rfl, Y.2.2.1, rfl⟩ rfl rfl bw_773 dX8_init_97 ?_
  have hr12p := hr12.put (k := 68) (j := 19) (p := 80) (by omega) (by omega)
  refine j_aload_n X 0 rfl rfl dX8_init_100 ?_
  refine j_bipush X (v := 8) (by decide) dX8_init_101 ?_
  refine j_newa X (by decide +kernel : lay 81 = 7) hr12p bw_57 (by decide) (by decide +kernel) (by decide +kernel) ⟨Nat.le_of_ble_eq_true rfl, Nat.le_of_ble_eq_true rfl⟩ dX8_init_103 (fun ad13 hag13 => ?_)
  rw [← hag13 68 (by omega)]
  have hr13 := hr12p.up (Nat.le_succ _)
  refine j_putr X cf6 (by omega) pl_68 21 rfl ⟨rfl, rfl⟩ ⟨rfl, Y.2.2.1, rfl⟩ rfl rfl bw_775 dX8_init_105 ?_
  have hr13p := hr13.put (k := 68) (j := 21) (p := 81) (by omega) (by omega)
  refine j_aload_n X 0 rfl rfl dX8_init_108 ?_
  refine j_bipush X (v := 11) (by decide) dX8_init_109 ?_
  refine j_newa X (by decide +kernel : lay 82 = 7) hr13p bw_57 (by decide) (by decide +kernel) (by decide +kernel) ⟨Nat.le_of_ble_eq_true rfl, Nat.le_of_ble_eq_true rfl⟩ dX8_init_111 (fun ad14 hag14 => ?_)
  rw [← hag14 68 (by omega)]
  have hr14 := hr13p.up (Nat.le_succ _)
  refine j_putr X cf6 (by omega) pl_68 24 rfl ⟨rfl, rfl⟩ ⟨rfl, Y.2.2.1, rfl⟩ rfl rfl bw_778 dX8_init_113 ?_
  have hr14p := hr14.put (k := 68) (j := 24) (p := 82) (by omega) (by omega)
  refine j_aload_n X 0 rfl rfl dX8_init_116 ?_
  refine j_sipush X (v := 392) (by decide) dX8_init_117 ?_
  refine j_newa X (by decide +kernel : lay 83 = 7) hr14p bw_57 (by decide) (by decide +kernel) (by decide +kernel) ⟨Nat.le_of_ble_eq_true rfl, Nat.le_of_ble_eq_true rfl⟩ dX8_init_120 (fun ad15 hag15 => ?_)
  rw [← hag15 68 (by omega)]
  have hr15 := hr14p.up (Nat.le_succ _)
  refine j_putr X cf6 (by omega) pl_68 25 rfl ⟨rfl, rfl⟩ ⟨rfl, Y.2.2.1, rfl⟩ rfl rfl bw_779 dX8_init_122 ?_
  have hr15p := hr15.put (k := 68) (j := 25) (p := 83) (by omega) (by omega)
  refine j_aload_n X 0 rfl rfl dX8_init_125 ?_
  refine j_iconst X (v := 2) (by decide) dX8_init_126 ?_
  refine j_newz X (by decide +kernel : lay 84 = 8) hr15p bw_836 (by decide) (by decide +kernel) (by decide +kernel) ⟨Nat.le_of_ble_eq_true rfl, Nat.le_of_ble_eq_true rfl⟩ dX8_init_127 (fun ad16 hag16 => ?_)
  rw [← hag16 68 (by omega)]
  have hr16 := hr15p.up (Nat.le_succ _)
  refine j_putr X cf6 (by omega) pl_68 26 rfl ⟨rfl, rfl⟩ ⟨rfl, Y.2.2.1, rfl⟩ rfl rfl bw_780 dX8_init_129 ?_
  have hr16p := hr16.put (k := 68) (j := 26) (p := 84) (by omega) (by omega)
  refine j_aload_n X 0 rfl rfl dX8_init_132 ?_
  refine J.rho (ρ' := RF) rho_fin ?_
  refine j_callV1 X (As := []) (rest := []) mf_X8_empties bw_750 bw_752 bs_19 ⟨rfl, rfl⟩ ⟨Nat.le_of_ble_eq_true rfl, Nat.le_of_ble_eq_true rfl⟩ ⟨Nat.le_of_ble_eq_true rfl, Nat.le_of_ble_eq_true rfl⟩ cf6 pk_68 pl_68 (c_X8_empties Γ.2.1 E ad16 he) rfl rfl (Nat.le_of_ble_eq_true rfl) dX8_init_133 ?_
  refine j_aload_n X 0 rfl rfl dX8_init_136 ?_
  refine j_lconst X (v := 1) (by decide) dX8_init_137 ?_
  refine j_putl X cf6 (by omega) pl_68 23 rfl ⟨rfl, rfl⟩ rfl rfl rfl rfl bw_777 dX8_init_138 ?_
  exact j_vretC X Y (fun i hi => by rw [hag16 i (by omega), hag15 i (by omega), hag14 i (by omega), hag13 i (by omega), hag12 i (by omega), hag11 i (by omega), hag10 i (by omega), hag9 i (by omega), hag8 i (by omega), hag7 i (by omega), hag6 i (by omega), hag5 i (by omega), hag4 i (by omega), hag3 i (by omega), hag2 i (by omega), hag1 i (by omega)]) dX8_init_141

