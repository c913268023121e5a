theorem js43 (K : JK) (a : Nat → Nat) (J : JS) : [1, 2, 3, 4, 5].map (fun i => (wJ K a J)[i]?) = (wE K (fun k => a (1 + k)) (j_E J)).map some := rfl
theorem dX4_ageFits_0 : decode cX4_ageFits 0 = .ok (.aload_n 0, 1) := by decide +kernel
theorem dX4_ageFits_1 : decode cX4_ageFits 1 = .ok (.getfield 10, 3) := by decide +kernel
theorem dX4_ageFits_4 : decode cX4_ageFits 4 = .ok (.iload_n 2, 1) := by decide +kernel
theorem dX4_ageFits_5 : decode cX4_ageFits 5 = .ok (.iconst 0, 1) := by decide +kernel
theorem dX4_ageFits_6 : decode cX4_ageFits 6 = .ok (.invokevirtual 100, 3) := by decide +kernel
theorem dX4_ageFits_9 : decode cX4_ageFits 9 = .ok (.istore 4, 2) := by decide +kernel
theorem dX4_ageFits_11 : decode cX4_ageFits 11 = .ok (.aload_n 0, 1) := by decide +kernel
theorem dX4_ageFits_12 : decode cX4_ageFits 12 = .ok (.getfield 10, 3) := by decide +kernel
theorem dX4_ageFits_15 : decode cX4_ageFits 15 = .ok (.iload_n 2, 1) := by decide +kernel
theorem dX4_ageFits_16 : decode cX4_ageFits 16 = .ok (.iconst 1, 1) := by decide +kernel
theorem dX4_ageFits_17 : decode cX4_ageFits 17 = .ok (.invokevirtual 100, 3) := by decide +kernel
theorem dX4_ageFits_20 : decode cX4_ageFits 20 = .ok (.istore 5, 2) := by decide +kernel
theorem dX4_ageFits_22 : decode cX4_ageFits 22 = .ok (.aload_n 0, 1) := by decide +kernel
theorem dX4_ageFits_23 : decode cX4_ageFits 23 = .ok (.getfield 10, 3) := by decide +kernel
theorem dX4_ageFits_26 : decode cX4_ageFits 26 = .ok (.iload_n 2, 1) := by decide +kernel
theorem dX4_ageFits_27 : decode cX4_ageFits 27 = .ok (.bipush 6, 2) := by decide +kernel
theorem dX4_ageFits_29 : decode cX4_ageFits 29 = .ok (.invokevirtual 100, 3) := by decide +kernel
theorem dX4_ageFits_32 : decode cX4_ageFits 32 = .ok (.istore 6, 2) := by decide +kernel
theorem dX4_ageFits_34 : decode cX4_ageFits 34 = .ok (.aload_n 1, 1) := by decide +kernel
theorem dX4_ageFits_35 : decode cX4_ageFits 35 = .ok (.getfield 212, 3) := by decide +kernel
theorem dX4_ageFits_38 : decode cX4_ageFits 38 = .ok (.bipush 10, 2) := by decide +kernel
theorem dX4_ageFits_40 : decode cX4_ageFits 40 = .ok (.invokestatic 235, 3) := by decide +kernel
theorem dX4_ageFits_43 : decode cX4_ageFits 43 = .ok (.istore 7, 2) := by decide +kernel
theorem dX4_ageFits_45 : decode cX4_ageFits 45 = .ok (.iconst 0, 1) := by decide +kernel
theorem dX4_ageFits_46 : decode cX4_ageFits 46 = .ok (.istore 8, 2) := by decide +kernel
theorem dX4_ageFits_48 : decode cX4_ageFits 48 = .ok (.iload 8, 2) := by decide +kernel
theorem dX4_ageFits_50 : decode cX4_ageFits 50 = .ok (.iload 7, 2) := by decide +kernel
theorem dX4_ageFits_52 : decode cX4_ageFits 52 = .ok (.if_icmp .ge 58, 3) := by decide +kernel
theorem dX4_ageFits_55 : decode cX4_ageFits 55 = .ok (.aload_n 1, 1) := by decide +kernel
theorem dX4_ageFits_56 : decode cX4_ageFits 56 = .ok (.getfield 226, 3) := by decide +kernel
theorem dX4_ageFits_59 : decode cX4_ageFits 59 = .ok (.iload 8, 2) := by decide +kernel
theorem dX4_ageFits_61 : decode cX4_ageFits 61 = .ok (.iaload, 1) := by decide +kernel
theorem dX4_ageFits_62 : decode cX4_ageFits 62 = .ok (.istore 9, 2) := by decide +kernel
theorem dX4_ageFits_64 : decode cX4_ageFits 64 = .ok (.iload 9, 2) := by decide +kernel
theorem dX4_ageFits_66 : decode cX4_ageFits 66 = .ok (.iconst (-1), 1) := by decide +kernel
theorem dX4_ageFits_67 : decode cX4_ageFits 67 = .ok (.if_icmp .eq 37, 3) := by decide +kernel
theorem dX4_ageFits_70 : decode cX4_ageFits 70 = .ok (.iload 9, 2) := by decide +kernel
theorem dX4_ageFits_72 : decode cX4_ageFits 72 = .ok (.aload_n 0, 1) := by decide +kernel
theorem dX4_ageFits_73 : decode cX4_ageFits 73 = .ok (.getfield 10, 3) := by decide +kernel
theorem dX4_ageFits_76 : decode cX4_ageFits 76 = .ok (.iload 4, 2) := by decide +kernel
theorem dX4_ageFits_78 : decode cX4_ageFits 78 = .ok (.iload 5, 2) := by decide +kernel
theorem dX4_ageFits_80 : decode cX4_ageFits 80 = .ok (.iload_n 3, 1) := by decide +kernel
theorem dX4_ageFits_81 : decode cX4_ageFits 81 = .ok (.iload 8, 2) := by decide +kernel
theorem dX4_ageFits_83 : decode cX4_ageFits 83 = .ok (.iadd, 1) := by decide +kernel
theorem dX4_ageFits_84 : decode cX4_ageFits 84 = .ok (.invokestatic 250, 3) := by decide +kernel
theorem dX4_ageFits_87 : decode cX4_ageFits 87 = .ok (.aload_n 0, 1) := by decide +kernel
theorem dX4_ageFits_88 : decode cX4_ageFits 88 = .ok (.getfield 42, 3) := by decide +kernel
theorem dX4_ageFits_91 : decode cX4_ageFits 91 = .ok (.iload 8, 2) := by decide +kernel
theorem dX4_ageFits_93 : decode cX4_ageFits 93 = .ok (.iaload, 1) := by decide +kernel
theorem dX4_ageFits_94 : decode cX4_ageFits 94 = .ok (.iload 6, 2) := by decide +kernel
theorem dX4_ageFits_96 : decode cX4_ageFits 96 = .ok (.invokevirtual 254, 3) := by decide +kernel
theorem dX4_ageFits_99 : decode cX4_ageFits 99 = .ok (.if_icmp .eq 5, 3) := by decide +kernel
theorem dX4_ageFits_102 : decode cX4_ageFits 102 = .ok (.iconst 0, 1) := by decide +kernel
theorem dX4_ageFits_103 : decode cX4_ageFits 103 = .ok (.ireturn, 1) := by decide +kernel
theorem dX4_ageFits_104 : decode cX4_ageFits 104 = .ok (.iinc 8 1, 3) := by decide +kernel
theorem dX4_ageFits_107 : decode cX4_ageFits 107 = .ok (.goto (-59), 3) := by decide +kernel
theorem dX4_ageFits_110 : decode cX4_ageFits 110 = .ok (.iconst 1, 1) := by decide +kernel
theorem dX4_ageFits_111 : decode cX4_ageFits 111 = .ok (.ireturn, 1) := by decide +kernel
def rX4_ageFits : Room := { frames := 3, cells := 0, slots := 0, locals := 59 }
def vX4_ageFits_c104 (J0 : JS) (p1 : Nat) (p2 : Int32) (p3 : Int32) (k : Int32 → Int32 → Int32 → Int32 → Int32 → Int32) (x4 : Int32) (x5 : Int32) (x6 : Int32) (x7 : Int32) (x8 : Int32) : Int32 := (k x4 x5 x6 x7 (x8 + (1 : Int32)))
def kX4_ageFits_c104 (J0 : JS) (p1 : Nat) (p2 : Int32) (p3 : Int32) (q : Int32 → Int32 → Int32 → Int32 → Int32 → Prop) (x4 : Int32) (x5 : Int32) (x6 : Int32) (x7 : Int32) (x8 : Int32) : Prop := (q x4 x5 x6 x7 (x8 + (1 : Int32)))
def vX4_ageFits_c48 (J0 : JS) (p1 : Nat) (p2 : Int32) (p3 : Int32) : Nat → Int32 → Int32 → Int32 → Int32 → Int32 → Int32
  | 0, x4, x5, x6, x7, x8 => (0)
  | n + 1, x4, x5, x6, x7, x8 => if (x7 ≤ x8) then (1 : Int32) else if (((s_numbers (j_s J0 p1)) (x8).toNatClampNeg) = (-1 : Int32)) then (vX4_ageFits_c104 J0 p1 p2 p3 (fun x4 x5 x6 x7 x8 => vX4_ageFits_c48 J0 p1 p2 p3 n x4 x5 x6 x7 x8) x4 x5 x6 x7 x8) else if (((s_numbers (j_s J0 p1)) (x8).toNatClampNeg) = (vX0_awardOf (j_E J0) (vX1_worth x4 x5 (p3 + x8)) ((j_worses J0) (x8).toNatClampNeg) x6)) then (vX4_ageFits_c104 J0 p1 p2 p3 (fun x4 x5 x6 x7 x8 => vX4_ageFits_c48 J0 p1 p2 p3 n x4 x5 x6 x7 x8) x4 x5 x6 x7 x8) else (0 : Int32)
def kX4_ageFits_c48 (J0 : JS) (p1 : Nat) (p2 : Int32) (p3 : Int32) : Nat → Int32 → Int32 → Int32 → Int32 → Int32 → Prop
  | 0, _, _, _, _, _ => False
  | n + 1, x4, x5, x6, x7, x8 => ((x7 ≤ x8) → True) ∧ (¬ (x7 ≤ x8) → ((vp_in x8 40) ∧ ((((s_numbers (j_s J0 p1)) (x8).toNatClampNeg) = (-1 : Int32)) → ((kX4_ageFits_c104 J0 p1 p2 p3 (fun x4 x5 x6 x7 x8 => kX4_ageFits_c48 J0 p1 p2 p3 n x4 x5 x6 x7 x8) x4 x5 x6 x7 x8))) ∧ (¬ (((s_numbers (j_s J0 p1)) (x8).toNatClampNeg) = (-1 : Int32)) → ((kX1_worth x4 x5 (p3 + x8)) ∧ (vp_in x8 10) ∧ ((((s_numbers (j_s J0 p1)) (x8).toNatClampNeg) = (vX0_awardOf (j_E J0) (vX1_worth x4 x5 (p3 + x8)) ((j_worses J0) (x8).toNatClampNeg) x6)) → ((kX4_ageFits_c104 J0 p1 p2 p3 (fun x4 x5 x6 x7 x8 => kX4_ageFits_c48 J0 p1 p2 p3 n x4 x5 x6 x7 x8) x4 x5 x6 x7 x8))) ∧ (¬ (((s_numbers (j_s J0 p1)) (x8).toNatClampNeg) = (vX0_awardOf (j_E J0) (vX1_worth x4 x5 (p3 + x8)) ((j_worses J0) (x8).toNatClampNeg) x6)) → True)))))
def vX4_ageFits (J0 : JS) (p1 : Nat) (p2 : Int32) (p3 : Int32) : Int32 := (vX4_ageFits_c48 J0 p1 p2 p3 1024 (vX0_trait (j_E J0) p2 (0 : Int32)) (vX0_trait (j_E J0) p2 (1 : Int32)) (vX0_trait (j_E J0) p2 (6 : Int32)) (jmin (s_size (j_s J0 p1)) (10 : Int32)) (0 : Int32))
def kX4_ageFits (J0 : JS) (p1 : Nat) (p2 : Int32) (p3 : Int32) : Prop := (kX0_trait (j_E J0) p2 (0 : Int32)) ∧ (kX0_trait (j_E J0) p2 (1 : Int32)) ∧ (kX0_trait (j_E J0) p2 (6 : Int32)) ∧ (kX4_ageFits_c48 J0 p1 p2 p3 1024 (vX0_trait (j_E J0) p2 (0 : Int32)) (vX0_trait (j_E J0) p2 (1 : Int32)) (vX0_trait (j_E J0) p2 (6 : Int32)) (jmin (s_size (j_s J0 p1)) (10 : Int32)) (0 : Int32))
set_option maxHeartbeats 4000000 in
set_option maxRecDepth 100000 in
theorem hX4_ageFits (l : Launch) (D : va_G) (K : JK) (G : JG) (a : Nat → Nat) (J0 : JS) (p1 : Nat) (p2 : Int32) (p3 : Int32) (hj_p1 : p1 < 4) (hk : kX4_ageFits J0 p1 p2 p3) (sz : Nat) : Met l yX4_ageFits (.code yX4_ageFits cX4_ageFits 10 (some .boolean) :: jGW) rX4_ageFits (jPre D (jT K) G [.ref (a 0), .ref (a (19 + 2 * p1)), .int p2, .int p3] (wJ K a J0) sz) (jQi D (jT K) (vX4_ageFits J0 p1 p2 p3) (wJ K a J0) (va_A (wJ K a J0) sz)) 0 0 (va_A (wJ K a J0) sz) := by
  refine jEi (by decide) (Nat.le_of_ble_eq_true rfl) (fun p e s m below meth c A Q ls hat hP hD hS hl hend => ?_)
  obtain ⟨hx, hb, hml, hown, hts, hK, hZ, hA⟩ := hat
  have hl : lv_has ls 10 [(0, .ref (a 0)), (1, .ref (a (19 + 2 * p1))), (2, .int p2), (3, .int p3)] := hl
  have hc48 : ∀ (n : Nat) (x4 : Int32) (x5 : Int32) (x6 : Int32) (x7 : Int32) (x8 : Int32) (H : Heap) (locs : List Loc) (ls : Array Slot), (vX4_ageFits J0 p1 p2 p3) = vX4_ageFits_c48 J0 p1 p2 p3 n x4 x5 x6 x7 x8 → kX4_ageFits_c48 J0 p1 p2 p3 n x4 x5 x6 x7 x8 → va_P D vwCl (wJ K a J0) H → va_D A (wJ K a J0) → va_S A s.heap H locs → lv_has ls 10 [(0, .ref (a 0)), (1, .ref (a (19 + 2 * p1))), (2, .int p2), (3, .int p3), (4, .int x4), (5, .int x5), (6, .int x6), (7, .int x7), (8, .int x8)] → W p l e rX4_ageFits s m ([.ref (a 0), .ref (a (19 + 2 * p1)), .int p2, .int p3] : List Value).toArray below meth c H locs 0 0 Q (F0 m 48 ls []) := by
    intro n
    induction n with
    | zero =>
      intro x4 x5 x6 x7 x8 H locs ls hV hk hP hD hS hl
      exact False.elim hk
    | succ n ih =>
      have hc104 : ∀ (x4 : Int32) (x5 : Int32) (x6 : Int32) (x7 : Int32) (x8 : Int32) (H : Heap) (locs : List Loc) (ls : Array Slot), (vX4_ageFits J0 p1 p2 p3) = vX4_ageFits_c104 J0 p1 p2 p3 (fun x4 x5 x6 x7 x8 => vX4_ageFits_c48 J0 p1 p2 p3 n x4 x5 x6 x7 x8) x4 x5 x6 x7 x8 → kX4_ageFits_c104 J0 p1 p2 p3 (fun x4 x5 x6 x7 x8 => kX4_ageFits_c48 J0 p1 p2 p3 n x4 x5 x6 x7 x8) x4 x5 x6 x7 x8 → va_P D vwCl (wJ K a J0) H → va_D A (wJ K a J0) → va_S A s.heap H locs → lv_has ls 10 [(0, .ref (a 0)), (1, .ref (a (19 + 2 * p1))), (2, .int p2), (3, .int p3), (4, .int x4), (5, .int x5), (6, .int x6), (7, .int x7), (8, .int x8)] → W p l e rX4_ageFits s m ([.ref (a 0), .ref (a (19 + 2 * p1)), .int p2, .int p3] : List Value).toArray below meth c H locs 0 0 Q (F0 m 104 ls []) := by
        intro x4 x5 x6 x7 x8 H locs ls hV hk hP hD hS hl
        rw [vX4_ageFits_c104] at hV
        rw [kX4_ageFits_c104] at hk
        refine lv_iinc (v := (x8 + (1 : Int32))) (lv' := [(8, .int (x8 + (1 : Int32))), (0, .ref (a 0)), (1, .ref (a (19 + 2 * p1))), (2, .int p2), (3, .int p3), (4, .int x4), (5, .int x5), (6, .int x6), (7, .int x7)]) hx hb dX4_ageFits_104 hl (k := 8) rfl rfl (by decide) rfl (fun ls hl => ?_)
        refine lv_goto (tgt := 48) hx hb dX4_ageFits_107 (by decide) ?_
        exact ih x4 x5 x6 x7 (x8 + (1 : Int32)) _ _ _ hV hk hP hD hS (lv_sub hl [1, 2, 3, 4, 5, 6, 7, 8, 0] rfl)
      intro x4 x5 x6 x7 x8 H locs ls hV hk hP hD hS hl
      rw [vX4_ageFits_c48] at hV
      rw [kX4_ageFits_c48] at hk
      refine lv_iload hx hb dX4_ageFits_48 (lv_at hl 8 rfl) ?_
      refine lv_iload hx hb dX4_ageFits_50 (lv_at hl 7 rfl) ?_
      refine lv_icmp_ge (tgt := 110) hx hb dX4_ageFits_52 (by decide) (fun c10 => ?_) (fun c10 => ?_)
      · have hV := hV.trans (if_pos c10)
        have hk := hk.1 c10
        refine lv_iconst (v := (1 : Int32)) hx hb dX4_ageFits_110 (by decide) ?_
        exact hend _ _ _ _ _ hP hD hS hV.symm rfl dX4_ageFits_111
      · have hV := hV.trans (if_neg c10)
        have hk := hk.2 c10
        refine lv_aload_n hx hb dX4_ageFits_55 rfl (lv_at hl 1 rfl) ?_
        refine gf_X4_226 (v := .ref (a (20 + 2 * p1))) hx hb hts hown hK hZ hP (19 + 2 * p1) (wJ_sh D K _ _ (hj_p1)) rfl dX4_ageFits_56 ?_
        refine lv_iload hx hb dX4_ageFits_59 (lv_at hl 8 rfl) ?_
        obtain ⟨h11, hk⟩ := hk
        refine va_iald hx hb hK hP (20 + 2 * p1) 0 (wJ_sn D K _ _ (hj_p1)) rfl h11 dX4_ageFits_61 ?_
        refine lv_istore (lv' := [(9, .int ((s_numbers (j_s J0 p1)) (x8).toNatClampNeg)), (0, .ref (a 0)), (1, .ref (a (19 + 2 * p1))), (2, .int p2), (3, .int p3), (4, .int x4), (5, .int x5), (6, .int x6), (7, .int x7), (8, .int x8)]) hx hb dX4_ageFits_62 hl (by decide) rfl (fun ls hl => ?_)
        refine lv_iload hx hb dX4_ageFits_64 (lv_at hl 0 rfl) ?_
        refine lv_iconst (v := (-1 : Int32)) hx hb dX4_ageFits_66 (by decide) ?_
        refine lv_icmp_eq (tgt := 104) hx hb dX4_ageFits_67 (by decide) (fun c12 => ?_) (fun c12 => ?_)
        · have hV := hV.trans (if_pos c12)
          have hk := hk.1 c12
          exact hc104 x4 x5 x6 x7 x8 _ _ _ hV hk hP hD hS (lv_sub hl [1, 2, 3, 4, 5, 6, 7, 8, 9] rfl)
        · have hV := hV.trans (if_neg c12)
          have hk := hk.2 c12
          refine lv_iload hx hb dX4_ageFits_70 (lv_at hl 0 rfl) ?_
          refine lv_aload_n hx hb dX4_ageFits_72 rfl (lv_at hl 1 rfl) ?_
          refine gf_X4_10 (v := .ref (a 1)) hx hb hts hown hK hZ hP (0) rfl rfl dX4_ageFits_73 ?_
          refine lv_iload hx hb dX4_ageFits_76 (lv_at hl 5 rfl) ?_
          refine lv_iload hx hb dX4_ageFits_78 (lv_at hl 6 rfl) ?_
          refine lv_iload_n hx hb dX4_ageFits_80 rfl (lv_at hl 4 rfl) ?_
          refine lv_iload hx hb dX4_ageFits_81 (lv_at hl 9 rfl) ?_
          refine lv_iadd hx hb dX4_ageFits_83 ?_
          obtain ⟨h13, hk⟩ := hk
          refine jci0 (jrunS (As := [.int x4, .int x5, .int (p3 + x8)]) (rest := [.ref (a 1), .int ((s_numbers (j_s J0 p1)) (x8).toNatClampNeg)]) hx hb hml hown hts hK hZ hA hP hD hS hl.1 mf_X1_worth kl_X4_250 ⟨rfl, rfl, Nat.le_of_ble_eq_true rfl, Nat.le_of_ble_eq_true rfl⟩ ⟨Nat.zero_le _, Nat.zero_le _⟩ [] rfl rfl (hX1_worth l D K G x4 x5 (p3 + x8) h13 _) rfl rfl (Nat.le_of_ble_eq_true rfl) dX4_ageFits_84) hA hP hD hS [] rfl (fun H locs hP hS => ?_)
          refine lv_aload_n hx hb dX4_ageFits_87 rfl (lv_at hl 1 rfl) ?_
          refine gf_X4_42 (v := .ref (a 29)) hx hb hts hown hK hZ hP (0) rfl rfl dX4_ageFits_88 ?_
          refine lv_iload hx hb dX4_ageFits_91 (lv_at hl 9 rfl) ?_
          obtain ⟨h14, hk⟩ := hk
          refine va_iald hx hb hK hP (29) 0 rfl rfl h14 dX4_ageFits_93 ?_
          refine lv_iload hx hb dX4_ageFits_94 (lv_at hl 7 rfl) ?_
          refine jci0 (jrunV (As := [.int (vX1_worth x4 x5 (p3 + x8)), .int ((j_worses J0) (x8).toNatClampNeg), .int x6]) (rest := [.int ((s_numbers (j_s J0 p1)) (x8).toNatClampNeg)]) hx hb hml hown hts hK hZ hA hP hD hS hl.1 mf_X0_awardOf kl_X4_254 ⟨rfl, rfl, Nat.le_of_ble_eq_true rfl, Nat.le_of_ble_eq_true rfl⟩ ⟨Nat.zero_le _, Nat.zero_le _⟩ [1, 2, 3, 4, 5] rfl (js43 K a J0) rfl rfl rfl (hX0_awardOf l D K G (fun k => a (1 + k)) (j_E J0) (vX1_worth x4 x5 (p3 + x8)) ((j_worses J0) (x8).toNatClampNeg) x6 _) rfl rfl (Nat.le_of_ble_eq_true rfl) dX4_ageFits_96) hA hP hD hS [1, 2, 3, 4, 5] (js43 K a J0) (fun H locs hP hS => ?_)
          refine lv_icmp_eq (tgt := 104) hx hb dX4_ageFits_99 (by decide) (fun c15 => ?_) (fun c15 => ?_)
          · have hV := hV.trans (if_pos c15)
            have hk := hk.1 c15
            exact hc104 x4 x5 x6 x7 x8 _ _ _ hV hk hP hD hS (lv_sub hl [1, 2, 3, 4, 5, 6, 7, 8, 9] rfl)
          · have hV := hV.trans (if_neg c15)
            have hk := hk.2 c15
            refine lv_iconst (v := (0 : Int32)) hx hb dX4_ageFits_102 (by decide) ?_
            exact hend _ _ _ _ _ hP hD hS hV.symm rfl dX4_ageFits_103
  have hV := vX4_ageFits.eq_1 J0 p1 p2 p3
  rw [kX4_ageFits] at hk
  refine lv_aload_n hx hb dX4_ageFits_0 rfl (lv_at hl 0 rfl) ?_
  refine gf_X4_10 (v := .ref (a 1)) hx hb hts hown hK hZ hP (0) rfl rfl dX4_ageFits_1 ?_
  refine lv_iload_n hx hb dX4_ageFits_4 rfl (lv_at hl 2 rfl) ?_
  refine lv_iconst (v := (0 : Int32)) hx hb dX4_ageFits_5 (by decide) ?_
  obtain ⟨h16, hk⟩ := hk
  refine jci0 (jrunV (As := [.int p2, .int (0 : Int32)]) (rest := []) hx hb hml hown hts hK hZ hA hP hD hS hl.1 mf_X0_trait kl_X4_100 ⟨rfl, rfl, Nat.le_of_ble_eq_true rfl, Nat.le_of_ble_eq_true rfl⟩ ⟨Nat.zero_le _, Nat.zero_le _⟩ [1, 2, 3, 4, 5] rfl (js43 K a J0) rfl rfl rfl (hX0_trait l D K G (fun k => a (1 + k)) (j_E J0) p2 (0 : Int32) h16 _) rfl rfl (Nat.le_of_ble_eq_true rfl) dX4_ageFits_6) hA hP hD hS [1, 2, 3, 4, 5] (js43 K a J0) (fun H locs hP hS => ?_)
  refine lv_istore (lv' := [(4, .int (vX0_trait (j_E J0) p2 (0 : Int32))), (0, .ref (a 0)), (1, .ref (a (19 + 2 * p1))), (2, .int p2), (3, .int p3)]) hx hb dX4_ageFits_9 hl (by decide) rfl (fun ls hl => ?_)
  refine lv_aload_n hx hb dX4_ageFits_11 rfl (lv_at hl 1 rfl) ?_
  refine gf_X4_10 (v := .ref (a 1)) hx hb hts hown hK hZ hP (0) rfl rfl dX4_ageFits_12 ?_
  refine lv_iload_n hx hb dX4_ageFits_15 rfl (lv_at hl 3 rfl) ?_
  refine lv_iconst (v := (1 : Int32)) hx hb dX4_ageFits_16 (by decide) ?_
  obtain ⟨h17, hk⟩ := hk
  refine jci0 (jrunV (As := [.int p2, .int (1 : Int32)]) (rest := []) hx hb hml hown hts hK hZ hA hP hD hS hl.1 mf_X0_trait kl_X4_100 ⟨rfl, rfl, Nat.le_of_ble_eq_true rfl, Nat.le_of_ble_eq_true rfl⟩ ⟨Nat.zero_le _, Nat.zero_le _⟩ [1, 2, 3, 4, 5] rfl (js43 K a J0) rfl rfl rfl (hX0_trait l D K G (fun k => a (1 + k)) (j_E J0) p2 (1 : Int32) h17 _) rfl rfl (Nat.le_of_ble_eq_true rfl) dX4_ageFits_17) hA hP hD hS [1, 2, 3, 4, 5] (js43 K a J0) (fun H locs hP hS => ?_)
  refine lv_istore (lv' := [(5, .int (vX0_trait (j_E J0) p2 (1 : Int32))), (4, .int (vX0_trait (j_E J0) p2 (0 : Int32))), (0, .ref (a 0)), (1, .ref (a (19 + 2 * p1))), (2, .int p2), (3, .int p3)]) hx hb dX4_ageFits_20 hl (by decide) rfl (fun ls hl => ?_)
  refine lv_aload_n hx hb dX4_ageFits_22 rfl (lv_at hl 2 rfl) ?_
  refine gf_X4_10 (v := .ref (a 1)) hx hb hts hown hK hZ hP (0) rfl rfl dX4_ageFits_23 ?_
  refine lv_iload_n hx hb dX4_ageFits_26 rfl (lv_at hl 4 rfl) ?_
  refine lv_bipush (v := (6 : Int32)) hx hb dX4_ageFits_27 (by decide) ?_
  obtain ⟨h18, hk⟩ := hk
  refine jci0 (jrunV (As := [.int p2, .int (6 : Int32)]) (rest := []) hx hb hml hown hts hK hZ hA hP hD hS hl.1 mf_X0_trait kl_X4_100 ⟨rfl, rfl, Nat.le_of_ble_eq_true rfl, Nat.le_of_ble_eq_true rfl⟩ ⟨Nat.zero_le _, Nat.zero_le _⟩ [1, 2, 3, 4, 5] rfl (js43 K a J0) rfl rfl rfl (hX0_trait l D K G (fun k => a (1 + k)) (j_E J0) p2 (6 : Int32) h18 _) rfl rfl (Nat.le_of_ble_eq_true rfl) dX4_ageFits_29) hA hP hD hS [1, 2, 3, 4, 5] (js43 K a J0) (fun H locs hP hS => ?_)
  refine lv_istore (lv' := [(6, .int (vX0_trait (j_E J0) p2 (6 : Int32))), (5, .int (vX0_trait (j_E J0) p2 (1 : Int32))), (4, .int (vX0_trait (j_E J0) p2 (0 : Int32))), (0, .ref (a 0)), (1, .ref (a (19 + 2 * p1))), (2, .int p2), (3, .int p3)]) hx hb dX4_ageFits_32 hl (by decide) rfl (fun ls hl => ?_)
  refine lv_aload_n hx hb dX4_ageFits_34 rfl (lv_at hl 4 rfl) ?_
  refine gf_X4_212 (v := .int (s_size (j_s J0 p1))) hx hb hts hown hK hZ hP (19 + 2 * p1) (wJ_sh D K _ _ (hj_p1)) rfl dX4_ageFits_35 ?_
  refine lv_bipush (v := (10 : Int32)) hx hb dX4_ageFits_38 (by decide) ?_
  refine mmin_X4_235 hx hb (hml.trans hl.1.symm) hts hown (Nat.le_of_ble_eq_true rfl) (Nat.le_of_ble_eq_true rfl) (Nat.zero_le _) (Nat.zero_le _) dX4_ageFits_40 ?_
  refine lv_istore (lv' := [(7, .int (jmin (s_size (j_s J0 p1)) (10 : Int32))), (6, .int (vX0_trait (j_E J0) p2 (6 : Int32))), (5, .int (vX0_trait (j_E J0) p2 (1 : Int32))), (4, .int (vX0_trait (j_E J0) p2 (0 : Int32))), (0, .ref (a 0)), (1, .ref (a (19 + 2 * p1))), (2, .int p2), (3, .int p3)]) hx hb dX4_ageFits_43 hl (by decide) rfl (fun ls hl => ?_)
  refine lv_iconst (v := (0 : Int32)) hx hb dX4_ageFits_45 (by decide) ?_
  refine lv_istore (lv' := [(8, .int (0 : Int32)), (7, .int (jmin (s_size (j_s J0 p1)) (10 : Int32))), (6, .int (vX0_trait (j_E J0) p2 (6 : Int32))), (5, .int (vX0_trait (j_E J0) p2 (1 : Int32))), (4, .int (vX0_trait (j_E J0) p2 (0 : Int32))), (0, .ref (a 0)), (1, .ref (a (19 + 2 * p1))), (2, .int p2), (3, .int p3)]) hx hb dX4_ageFits_46 hl (by decide) rfl (fun ls hl => ?_)
  exact hc48 1024 (vX0_trait (j_E J0) p2 (0 : Int32)) (vX0_trait (j_E J0) p2 (1 : Int32)) (vX0_trait (j_E J0) p2 (6 : Int32)) (jmin (s_size (j_s J0 p1)) (10 : Int32)) (0 : Int32) _ _ _ hV hk hP hD hS (lv_sub hl [5, 6, 7, 8, 4, 3, 2, 1, 0] rfl)
theorem dX4_isThing_0 : decode cX4_isThing 0 = .ok (.iload_n 1, 1) := by decide +kernel
theorem dX4_isThing_1 : decode cX4_isThing 1 = .ok (.iconst 0, 1) := by decide +kernel
theorem dX4_isThing_2 : decode cX4_isThing 2 = .ok (.aload_n 0, 1) := by decide +kernel
theorem dX4_isThing_3 : decode cX4_isThing 3 = .ok (.getfield 10, 3) := by decide +kernel
theorem dX4_isThing_6 : decode cX4_isThing 6 = .ok (.getfield 87, 3) := by decide +kernel
theorem dX4_isThing_9 : decode cX4_isThing 9 = .ok (.iconst 1, 1) := by decide +kernel
theorem dX4_isThing_10 : decode cX4_isThing 10 = .ok (.isub, 1) := by decide +kernel
theorem dX4_isThing_11 : decode cX4_isThing 11 = .ok (.invokestatic 50, 3) := by decide +kernel
theorem dX4_isThing_14 : decode cX4_isThing 14 = .ok (.ireturn, 1) := by decide +kernel
def rX4_isThing : Room := { frames := 1, cells := 0, slots := 0, locals := 22 }
def vX4_isThing (J0 : JS) (p1 : Int32) : Int32 := (vX4_within p1 (0 : Int32) ((e_things (j_E J0)) - (1 : Int32)))
def kX4_isThing (J0 : JS) (p1 : Int32) : Prop := ((vX4_within p1 (0 : Int32) ((e_things (j_E J0)) - (1 : Int32))) = 0 ∨ (vX4_within p1 (0 : Int32) ((e_things (j_E J0)) - (1 : Int32))) = 1) ∧ True
set_option maxHeartbeats 4000000 in
set_option maxRecDepth 100000 in
theorem hX4_isThing (l : Launch) (D : va_G) (K : JK) (G : JG) (a : Nat → Nat) (J0 : JS) (p1 : Int32) (hk : kX4_isThing J0 p1) (sz : Nat) : Met l yX4_isThing (.code yX4_isThing cX4_isThing 2 (some .boolean) :: jGW) rX4_isThing (jPre D (jT K) G [.ref (a 0), .int p1] (wJ K a J0) sz) (jQi D (jT K) (vX4_isThing J0 p1) (wJ K a J0) (va_A (wJ K a J0) sz)) 0 0 (va_A (wJ K a J0) sz) := by
  refine jEi (by decide) (Nat.le_of_ble_eq_true rfl) (fun p e s m below meth c A Q ls hat hP hD hS hl hend => ?_)
  obtain ⟨hx, hb, hml, hown, hts, hK, hZ, hA⟩ := hat
  have hl : lv_has ls 2 [(0, .ref (a 0)), (1, .int p1)] := hl
  have hV := vX4_isThing.eq_1 J0 p1
  rw [kX4_isThing] at hk
  refine lv_iload_n hx hb dX4_isThing_0 rfl (lv_at hl 1 rfl) ?_
  refine lv_iconst (v := (0 : Int32)) hx hb dX4_isThing_1 (by decide) ?_
  refine lv_aload_n hx hb dX4_isThing_2 rfl (lv_at hl 0 rfl) ?_
  refine gf_X4_10 (v := .ref (a 1)) hx hb hts hown hK hZ hP (0) rfl rfl dX4_isThing_3 ?_
  refine gf_X4_87 (v := .int (e_things (j_E J0))) hx hb hts hown hK hZ hP (1) rfl rfl dX4_isThing_6 ?_
  refine lv_iconst (v := (1 : Int32)) hx hb dX4_isThing_9 (by decide) ?_
  refine lv_isub hx hb dX4_isThing_10 ?_
  refine jci0 (jrunS (As := [.int p1, .int (0 : Int32), .int ((e_things (j_E J0)) - (1 : Int32))]) (rest := []) hx hb hml hown hts hK hZ hA hP hD hS hl.1 mf_X4_within kl_X4_50 ⟨rfl, rfl, Nat.le_of_ble_eq_true rfl, Nat.le_of_ble_eq_true rfl⟩ ⟨Nat.zero_le _, Nat.zero_le _⟩ [] rfl rfl (hX4_within l D K G p1 (0 : Int32) ((e_things (j_E J0)) - (1 : Int32)) _) rfl rfl (Nat.le_of_ble_eq_true rfl) dX4_isThing_11) hA hP hD hS [] rfl (fun H locs hP hS => ?_)
  obtain ⟨h2, hk⟩ := hk
  exact hend _ _ _ _ _ hP hD hS hV.symm (jnb h2) dX4_isThing_14
theorem ja44 (K : JK) (a : Nat → Nat) (J : JS) (f : FA) : (wJ K a J).set 27 ((a 27), .inl (K.1, 7, .inl f)) = (wJ K a (j_s_found J f)) := rfl
theorem dX4_tell_0 : decode cX4_tell 0 = .ok (.iload_n 1, 1) := by decide +kernel
theorem dX4_tell_1 : decode cX4_tell 1 = .ok (.iconst 0, 1) := by decide +kernel
theorem dX4_tell_2 : decode cX4_tell 2 = .ok (.bipush 6, 2) := by decide +kernel
theorem dX4_tell_4 : decode cX4_tell 4 = .ok (.invokestatic 50, 3) := by decide +kernel
theorem dX4_tell_7 : decode cX4_tell 7 = .ok (.ifCond .eq 13, 3) := by decide +kernel
theorem dX4_tell_10 : decode cX4_tell 10 = .ok (.aload_n 0, 1) := by decide +kernel
theorem dX4_tell_11 : decode cX4_tell 11 = .ok (.getfield 35, 3) := by decide +kernel
theorem dX4_tell_14 : decode cX4_tell 14 = .ok (.iload_n 1, 1) := by decide +kernel
theorem dX4_tell_15 : decode cX4_tell 15 = .ok (.dup2, 1) := by decide +kernel
theorem dX4_tell_16 : decode cX4_tell 16 = .ok (.iaload, 1) := by decide +kernel
theorem dX4_tell_17 : decode cX4_tell 17 = .ok (.iconst 1, 1) := by decide +kernel
theorem dX4_tell_18 : decode cX4_tell 18 = .ok (.iadd, 1) := by decide +kernel
theorem dX4_tell_19 : decode cX4_tell 19 = .ok (.iastore, 1) := by decide +kernel
theorem dX4_tell_20 : decode cX4_tell 20 = .ok (.ldc 243, 2) := by decide +kernel
theorem dX4_tell_22 : decode cX4_tell 22 = .ok (.iload_n 1, 1) := by decide +kernel
theorem dX4_tell_23 : decode cX4_tell 23 = .ok (.isub, 1) := by decide +kernel
theorem dX4_tell_24 : decode cX4_tell 24 = .ok (.ireturn, 1) := by decide +kernel
def rX4_tell : Room := { frames := 1, cells := 0, slots := 0, locals := 22 }
def vX4_tell_c20 (p1 : Int32) (J : JS) : Int32 × JS := (((-1000001 : Int32) - p1), J)
def vX4_tell (J0 : JS) (p1 : Int32) : Int32 × JS := if ((vX4_within p1 (0 : Int32) (6 : Int32)) = 0) then (vX4_tell_c20 p1 J0) else (vX4_tell_c20 p1 (j_s_found J0 (upd (j_found J0) (p1).toNatClampNeg (((j_found J0) (p1).toNatClampNeg) + (1 : Int32)))))
def kX4_tell (J0 : JS) (p1 : Int32) : Prop := (((vX4_within p1 (0 : Int32) (6 : Int32)) = 0) → True) ∧ (¬ ((vX4_within p1 (0 : Int32) (6 : Int32)) = 0) → ((vp_in p1 7) ∧ (vp_in p1 7) ∧ True))
set_option maxHeartbeats 4000000 in
set_option maxRecDepth 100000 in
theorem hX4_tell (l : Launch) (D : va_G) (K : JK) (G : JG) (a : Nat → Nat) (J0 : JS) (p1 : Int32) (hk : kX4_tell J0 p1) (sz : Nat) : Met l yX4_tell (.code yX4_tell cX4_tell 2 (some .int) :: jGW) rX4_tell (jPre D (jT K) G [.ref (a 0), .int p1] (wJ K a J0) sz) (jQi D (jT K) ((vX4_tell J0 p1).1) (wJ K a ((vX4_tell J0 p1).2)) (va_A (wJ K a J0) sz)) 0 0 (va_A (wJ K a J0) sz) := by
  refine jEi (by decide) (Nat.le_of_ble_eq_true rfl) (fun p e s m below meth c A Q ls hat hP hD hS hl hend => ?_)
  obtain ⟨hx, hb, hml, hown, hts, hK, hZ, hA⟩ := hat
  have hl : lv_has ls 2 [(0, .ref (a 0)), (1, .int p1)] := hl
  have hc20 : ∀ (J : JS) (H : Heap) (locs : List Loc) (ls : Array Slot), (vX4_tell J0 p1) = vX4_tell_c20 p1 J → va_P D vwCl (wJ K a J) H → va_D A (wJ K a J) → va_S A s.heap H locs → lv_has ls 2 [(0, .ref (a 0)), (1, .int p1)] → W p l e rX4_tell s m ([.ref (a 0), .int p1] : List Value).toArray below meth c H locs 0 0 Q (F0 m 20 ls []) := by
    intro J H locs ls hV hP hD hS hl
    rw [vX4_tell_c20] at hV
    refine lv_ldc (v := (-1000001 : Int32)) hx hb hown (hts _ kc_X4_243) dX4_tell_20 ?_
    refine lv_iload_n hx hb dX4_tell_22 rfl (lv_at hl 1 rfl) ?_
    refine lv_isub hx hb dX4_tell_23 ?_
    exact hend _ _ _ _ _ (by rw [hV]; exact hP) (by rw [hV]; exact hD) hS (by rw [hV]) rfl dX4_tell_24
  have hV := vX4_tell.eq_1 J0 p1
  rw [kX4_tell] at hk
  refine lv_iload_n hx hb dX4_tell_0 rfl (lv_at hl 1 rfl) ?_
  refine lv_iconst (v := (0 : Int32)) hx hb dX4_tell_1 (by decide) ?_
  refine lv_bipush (v := (6 : Int32)) hx hb dX4_tell_2 (by decide) ?_
  refine jci0 (jrunS (As := [.int p1, .int (0 : Int32), .int (6 : Int32)]) (rest := []) hx hb hml hown hts hK hZ hA hP hD hS hl.1 mf_X4_within kl_X4_50 ⟨rfl, rfl, Nat.le_of_ble_eq_true rfl, Nat.le_of_ble_eq_true rfl⟩ ⟨Nat.zero_le _, Nat.zero_le _⟩ [] rfl rfl (hX4_within l D K G p1 (0 : Int32) (6 : Int32) _) rfl rfl (Nat.le_of_ble_eq_true rfl) dX4_tell_4) hA hP hD hS [] rfl (fun H locs hP hS => ?_)
  refine lv_if_eq (tgt := 20) hx hb dX4_tell_7 (by decide) (fun c4 => ?_) (fun c4 => ?_)
  · have hV := hV.trans (if_pos c4)
    have hk := hk.1 c4
    exact hc20 J0 _ _ _ hV hP hD hS (lv_sub hl [0, 1] rfl)
  · have hV := hV.trans (if_neg c4)
    have hk := hk.2 c4
    refine lv_aload_n hx hb dX4_tell_10 rfl (lv_at hl 0 rfl) ?_
    refine gf_X4_35 (v := .ref (a 27)) hx hb hts hown hK hZ hP (0) rfl rfl dX4_tell_11 ?_
    refine lv_iload_n hx hb dX4_tell_14 rfl (lv_at hl 1 rfl) ?_
    refine lv_dup2_11 hx hb dX4_tell_15 rfl rfl ?_
    obtain ⟨h5, hk⟩ := hk
    refine va_iald hx hb hK hP (27) 0 rfl rfl h5 dX4_tell_16 ?_
    refine lv_iconst (v := (1 : Int32)) hx hb dX4_tell_17 (by decide) ?_
    refine lv_iadd hx hb dX4_tell_18 ?_
    obtain ⟨h6, hk⟩ := hk
    refine va_iast hx hb hK hP hD hS (27) 0 rfl rfl h6 dX4_tell_19 (fun H locs hP hD hS => ?_)
    have hP := jeP (ja44 K a J0 (upd (j_found J0) (p1).toNatClampNeg (((j_found J0) (p1).toNatClampNeg) + (1 : Int32)))) hP
    have hD := jeD (ja44 K a J0 (upd (j_found J0) (p1).toNatClampNeg (((j_found J0) (p1).toNatClampNeg) + (1 : Int32)))) hD
    exact hc20 (j_s_found J0 (upd (j_found J0) (p1).toNatClampNeg (((j_found J0) (p1).toNatClampNeg) + (1 : Int32)))) _ _ _ hV hP hD hS (lv_sub hl [0, 1] rfl)
theorem js45 (K : JK) (a : Nat → Nat) (J : JS) : [0, 1, 2, 3, 4, 5, 6, 7, 8, 9, 10, 11, 12, 13, 14, 15, 16, 17, 18, 19, 20, 21, 22, 23, 24, 25, 26, 27, 28, 29].map (fun i => (wJ K a J)[i]?) = (wJ K a J).map some := rfl
theorem js46 (K : JK) (a : Nat → Nat) (J : JS) : [11, 12, 13, 14, 15, 1, 2, 3, 4, 5].map (fun i => (wJ K a J)[i]?) = (wE K (fun k => a (11 + k)) (j_T J) ++ wE K (fun k => a (1 + k)) (j_E J)).map some := rfl
theorem jh47 (K : JK) (a : Nat → Nat) (J : JS) (Z0 : ES) : (wE K (fun k => a (11 + k)) Z0 ++ wE K (fun k => a (1 + k)) (j_E J)).map Prod.fst = (wE K (fun k => a (11 + k)) (j_T J) ++ wE K (fun k => a (1 + k)) (j_E J)).map Prod.fst := rfl
theorem jp48 (K : JK) (a : Nat → Nat) (J : JS) (Z0 : ES) : jput (wJ K a J) [11, 12, 13, 14, 15, 1, 2, 3, 4, 5] (wE K (fun k => a (11 + k)) Z0 ++ wE K (fun k => a (1 + k)) (j_E J)) = (wJ K a (j_s_T J Z0)) := rfl
theorem js49 (K : JK) (a : Nat → Nat) (J : JS) : [11, 12, 13, 14, 15].map (fun i => (wJ K a J)[i]?) = (wE K (fun k => a (11 + k)) (j_T J)).map some := rfl
theorem jh50 (K : JK) (a : Nat → Nat) (J : JS) (Z0 : ES) : (wE K (fun k => a (11 + k)) Z0).map Prod.fst = (wE K (fun k => a (11 + k)) (j_T J)).map Prod.fst := rfl
theorem jp51 (K : JK) (a : Nat → Nat) (J : JS) (Z0 : ES) : jput (wJ K a J) [11, 12, 13, 14, 15] (wE K (fun k => a (11 + k)) Z0) = (wJ K a (j_s_T J Z0)) := rfl
theorem jh52 (K : JK) (a : Nat → Nat) (J : JS) (Z0 : JS) : (wJ K a Z0).map Prod.fst = (wJ K a J).map Prod.fst := rfl
theorem jp53 (K : JK) (a : Nat → Nat) (J : JS) (Z0 : JS) : jput (wJ K a J) [0, 1, 2, 3, 4, 5, 6, 7, 8, 9, 10, 11, 12, 13, 14, 15, 16, 17, 18, 19, 20, 21, 22, 23, 24, 25, 26, 27, 28, 29] (wJ K a Z0) = (wJ K a Z0) := by
  have h := jput_drop (wJ K a Z0) [] (wJ K a J) rfl
  have e1 : (wJ K a Z0).length = 30 := rfl
  rw [e1] at h
  exact h
theorem dX4_ahead_0 : decode cX4_ahead 0 = .ok (.iload_n 2, 1) := by decide +kernel
theorem dX4_ahead_1 : decode cX4_ahead 1 = .ok (.iconst 4, 1) := by decide +kernel
theorem dX4_ahead_2 : decode cX4_ahead 2 = .ok (.if_icmp .eq 14, 3) := by decide +kernel
theorem dX4_ahead_5 : decode cX4_ahead 5 = .ok (.iload_n 2, 1) := by decide +kernel
theorem dX4_ahead_6 : decode cX4_ahead 6 = .ok (.bipush 8, 2) := by decide +kernel
theorem dX4_ahead_8 : decode cX4_ahead 8 = .ok (.bipush 11, 2) := by decide +kernel
theorem dX4_ahead_10 : decode cX4_ahead 10 = .ok (.invokestatic 50, 3) := by decide +kernel
theorem dX4_ahead_13 : decode cX4_ahead 13 = .ok (.ifCond .eq 7, 3) := by decide +kernel
theorem dX4_ahead_16 : decode cX4_ahead 16 = .ok (.iconst 1, 1) := by decide +kernel
theorem dX4_ahead_17 : decode cX4_ahead 17 = .ok (.goto 4, 3) := by decide +kernel
theorem dX4_ahead_20 : decode cX4_ahead 20 = .ok (.iconst 0, 1) := by decide +kernel
theorem dX4_ahead_21 : decode cX4_ahead 21 = .ok (.istore 4, 2) := by decide +kernel
theorem dX4_ahead_23 : decode cX4_ahead 23 = .ok (.aload_n 0, 1) := by decide +kernel
theorem dX4_ahead_24 : decode cX4_ahead 24 = .ok (.iload_n 1, 1) := by decide +kernel
theorem dX4_ahead_25 : decode cX4_ahead 25 = .ok (.invokevirtual 94, 3) := by decide +kernel
theorem dX4_ahead_28 : decode cX4_ahead 28 = .ok (.ifCond .eq 18, 3) := by decide +kernel
theorem dX4_ahead_31 : decode cX4_ahead 31 = .ok (.iload 4, 2) := by decide +kernel
theorem dX4_ahead_33 : decode cX4_ahead 33 = .ok (.ifCond .eq 13, 3) := by decide +kernel
theorem dX4_ahead_36 : decode cX4_ahead 36 = .ok (.iload_n 3, 1) := by decide +kernel
theorem dX4_ahead_37 : decode cX4_ahead 37 = .ok (.iconst 0, 1) := by decide +kernel
theorem dX4_ahead_38 : decode cX4_ahead 38 = .ok (.bipush 100, 2) := by decide +kernel
theorem dX4_ahead_40 : decode cX4_ahead 40 = .ok (.invokestatic 50, 3) := by decide +kernel
theorem dX4_ahead_43 : decode cX4_ahead 43 = .ok (.ifCond .ne 9, 3) := by decide +kernel
theorem dX4_ahead_46 : decode cX4_ahead 46 = .ok (.aload_n 0, 1) := by decide +kernel
theorem dX4_ahead_47 : decode cX4_ahead 47 = .ok (.iconst 0, 1) := by decide +kernel
theorem dX4_ahead_48 : decode cX4_ahead 48 = .ok (.invokevirtual 60, 3) := by decide +kernel
theorem dX4_ahead_51 : decode cX4_ahead 51 = .ok (.ireturn, 1) := by decide +kernel
theorem dX4_ahead_52 : decode cX4_ahead 52 = .ok (.aload_n 0, 1) := by decide +kernel
theorem dX4_ahead_53 : decode cX4_ahead 53 = .ok (.getfield 19, 3) := by decide +kernel
theorem dX4_ahead_56 : decode cX4_ahead 56 = .ok (.aload_n 0, 1) := by decide +kernel
theorem dX4_ahead_57 : decode cX4_ahead 57 = .ok (.getfield 10, 3) := by decide +kernel
theorem dX4_ahead_60 : decode cX4_ahead 60 = .ok (.invokevirtual 132, 3) := by decide +kernel
theorem dX4_ahead_63 : decode cX4_ahead 63 = .ok (.aload_n 0, 1) := by decide +kernel
theorem dX4_ahead_64 : decode cX4_ahead 64 = .ok (.getfield 19, 3) := by decide +kernel
theorem dX4_ahead_67 : decode cX4_ahead 67 = .ok (.iload_n 3, 1) := by decide +kernel
theorem dX4_ahead_68 : decode cX4_ahead 68 = .ok (.invokevirtual 114, 3) := by decide +kernel
theorem dX4_ahead_71 : decode cX4_ahead 71 = .ok (.aload_n 0, 1) := by decide +kernel
theorem dX4_ahead_72 : decode cX4_ahead 72 = .ok (.getfield 19, 3) := by decide +kernel
theorem dX4_ahead_75 : decode cX4_ahead 75 = .ok (.iload_n 1, 1) := by decide +kernel
theorem dX4_ahead_76 : decode cX4_ahead 76 = .ok (.iload_n 2, 1) := by decide +kernel
theorem dX4_ahead_77 : decode cX4_ahead 77 = .ok (.invokevirtual 97, 3) := by decide +kernel
theorem dX4_ahead_80 : decode cX4_ahead 80 = .ok (.ireturn, 1) := by decide +kernel
def rX4_ahead : Room := { frames := 5, cells := 0, slots := 0, locals := 108 }
def vX4_ahead_c71 (p1 : Int32) (p2 : Int32) (p3 : Int32) (J : JS) : Int32 × JS := ((vX0_told (j_T J) p1 p2), J)
def kX4_ahead_c71 (p1 : Int32) (p2 : Int32) (p3 : Int32) (J : JS) : Prop := (kX0_told (j_T J) p1 p2) ∧ True
def vX4_ahead_c63 (p1 : Int32) (p2 : Int32) (p3 : Int32) (J : JS) : Int32 × JS := (vX4_ahead_c71 p1 p2 p3 (j_s_T J (vX0_passDays (j_T J) p3)))
def kX4_ahead_c63 (p1 : Int32) (p2 : Int32) (p3 : Int32) (J : JS) : Prop := (kX0_passDays (j_T J) p3) ∧ (kX4_ahead_c71 p1 p2 p3 (j_s_T J (vX0_passDays (j_T J) p3)))
def vX4_ahead_c46 (p1 : Int32) (p2 : Int32) (p3 : Int32) (J : JS) : Int32 × JS := (((vX4_tell J (0 : Int32)).1), ((vX4_tell J (0 : Int32)).2))
def kX4_ahead_c46 (p1 : Int32) (p2 : Int32) (p3 : Int32) (J : JS) : Prop := (kX4_tell J (0 : Int32)) ∧ True
def vX4_ahead_c21 (p1 : Int32) (p2 : Int32) (p3 : Int32) (J : JS) (y0 : Int32) : Int32 × JS := if ((vX4_isThing J p1) = 0) then (vX4_ahead_c46 p1 p2 p3 J) else if (y0 = 0) then (vX4_ahead_c46 p1 p2 p3 J) else if ((vX4_within p3 (0 : Int32) (100 : Int32)) = 0) then (vX4_ahead_c46 p1 p2 p3 J) else (vX4_ahead_c63 p1 p2 p3 (j_s_T J (vX0_become (j_T J) (j_E J))))
def kX4_ahead_c21 (p1 : Int32) (p2 : Int32) (p3 : Int32) (J : JS) (y0 : Int32) : Prop := (kX4_isThing J p1) ∧ (((vX4_isThing J p1) = 0) → ((kX4_ahead_c46 p1 p2 p3 J))) ∧ (¬ ((vX4_isThing J p1) = 0) → (((y0 = 0) → ((kX4_ahead_c46 p1 p2 p3 J))) ∧ (¬ (y0 = 0) → ((((vX4_within p3 (0 : Int32) (100 : Int32)) = 0) → ((kX4_ahead_c46 p1 p2 p3 J))) ∧ (¬ ((vX4_within p3 (0 : Int32) (100 : Int32)) = 0) → ((kX0_become (j_T J) (j_E J)) ∧ (kX4_ahead_c63 p1 p2 p3 (j_s_T J (vX0_become (j_T J) (j_E J))))))))))
def vX4_ahead_c16 (p1 : Int32) (p2 : Int32) (p3 : Int32) (J : JS) : Int32 × JS := (vX4_ahead_c21 p1 p2 p3 J (1 : Int32))
def kX4_ahead_c16 (p1 : Int32) (p2 : Int32) (p3 : Int32) (J : JS) : Prop := (kX4_ahead_c21 p1 p2 p3 J (1 : Int32))
def vX4_ahead (J0 : JS) (p1 : Int32) (p2 : Int32) (p3 : Int32) : Int32 × JS := if (p2 = (4 : Int32)) then (vX4_ahead_c16 p1 p2 p3 J0) else if ((vX4_within p2 (8 : Int32) (11 : Int32)) = 0) then (vX4_ahead_c21 p1 p2 p3 J0 (0 : Int32)) else (vX4_ahead_c16 p1 p2 p3 J0)
def kX4_ahead (J0 : JS) (p1 : Int32) (p2 : Int32) (p3 : Int32) : Prop := ((p2 = (4 : Int32)) → ((kX4_ahead_c16 p1 p2 p3 J0))) ∧ (¬ (p2 = (4 : Int32)) → ((((vX4_within p2 (8 : Int32) (11 : Int32)) = 0) → ((kX4_ahead_c21 p1 p2 p3 J0 (0 : Int32)))) ∧ (¬ ((vX4_within p2 (8 : Int32) (11 : Int32)) = 0) → ((kX4_ahead_c16 p1 p2 p3 J0)))))
set_option maxHeartbeats 4000000 in
set_option maxRecDepth 100000 in
theorem hX4_ahead (l : Launch) (D : va_G) (K : JK) (G : JG) (a : Nat → Nat) (J0 : JS) (p1 : Int32) (p2 : Int32) (p3 : Int32) (hk : kX4_ahead J0 p1 p2 p3) (sz : Nat) : Met l yX4_ahead (.code yX4_ahead cX4_ahead 5 (some .int) :: jGW) rX4_ahead (jPre D (jT K) G [.ref (a 0), .int p1, .int p2, .int p3] (wJ K a J0) sz) (jQi D (jT K) ((vX4_ahead J0 p1 p2 p3).1) (wJ K a ((vX4_ahead J0 p1 p2 p3).2)) (va_A (wJ K a J0) sz)) 0 0 (va_A (wJ K a J0) sz) := by
  refine jEi (by decide) (Nat.le_of_ble_eq_true rfl) (fun p e s m below meth c A Q ls hat hP hD hS hl hend => ?_)
  obtain ⟨hx, hb, hml, hown, hts, hK, hZ, hA⟩ := hat
  have hl : lv_has ls 5 [(0, .ref (a 0)), (1, .int p1), (2, .int p2), (3, .int p3)] := hl
  have hc71 : ∀ (J : JS) (H : Heap) (locs : List Loc) (ls : Array Slot), (vX4_ahead J0 p1 p2 p3) = vX4_ahead_c71 p1 p2 p3 J → kX4_ahead_c71 p1 p2 p3 J → va_P D vwCl (wJ K a J) H → va_D A (wJ K a J) → va_S A s.heap H locs → lv_has ls 5 [(0, .ref (a 0)), (1, .int p1), (2, .int p2), (3, .int p3)] → W p l e rX4_ahead s m ([.ref (a 0), .int p1, .int p2, .int p3] : List Value).toArray below meth c H locs 0 0 Q (F0 m 71 ls []) := by
    intro J H locs ls hV hk hP hD hS hl
    rw [vX4_ahead_c71] at hV
    rw [kX4_ahead_c71] at hk
    refine lv_aload_n hx hb dX4_ahead_71 rfl (lv_at hl 0 rfl) ?_
    refine gf_X4_19 (v := .ref (a 11)) hx hb hts hown hK hZ hP (0) rfl rfl dX4_ahead_72 ?_
    refine lv_iload_n hx hb dX4_ahead_75 rfl (lv_at hl 1 rfl) ?_
    refine lv_iload_n hx hb dX4_ahead_76 rfl (lv_at hl 2 rfl) ?_
    obtain ⟨h11, hk⟩ := hk
    refine jci0 (jrunV (As := [.int p1, .int p2]) (rest := []) hx hb hml hown hts hK hZ hA hP hD hS hl.1 mf_X0_told kl_X4_97 ⟨rfl, rfl, Nat.le_of_ble_eq_true rfl, Nat.le_of_ble_eq_true rfl⟩ ⟨Nat.zero_le _, Nat.zero_le _⟩ [11, 12, 13, 14, 15] rfl (js49 K a J) rfl rfl rfl (hX0_told l D K G (fun k => a (11 + k)) (j_T J) p1 p2 h11 _) rfl rfl (Nat.le_of_ble_eq_true rfl) dX4_ahead_77) hA hP hD hS [11, 12, 13, 14, 15] (js49 K a J) (fun H locs hP hS => ?_)
    exact hend _ _ _ _ _ (by rw [hV]; exact hP) (by rw [hV]; exact hD) hS (by rw [hV]) rfl dX4_ahead_80
  have hc63 : ∀ (J : JS) (H : Heap) (locs : List Loc) (ls : Array Slot), (vX4_ahead J0 p1 p2 p3) = vX4_ahead_c63 p1 p2 p3 J → kX4_ahead_c63 p1 p2 p3 J → va_P D vwCl (wJ K a J) H → va_D A (wJ K a J) → va_S A s.heap H locs → lv_has ls 5 [(0, .ref (a 0)), (1, .int p1), (2, .int p2), (3, .int p3)] → W p l e rX4_ahead s m ([.ref (a 0), .int p1, .int p2, .int p3] : List Value).toArray below meth c H locs 0 0 Q (F0 m 63 ls []) := by
    intro J H locs ls hV hk hP hD hS hl
    rw [vX4_ahead_c63] at hV
    rw [kX4_ahead_c63] at hk
    refine lv_aload_n hx hb dX4_ahead_63 rfl (lv_at hl 0 rfl) ?_
    refine gf_X4_19 (v := .ref (a 11)) hx hb hts hown hK hZ hP (0) rfl rfl dX4_ahead_64 ?_
    refine lv_iload_n hx hb dX4_ahead_67 rfl (lv_at hl 3 rfl) ?_
    obtain ⟨h12, hk⟩ := hk
    refine jcv (jrunV (As := [.int p3]) (rest := []) hx hb hml hown hts hK hZ hA hP hD hS hl.1 mf_X0_passDays kl_X4_114 ⟨rfl, rfl, Nat.le_of_ble_eq_true rfl, Nat.le_of_ble_eq_true rfl⟩ ⟨Nat.zero_le _, Nat.zero_le _⟩ [11, 12, 13, 14, 15] rfl (js49 K a J) rfl rfl rfl (hX0_passDays l D K G (fun k => a (11 + k)) (j_T J) p3 h12 _) rfl rfl (Nat.le_of_ble_eq_true rfl) dX4_ahead_68) hA hP hD hS [11, 12, 13, 14, 15] (js49 K a J) (jh50 K a J (vX0_passDays (j_T J) p3)) (fun H locs hP hD hS => ?_)
    have hP := jeP (jp51 K a J (vX0_passDays (j_T J) p3)) hP
    have hD := jeD (jp51 K a J (vX0_passDays (j_T J) p3)) hD
    exact hc71 (j_s_T J (vX0_passDays (j_T J) p3)) _ _ _ hV hk hP hD hS (lv_sub hl [0, 1, 2, 3] rfl)
  have hc46 : ∀ (J : JS) (H : Heap) (locs : List Loc) (ls : Array Slot), (vX4_ahead J0 p1 p2 p3) = vX4_ahead_c46 p1 p2 p3 J → kX4_ahead_c46 p1 p2 p3 J → va_P D vwCl (wJ K a J) H → va_D A (wJ K a J) → va_S A s.heap H locs → lv_has ls 5 [(0, .ref (a 0)), (1, .int p1), (2, .int p2), (3, .int p3)] → W p l e rX4_ahead s m ([.ref (a 0), .int p1, .int p2, .int p3] : List Value).toArray below meth c H locs 0 0 Q (F0 m 46 ls []) := by
    intro J H locs ls hV hk hP hD hS hl
    rw [vX4_ahead_c46] at hV
    rw [kX4_ahead_c46] at hk
    refine lv_aload_n hx hb dX4_ahead_46 rfl (lv_at hl 0 rfl) ?_
    refine lv_iconst (v := (0 : Int32)) hx hb dX4_ahead_47 (by decide) ?_
    obtain ⟨h13, hk⟩ := hk
    refine jci (jrunV (As := [.int (0 : Int32)]) (rest := []) hx hb hml hown hts hK hZ hA hP hD hS hl.1 mf_X4_tell kl_X4_60 ⟨rfl, rfl, Nat.le_of_ble_eq_true rfl, Nat.le_of_ble_eq_true rfl⟩ ⟨Nat.zero_le _, Nat.zero_le _⟩ [0, 1, 2, 3, 4, 5, 6, 7, 8, 9, 10, 11, 12, 13, 14, 15, 16, 17, 18, 19, 20, 21, 22, 23, 24, 25, 26, 27, 28, 29] rfl (js45 K a J) rfl rfl rfl (hX4_tell l D K G a J (0 : Int32) h13 _) rfl rfl (Nat.le_of_ble_eq_true rfl) dX4_ahead_48) hA hP hD hS [0, 1, 2, 3, 4, 5, 6, 7, 8, 9, 10, 11, 12, 13, 14, 15, 16, 17, 18, 19, 20, 21, 22, 23, 24, 25, 26, 27, 28, 29] (js45 K a J) (jh52 K a J ((vX4_tell J (0 : Int32)).2)) (fun H locs hP hD hS => ?_)
    have hP := jeP (jp53 K a J ((vX4_tell J (0 : Int32)).2)) hP
    have hD := jeD (jp53 K a J ((vX4_tell J (0 : Int32)).2)) hD
    exact hend _ _ _ _ _ (by rw [hV]; exact hP) (by rw [hV]; exact hD) hS (by rw [hV]) rfl dX4_ahead_51
  have hc21 : ∀ (J : JS) (y0 : Int32) (H : Heap) (locs : List Loc) (ls : Array Slot), (vX4_ahead J0 p1 p2 p3) = vX4_ahead_c21 p1 p2 p3 J y0 → kX4_ahead_c21 p1 p2 p3 J y0 → va_P D vwCl (wJ K a J) H → va_D A (wJ K a J) → va_S A s.heap H locs → lv_has ls 5 [(0, .ref (a 0)), (1, .int p1), (2, .int p2), (3, .int p3)] → W p l e rX4_ahead s m ([.ref (a 0), .int p1, .int p2, .int p3] : List Value).toArray below meth c H locs 0 0 Q (F0 m 21 ls [.int y0]) := by
    intro J y0 H locs ls hV hk hP hD hS hl
    rw [vX4_ahead_c21] at hV
    rw [kX4_ahead_c21] at hk
    refine lv_istore (lv' := [(4, .int y0), (0, .ref (a 0)), (1, .int p1), (2, .int p2), (3, .int p3)]) hx hb dX4_ahead_21 hl (by decide) rfl (fun ls hl => ?_)
    refine lv_aload_n hx hb dX4_ahead_23 rfl (lv_at hl 1 rfl) ?_
    refine lv_iload_n hx hb dX4_ahead_24 rfl (lv_at hl 2 rfl) ?_
    obtain ⟨h14, hk⟩ := hk
    refine jci0 (jrunV (As := [.int p1]) (rest := []) hx hb hml hown hts hK hZ hA hP hD hS hl.1 mf_X4_isThing kl_X4_94 ⟨rfl, rfl, Nat.le_of_ble_eq_true rfl, Nat.le_of_ble_eq_true rfl⟩ ⟨Nat.zero_le _, Nat.zero_le _⟩ [0, 1, 2, 3, 4, 5, 6, 7, 8, 9, 10, 11, 12, 13, 14, 15, 16, 17, 18, 19, 20, 21, 22, 23, 24, 25, 26, 27, 28, 29] rfl (js45 K a J) rfl rfl rfl (hX4_isThing l D K G a J p1 h14 _) rfl rfl (Nat.le_of_ble_eq_true rfl) dX4_ahead_25) hA hP hD hS [0, 1, 2, 3, 4, 5, 6, 7, 8, 9, 10, 11, 12, 13, 14, 15, 16, 17, 18, 19, 20, 21, 22, 23, 24, 25, 26, 27, 28, 29] (js45 K a J) (fun H locs hP hS => ?_)
    refine lv_if_eq (tgt := 46) hx hb dX4_ahead_28 (by decide) (fun c15 => ?_) (fun c15 => ?_)
    · have hV := hV.trans (if_pos c15)
      have hk := hk.1 c15
      exact hc46 J _ _ _ hV hk hP hD hS (lv_sub hl [1, 2, 3, 4] rfl)
    · have hV := hV.trans (if_neg c15)
      have hk := hk.2 c15
      refine lv_iload hx hb dX4_ahead_31 (lv_at hl 0 rfl) ?_
      refine lv_if_eq (tgt := 46) hx hb dX4_ahead_33 (by decide) (fun c16 => ?_) (fun c16 => ?_)
      · have hV := hV.trans (if_pos c16)
        have hk := hk.1 c16
        exact hc46 J _ _ _ hV hk hP hD hS (lv_sub hl [1, 2, 3, 4] rfl)
      · have hV := hV.trans (if_neg c16)
        have hk := hk.2 c16
        refine lv_iload_n hx hb dX4_ahead_36 rfl (lv_at hl 4 rfl) ?_
        refine lv_iconst (v := (0 : Int32)) hx hb dX4_ahead_37 (by decide) ?_
        refine lv_bipush (v := (100 : Int32)) hx hb dX4_ahead_38 (by decide) ?_
        refine jci0 (jrunS (As := [.int p3, .int (0 : Int32), .int (100 : Int32)]) (rest := []) hx hb hml hown hts hK hZ hA hP hD hS hl.1 mf_X4_within kl_X4_50 ⟨rfl, rfl, Nat.le_of_ble_eq_true rfl, Nat.le_of_ble_eq_true rfl⟩ ⟨Nat.zero_le _, Nat.zero_le _⟩ [] rfl rfl (hX4_within l D K G p3 (0 : Int32) (100 : Int32) _) rfl rfl (Nat.le_of_ble_eq_true rfl) dX4_ahead_40) hA hP hD hS [] rfl (fun H locs hP hS => ?_)
        refine lv_if_ne (tgt := 52) hx hb dX4_ahead_43 (by decide) (fun c17 => ?_) (fun c17 => ?_)
        · have hV := hV.trans (if_neg c17)
          have hk := hk.2 c17
          refine lv_aload_n hx hb dX4_ahead_52 rfl (lv_at hl 1 rfl) ?_
          refine gf_X4_19 (v := .ref (a 11)) hx hb hts hown hK hZ hP (0) rfl rfl dX4_ahead_53 ?_
          refine lv_aload_n hx hb dX4_ahead_56 rfl (lv_at hl 1 rfl) ?_
          refine gf_X4_10 (v := .ref (a 1)) hx hb hts hown hK hZ hP (0) rfl rfl dX4_ahead_57 ?_
          obtain ⟨h18, hk⟩ := hk
          refine jcv (jrunV (As := [.ref (a 1)]) (rest := []) hx hb hml hown hts hK hZ hA hP hD hS hl.1 mf_X0_become kl_X4_132 ⟨rfl, rfl, Nat.le_of_ble_eq_true rfl, Nat.le_of_ble_eq_true rfl⟩ ⟨Nat.zero_le _, Nat.zero_le _⟩ [11, 12, 13, 14, 15, 1, 2, 3, 4, 5] rfl (js46 K a J) rfl rfl rfl (hX0_become l D K G (fun k => a (11 + k)) (fun k => a (1 + k)) (j_T J) (j_E J) h18 _) rfl rfl (Nat.le_of_ble_eq_true rfl) dX4_ahead_60) hA hP hD hS [11, 12, 13, 14, 15, 1, 2, 3, 4, 5] (js46 K a J) (jh47 K a J (vX0_become (j_T J) (j_E J))) (fun H locs hP hD hS => ?_)
          have hP := jeP (jp48 K a J (vX0_become (j_T J) (j_E J))) hP
          have hD := jeD (jp48 K a J (vX0_become (j_T J) (j_E J))) hD
          exact hc63 (j_s_T J (vX0_become (j_T J) (j_E J))) _ _ _ hV hk hP hD hS (lv_sub hl [1, 2, 3, 4] rfl)
        · have hV := hV.trans (if_pos c17)
          have hk := hk.1 c17
          exact hc46 J _ _ _ hV hk hP hD hS (lv_sub hl [1, 2, 3, 4] rfl)
  have hc16 : ∀ (J : JS) (H : Heap) (locs : List Loc) (ls : Array Slot), (vX4_ahead J0 p1 p2 p3) = vX4_ahead_c16 p1 p2 p3 J → kX4_ahead_c16 p1 p2 p3 J → va_P D vwCl (wJ K a J) H → va_D A (wJ K a J) → va_S A s.heap H locs → lv_has ls 5 [(0, .ref (a 0)), (1, .int p1), (2, .int p2), (3, .int p3)] → W p l e rX4_ahead s m ([.ref (a 0), .int p1, .int p2, .int p3] : List Value).toArray below meth c H locs 0 0 Q (F0 m 16 ls []) := by
    intro J H locs ls hV hk hP hD hS hl
    rw [vX4_ahead_c16] at hV
    rw [kX4_ahead_c16] at hk
    refine lv_iconst (v := (1 : Int32)) hx hb dX4_ahead_16 (by decide) ?_
    refine lv_goto (tgt := 21) hx hb dX4_ahead_17 (by decide) ?_
    exact hc21 J (1 : Int32) _ _ _ hV hk hP hD hS (lv_sub hl [0, 1, 2, 3] rfl)
  have hV := vX4_ahead.eq_1 J0 p1 p2 p3
  rw [kX4_ahead] at hk
  refine lv_iload_n hx hb dX4_ahead_0 rfl (lv_at hl 2 rfl) ?_
  refine lv_iconst (v := (4 : Int32)) hx hb dX4_ahead_1 (by decide) ?_
  refine lv_icmp_eq (tgt := 16) hx hb dX4_ahead_2 (by decide) (fun c19 => ?_) (fun c19 => ?_)
  · have hV := hV.trans (if_pos c19)
    have hk := hk.1 c19
    exact hc16 J0 _ _ _ hV hk hP hD hS (lv_sub hl [0, 1, 2, 3] rfl)
  · have hV := hV.trans (if_neg c19)
    have hk := hk.2 c19
    refine lv_iload_n hx hb dX4_ahead_5 rfl (lv_at hl 2 rfl) ?_
    refine lv_bipush (v := (8 : Int32)) hx hb dX4_ahead_6 (by decide) ?_
    refine lv_bipush (v := (11 : Int32)) hx hb dX4_ahead_8 (by decide) ?_
    refine jci0 (jrunS (As := [.int p2, .int (8 : Int32), .int (11 : Int32)]) (rest := []) hx hb hml hown hts hK hZ hA hP hD hS hl.1 mf_X4_within kl_X4_50 ⟨rfl, rfl, Nat.le_of_ble_eq_true rfl, Nat.le_of_ble_eq_true rfl⟩ ⟨Nat.zero_le _, Nat.zero_le _⟩ [] rfl rfl (hX4_within l D K G p2 (8 : Int32) (11 : Int32) _) rfl rfl (Nat.le_of_ble_eq_true rfl) dX4_ahead_10) hA hP hD hS [] rfl (fun H locs hP hS => ?_)
    refine lv_if_eq (tgt := 20) hx hb dX4_ahead_13 (by decide) (fun c20 => ?_) (fun c20 => ?_)
    · have hV := hV.trans (if_pos c20)
      have hk := hk.1 c20
      refine lv_iconst (v := (0 : Int32)) hx hb dX4_ahead_20 (by decide) ?_
      exact hc21 J0 (0 : Int32) _ _ _ hV hk hP hD hS (lv_sub hl [0, 1, 2, 3] rfl)
    · have hV := hV.trans (if_neg c20)
      have hk := hk.2 c20
      exact hc16 J0 _ _ _ hV hk hP hD hS (lv_sub hl [0, 1, 2, 3] rfl)
theorem dX4_as_0 : decode cX4_as 0 = .ok (.iload_n 1, 1) := by decide +kernel
theorem dX4_as_1 : decode cX4_as 1 = .ok (.invokestatic 193, 3) := by decide +kernel
theorem dX4_as_4 : decode cX4_as 4 = .ok (.ifCond .eq 10, 3) := by decide +kernel
theorem dX4_as_7 : decode cX4_as 7 = .ok (.iload_n 2, 1) := by decide +kernel
theorem dX4_as_8 : decode cX4_as 8 = .ok (.invokestatic 81, 3) := by decide +kernel
theorem dX4_as_11 : decode cX4_as 11 = .ok (.ifCond .ne 9, 3) := by decide +kernel
theorem dX4_as_14 : decode cX4_as 14 = .ok (.aload_n 0, 1) := by decide +kernel
theorem dX4_as_15 : decode cX4_as 15 = .ok (.iconst 0, 1) := by decide +kernel
theorem dX4_as_16 : decode cX4_as 16 = .ok (.invokevirtual 60, 3) := by decide +kernel
theorem dX4_as_19 : decode cX4_as 19 = .ok (.ireturn, 1) := by decide +kernel
theorem dX4_as_20 : decode cX4_as 20 = .ok (.aload_n 0, 1) := by decide +kernel
theorem dX4_as_21 : decode cX4_as 21 = .ok (.getfield 10, 3) := by decide +kernel
theorem dX4_as_24 : decode cX4_as 24 = .ok (.getfield 196, 3) := by decide +kernel
theorem dX4_as_27 : decode cX4_as 27 = .ok (.iload_n 1, 1) := by decide +kernel
theorem dX4_as_28 : decode cX4_as 28 = .ok (.iaload, 1) := by decide +kernel
theorem dX4_as_29 : decode cX4_as 29 = .ok (.istore_n 3, 1) := by decide +kernel
theorem dX4_as_30 : decode cX4_as 30 = .ok (.aload_n 0, 1) := by decide +kernel
theorem dX4_as_31 : decode cX4_as 31 = .ok (.iload_n 3, 1) := by decide +kernel
theorem dX4_as_32 : decode cX4_as 32 = .ok (.invokevirtual 94, 3) := by decide +kernel
theorem dX4_as_35 : decode cX4_as 35 = .ok (.ifCond .ne 9, 3) := by decide +kernel
theorem dX4_as_38 : decode cX4_as 38 = .ok (.aload_n 0, 1) := by decide +kernel
theorem dX4_as_39 : decode cX4_as 39 = .ok (.iconst 5, 1) := by decide +kernel
theorem dX4_as_40 : decode cX4_as 40 = .ok (.invokevirtual 60, 3) := by decide +kernel
theorem dX4_as_43 : decode cX4_as 43 = .ok (.ireturn, 1) := by decide +kernel
theorem dX4_as_44 : decode cX4_as 44 = .ok (.aload_n 0, 1) := by decide +kernel
theorem dX4_as_45 : decode cX4_as 45 = .ok (.getfield 10, 3) := by decide +kernel
theorem dX4_as_48 : decode cX4_as 48 = .ok (.iload_n 3, 1) := by decide +kernel
theorem dX4_as_49 : decode cX4_as 49 = .ok (.iconst 0, 1) := by decide +kernel
theorem dX4_as_50 : decode cX4_as 50 = .ok (.invokevirtual 100, 3) := by decide +kernel
theorem dX4_as_53 : decode cX4_as 53 = .ok (.iload_n 2, 1) := by decide +kernel
theorem dX4_as_54 : decode cX4_as 54 = .ok (.invokestatic 199, 3) := by decide +kernel
theorem dX4_as_57 : decode cX4_as 57 = .ok (.ifCond .eq 7, 3) := by decide +kernel
theorem dX4_as_60 : decode cX4_as 60 = .ok (.iload_n 3, 1) := by decide +kernel
theorem dX4_as_61 : decode cX4_as 61 = .ok (.goto 8, 3) := by decide +kernel
theorem dX4_as_64 : decode cX4_as 64 = .ok (.aload_n 0, 1) := by decide +kernel
theorem dX4_as_65 : decode cX4_as 65 = .ok (.iconst 2, 1) := by decide +kernel
theorem dX4_as_66 : decode cX4_as 66 = .ok (.invokevirtual 60, 3) := by decide +kernel
theorem dX4_as_69 : decode cX4_as 69 = .ok (.ireturn, 1) := by decide +kernel
def rX4_as : Room := { frames := 3, cells := 0, slots := 0, locals := 65 }
def vX4_as_c14 (p1 : Int32) (p2 : Int32) (J : JS) : Int32 × JS := (((vX4_tell J (0 : Int32)).1), ((vX4_tell J (0 : Int32)).2))
def kX4_as_c14 (p1 : Int32) (p2 : Int32) (J : JS) : Prop := (kX4_tell J (0 : Int32)) ∧ True
def vX4_as (J0 : JS) (p1 : Int32) (p2 : Int32) : Int32 × JS := if ((vX4_isSpot p1) = 0) then (vX4_as_c14 p1 p2 J0) else if ((vX4_isKind p2) = 0) then (vX4_as_c14 p1 p2 J0) else if ((vX4_isThing J0 ((e_spots (j_E J0)) (p1).toNatClampNeg)) = 0) then (((vX4_tell J0 (5 : Int32)).1), ((vX4_tell J0 (5 : Int32)).2)) else if ((vX1_isOf (vX0_trait (j_E J0) ((e_spots (j_E J0)) (p1).toNatClampNeg) (0 : Int32)) p2) = 0) then (((vX4_tell J0 (2 : Int32)).1), ((vX4_tell J0 (2 : Int32)).2)) else (((e_spots (j_E J0)) (p1).toNatClampNeg), J0)
def kX4_as (J0 : JS) (p1 : Int32) (p2 : Int32) : Prop := (kX4_isSpot p1) ∧ (((vX4_isSpot p1) = 0) → ((kX4_as_c14 p1 p2 J0))) ∧ (¬ ((vX4_isSpot p1) = 0) → ((kX4_isKind p2) ∧ (((vX4_isKind p2) = 0) → ((kX4_as_c14 p1 p2 J0))) ∧ (¬ ((vX4_isKind p2) = 0) → ((vp_in p1 10) ∧ (kX4_isThing J0 ((e_spots (j_E J0)) (p1).toNatClampNeg)) ∧ (((vX4_isThing J0 ((e_spots (j_E J0)) (p1).toNatClampNeg)) = 0) → ((kX4_tell J0 (5 : Int32)) ∧ True)) ∧ (¬ ((vX4_isThing J0 ((e_spots (j_E J0)) (p1).toNatClampNeg)) = 0) → ((kX0_trait (j_E J0) ((e_spots (j_E J0)) (p1).toNatClampNeg) (0 : Int32)) ∧ (kX1_isOf (vX0_trait (j_E J0) ((e_spots (j_E J0)) (p1).toNatClampNeg) (0 : Int32)) p2) ∧ (((vX1_isOf (vX0_trait (j_E J0) ((e_spots (j_E J0)) (p1).toNatClampNeg) (0 : Int32)) p2) = 0) → ((kX4_tell J0 (2 : Int32)) ∧ True)) ∧ (¬ ((vX1_isOf (vX0_trait (j_E J0) ((e_spots (j_E J0)) (p1).toNatClampNeg) (0 : Int32)) p2) = 0) → True)))))))
set_option maxHeartbeats 4000000 in
set_option maxRecDepth 100000 in
theorem hX4_as (l : Launch) (D : va_G) (K : JK) (G : JG) (a : Nat → Nat) (J0 : JS) (p1 : Int32) (p2 : Int32) (hk : kX4_as J0 p1 p2) (sz : Nat) : Met l yX4_as (.code yX4_as cX4_as 4 (some .int) :: jGW) rX4_as (jPre D (jT K) G [.ref (a 0), .int p1, .int p2] (wJ K a J0) sz) (jQi D (jT K) ((vX4_as J0 p1 p2).1) (wJ K a ((vX4_as J0 p1 p2).2)) (va_A (wJ K a J0) sz)) 0 0 (va_A (wJ K a J0) sz) := by
  refine jEi (by decide) (Nat.le_of_ble_eq_true rfl) (fun p e s m below meth c A Q ls hat hP hD hS hl hend => ?_)
  obtain ⟨hx, hb, hml, hown, hts, hK, hZ, hA⟩ := hat
  have hl : lv_has ls 4 [(0, .ref (a 0)), (1, .int p1), (2, .int p2)] := hl
  have hc14 : ∀ (J : JS) (H : Heap) (locs : List Loc) (ls : Array Slot), (vX4_as J0 p1 p2) = vX4_as_c14 p1 p2 J → kX4_as_c14 p1 p2 J → va_P D vwCl (wJ K a J) H → va_D A (wJ K a J) → va_S A s.heap H locs → lv_has ls 4 [(0, .ref (a 0)), (1, .int p1), (2, .int p2)] → W p l e rX4_as s m ([.ref (a 0), .int p1, .int p2] : List Value).toArray below meth c H locs 0 0 Q (F0 m 14 ls []) := by
    intro J H locs ls hV hk hP hD hS hl
    rw [vX4_as_c14] at hV
    rw [kX4_as_c14] at hk
    refine lv_aload_n hx hb dX4_as_14 rfl (lv_at hl 0 rfl) ?_
    refine lv_iconst (v := (0 : Int32)) hx hb dX4_as_15 (by decide) ?_
    obtain ⟨h14, hk⟩ := hk
    refine jci (jrunV (As := [.int (0 : Int32)]) (rest := []) hx hb hml hown hts hK hZ hA hP hD hS hl.1 mf_X4_tell kl_X4_60 ⟨rfl, rfl, Nat.le_of_ble_eq_true rfl, Nat.le_of_ble_eq_true rfl⟩ ⟨Nat.zero_le _, Nat.zero_le _⟩ [0, 1, 2, 3, 4, 5, 6, 7, 8, 9, 10, 11, 12, 13, 14, 15, 16, 17, 18, 19, 20, 21, 22, 23, 24, 25, 26, 27, 28, 29] rfl (js45 K a J) rfl rfl rfl (hX4_tell l D K G a J (0 : Int32) h14 _) rfl rfl (Nat.le_of_ble_eq_true rfl) dX4_as_16) hA hP hD hS [0, 1, 2, 3, 4, 5, 6, 7, 8, 9, 10, 11, 12, 13, 14, 15, 16, 17, 18, 19, 20, 21, 22, 23, 24, 25, 26, 27, 28, 29] (js45 K a J) (jh52 K a J ((vX4_tell J (0 : Int32)).2)) (fun H locs hP hD hS => ?_)
    have hP := jeP (jp53 K a J ((vX4_tell J (0 : Int32)).2)) hP
    have hD := jeD (jp53 K a J ((vX4_tell J (0 : Int32)).2)) hD
    exact hend _ _ _ _ _ (by rw [hV]; exact hP) (by rw [hV]; exact hD) hS (by rw [hV]) rfl dX4_as_19
  have hV := vX4_as.eq_1 J0 p1 p2
  rw [kX4_as] at hk
  refine lv_iload_n hx hb dX4_as_0 rfl (lv_at hl 1 rfl) ?_
  obtain ⟨h15, hk⟩ := hk
  refine jci0 (jrunS (As := [.int p1]) (rest := []) hx hb hml hown hts hK hZ hA hP hD hS hl.1 mf_X4_isSpot kl_X4_193 ⟨rfl, rfl, Nat.le_of_ble_eq_true rfl, Nat.le_of_ble_eq_true rfl⟩ ⟨Nat.zero_le _, Nat.zero_le _⟩ [] rfl rfl (hX4_isSpot l D K G p1 h15 _) rfl rfl (Nat.le_of_ble_eq_true rfl) dX4_as_1) hA hP hD hS [] rfl (fun H locs hP hS => ?_)
  refine lv_if_eq (tgt := 14) hx hb dX4_as_4 (by decide) (fun c16 => ?_) (fun c16 => ?_)
  · have hV := hV.trans (if_pos c16)
    have hk := hk.1 c16
    exact hc14 J0 _ _ _ hV hk hP hD hS (lv_sub hl [0, 1, 2] rfl)
  · have hV := hV.trans (if_neg c16)
    have hk := hk.2 c16
    refine lv_iload_n hx hb dX4_as_7 rfl (lv_at hl 2 rfl) ?_
    obtain ⟨h17, hk⟩ := hk
    refine jci0 (jrunS (As := [.int p2]) (rest := []) hx hb hml hown hts hK hZ hA hP hD hS hl.1 mf_X4_isKind kl_X4_81 ⟨rfl, rfl, Nat.le_of_ble_eq_true rfl, Nat.le_of_ble_eq_true rfl⟩ ⟨Nat.zero_le _, Nat.zero_le _⟩ [] rfl rfl (hX4_isKind l D K G p2 h17 _) rfl rfl (Nat.le_of_ble_eq_true rfl) dX4_as_8) hA hP hD hS [] rfl (fun H locs hP hS => ?_)
    refine lv_if_ne (tgt := 20) hx hb dX4_as_11 (by decide) (fun c18 => ?_) (fun c18 => ?_)
    · have hV := hV.trans (if_neg c18)
      have hk := hk.2 c18
      refine lv_aload_n hx hb dX4_as_20 rfl (lv_at hl 0 rfl) ?_
      refine gf_X4_10 (v := .ref (a 1)) hx hb hts hown hK hZ hP (0) rfl rfl dX4_as_21 ?_
      refine gf_X4_196 (v := .ref (a 5)) hx hb hts hown hK hZ hP (1) rfl rfl dX4_as_24 ?_
      refine lv_iload_n hx hb dX4_as_27 rfl (lv_at hl 1 rfl) ?_
      obtain ⟨h19, hk⟩ := hk
      refine va_iald hx hb hK hP (5) 0 rfl rfl h19 dX4_as_28 ?_
      refine lv_istore_n (lv' := [(3, .int ((e_spots (j_E J0)) (p1).toNatClampNeg)), (0, .ref (a 0)), (1, .int p1), (2, .int p2)]) hx hb dX4_as_29 rfl hl (by decide) rfl (fun ls hl => ?_)
      refine lv_aload_n hx hb dX4_as_30 rfl (lv_at hl 1 rfl) ?_
      refine lv_iload_n hx hb dX4_as_31 rfl (lv_at hl 0 rfl) ?_
      obtain ⟨h20, hk⟩ := hk
      refine jci0 (jrunV (As := [.int ((e_spots (j_E J0)) (p1).toNatClampNeg)]) (rest := []) hx hb hml hown hts hK hZ hA hP hD hS hl.1 mf_X4_isThing kl_X4_94 ⟨rfl, rfl, Nat.le_of_ble_eq_true rfl, Nat.le_of_ble_eq_true rfl⟩ ⟨Nat.zero_le _, Nat.zero_le _⟩ [0, 1, 2, 3, 4, 5, 6, 7, 8, 9, 10, 11, 12, 13, 14, 15, 16, 17, 18, 19, 20, 21, 22, 23, 24, 25, 26, 27, 28, 29] rfl (js45 K a J0) rfl rfl rfl (hX4_isThing l D K G a J0 ((e_spots (j_E J0)) (p1).toNatClampNeg) h20 _) rfl rfl (Nat.le_of_ble_eq_true rfl) dX4_as_32) hA hP hD hS [0, 1, 2, 3, 4, 5, 6, 7, 8, 9, 10, 11, 12, 13, 14, 15, 16, 17, 18, 19, 20, 21, 22, 23, 24, 25, 26, 27, 28, 29] (js45 K a J0) (fun H locs hP hS => ?_)
      refine lv_if_ne (tgt := 44) hx hb dX4_as_35 (by decide) (fun c21 => ?_) (fun c21 => ?_)
      · have hV := hV.trans (if_neg c21)
        have hk := hk.2 c21
        refine lv_aload_n hx hb dX4_as_44 rfl (lv_at hl 1 rfl) ?_
        refine gf_X4_10 (v := .ref (a 1)) hx hb hts hown hK hZ hP (0) rfl rfl dX4_as_45 ?_
        refine lv_iload_n hx hb dX4_as_48 rfl (lv_at hl 0 rfl) ?_
        refine lv_iconst (v := (0 : Int32)) hx hb dX4_as_49 (by decide) ?_
        obtain ⟨h22, hk⟩ := hk
        refine jci0 (jrunV (As := [.int ((e_spots (j_E J0)) (p1).toNatClampNeg), .int (0 : Int32)]) (rest := []) hx hb hml hown hts hK hZ hA hP hD hS hl.1 mf_X0_trait kl_X4_100 ⟨rfl, rfl, Nat.le_of_ble_eq_true rfl, Nat.le_of_ble_eq_true rfl⟩ ⟨Nat.zero_le _, Nat.zero_le _⟩ [1, 2, 3, 4, 5] rfl (js43 K a J0) rfl rfl rfl (hX0_trait l D K G (fun k => a (1 + k)) (j_E J0) ((e_spots (j_E J0)) (p1).toNatClampNeg) (0 : Int32) h22 _) rfl rfl (Nat.le_of_ble_eq_true rfl) dX4_as_50) hA hP hD hS [1, 2, 3, 4, 5] (js43 K a J0) (fun H locs hP hS => ?_)
        refine lv_iload_n hx hb dX4_as_53 rfl (lv_at hl 3 rfl) ?_
        obtain ⟨h23, hk⟩ := hk
        refine jci0 (jrunS (As := [.int (vX0_trait (j_E J0) ((e_spots (j_E J0)) (p1).toNatClampNeg) (0 : Int32)), .int p2]) (rest := []) hx hb hml hown hts hK hZ hA hP hD hS hl.1 mf_X1_isOf kl_X4_199 ⟨rfl, rfl, Nat.le_of_ble_eq_true rfl, Nat.le_of_ble_eq_true rfl⟩ ⟨Nat.zero_le _, Nat.zero_le _⟩ [] rfl rfl (hX1_isOf l D K G (vX0_trait (j_E J0) ((e_spots (j_E J0)) (p1).toNatClampNeg) (0 : Int32)) p2 h23 _) rfl rfl (Nat.le_of_ble_eq_true rfl) dX4_as_54) hA hP hD hS [] rfl (fun H locs hP hS => ?_)
        refine lv_if_eq (tgt := 64) hx hb dX4_as_57 (by decide) (fun c24 => ?_) (fun c24 => ?_)
        · have hV := hV.trans (if_pos c24)
          have hk := hk.1 c24
          refine lv_aload_n hx hb dX4_as_64 rfl (lv_at hl 1 rfl) ?_
          refine lv_iconst (v := (2 : Int32)) hx hb dX4_as_65 (by decide) ?_
          obtain ⟨h25, hk⟩ := hk
          refine jci (jrunV (As := [.int (2 : Int32)]) (rest := []) hx hb hml hown hts hK hZ hA hP hD hS hl.1 mf_X4_tell kl_X4_60 ⟨rfl, rfl, Nat.le_of_ble_eq_true rfl, Nat.le_of_ble_eq_true rfl⟩ ⟨Nat.zero_le _, Nat.zero_le _⟩ [0, 1, 2, 3, 4, 5, 6, 7, 8, 9, 10, 11, 12, 13, 14, 15, 16, 17, 18, 19, 20, 21, 22, 23, 24, 25, 26, 27, 28, 29] rfl (js45 K a J0) rfl rfl rfl (hX4_tell l D K G a J0 (2 : Int32) h25 _) rfl rfl (Nat.le_of_ble_eq_true rfl) dX4_as_66) hA hP hD hS [0, 1, 2, 3, 4, 5, 6, 7, 8, 9, 10, 11, 12, 13, 14, 15, 16, 17, 18, 19, 20, 21, 22, 23, 24, 25, 26, 27, 28, 29] (js45 K a J0) (jh52 K a J0 ((vX4_tell J0 (2 : Int32)).2)) (fun H locs hP hD hS => ?_)
          have hP := jeP (jp53 K a J0 ((vX4_tell J0 (2 : Int32)).2)) hP
          have hD := jeD (jp53 K a J0 ((vX4_tell J0 (2 : Int32)).2)) hD
          exact hend _ _ _ _ _ (by rw [hV]; exact hP) (by rw [hV]; exact hD) hS (by rw [hV]) rfl dX4_as_69
        · have hV := hV.trans (if_neg c24)
          have hk := hk.2 c24
          refine lv_iload_n hx hb dX4_as_60 rfl (lv_at hl 0 rfl) ?_
          refine lv_goto (tgt := 69) hx hb dX4_as_61 (by decide) ?_
          exact hend _ _ _ _ _ (by rw [hV]; exact hP) (by rw [hV]; exact hD) hS (by rw [hV]) rfl dX4_as_69
      · have hV := hV.trans (if_pos c21)
        have hk := hk.1 c21
        refine lv_aload_n hx hb dX4_as_38 rfl (lv_at hl 1 rfl) ?_
        refine lv_iconst (v := (5 : Int32)) hx hb dX4_as_39 (by decide) ?_
        obtain ⟨h26, hk⟩ := hk
        refine jci (jrunV (As := [.int (5 : Int32)]) (rest := []) hx hb hml hown hts hK hZ hA hP hD hS hl.1 mf_X4_tell kl_X4_60 ⟨rfl, rfl, Nat.le_of_ble_eq_true rfl, Nat.le_of_ble_eq_true rfl⟩ ⟨Nat.zero_le _, Nat.zero_le _⟩ [0, 1, 2, 3, 4, 5, 6, 7, 8, 9, 10, 11, 12, 13, 14, 15, 16, 17, 18, 19, 20, 21, 22, 23, 24, 25, 26, 27, 28, 29] rfl (js45 K a J0) rfl rfl rfl (hX4_tell l D K G a J0 (5 : Int32) h26 _) rfl rfl (Nat.le_of_ble_eq_true rfl) dX4_as_40) hA hP hD hS [0, 1, 2, 3, 4, 5, 6, 7, 8, 9, 10, 11, 12, 13, 14, 15, 16, 17, 18, 19, 20, 21, 22, 23, 24, 25, 26, 27, 28, 29] (js45 K a J0) (jh52 K a J0 ((vX4_tell J0 (5 : Int32)).2)) (fun H locs hP hD hS => ?_)
        have hP := jeP (jp53 K a J0 ((vX4_tell J0 (5 : Int32)).2)) hP
        have hD := jeD (jp53 K a J0 ((vX4_tell J0 (5 : Int32)).2)) hD
        exact hend _ _ _ _ _ (by rw [hV]; exact hP) (by rw [hV]; exact hD) hS (by rw [hV]) rfl dX4_as_43
    · have hV := hV.trans (if_pos c18)
      have hk := hk.1 c18
      exact hc14 J0 _ _ _ hV hk hP hD hS (lv_sub hl [0, 1, 2] rfl)
theorem dX4_awardedBehind_0 : decode cX4_awardedBehind 0 = .ok (.aload_n 0, 1) := by decide +kernel
theorem dX4_awardedBehind_1 : decode cX4_awardedBehind 1 = .ok (.getfield 19, 3) := by decide +kernel
theorem dX4_awardedBehind_4 : decode cX4_awardedBehind 4 = .ok (.iload_n 1, 1) := by decide +kernel
theorem dX4_awardedBehind_5 : decode cX4_awardedBehind 5 = .ok (.invokevirtual 114, 3) := by decide +kernel
theorem dX4_awardedBehind_8 : decode cX4_awardedBehind 8 = .ok (.aload_n 0, 1) := by decide +kernel
theorem dX4_awardedBehind_9 : decode cX4_awardedBehind 9 = .ok (.getfield 19, 3) := by decide +kernel
theorem dX4_awardedBehind_12 : decode cX4_awardedBehind 12 = .ok (.invokevirtual 118, 3) := by decide +kernel
theorem dX4_awardedBehind_15 : decode cX4_awardedBehind 15 = .ok (.ireturn, 1) := by decide +kernel
def rX4_awardedBehind : Room := { frames := 5, cells := 0, slots := 0, locals := 108 }
def vX4_awardedBehind_c8 (p1 : Int32) (J : JS) : Int32 × JS := ((vX0_awarded (j_T J)), J)
def kX4_awardedBehind_c8 (p1 : Int32) (J : JS) : Prop := (kX0_awarded (j_T J)) ∧ True
def vX4_awardedBehind (J0 : JS) (p1 : Int32) : Int32 × JS := (vX4_awardedBehind_c8 p1 (j_s_T J0 (vX0_passDays (j_T J0) p1)))
def kX4_awardedBehind (J0 : JS) (p1 : Int32) : Prop := (kX0_passDays (j_T J0) p1) ∧ (kX4_awardedBehind_c8 p1 (j_s_T J0 (vX0_passDays (j_T J0) p1)))
set_option maxHeartbeats 4000000 in
set_option maxRecDepth 100000 in
theorem hX4_awardedBehind (l : Launch) (D : va_G) (K : JK) (G : JG) (a : Nat → Nat) (J0 : JS) (p1 : Int32) (hk : kX4_awardedBehind J0 p1) (sz : Nat) : Met l yX4_awardedBehind (.code yX4_awardedBehind cX4_awardedBehind 2 (some .int) :: jGW) rX4_awardedBehind (jPre D (jT K) G [.ref (a 0), .int p1] (wJ K a J0) sz) (jQi D (jT K) ((vX4_awardedBehind J0 p1).1) (wJ K a ((vX4_awardedBehind J0 p1).2)) (va_A (wJ K a J0) sz)) 0 0 (va_A (wJ K a J0) sz) := by
  refine jEi (by decide) (Nat.le_of_ble_eq_true rfl) (fun p e s m below meth c A Q ls hat hP hD hS hl hend => ?_)
  obtain ⟨hx, hb, hml, hown, hts, hK, hZ, hA⟩ := hat
  have hl : lv_has ls 2 [(0, .ref (a 0)), (1, .int p1)] := hl
  have hc8 : ∀ (J : JS) (H : Heap) (locs : List Loc) (ls : Array Slot), (vX4_awardedBehind J0 p1) = vX4_awardedBehind_c8 p1 J → kX4_awardedBehind_c8 p1 J → va_P D vwCl (wJ K a J) H → va_D A (wJ K a J) → va_S A s.heap H locs → lv_has ls 2 [(0, .ref (a 0)), (1, .int p1)] → W p l e rX4_awardedBehind s m ([.ref (a 0), .int p1] : List Value).toArray below meth c H locs 0 0 Q (F0 m 8 ls []) := by
    intro J H locs ls hV hk hP hD hS hl
    rw [vX4_awardedBehind_c8] at hV
    rw [kX4_awardedBehind_c8] at hk
    refine lv_aload_n hx hb dX4_awardedBehind_8 rfl (lv_at hl 0 rfl) ?_
    refine gf_X4_19 (v := .ref (a 11)) hx hb hts hown hK hZ hP (0) rfl rfl dX4_awardedBehind_9 ?_
    obtain ⟨h3, hk⟩ := hk
    refine jci0 (jrunV (As := []) (rest := []) hx hb hml hown hts hK hZ hA hP hD hS hl.1 mf_X0_awarded kl_X4_118 ⟨rfl, rfl, Nat.le_of_ble_eq_true rfl, Nat.le_of_ble_eq_true rfl⟩ ⟨Nat.zero_le _, Nat.zero_le _⟩ [11, 12, 13, 14, 15] rfl (js49 K a J) rfl rfl rfl (hX0_awarded l D K G (fun k => a (11 + k)) (j_T J) h3 _) rfl rfl (Nat.le_of_ble_eq_true rfl) dX4_awardedBehind_12) hA hP hD hS [11, 12, 13, 14, 15] (js49 K a J) (fun H locs hP hS => ?_)
    exact hend _ _ _ _ _ (by rw [hV]; exact hP) (by rw [hV]; exact hD) hS (by rw [hV]) rfl dX4_awardedBehind_15
  have hV := vX4_awardedBehind.eq_1 J0 p1
  rw [kX4_awardedBehind] at hk
  refine lv_aload_n hx hb dX4_awardedBehind_0 rfl (lv_at hl 0 rfl) ?_
  refine gf_X4_19 (v := .ref (a 11)) hx hb hts hown hK hZ hP (0) rfl rfl dX4_awardedBehind_1 ?_
  refine lv_iload_n hx hb dX4_awardedBehind_4 rfl (lv_at hl 1 rfl) ?_
  obtain ⟨h4, hk⟩ := hk
  refine jcv (jrunV (As := [.int p1]) (rest := []) hx hb hml hown hts hK hZ hA hP hD hS hl.1 mf_X0_passDays kl_X4_114 ⟨rfl, rfl, Nat.le_of_ble_eq_true rfl, Nat.le_of_ble_eq_true rfl⟩ ⟨Nat.zero_le _, Nat.zero_le _⟩ [11, 12, 13, 14, 15] rfl (js49 K a J0) rfl rfl rfl (hX0_passDays l D K G (fun k => a (11 + k)) (j_T J0) p1 h4 _) rfl rfl (Nat.le_of_ble_eq_true rfl) dX4_awardedBehind_5) hA hP hD hS [11, 12, 13, 14, 15] (js49 K a J0) (jh50 K a J0 (vX0_passDays (j_T J0) p1)) (fun H locs hP hD hS => ?_)
  have hP := jeP (jp51 K a J0 (vX0_passDays (j_T J0) p1)) hP
  have hD := jeD (jp51 K a J0 (vX0_passDays (j_T J0) p1)) hD
  exact hc8 (j_s_T J0 (vX0_passDays (j_T J0) p1)) _ _ _ hV hk hP hD hS (lv_sub hl [0, 1] rfl)
theorem ja54 (K : JK) (a : Nat → Nat) (J : JS) (f : FA) : (wJ K a J).set 3 ((a 3), .inl (K.1, 6, .inl f)) = (wJ K a (j_s_E J (e_s_list (j_E J) f))) := rfl
theorem dX4_blow_0 : decode cX4_blow 0 = .ok (.iload_n 1, 1) := by decide +kernel
theorem dX4_blow_1 : decode cX4_blow 1 = .ok (.invokestatic 67, 3) := by decide +kernel
theorem dX4_blow_4 : decode cX4_blow 4 = .ok (.ifCond .eq 20, 3) := by decide +kernel
theorem dX4_blow_7 : decode cX4_blow 7 = .ok (.iload_n 2, 1) := by decide +kernel
theorem dX4_blow_8 : decode cX4_blow 8 = .ok (.iconst 0, 1) := by decide +kernel
theorem dX4_blow_9 : decode cX4_blow 9 = .ok (.bipush 7, 2) := by decide +kernel
theorem dX4_blow_11 : decode cX4_blow 11 = .ok (.invokestatic 50, 3) := by decide +kernel
theorem dX4_blow_14 : decode cX4_blow 14 = .ok (.ifCond .eq 10, 3) := by decide +kernel
theorem dX4_blow_17 : decode cX4_blow 17 = .ok (.iload_n 3, 1) := by decide +kernel
theorem dX4_blow_18 : decode cX4_blow 18 = .ok (.invokestatic 71, 3) := by decide +kernel
theorem dX4_blow_21 : decode cX4_blow 21 = .ok (.ifCond .ne 9, 3) := by decide +kernel
theorem dX4_blow_24 : decode cX4_blow 24 = .ok (.aload_n 0, 1) := by decide +kernel
theorem dX4_blow_25 : decode cX4_blow 25 = .ok (.iconst 0, 1) := by decide +kernel
theorem dX4_blow_26 : decode cX4_blow 26 = .ok (.invokevirtual 60, 3) := by decide +kernel
theorem dX4_blow_29 : decode cX4_blow 29 = .ok (.ireturn, 1) := by decide +kernel
theorem dX4_blow_30 : decode cX4_blow 30 = .ok (.aload_n 0, 1) := by decide +kernel
theorem dX4_blow_31 : decode cX4_blow 31 = .ok (.getfield 10, 3) := by decide +kernel
theorem dX4_blow_34 : decode cX4_blow 34 = .ok (.getfield 74, 3) := by decide +kernel
theorem dX4_blow_37 : decode cX4_blow 37 = .ok (.iload_n 1, 1) := by decide +kernel
theorem dX4_blow_38 : decode cX4_blow 38 = .ok (.iaload, 1) := by decide +kernel
theorem dX4_blow_39 : decode cX4_blow 39 = .ok (.istore 4, 2) := by decide +kernel
theorem dX4_blow_41 : decode cX4_blow 41 = .ok (.aload_n 0, 1) := by decide +kernel
theorem dX4_blow_42 : decode cX4_blow 42 = .ok (.getfield 10, 3) := by decide +kernel
theorem dX4_blow_45 : decode cX4_blow 45 = .ok (.getfield 74, 3) := by decide +kernel
theorem dX4_blow_48 : decode cX4_blow 48 = .ok (.iload_n 1, 1) := by decide +kernel
theorem dX4_blow_49 : decode cX4_blow 49 = .ok (.iload_n 2, 1) := by decide +kernel
theorem dX4_blow_50 : decode cX4_blow 50 = .ok (.iload_n 3, 1) := by decide +kernel
theorem dX4_blow_51 : decode cX4_blow 51 = .ok (.invokestatic 77, 3) := by decide +kernel
theorem dX4_blow_54 : decode cX4_blow 54 = .ok (.iastore, 1) := by decide +kernel
theorem dX4_blow_55 : decode cX4_blow 55 = .ok (.iload 4, 2) := by decide +kernel
theorem dX4_blow_57 : decode cX4_blow 57 = .ok (.ireturn, 1) := by decide +kernel
def rX4_blow : Room := { frames := 2, cells := 0, slots := 0, locals := 43 }
def vX4_blow_c24 (p1 : Int32) (p2 : Int32) (p3 : Int32) (J : JS) : Int32 × JS := (((vX4_tell J (0 : Int32)).1), ((vX4_tell J (0 : Int32)).2))
def kX4_blow_c24 (p1 : Int32) (p2 : Int32) (p3 : Int32) (J : JS) : Prop := (kX4_tell J (0 : Int32)) ∧ True
def vX4_blow (J0 : JS) (p1 : Int32) (p2 : Int32) (p3 : Int32) : Int32 × JS := if ((vX4_isPlace p1) = 0) then (vX4_blow_c24 p1 p2 p3 J0) else if ((vX4_within p2 (0 : Int32) (7 : Int32)) = 0) then (vX4_blow_c24 p1 p2 p3 J0) else if ((vX4_isForce p3) = 0) then (vX4_blow_c24 p1 p2 p3 J0) else (((e_list (j_E J0)) (p1).toNatClampNeg), (j_s_E J0 (e_s_list (j_E J0) (upd (e_list (j_E J0)) (p1).toNatClampNeg (vX4_blowOf p2 p3)))))
def kX4_blow (J0 : JS) (p1 : Int32) (p2 : Int32) (p3 : Int32) : Prop := (kX4_isPlace p1) ∧ (((vX4_isPlace p1) = 0) → ((kX4_blow_c24 p1 p2 p3 J0))) ∧ (¬ ((vX4_isPlace p1) = 0) → ((((vX4_within p2 (0 : Int32) (7 : Int32)) = 0) → ((kX4_blow_c24 p1 p2 p3 J0))) ∧ (¬ ((vX4_within p2 (0 : Int32) (7 : Int32)) = 0) → ((kX4_isForce p3) ∧ (((vX4_isForce p3) = 0) → ((kX4_blow_c24 p1 p2 p3 J0))) ∧ (¬ ((vX4_isForce p3) = 0) → ((vp_in p1 6) ∧ (vp_in p1 6) ∧ True))))))
set_option maxHeartbeats 4000000 in
set_option maxRecDepth 100000 in
theorem hX4_blow (l : Launch) (D : va_G) (K : JK) (G : JG) (a : Nat → Nat) (J0 : JS) (p1 : Int32) (p2 : Int32) (p3 : Int32) (hk : kX4_blow J0 p1 p2 p3) (sz : Nat) : Met l yX4_blow (.code yX4_blow cX4_blow 5 (some .int) :: jGW) rX4_blow (jPre D (jT K) G [.ref (a 0), .int p1, .int p2, .int p3] (wJ K a J0) sz) (jQi D (jT K) ((vX4_blow J0 p1 p2 p3).1) (wJ K a ((vX4_blow J0 p1 p2 p3).2)) (va_A (wJ K a J0) sz)) 0 0 (va_A (wJ K a J0) sz) := by
  refine jEi (by decide) (Nat.le_of_ble_eq_true rfl) (fun p e s m below meth c A Q ls hat hP hD hS hl hend => ?_)
  obtain ⟨hx, hb, hml, hown, hts, hK, hZ, hA⟩ := hat
  have hl : lv_has ls 5 [(0, .ref (a 0)), (1, .int p1), (2, .int p2), (3, .int p3)] := hl
  have hc24 : ∀ (J : JS) (H : Heap) (locs : List Loc) (ls : Array Slot), (vX4_blow J0 p1 p2 p3) = vX4_blow_c24 p1 p2 p3 J → kX4_blow_c24 p1 p2 p3 J → va_P D vwCl (wJ K a J) H → va_D A (wJ K a J) → va_S A s.heap H locs → lv_has ls 5 [(0, .ref (a 0)), (1, .int p1), (2, .int p2), (3, .int p3)] → W p l e rX4_blow s m ([.ref (a 0), .int p1, .int p2, .int p3] : List Value).toArray below meth c H locs 0 0 Q (F0 m 24 ls []) := by
    intro J H locs ls hV hk hP hD hS hl
    rw [vX4_blow_c24] at hV
    rw [kX4_blow_c24] at hk
    refine lv_aload_n hx hb dX4_blow_24 rfl (lv_at hl 0 rfl) ?_
    refine lv_iconst (v := (0 : Int32)) hx hb dX4_blow_25 (by decide) ?_
    obtain ⟨h9, hk⟩ := hk
    refine jci (jrunV (As := [.int (0 : Int32)]) (rest := []) hx hb hml hown hts hK hZ hA hP hD hS hl.1 mf_X4_tell kl_X4_60 ⟨rfl, rfl, Nat.le_of_ble_eq_true rfl, Nat.le_of_ble_eq_true rfl⟩ ⟨Nat.zero_le _, Nat.zero_le _⟩ [0, 1, 2, 3, 4, 5, 6, 7, 8, 9, 10, 11, 12, 13, 14, 15, 16, 17, 18, 19, 20, 21, 22, 23, 24, 25, 26, 27, 28, 29] rfl (js45 K a J) rfl rfl rfl (hX4_tell l D K G a J (0 : Int32) h9 _) rfl rfl (Nat.le_of_ble_eq_true rfl) dX4_blow_26) hA hP hD hS [0, 1, 2, 3, 4, 5, 6, 7, 8, 9, 10, 11, 12, 13, 14, 15, 16, 17, 18, 19, 20, 21, 22, 23, 24, 25, 26, 27, 28, 29] (js45 K a J) (jh52 K a J ((vX4_tell J (0 : Int32)).2)) (fun H locs hP hD hS => ?_)
    have hP := jeP (jp53 K a J ((vX4_tell J (0 : Int32)).2)) hP
    have hD := jeD (jp53 K a J ((vX4_tell J (0 : Int32)).2)) hD
    exact hend _ _ _ _ _ (by rw [hV]; exact hP) (by rw [hV]; exact hD) hS (by rw [hV]) rfl dX4_blow_29
  have hV := vX4_blow.eq_1 J0 p1 p2 p3
  rw [kX4_blow] at hk
  refine lv_iload_n hx hb dX4_blow_0 rfl (lv_at hl 1 rfl) ?_
  obtain ⟨h10, hk⟩ := hk
  refine jci0 (jrunS (As := [.int p1]) (rest := []) hx hb hml hown hts hK hZ hA hP hD hS hl.1 mf_X4_isPlace kl_X4_67 ⟨rfl, rfl, Nat.le_of_ble_eq_true rfl, Nat.le_of_ble_eq_true rfl⟩ ⟨Nat.zero_le _, Nat.zero_le _⟩ [] rfl rfl (hX4_isPlace l D K G p1 h10 _) rfl rfl (Nat.le_of_ble_eq_true rfl) dX4_blow_1) hA hP hD hS [] rfl (fun H locs hP hS => ?_)
  refine lv_if_eq (tgt := 24) hx hb dX4_blow_4 (by decide) (fun c11 => ?_) (fun c11 => ?_)
  · have hV := hV.trans (if_pos c11)
    have hk := hk.1 c11
    exact hc24 J0 _ _ _ hV hk hP hD hS (lv_sub hl [0, 1, 2, 3] rfl)
  · have hV := hV.trans (if_neg c11)
    have hk := hk.2 c11
    refine lv_iload_n hx hb dX4_blow_7 rfl (lv_at hl 2 rfl) ?_
    refine lv_iconst (v := (0 : Int32)) hx hb dX4_blow_8 (by decide) ?_
    refine lv_bipush (v := (7 : Int32)) hx hb dX4_blow_9 (by decide) ?_
    refine jci0 (jrunS (As := [.int p2, .int (0 : Int32), .int (7 : Int32)]) (rest := []) hx hb hml hown hts hK hZ hA hP hD hS hl.1 mf_X4_within kl_X4_50 ⟨rfl, rfl, Nat.le_of_ble_eq_true rfl, Nat.le_of_ble_eq_true rfl⟩ ⟨Nat.zero_le _, Nat.zero_le _⟩ [] rfl rfl (hX4_within l D K G p2 (0 : Int32) (7 : Int32) _) rfl rfl (Nat.le_of_ble_eq_true rfl) dX4_blow_11) hA hP hD hS [] rfl (fun H locs hP hS => ?_)
    refine lv_if_eq (tgt := 24) hx hb dX4_blow_14 (by decide) (fun c12 => ?_) (fun c12 => ?_)
    · have hV := hV.trans (if_pos c12)
      have hk := hk.1 c12
      exact hc24 J0 _ _ _ hV hk hP hD hS (lv_sub hl [0, 1, 2, 3] rfl)
    · have hV := hV.trans (if_neg c12)
      have hk := hk.2 c12
      refine lv_iload_n hx hb dX4_blow_17 rfl (lv_at hl 3 rfl) ?_
      obtain ⟨h13, hk⟩ := hk
      refine jci0 (jrunS (As := [.int p3]) (rest := []) hx hb hml hown hts hK hZ hA hP hD hS hl.1 mf_X4_isForce kl_X4_71 ⟨rfl, rfl, Nat.le_of_ble_eq_true rfl, Nat.le_of_ble_eq_true rfl⟩ ⟨Nat.zero_le _, Nat.zero_le _⟩ [] rfl rfl (hX4_isForce l D K G p3 h13 _) rfl rfl (Nat.le_of_ble_eq_true rfl) dX4_blow_18) hA hP hD hS [] rfl (fun H locs hP hS => ?_)
      refine lv_if_ne (tgt := 30) hx hb dX4_blow_21 (by decide) (fun c14 => ?_) (fun c14 => ?_)
      · have hV := hV.trans (if_neg c14)
        have hk := hk.2 c14
        refine lv_aload_n hx hb dX4_blow_30 rfl (lv_at hl 0 rfl) ?_
        refine gf_X4_10 (v := .ref (a 1)) hx hb hts hown hK hZ hP (0) rfl rfl dX4_blow_31 ?_
        refine gf_X4_74 (v := .ref (a 3)) hx hb hts hown hK hZ hP (1) rfl rfl dX4_blow_34 ?_
        refine lv_iload_n hx hb dX4_blow_37 rfl (lv_at hl 1 rfl) ?_
        obtain ⟨h15, hk⟩ := hk
        refine va_iald hx hb hK hP (3) 0 rfl rfl h15 dX4_blow_38 ?_
        refine lv_istore (lv' := [(4, .int ((e_list (j_E J0)) (p1).toNatClampNeg)), (0, .ref (a 0)), (1, .int p1), (2, .int p2), (3, .int p3)]) hx hb dX4_blow_39 hl (by decide) rfl (fun ls hl => ?_)
        refine lv_aload_n hx hb dX4_blow_41 rfl (lv_at hl 1 rfl) ?_
        refine gf_X4_10 (v := .ref (a 1)) hx hb hts hown hK hZ hP (0) rfl rfl dX4_blow_42 ?_
        refine gf_X4_74 (v := .ref (a 3)) hx hb hts hown hK hZ hP (1) rfl rfl dX4_blow_45 ?_
        refine lv_iload_n hx hb dX4_blow_48 rfl (lv_at hl 2 rfl) ?_
        refine lv_iload_n hx hb dX4_blow_49 rfl (lv_at hl 3 rfl) ?_
        refine lv_iload_n hx hb dX4_blow_50 rfl (lv_at hl 4 rfl) ?_
        refine jci0 (jrunS (As := [.int p2, .int p3]) (rest := [.int p1, .ref (a 3)]) hx hb hml hown hts hK hZ hA hP hD hS hl.1 mf_X4_blowOf kl_X4_77 ⟨rfl, rfl, Nat.le_of_ble_eq_true rfl, Nat.le_of_ble_eq_true rfl⟩ ⟨Nat.zero_le _, Nat.zero_le _⟩ [] rfl rfl (hX4_blowOf l D K G p2 p3 _) rfl rfl (Nat.le_of_ble_eq_true rfl) dX4_blow_51) hA hP hD hS [] rfl (fun H locs hP hS => ?_)
        obtain ⟨h16, hk⟩ := hk
        refine va_iast hx hb hK hP hD hS (3) 0 rfl rfl h16 dX4_blow_54 (fun H locs hP hD hS => ?_)
        have hP := jeP (ja54 K a J0 (upd (e_list (j_E J0)) (p1).toNatClampNeg (vX4_blowOf p2 p3))) hP
        have hD := jeD (ja54 K a J0 (upd (e_list (j_E J0)) (p1).toNatClampNeg (vX4_blowOf p2 p3))) hD
        refine lv_iload hx hb dX4_blow_55 (lv_at hl 0 rfl) ?_
        exact hend _ _ _ _ _ (by rw [hV]; exact hP) (by rw [hV]; exact hD) hS (by rw [hV]) rfl dX4_blow_57
      · have hV := hV.trans (if_pos c14)
        have hk := hk.1 c14
        exact hc24 J0 _ _ _ hV hk hP hD hS (lv_sub hl [0, 1, 2, 3] rfl)
theorem jh55 (K : JK) (a : Nat → Nat) (J : JS) (Z0 : ES) : (wE K (fun k => a (1 + k)) Z0).map Prod.fst = (wE K (fun k => a (1 + k)) (j_E J)).map Prod.fst := rfl
theorem jp56 (K : JK) (a : Nat → Nat) (J : JS) (Z0 : ES) : jput (wJ K a J) [1, 2, 3, 4, 5] (wE K (fun k => a (1 + k)) Z0) = (wJ K a (j_s_E J Z0)) := rfl
theorem dX4_change_0 : decode cX4_change 0 = .ok (.aload_n 0, 1) := by decide +kernel
theorem dX4_change_1 : decode cX4_change 1 = .ok (.iload_n 1, 1) := by decide +kernel
theorem dX4_change_2 : decode cX4_change 2 = .ok (.invokevirtual 94, 3) := by decide +kernel
theorem dX4_change_5 : decode cX4_change 5 = .ok (.ifCond .eq 26, 3) := by decide +kernel
theorem dX4_change_8 : decode cX4_change 8 = .ok (.iload_n 2, 1) := by decide +kernel
theorem dX4_change_9 : decode cX4_change 9 = .ok (.iconst 0, 1) := by decide +kernel
theorem dX4_change_10 : decode cX4_change 10 = .ok (.bipush 6, 2) := by decide +kernel
theorem dX4_change_12 : decode cX4_change 12 = .ok (.invokestatic 50, 3) := by decide +kernel
theorem dX4_change_15 : decode cX4_change 15 = .ok (.ifCond .eq 16, 3) := by decide +kernel
theorem dX4_change_18 : decode cX4_change 18 = .ok (.iload_n 3, 1) := by decide +kernel
theorem dX4_change_19 : decode cX4_change 19 = .ok (.iconst 0, 1) := by decide +kernel
theorem dX4_change_20 : decode cX4_change 20 = .ok (.getstatic 84, 3) := by decide +kernel
theorem dX4_change_23 : decode cX4_change 23 = .ok (.iload_n 2, 1) := by decide +kernel
theorem dX4_change_24 : decode cX4_change 24 = .ok (.iaload, 1) := by decide +kernel
theorem dX4_change_25 : decode cX4_change 25 = .ok (.invokestatic 50, 3) := by decide +kernel
theorem dX4_change_28 : decode cX4_change 28 = .ok (.ifCond .ne 9, 3) := by decide +kernel
theorem dX4_change_31 : decode cX4_change 31 = .ok (.aload_n 0, 1) := by decide +kernel
theorem dX4_change_32 : decode cX4_change 32 = .ok (.iconst 0, 1) := by decide +kernel
theorem dX4_change_33 : decode cX4_change 33 = .ok (.invokevirtual 60, 3) := by decide +kernel
theorem dX4_change_36 : decode cX4_change 36 = .ok (.ireturn, 1) := by decide +kernel
theorem dX4_change_37 : decode cX4_change 37 = .ok (.aload_n 0, 1) := by decide +kernel
theorem dX4_change_38 : decode cX4_change 38 = .ok (.getfield 10, 3) := by decide +kernel
theorem dX4_change_41 : decode cX4_change 41 = .ok (.iload_n 1, 1) := by decide +kernel
theorem dX4_change_42 : decode cX4_change 42 = .ok (.iload_n 2, 1) := by decide +kernel
theorem dX4_change_43 : decode cX4_change 43 = .ok (.invokevirtual 100, 3) := by decide +kernel
theorem dX4_change_46 : decode cX4_change 46 = .ok (.istore 4, 2) := by decide +kernel
theorem dX4_change_48 : decode cX4_change 48 = .ok (.aload_n 0, 1) := by decide +kernel
theorem dX4_change_49 : decode cX4_change 49 = .ok (.getfield 10, 3) := by decide +kernel
theorem dX4_change_52 : decode cX4_change 52 = .ok (.iload_n 1, 1) := by decide +kernel
theorem dX4_change_53 : decode cX4_change 53 = .ok (.iload_n 2, 1) := by decide +kernel
theorem dX4_change_54 : decode cX4_change 54 = .ok (.iload_n 3, 1) := by decide +kernel
theorem dX4_change_55 : decode cX4_change 55 = .ok (.invokevirtual 103, 3) := by decide +kernel
theorem dX4_change_58 : decode cX4_change 58 = .ok (.iload 4, 2) := by decide +kernel
theorem dX4_change_60 : decode cX4_change 60 = .ok (.ireturn, 1) := by decide +kernel
def rX4_change : Room := { frames := 2, cells := 0, slots := 0, locals := 43 }
def vX4_change_c31 (p1 : Int32) (p2 : Int32) (p3 : Int32) (J : JS) : Int32 × JS := (((vX4_tell J (0 : Int32)).1), ((vX4_tell J (0 : Int32)).2))
def kX4_change_c31 (p1 : Int32) (p2 : Int32) (p3 : Int32) (J : JS) : Prop := (kX4_tell J (0 : Int32)) ∧ True
def vX4_change (J0 : JS) (p1 : Int32) (p2 : Int32) (p3 : Int32) : Int32 × JS := if ((vX4_isThing J0 p1) = 0) then (vX4_change_c31 p1 p2 p3 J0) else if ((vX4_within p2 (0 : Int32) (6 : Int32)) = 0) then (vX4_change_c31 p1 p2 p3 J0) else if ((vX4_within p3 (0 : Int32) (jTM.getD (p2).toNatClampNeg 0)) = 0) then (vX4_change_c31 p1 p2 p3 J0) else ((vX0_trait (j_E J0) p1 p2), (j_s_E J0 (vX0_put (j_E J0) p1 p2 p3)))
def kX4_change (J0 : JS) (p1 : Int32) (p2 : Int32) (p3 : Int32) : Prop := (kX4_isThing J0 p1) ∧ (((vX4_isThing J0 p1) = 0) → ((kX4_change_c31 p1 p2 p3 J0))) ∧ (¬ ((vX4_isThing J0 p1) = 0) → ((((vX4_within p2 (0 : Int32) (6 : Int32)) = 0) → ((kX4_change_c31 p1 p2 p3 J0))) ∧ (¬ ((vX4_within p2 (0 : Int32) (6 : Int32)) = 0) → ((vp_in p2 7) ∧ (((vX4_within p3 (0 : Int32) (jTM.getD (p2).toNatClampNeg 0)) = 0) → ((kX4_change_c31 p1 p2 p3 J0))) ∧ (¬ ((vX4_within p3 (0 : Int32) (jTM.getD (p2).toNatClampNeg 0)) = 0) → ((kX0_trait (j_E J0) p1 p2) ∧ (kX0_put (j_E J0) p1 p2 p3) ∧ True))))))
set_option maxHeartbeats 4000000 in
set_option maxRecDepth 100000 in
theorem hX4_change (l : Launch) (D : va_G) (K : JK) (G : JG) (a : Nat → Nat) (J0 : JS) (p1 : Int32) (p2 : Int32) (p3 : Int32) (hk : kX4_change J0 p1 p2 p3) (sz : Nat) : Met l yX4_change (.code yX4_change cX4_change 5 (some .int) :: jGW) rX4_change (jPre D (jT K) G [.ref (a 0), .int p1, .int p2, .int p3] (wJ K a J0) sz) (jQi D (jT K) ((vX4_change J0 p1 p2 p3).1) (wJ K a ((vX4_change J0 p1 p2 p3).2)) (va_A (wJ K a J0) sz)) 0 0 (va_A (wJ K a J0) sz) := by
  refine jEi (by decide) (Nat.le_of_ble_eq_true rfl) (fun p e s m below meth c A Q ls hat hP hD hS hl hend => ?_)
  obtain ⟨hx, hb, hml, hown, hts, hK, hZ, hA⟩ := hat
  have hl : lv_has ls 5 [(0, .ref (a 0)), (1, .int p1), (2, .int p2), (3, .int p3)] := hl
  have hc31 : ∀ (J : JS) (H : Heap) (locs : List Loc) (ls : Array Slot), (vX4_change J0 p1 p2 p3) = vX4_change_c31 p1 p2 p3 J → kX4_change_c31 p1 p2 p3 J → va_P D vwCl (wJ K a J) H → va_D A (wJ K a J) → va_S A s.heap H locs → lv_has ls 5 [(0, .ref (a 0)), (1, .int p1), (2, .int p2), (3, .int p3)] → W p l e rX4_change s m ([.ref (a 0), .int p1, .int p2, .int p3] : List Value).toArray below meth c H locs 0 0 Q (F0 m 31 ls []) := by
    intro J H locs ls hV hk hP hD hS hl
    rw [vX4_change_c31] at hV
    rw [kX4_change_c31] at hk
    refine lv_aload_n hx hb dX4_change_31 rfl (lv_at hl 0 rfl) ?_
    refine lv_iconst (v := (0 : Int32)) hx hb dX4_change_32 (by decide) ?_
    obtain ⟨h9, hk⟩ := hk
    refine jci (jrunV (As := [.int (0 : Int32)]) (rest := []) hx hb hml hown hts hK hZ hA hP hD hS hl.1 mf_X4_tell kl_X4_60 ⟨rfl, rfl, Nat.le_of_ble_eq_true rfl, Nat.le_of_ble_eq_true rfl⟩ ⟨Nat.zero_le _, Nat.zero_le _⟩ [0, 1, 2, 3, 4, 5, 6, 7, 8, 9, 10, 11, 12, 13, 14, 15, 16, 17, 18, 19, 20, 21, 22, 23, 24, 25, 26, 27, 28, 29] rfl (js45 K a J) rfl rfl rfl (hX4_tell l D K G a J (0 : Int32) h9 _) rfl rfl (Nat.le_of_ble_eq_true rfl) dX4_change_33) hA hP hD hS [0, 1, 2, 3, 4, 5, 6, 7, 8, 9, 10, 11, 12, 13, 14, 15, 16, 17, 18, 19, 20, 21, 22, 23, 24, 25, 26, 27, 28, 29] (js45 K a J) (jh52 K a J ((vX4_tell J (0 : Int32)).2)) (fun H locs hP hD hS => ?_)
    have hP := jeP (jp53 K a J ((vX4_tell J (0 : Int32)).2)) hP
    have hD := jeD (jp53 K a J ((vX4_tell J (0 : Int32)).2)) hD
    exact hend _ _ _ _ _ (by rw [hV]; exact hP) (by rw [hV]; exact hD) hS (by rw [hV]) rfl dX4_change_36
  have hV := vX4_change.eq_1 J0 p1 p2 p3
  rw [kX4_change] at hk
  refine lv_aload_n hx hb dX4_change_0 rfl (lv_at hl 0 rfl) ?_
  refine lv_iload_n hx hb dX4_change_1 rfl (lv_at hl 1 rfl) ?_
  obtain ⟨h10, hk⟩ := hk
  refine jci0 (jrunV (As := [.int p1]) (rest := []) hx hb hml hown hts hK hZ hA hP hD hS hl.1 mf_X4_isThing kl_X4_94 ⟨rfl, rfl, Nat.le_of_ble_eq_true rfl, Nat.le_of_ble_eq_true rfl⟩ ⟨Nat.zero_le _, Nat.zero_le _⟩ [0, 1, 2, 3, 4, 5, 6, 7, 8, 9, 10, 11, 12, 13, 14, 15, 16, 17, 18, 19, 20, 21, 22, 23, 24, 25, 26, 27, 28, 29] rfl (js45 K a J0) rfl rfl rfl (hX4_isThing l D K G a J0 p1 h10 _) rfl rfl (Nat.le_of_ble_eq_true rfl) dX4_change_2) hA hP hD hS [0, 1, 2, 3, 4, 5, 6, 7, 8, 9, 10, 11, 12, 13, 14, 15, 16, 17, 18, 19, 20, 21, 22, 23, 24, 25, 26, 27, 28, 29] (js45 K a J0) (fun H locs hP hS => ?_)
  refine lv_if_eq (tgt := 31) hx hb dX4_change_5 (by decide) (fun c11 => ?_) (fun c11 => ?_)
  · have hV := hV.trans (if_pos c11)
    have hk := hk.1 c11
    exact hc31 J0 _ _ _ hV hk hP hD hS (lv_sub hl [0, 1, 2, 3] rfl)
  · have hV := hV.trans (if_neg c11)
    have hk := hk.2 c11
    refine lv_iload_n hx hb dX4_change_8 rfl (lv_at hl 2 rfl) ?_
    refine lv_iconst (v := (0 : Int32)) hx hb dX4_change_9 (by decide) ?_
    refine lv_bipush (v := (6 : Int32)) hx hb dX4_change_10 (by decide) ?_
    refine jci0 (jrunS (As := [.int p2, .int (0 : Int32), .int (6 : Int32)]) (rest := []) hx hb hml hown hts hK hZ hA hP hD hS hl.1 mf_X4_within kl_X4_50 ⟨rfl, rfl, Nat.le_of_ble_eq_true rfl, Nat.le_of_ble_eq_true rfl⟩ ⟨Nat.zero_le _, Nat.zero_le _⟩ [] rfl rfl (hX4_within l D K G p2 (0 : Int32) (6 : Int32) _) rfl rfl (Nat.le_of_ble_eq_true rfl) dX4_change_12) hA hP hD hS [] rfl (fun H locs hP hS => ?_)
    refine lv_if_eq (tgt := 31) hx hb dX4_change_15 (by decide) (fun c12 => ?_) (fun c12 => ?_)
    · have hV := hV.trans (if_pos c12)
      have hk := hk.1 c12
      exact hc31 J0 _ _ _ hV hk hP hD hS (lv_sub hl [0, 1, 2, 3] rfl)
    · have hV := hV.trans (if_neg c12)
      have hk := hk.2 c12
      refine lv_iload_n hx hb dX4_change_18 rfl (lv_at hl 3 rfl) ?_
      refine lv_iconst (v := (0 : Int32)) hx hb dX4_change_19 (by decide) ?_
      refine gs_X4_84 hx hb hts hown hZ hS dX4_change_20 ?_
      refine lv_iload_n hx hb dX4_change_23 rfl (lv_at hl 2 rfl) ?_
      obtain ⟨h13, hk⟩ := hk
      refine va_ti (v := .int (jTM.getD (p2).toNatClampNeg 0)) hx hb (hZ.1 3 _ rfl).2 hS h13 rfl dX4_change_24 ?_
      refine jci0 (jrunS (As := [.int p3, .int (0 : Int32), .int (jTM.getD (p2).toNatClampNeg 0)]) (rest := []) hx hb hml hown hts hK hZ hA hP hD hS hl.1 mf_X4_within kl_X4_50 ⟨rfl, rfl, Nat.le_of_ble_eq_true rfl, Nat.le_of_ble_eq_true rfl⟩ ⟨Nat.zero_le _, Nat.zero_le _⟩ [] rfl rfl (hX4_within l D K G p3 (0 : Int32) (jTM.getD (p2).toNatClampNeg 0) _) rfl rfl (Nat.le_of_ble_eq_true rfl) dX4_change_25) hA hP hD hS [] rfl (fun H locs hP hS => ?_)
      refine lv_if_ne (tgt := 37) hx hb dX4_change_28 (by decide) (fun c14 => ?_) (fun c14 => ?_)
      · have hV := hV.trans (if_neg c14)
        have hk := hk.2 c14
        refine lv_aload_n hx hb dX4_change_37 rfl (lv_at hl 0 rfl) ?_
        refine gf_X4_10 (v := .ref (a 1)) hx hb hts hown hK hZ hP (0) rfl rfl dX4_change_38 ?_
        refine lv_iload_n hx hb dX4_change_41 rfl (lv_at hl 1 rfl) ?_
        refine lv_iload_n hx hb dX4_change_42 rfl (lv_at hl 2 rfl) ?_
        obtain ⟨h15, hk⟩ := hk
        refine jci0 (jrunV (As := [.int p1, .int p2]) (rest := []) hx hb hml hown hts hK hZ hA hP hD hS hl.1 mf_X0_trait kl_X4_100 ⟨rfl, rfl, Nat.le_of_ble_eq_true rfl, Nat.le_of_ble_eq_true rfl⟩ ⟨Nat.zero_le _, Nat.zero_le _⟩ [1, 2, 3, 4, 5] rfl (js43 K a J0) rfl rfl rfl (hX0_trait l D K G (fun k => a (1 + k)) (j_E J0) p1 p2 h15 _) rfl rfl (Nat.le_of_ble_eq_true rfl) dX4_change_43) hA hP hD hS [1, 2, 3, 4, 5] (js43 K a J0) (fun H locs hP hS => ?_)
        refine lv_istore (lv' := [(4, .int (vX0_trait (j_E J0) p1 p2)), (0, .ref (a 0)), (1, .int p1), (2, .int p2), (3, .int p3)]) hx hb dX4_change_46 hl (by decide) rfl (fun ls hl => ?_)
        refine lv_aload_n hx hb dX4_change_48 rfl (lv_at hl 1 rfl) ?_
        refine gf_X4_10 (v := .ref (a 1)) hx hb hts hown hK hZ hP (0) rfl rfl dX4_change_49 ?_
        refine lv_iload_n hx hb dX4_change_52 rfl (lv_at hl 2 rfl) ?_
        refine lv_iload_n hx hb dX4_change_53 rfl (lv_at hl 3 rfl) ?_
        refine lv_iload_n hx hb dX4_change_54 rfl (lv_at hl 4 rfl) ?_
        obtain ⟨h16, hk⟩ := hk
        refine jcv (jrunV (As := [.int p1, .int p2, .int p3]) (rest := []) hx hb hml hown hts hK hZ hA hP hD hS hl.1 mf_X0_put kl_X4_103 ⟨rfl, rfl, Nat.le_of_ble_eq_true rfl, Nat.le_of_ble_eq_true rfl⟩ ⟨Nat.zero_le _, Nat.zero_le _⟩ [1, 2, 3, 4, 5] rfl (js43 K a J0) rfl rfl rfl (hX0_put l D K G (fun k => a (1 + k)) (j_E J0) p1 p2 p3 h16 _) rfl rfl (Nat.le_of_ble_eq_true rfl) dX4_change_55) hA hP hD hS [1, 2, 3, 4, 5] (js43 K a J0) (jh55 K a J0 (vX0_put (j_E J0) p1 p2 p3)) (fun H locs hP hD hS => ?_)
        have hP := jeP (jp56 K a J0 (vX0_put (j_E J0) p1 p2 p3)) hP
        have hD := jeD (jp56 K a J0 (vX0_put (j_E J0) p1 p2 p3)) hD
        refine lv_iload hx hb dX4_change_58 (lv_at hl 0 rfl) ?_
        exact hend _ _ _ _ _ (by rw [hV]; exact hP) (by rw [hV]; exact hD) hS (by rw [hV]) rfl dX4_change_60
      · have hV := hV.trans (if_pos c14)
        have hk := hk.1 c14
        exact hc31 J0 _ _ _ hV hk hP hD hS (lv_sub hl [0, 1, 2, 3] rfl)
theorem dX4_claimFor_0 : decode cX4_claimFor 0 = .ok (.aload_n 0, 1) := by decide +kernel
theorem dX4_claimFor_1 : decode cX4_claimFor 1 = .ok (.iload_n 1, 1) := by decide +kernel
theorem dX4_claimFor_2 : decode cX4_claimFor 2 = .ok (.invokevirtual 94, 3) := by decide +kernel
theorem dX4_claimFor_5 : decode cX4_claimFor 5 = .ok (.ifCond .eq 13, 3) := by decide +kernel
theorem dX4_claimFor_8 : decode cX4_claimFor 8 = .ok (.iload_n 2, 1) := by decide +kernel
theorem dX4_claimFor_9 : decode cX4_claimFor 9 = .ok (.iconst 0, 1) := by decide +kernel
theorem dX4_claimFor_10 : decode cX4_claimFor 10 = .ok (.bipush 60, 2) := by decide +kernel
theorem dX4_claimFor_12 : decode cX4_claimFor 12 = .ok (.invokestatic 50, 3) := by decide +kernel
theorem dX4_claimFor_15 : decode cX4_claimFor 15 = .ok (.ifCond .ne 9, 3) := by decide +kernel
theorem dX4_claimFor_18 : decode cX4_claimFor 18 = .ok (.aload_n 0, 1) := by decide +kernel
theorem dX4_claimFor_19 : decode cX4_claimFor 19 = .ok (.iconst 0, 1) := by decide +kernel
theorem dX4_claimFor_20 : decode cX4_claimFor 20 = .ok (.invokevirtual 60, 3) := by decide +kernel
theorem dX4_claimFor_23 : decode cX4_claimFor 23 = .ok (.ireturn, 1) := by decide +kernel
theorem dX4_claimFor_24 : decode cX4_claimFor 24 = .ok (.aload_n 0, 1) := by decide +kernel
theorem dX4_claimFor_25 : decode cX4_claimFor 25 = .ok (.getfield 19, 3) := by decide +kernel
theorem dX4_claimFor_28 : decode cX4_claimFor 28 = .ok (.aload_n 0, 1) := by decide +kernel
theorem dX4_claimFor_29 : decode cX4_claimFor 29 = .ok (.getfield 10, 3) := by decide +kernel
theorem dX4_claimFor_32 : decode cX4_claimFor 32 = .ok (.invokevirtual 132, 3) := by decide +kernel
theorem dX4_claimFor_35 : decode cX4_claimFor 35 = .ok (.aload_n 0, 1) := by decide +kernel
theorem dX4_claimFor_36 : decode cX4_claimFor 36 = .ok (.getfield 19, 3) := by decide +kernel
theorem dX4_claimFor_39 : decode cX4_claimFor 39 = .ok (.iload_n 1, 1) := by decide +kernel
theorem dX4_claimFor_40 : decode cX4_claimFor 40 = .ok (.bipush 6, 2) := by decide +kernel
theorem dX4_claimFor_42 : decode cX4_claimFor 42 = .ok (.getstatic 84, 3) := by decide +kernel
theorem dX4_claimFor_45 : decode cX4_claimFor 45 = .ok (.bipush 6, 2) := by decide +kernel
theorem dX4_claimFor_47 : decode cX4_claimFor 47 = .ok (.iaload, 1) := by decide +kernel
theorem dX4_claimFor_48 : decode cX4_claimFor 48 = .ok (.invokevirtual 103, 3) := by decide +kernel
theorem dX4_claimFor_51 : decode cX4_claimFor 51 = .ok (.aload_n 0, 1) := by decide +kernel
theorem dX4_claimFor_52 : decode cX4_claimFor 52 = .ok (.getfield 19, 3) := by decide +kernel
theorem dX4_claimFor_55 : decode cX4_claimFor 55 = .ok (.iload_n 2, 1) := by decide +kernel
theorem dX4_claimFor_56 : decode cX4_claimFor 56 = .ok (.invokevirtual 114, 3) := by decide +kernel
theorem dX4_claimFor_59 : decode cX4_claimFor 59 = .ok (.aload_n 0, 1) := by decide +kernel
theorem dX4_claimFor_60 : decode cX4_claimFor 60 = .ok (.getfield 19, 3) := by decide +kernel
theorem dX4_claimFor_63 : decode cX4_claimFor 63 = .ok (.iload_n 1, 1) := by decide +kernel
theorem dX4_claimFor_64 : decode cX4_claimFor 64 = .ok (.invokevirtual 142, 3) := by decide +kernel
theorem dX4_claimFor_67 : decode cX4_claimFor 67 = .ok (.ireturn, 1) := by decide +kernel
def rX4_claimFor : Room := { frames := 4, cells := 0, slots := 0, locals := 91 }
def vX4_claimFor_c59 (p1 : Int32) (p2 : Int32) (J : JS) : Int32 × JS := ((vX0_award (j_T J) p1), J)
def kX4_claimFor_c59 (p1 : Int32) (p2 : Int32) (J : JS) : Prop := (kX0_award (j_T J) p1) ∧ True
def vX4_claimFor_c51 (p1 : Int32) (p2 : Int32) (J : JS) : Int32 × JS := (vX4_claimFor_c59 p1 p2 (j_s_T J (vX0_passDays (j_T J) p2)))
def kX4_claimFor_c51 (p1 : Int32) (p2 : Int32) (J : JS) : Prop := (kX0_passDays (j_T J) p2) ∧ (kX4_claimFor_c59 p1 p2 (j_s_T J (vX0_passDays (j_T J) p2)))
def vX4_claimFor_c35 (p1 : Int32) (p2 : Int32) (J : JS) : Int32 × JS := (vX4_claimFor_c51 p1 p2 (j_s_T J (vX0_put (j_T J) p1 (6 : Int32) (jTM.getD ((6 : Int32)).toNatClampNeg 0))))
def kX4_claimFor_c35 (p1 : Int32) (p2 : Int32) (J : JS) : Prop := (kX0_put (j_T J) p1 (6 : Int32) (jTM.getD ((6 : Int32)).toNatClampNeg 0)) ∧ (kX4_claimFor_c51 p1 p2 (j_s_T J (vX0_put (j_T J) p1 (6 : Int32) (jTM.getD ((6 : Int32)).toNatClampNeg 0))))
def vX4_claimFor_c18 (p1 : Int32) (p2 : Int32) (J : JS) : Int32 × JS := (((vX4_tell J (0 : Int32)).1), ((vX4_tell J (0 : Int32)).2))
def kX4_claimFor_c18 (p1 : Int32) (p2 : Int32) (J : JS) : Prop := (kX4_tell J (0 : Int32)) ∧ True
def vX4_claimFor (J0 : JS) (p1 : Int32) (p2 : Int32) : Int32 × JS := if ((vX4_isThing J0 p1) = 0) then (vX4_claimFor_c18 p1 p2 J0) else if ((vX4_within p2 (0 : Int32) (60 : Int32)) = 0) then (vX4_claimFor_c18 p1 p2 J0) else (vX4_claimFor_c35 p1 p2 (j_s_T J0 (vX0_become (j_T J0) (j_E J0))))
def kX4_claimFor (J0 : JS) (p1 : Int32) (p2 : Int32) : Prop := (kX4_isThing J0 p1) ∧ (((vX4_isThing J0 p1) = 0) → ((kX4_claimFor_c18 p1 p2 J0))) ∧ (¬ ((vX4_isThing J0 p1) = 0) → ((((vX4_within p2 (0 : Int32) (60 : Int32)) = 0) → ((kX4_claimFor_c18 p1 p2 J0))) ∧ (¬ ((vX4_within p2 (0 : Int32) (60 : Int32)) = 0) → ((kX0_become (j_T J0) (j_E J0)) ∧ (kX4_claimFor_c35 p1 p2 (j_s_T J0 (vX0_become (j_T J0) (j_E J0))))))))
set_option maxHeartbeats 4000000 in
set_option maxRecDepth 100000 in
theorem hX4_claimFor (l : Launch) (D : va_G) (K : JK) (G : JG) (a : Nat → Nat) (J0 : JS) (p1 : Int32) (p2 : Int32) (hk : kX4_claimFor J0 p1 p2) (sz : Nat) : Met l yX4_claimFor (.code yX4_claimFor cX4_claimFor 3 (some .int) :: jGW) rX4_claimFor (jPre D (jT K) G [.ref (a 0), .int p1, .int p2] (wJ K a J0) sz) (jQi D (jT K) ((vX4_claimFor J0 p1 p2).1) (wJ K a ((vX4_claimFor J0 p1 p2).2)) (va_A (wJ K a J0) sz)) 0 0 (va_A (wJ K a J0) sz) := by
  refine jEi (by decide) (Nat.le_of_ble_eq_true rfl) (fun p e s m below meth c A Q ls hat hP hD hS hl hend => ?_)
  obtain ⟨hx, hb, hml, hown, hts, hK, hZ, hA⟩ := hat
  have hl : lv_has ls 3 [(0, .ref (a 0)), (1, .int p1), (2, .int p2)] := hl
  have hc59 : ∀ (J : JS) (H : Heap) (locs : List Loc) (ls : Array Slot), (vX4_claimFor J0 p1 p2) = vX4_claimFor_c59 p1 p2 J → kX4_claimFor_c59 p1 p2 J → va_P D vwCl (wJ K a J) H → va_D A (wJ K a J) → va_S A s.heap H locs → lv_has ls 3 [(0, .ref (a 0)), (1, .int p1), (2, .int p2)] → W p l e rX4_claimFor s m ([.ref (a 0), .int p1, .int p2] : List Value).toArray below meth c H locs 0 0 Q (F0 m 59 ls []) := by
    intro J H locs ls hV hk hP hD hS hl
    rw [vX4_claimFor_c59] at hV
    rw [kX4_claimFor_c59] at hk
    refine lv_aload_n hx hb dX4_claimFor_59 rfl (lv_at hl 0 rfl) ?_
    refine gf_X4_19 (v := .ref (a 11)) hx hb hts hown hK hZ hP (0) rfl rfl dX4_claimFor_60 ?_
    refine lv_iload_n hx hb dX4_claimFor_63 rfl (lv_at hl 1 rfl) ?_
    obtain ⟨h9, hk⟩ := hk
    refine jci0 (jrunV (As := [.int p1]) (rest := []) hx hb hml hown hts hK hZ hA hP hD hS hl.1 mf_X0_award kl_X4_142 ⟨rfl, rfl, Nat.le_of_ble_eq_true rfl, Nat.le_of_ble_eq_true rfl⟩ ⟨Nat.zero_le _, Nat.zero_le _⟩ [11, 12, 13, 14, 15] rfl (js49 K a J) rfl rfl rfl (hX0_award l D K G (fun k => a (11 + k)) (j_T J) p1 h9 _) rfl rfl (Nat.le_of_ble_eq_true rfl) dX4_claimFor_64) hA hP hD hS [11, 12, 13, 14, 15] (js49 K a J) (fun H locs hP hS => ?_)
    exact hend _ _ _ _ _ (by rw [hV]; exact hP) (by rw [hV]; exact hD) hS (by rw [hV]) rfl dX4_claimFor_67
  have hc51 : ∀ (J : JS) (H : Heap) (locs : List Loc) (ls : Array Slot), (vX4_claimFor J0 p1 p2) = vX4_claimFor_c51 p1 p2 J → kX4_claimFor_c51 p1 p2 J → va_P D vwCl (wJ K a J) H → va_D A (wJ K a J) → va_S A s.heap H locs → lv_has ls 3 [(0, .ref (a 0)), (1, .int p1), (2, .int p2)] → W p l e rX4_claimFor s m ([.ref (a 0), .int p1, .int p2] : List Value).toArray below meth c H locs 0 0 Q (F0 m 51 ls []) := by
    intro J H locs ls hV hk hP hD hS hl
    rw [vX4_claimFor_c51] at hV
    rw [kX4_claimFor_c51] at hk
    refine lv_aload_n hx hb dX4_claimFor_51 rfl (lv_at hl 0 rfl) ?_
    refine gf_X4_19 (v := .ref (a 11)) hx hb hts hown hK hZ hP (0) rfl rfl dX4_claimFor_52 ?_
    refine lv_iload_n hx hb dX4_claimFor_55 rfl (lv_at hl 2 rfl) ?_
    obtain ⟨h10, hk⟩ := hk
    refine jcv (jrunV (As := [.int p2]) (rest := []) hx hb hml hown hts hK hZ hA hP hD hS hl.1 mf_X0_passDays kl_X4_114 ⟨rfl, rfl, Nat.le_of_ble_eq_true rfl, Nat.le_of_ble_eq_true rfl⟩ ⟨Nat.zero_le _, Nat.zero_le _⟩ [11, 12, 13, 14, 15] rfl (js49 K a J) rfl rfl rfl (hX0_passDays l D K G (fun k => a (11 + k)) (j_T J) p2 h10 _) rfl rfl (Nat.le_of_ble_eq_true rfl) dX4_claimFor_56) hA hP hD hS [11, 12, 13, 14, 15] (js49 K a J) (jh50 K a J (vX0_passDays (j_T J) p2)) (fun H locs hP hD hS => ?_)
    have hP := jeP (jp51 K a J (vX0_passDays (j_T J) p2)) hP
    have hD := jeD (jp51 K a J (vX0_passDays (j_T J) p2)) hD
    exact hc59 (j_s_T J (vX0_passDays (j_T J) p2)) _ _ _ hV hk hP hD hS (lv_sub hl [0, 1, 2] rfl)
  have hc35 : ∀ (J : JS) (H : Heap) (locs : List Loc) (ls : Array Slot), (vX4_claimFor J0 p1 p2) = vX4_claimFor_c35 p1 p2 J → kX4_claimFor_c35 p1 p2 J → va_P D vwCl (wJ K a J) H → va_D A (wJ K a J) → va_S A s.heap H locs → lv_has ls 3 [(0, .ref (a 0)), (1, .int p1), (2, .int p2)] → W p l e rX4_claimFor s m ([.ref (a 0), .int p1, .int p2] : List Value).toArray below meth c H locs 0 0 Q (F0 m 35 ls []) := by
    intro J H locs ls hV hk hP hD hS hl
    rw [vX4_claimFor_c35] at hV
    rw [kX4_claimFor_c35] at hk
    refine lv_aload_n hx hb dX4_claimFor_35 rfl (lv_at hl 0 rfl) ?_
    refine gf_X4_19 (v := .ref (a 11)) hx hb hts hown hK hZ hP (0) rfl rfl dX4_claimFor_36 ?_
    refine lv_iload_n hx hb dX4_claimFor_39 rfl (lv_at hl 1 rfl) ?_
    refine lv_bipush (v := (6 : Int32)) hx hb dX4_claimFor_40 (by decide) ?_
    refine gs_X4_84 hx hb hts hown hZ hS dX4_claimFor_42 ?_
    refine lv_bipush (v := (6 : Int32)) hx hb dX4_claimFor_45 (by decide) ?_
    refine va_ti (v := .int (jTM.getD ((6 : Int32)).toNatClampNeg 0)) hx hb (hZ.1 3 _ rfl).2 hS (by unfold vp_in; decide) rfl dX4_claimFor_47 ?_
    obtain ⟨h11, hk⟩ := hk
    refine jcv (jrunV (As := [.int p1, .int (6 : Int32), .int (jTM.getD ((6 : Int32)).toNatClampNeg 0)]) (rest := []) hx hb hml hown hts hK hZ hA hP hD hS hl.1 mf_X0_put kl_X4_103 ⟨rfl, rfl, Nat.le_of_ble_eq_true rfl, Nat.le_of_ble_eq_true rfl⟩ ⟨Nat.zero_le _, Nat.zero_le _⟩ [11, 12, 13, 14, 15] rfl (js49 K a J) rfl rfl rfl (hX0_put l D K G (fun k => a (11 + k)) (j_T J) p1 (6 : Int32) (jTM.getD ((6 : Int32)).toNatClampNeg 0) h11 _) rfl rfl (Nat.le_of_ble_eq_true rfl) dX4_claimFor_48) hA hP hD hS [11, 12, 13, 14, 15] (js49 K a J) (jh50 K a J (vX0_put (j_T J) p1 (6 : Int32) (jTM.getD ((6 : Int32)).toNatClampNeg 0))) (fun H locs hP hD hS => ?_)
    have hP := jeP (jp51 K a J (vX0_put (j_T J) p1 (6 : Int32) (jTM.getD ((6 : Int32)).toNatClampNeg 0))) hP
    have hD := jeD (jp51 K a J (vX0_put (j_T J) p1 (6 : Int32) (jTM.getD ((6 : Int32)).toNatClampNeg 0))) hD
    exact hc51 (j_s_T J (vX0_put (j_T J) p1 (6 : Int32) (jTM.getD ((6 : Int32)).toNatClampNeg 0))) _ _ _ hV hk hP hD hS (lv_sub hl [0, 1, 2] rfl)
  have hc18 : ∀ (J : JS) (H : Heap) (locs : List Loc) (ls : Array Slot), (vX4_claimFor J0 p1 p2) = vX4_claimFor_c18 p1 p2 J → kX4_claimFor_c18 p1 p2 J → va_P D vwCl (wJ K a J) H → va_D A (wJ K a J) → va_S A s.heap H locs → lv_has ls 3 [(0, .ref (a 0)), (1, .int p1), (2, .int p2)] → W p l e rX4_claimFor s m ([.ref (a 0), .int p1, .int p2] : List Value).toArray below meth c H locs 0 0 Q (F0 m 18 ls []) := by
    intro J H locs ls hV hk hP hD hS hl
    rw [vX4_claimFor_c18] at hV
    rw [kX4_claimFor_c18] at hk
    refine lv_aload_n hx hb dX4_claimFor_18 rfl (lv_at hl 0 rfl) ?_
    refine lv_iconst (v := (0 : Int32)) hx hb dX4_claimFor_19 (by decide) ?_
    obtain ⟨h12, hk⟩ := hk
    refine jci (jrunV (As := [.int (0 : Int32)]) (rest := []) hx hb hml hown hts hK hZ hA hP hD hS hl.1 mf_X4_tell kl_X4_60 ⟨rfl, rfl, Nat.le_of_ble_eq_true rfl, Nat.le_of_ble_eq_true rfl⟩ ⟨Nat.zero_le _, Nat.zero_le _⟩ [0, 1, 2, 3, 4, 5, 6, 7, 8, 9, 10, 11, 12, 13, 14, 15, 16, 17, 18, 19, 20, 21, 22, 23, 24, 25, 26, 27, 28, 29] rfl (js45 K a J) rfl rfl rfl (hX4_tell l D K G a J (0 : Int32) h12 _) rfl rfl (Nat.le_of_ble_eq_true rfl) dX4_claimFor_20) hA hP hD hS [0, 1, 2, 3, 4, 5, 6, 7, 8, 9, 10, 11, 12, 13, 14, 15, 16, 17, 18, 19, 20, 21, 22, 23, 24, 25, 26, 27, 28, 29] (js45 K a J) (jh52 K a J ((vX4_tell J (0 : Int32)).2)) (fun H locs hP hD hS => ?_)
    have hP := jeP (jp53 K a J ((vX4_tell J (0 : Int32)).2)) hP
    have hD := jeD (jp53 K a J ((vX4_tell J (0 : Int32)).2)) hD
    exact hend _ _ _ _ _ (by rw [hV]; exact hP) (by rw [hV]; exact hD) hS (by rw [hV]) rfl dX4_claimFor_23
  have hV := vX4_claimFor.eq_1 J0 p1 p2
  rw [kX4_claimFor] at hk
  refine lv_aload_n hx hb dX4_claimFor_0 rfl (lv_at hl 0 rfl) ?_
  refine lv_iload_n hx hb dX4_claimFor_1 rfl (lv_at hl 1 rfl) ?_
  obtain ⟨h13, hk⟩ := hk
  refine jci0 (jrunV (As := [.int p1]) (rest := []) hx hb hml hown hts hK hZ hA hP hD hS hl.1 mf_X4_isThing kl_X4_94 ⟨rfl, rfl, Nat.le_of_ble_eq_true rfl, Nat.le_of_ble_eq_true rfl⟩ ⟨Nat.zero_le _, Nat.zero_le _⟩ [0, 1, 2, 3, 4, 5, 6, 7, 8, 9, 10, 11, 12, 13, 14, 15, 16, 17, 18, 19, 20, 21, 22, 23, 24, 25, 26, 27, 28, 29] rfl (js45 K a J0) rfl rfl rfl (hX4_isThing l D K G a J0 p1 h13 _) rfl rfl (Nat.le_of_ble_eq_true rfl) dX4_claimFor_2) hA hP hD hS [0, 1, 2, 3, 4, 5, 6, 7, 8, 9, 10, 11, 12, 13, 14, 15, 16, 17, 18, 19, 20, 21, 22, 23, 24, 25, 26, 27, 28, 29] (js45 K a J0) (fun H locs hP hS => ?_)
  refine lv_if_eq (tgt := 18) hx hb dX4_claimFor_5 (by decide) (fun c14 => ?_) (fun c14 => ?_)
  · have hV := hV.trans (if_pos c14)
    have hk := hk.1 c14
    exact hc18 J0 _ _ _ hV hk hP hD hS (lv_sub hl [0, 1, 2] rfl)
  · have hV := hV.trans (if_neg c14)
    have hk := hk.2 c14
    refine lv_iload_n hx hb dX4_claimFor_8 rfl (lv_at hl 2 rfl) ?_
    refine lv_iconst (v := (0 : Int32)) hx hb dX4_claimFor_9 (by decide) ?_
    refine lv_bipush (v := (60 : Int32)) hx hb dX4_claimFor_10 (by decide) ?_
    refine jci0 (jrunS (As := [.int p2, .int (0 : Int32), .int (60 : Int32)]) (rest := []) hx hb hml hown hts hK hZ hA hP hD hS hl.1 mf_X4_within kl_X4_50 ⟨rfl, rfl, Nat.le_of_ble_eq_true rfl, Nat.le_of_ble_eq_true rfl⟩ ⟨Nat.zero_le _, Nat.zero_le _⟩ [] rfl rfl (hX4_within l D K G p2 (0 : Int32) (60 : Int32) _) rfl rfl (Nat.le_of_ble_eq_true rfl) dX4_claimFor_12) hA hP hD hS [] rfl (fun H locs hP hS => ?_)
    refine lv_if_ne (tgt := 24) hx hb dX4_claimFor_15 (by decide) (fun c15 => ?_) (fun c15 => ?_)
    · have hV := hV.trans (if_neg c15)
      have hk := hk.2 c15
      refine lv_aload_n hx hb dX4_claimFor_24 rfl (lv_at hl 0 rfl) ?_
      refine gf_X4_19 (v := .ref (a 11)) hx hb hts hown hK hZ hP (0) rfl rfl dX4_claimFor_25 ?_
      refine lv_aload_n hx hb dX4_claimFor_28 rfl (lv_at hl 0 rfl) ?_
      refine gf_X4_10 (v := .ref (a 1)) hx hb hts hown hK hZ hP (0) rfl rfl dX4_claimFor_29 ?_
      obtain ⟨h16, hk⟩ := hk
      refine jcv (jrunV (As := [.ref (a 1)]) (rest := []) hx hb hml hown hts hK hZ hA hP hD hS hl.1 mf_X0_become kl_X4_132 ⟨rfl, rfl, Nat.le_of_ble_eq_true rfl, Nat.le_of_ble_eq_true rfl⟩ ⟨Nat.zero_le _, Nat.zero_le _⟩ [11, 12, 13, 14, 15, 1, 2, 3, 4, 5] rfl (js46 K a J0) rfl rfl rfl (hX0_become l D K G (fun k => a (11 + k)) (fun k => a (1 + k)) (j_T J0) (j_E J0) h16 _) rfl rfl (Nat.le_of_ble_eq_true rfl) dX4_claimFor_32) hA hP hD hS [11, 12, 13, 14, 15, 1, 2, 3, 4, 5] (js46 K a J0) (jh47 K a J0 (vX0_become (j_T J0) (j_E J0))) (fun H locs hP hD hS => ?_)
      have hP := jeP (jp48 K a J0 (vX0_become (j_T J0) (j_E J0))) hP
      have hD := jeD (jp48 K a J0 (vX0_become (j_T J0) (j_E J0))) hD
      exact hc35 (j_s_T J0 (vX0_become (j_T J0) (j_E J0))) _ _ _ hV hk hP hD hS (lv_sub hl [0, 1, 2] rfl)
    · have hV := hV.trans (if_pos c15)
      have hk := hk.1 c15
      exact hc18 J0 _ _ _ hV hk hP hD hS (lv_sub hl [0, 1, 2] rfl)
theorem dX4_copy_0 : decode cX4_copy 0 = .ok (.iload_n 1, 1) := by decide +kernel
theorem dX4_copy_1 : decode cX4_copy 1 = .ok (.invokestatic 205, 3) := by decide +kernel
theorem dX4_copy_4 : decode cX4_copy 4 = .ok (.ifCond .eq 10, 3) := by decide +kernel
theorem dX4_copy_7 : decode cX4_copy 7 = .ok (.iload_n 3, 1) := by decide +kernel
theorem dX4_copy_8 : decode cX4_copy 8 = .ok (.invokestatic 205, 3) := by decide +kernel
theorem dX4_copy_11 : decode cX4_copy 11 = .ok (.ifCond .ne 9, 3) := by decide +kernel
theorem dX4_copy_14 : decode cX4_copy 14 = .ok (.aload_n 0, 1) := by decide +kernel
theorem dX4_copy_15 : decode cX4_copy 15 = .ok (.iconst 0, 1) := by decide +kernel
theorem dX4_copy_16 : decode cX4_copy 16 = .ok (.invokevirtual 60, 3) := by decide +kernel
theorem dX4_copy_19 : decode cX4_copy 19 = .ok (.ireturn, 1) := by decide +kernel
theorem dX4_copy_20 : decode cX4_copy 20 = .ok (.aload_n 0, 1) := by decide +kernel
theorem dX4_copy_21 : decode cX4_copy 21 = .ok (.getfield 31, 3) := by decide +kernel
theorem dX4_copy_24 : decode cX4_copy 24 = .ok (.iload_n 1, 1) := by decide +kernel
theorem dX4_copy_25 : decode cX4_copy 25 = .ok (.aaload, 1) := by decide +kernel
theorem dX4_copy_26 : decode cX4_copy 26 = .ok (.astore 6, 2) := by decide +kernel
theorem dX4_copy_28 : decode cX4_copy 28 = .ok (.aload_n 0, 1) := by decide +kernel
theorem dX4_copy_29 : decode cX4_copy 29 = .ok (.getfield 31, 3) := by decide +kernel
theorem dX4_copy_32 : decode cX4_copy 32 = .ok (.iload_n 3, 1) := by decide +kernel
theorem dX4_copy_33 : decode cX4_copy 33 = .ok (.aaload, 1) := by decide +kernel
theorem dX4_copy_34 : decode cX4_copy 34 = .ok (.astore 7, 2) := by decide +kernel
theorem dX4_copy_36 : decode cX4_copy 36 = .ok (.aload 6, 2) := by decide +kernel
theorem dX4_copy_38 : decode cX4_copy 38 = .ok (.getfield 220, 3) := by decide +kernel
theorem dX4_copy_41 : decode cX4_copy 41 = .ok (.ifCond .eq 11, 3) := by decide +kernel
theorem dX4_copy_44 : decode cX4_copy 44 = .ok (.aload 7, 2) := by decide +kernel
theorem dX4_copy_46 : decode cX4_copy 46 = .ok (.getfield 220, 3) := by decide +kernel
theorem dX4_copy_49 : decode cX4_copy 49 = .ok (.ifCond .ne 9, 3) := by decide +kernel
theorem dX4_copy_52 : decode cX4_copy 52 = .ok (.aload_n 0, 1) := by decide +kernel
theorem dX4_copy_53 : decode cX4_copy 53 = .ok (.iconst 5, 1) := by decide +kernel
theorem dX4_copy_54 : decode cX4_copy 54 = .ok (.invokevirtual 60, 3) := by decide +kernel
theorem dX4_copy_57 : decode cX4_copy 57 = .ok (.ireturn, 1) := by decide +kernel
theorem dX4_copy_58 : decode cX4_copy 58 = .ok (.aload 6, 2) := by decide +kernel
theorem dX4_copy_60 : decode cX4_copy 60 = .ok (.getfield 220, 3) := by decide +kernel
theorem dX4_copy_63 : decode cX4_copy 63 = .ok (.aload 7, 2) := by decide +kernel
theorem dX4_copy_65 : decode cX4_copy 65 = .ok (.getfield 220, 3) := by decide +kernel
theorem dX4_copy_68 : decode cX4_copy 68 = .ok (.if_icmp .eq 9, 3) := by decide +kernel
theorem dX4_copy_71 : decode cX4_copy 71 = .ok (.aload_n 0, 1) := by decide +kernel
theorem dX4_copy_72 : decode cX4_copy 72 = .ok (.iconst 2, 1) := by decide +kernel
theorem dX4_copy_73 : decode cX4_copy 73 = .ok (.invokevirtual 60, 3) := by decide +kernel
theorem dX4_copy_76 : decode cX4_copy 76 = .ok (.ireturn, 1) := by decide +kernel
theorem dX4_copy_77 : decode cX4_copy 77 = .ok (.aload 6, 2) := by decide +kernel
theorem dX4_copy_79 : decode cX4_copy 79 = .ok (.iload_n 2, 1) := by decide +kernel
theorem dX4_copy_80 : decode cX4_copy 80 = .ok (.iload 5, 2) := by decide +kernel
theorem dX4_copy_82 : decode cX4_copy 82 = .ok (.invokevirtual 223, 3) := by decide +kernel
theorem dX4_copy_85 : decode cX4_copy 85 = .ok (.ifCond .eq 15, 3) := by decide +kernel
theorem dX4_copy_88 : decode cX4_copy 88 = .ok (.aload 7, 2) := by decide +kernel
theorem dX4_copy_90 : decode cX4_copy 90 = .ok (.iload 4, 2) := by decide +kernel
theorem dX4_copy_92 : decode cX4_copy 92 = .ok (.iload 5, 2) := by decide +kernel
theorem dX4_copy_94 : decode cX4_copy 94 = .ok (.invokevirtual 223, 3) := by decide +kernel
theorem dX4_copy_97 : decode cX4_copy 97 = .ok (.ifCond .ne 9, 3) := by decide +kernel
theorem dX4_copy_100 : decode cX4_copy 100 = .ok (.aload_n 0, 1) := by decide +kernel
theorem dX4_copy_101 : decode cX4_copy 101 = .ok (.iconst 0, 1) := by decide +kernel
theorem dX4_copy_102 : decode cX4_copy 102 = .ok (.invokevirtual 60, 3) := by decide +kernel
theorem dX4_copy_105 : decode cX4_copy 105 = .ok (.ireturn, 1) := by decide +kernel
theorem dX4_copy_106 : decode cX4_copy 106 = .ok (.aload 6, 2) := by decide +kernel
theorem dX4_copy_108 : decode cX4_copy 108 = .ok (.getfield 226, 3) := by decide +kernel
theorem dX4_copy_111 : decode cX4_copy 111 = .ok (.iload_n 2, 1) := by decide +kernel
theorem dX4_copy_112 : decode cX4_copy 112 = .ok (.aload 7, 2) := by decide +kernel
theorem dX4_copy_114 : decode cX4_copy 114 = .ok (.getfield 226, 3) := by decide +kernel
theorem dX4_copy_117 : decode cX4_copy 117 = .ok (.iload 4, 2) := by decide +kernel
theorem dX4_copy_119 : decode cX4_copy 119 = .ok (.iload 5, 2) := by decide +kernel
theorem dX4_copy_121 : decode cX4_copy 121 = .ok (.invokestatic 229, 3) := by decide +kernel
theorem dX4_copy_124 : decode cX4_copy 124 = .ok (.iload 5, 2) := by decide +kernel
theorem dX4_copy_126 : decode cX4_copy 126 = .ok (.ireturn, 1) := by decide +kernel
def rX4_copy : Room := { frames := 2, cells := 0, slots := 0, locals := 44 }
def vX4_copy_c100 (p1 : Int32) (p2 : Int32) (p3 : Int32) (p4 : Int32) (p5 : Int32) (J : JS) : Int32 × JS := (((vX4_tell J (0 : Int32)).1), ((vX4_tell J (0 : Int32)).2))
def kX4_copy_c100 (p1 : Int32) (p2 : Int32) (p3 : Int32) (p4 : Int32) (p5 : Int32) (J : JS) : Prop := (kX4_tell J (0 : Int32)) ∧ True
def vX4_copy_c52 (p1 : Int32) (p2 : Int32) (p3 : Int32) (p4 : Int32) (p5 : Int32) (J : JS) : Int32 × JS := (((vX4_tell J (5 : Int32)).1), ((vX4_tell J (5 : Int32)).2))
def kX4_copy_c52 (p1 : Int32) (p2 : Int32) (p3 : Int32) (p4 : Int32) (p5 : Int32) (J : JS) : Prop := (kX4_tell J (5 : Int32)) ∧ True
def vX4_copy_c14 (p1 : Int32) (p2 : Int32) (p3 : Int32) (p4 : Int32) (p5 : Int32) (J : JS) : Int32 × JS := (((vX4_tell J (0 : Int32)).1), ((vX4_tell J (0 : Int32)).2))
def kX4_copy_c14 (p1 : Int32) (p2 : Int32) (p3 : Int32) (p4 : Int32) (p5 : Int32) (J : JS) : Prop := (kX4_tell J (0 : Int32)) ∧ True
def vX4_copy (J0 : JS) (p1 : Int32) (p2 : Int32) (p3 : Int32) (p4 : Int32) (p5 : Int32) : Int32 × JS := if ((vX4_isSheet p1) = 0) then (vX4_copy_c14 p1 p2 p3 p4 p5 J0) else if ((vX4_isSheet p3) = 0) then (vX4_copy_c14 p1 p2 p3 p4 p5 J0) else if ((s_bits (j_s J0 (p1).toNatClampNeg)) = 0) then (vX4_copy_c52 p1 p2 p3 p4 p5 J0) else if ((s_bits (j_s J0 (p3).toNatClampNeg)) = 0) then (vX4_copy_c52 p1 p2 p3 p4 p5 J0) else if ((s_bits (j_s J0 (p1).toNatClampNeg)) = (s_bits (j_s J0 (p3).toNatClampNeg))) then (if ((vX2_hasRow (j_s J0 (p1).toNatClampNeg) p2 p5) = 0) then (vX4_copy_c100 p1 p2 p3 p4 p5 J0) else if ((vX2_hasRow (j_s J0 (p3).toNatClampNeg) p4 p5) = 0) then (vX4_copy_c100 p1 p2 p3 p4 p5 J0) else (p5, (j_s_s J0 (p3).toNatClampNeg (s_s_numbers (j_s J0 (p3).toNatClampNeg) (va_cpy (s_numbers (j_s J0 (p1).toNatClampNeg)) (s_numbers (j_s J0 (p3).toNatClampNeg)) (p2).toNatClampNeg (p4).toNatClampNeg (p5).toNatClampNeg))))) else (((vX4_tell J0 (2 : Int32)).1), ((vX4_tell J0 (2 : Int32)).2))
def kX4_copy (J0 : JS) (p1 : Int32) (p2 : Int32) (p3 : Int32) (p4 : Int32) (p5 : Int32) : Prop := (kX4_isSheet p1) ∧ (((vX4_isSheet p1) = 0) → ((kX4_copy_c14 p1 p2 p3 p4 p5 J0))) ∧ (¬ ((vX4_isSheet p1) = 0) → ((kX4_isSheet p3) ∧ (((vX4_isSheet p3) = 0) → ((kX4_copy_c14 p1 p2 p3 p4 p5 J0))) ∧ (¬ ((vX4_isSheet p3) = 0) → ((vp_in p1 4) ∧ (vp_in p3 4) ∧ (((s_bits (j_s J0 (p1).toNatClampNeg)) = 0) → ((kX4_copy_c52 p1 p2 p3 p4 p5 J0))) ∧ (¬ ((s_bits (j_s J0 (p1).toNatClampNeg)) = 0) → ((((s_bits (j_s J0 (p3).toNatClampNeg)) = 0) → ((kX4_copy_c52 p1 p2 p3 p4 p5 J0))) ∧ (¬ ((s_bits (j_s J0 (p3).toNatClampNeg)) = 0) → ((((s_bits (j_s J0 (p1).toNatClampNeg)) = (s_bits (j_s J0 (p3).toNatClampNeg))) → ((((vX2_hasRow (j_s J0 (p1).toNatClampNeg) p2 p5) = 0) → ((kX4_copy_c100 p1 p2 p3 p4 p5 J0))) ∧ (¬ ((vX2_hasRow (j_s J0 (p1).toNatClampNeg) p2 p5) = 0) → ((((vX2_hasRow (j_s J0 (p3).toNatClampNeg) p4 p5) = 0) → ((kX4_copy_c100 p1 p2 p3 p4 p5 J0))) ∧ (¬ ((vX2_hasRow (j_s J0 (p3).toNatClampNeg) p4 p5) = 0) → ((jcpok p2 p4 p5 40 40) ∧ True)))))) ∧ (¬ ((s_bits (j_s J0 (p1).toNatClampNeg)) = (s_bits (j_s J0 (p3).toNatClampNeg))) → ((kX4_tell J0 (2 : Int32)) ∧ True))))))))))
set_option maxHeartbeats 4000000 in
set_option maxRecDepth 100000 in
theorem hX4_copy (l : Launch) (D : va_G) (K : JK) (G : JG) (a : Nat → Nat) (J0 : JS) (p1 : Int32) (p2 : Int32) (p3 : Int32) (p4 : Int32) (p5 : Int32) (hk : kX4_copy J0 p1 p2 p3 p4 p5) (sz : Nat) : Met l yX4_copy (.code yX4_copy cX4_copy 8 (some .int) :: jGW) rX4_copy (jPre D (jT K) G [.ref (a 0), .int p1, .int p2, .int p3, .int p4, .int p5] (wJ K a J0) sz) (jQi D (jT K) ((vX4_copy J0 p1 p2 p3 p4 p5).1) (wJ K a ((vX4_copy J0 p1 p2 p3 p4 p5).2)) (va_A (wJ K a J0) sz)) 0 0 (va_A (wJ K a J0) sz) := by
  refine jEi (by decide) (Nat.le_of_ble_eq_true rfl) (fun p e s m below meth c A Q ls hat hP hD hS hl hend => ?_)
  obtain ⟨hx, hb, hml, hown, hts, hK, hZ, hA⟩ := hat
  have hl : lv_has ls 8 [(0, .ref (a 0)), (1, .int p1), (2, .int p2), (3, .int p3), (4, .int p4), (5, .int p5)] := hl
  have hc100 : ∀ (J : JS) (H : Heap) (locs : List Loc) (ls : Array Slot), (vX4_copy J0 p1 p2 p3 p4 p5) = vX4_copy_c100 p1 p2 p3 p4 p5 J → kX4_copy_c100 p1 p2 p3 p4 p5 J → va_P D vwCl (wJ K a J) H → va_D A (wJ K a J) → va_S A s.heap H locs → lv_has ls 8 [(0, .ref (a 0)), (1, .int p1), (2, .int p2), (3, .int p3), (4, .int p4), (5, .int p5)] → W p l e rX4_copy s m ([.ref (a 0), .int p1, .int p2, .int p3, .int p4, .int p5] : List Value).toArray below meth c H locs 0 0 Q (F0 m 100 ls []) := by
    intro J H locs ls hV hk hP hD hS hl
    rw [vX4_copy_c100] at hV
    rw [kX4_copy_c100] at hk
    refine lv_aload_n hx hb dX4_copy_100 rfl (lv_at hl 0 rfl) ?_
    refine lv_iconst (v := (0 : Int32)) hx hb dX4_copy_101 (by decide) ?_
    obtain ⟨h17, hk⟩ := hk
    refine jci (jrunV (As := [.int (0 : Int32)]) (rest := []) hx hb hml hown hts hK hZ hA hP hD hS hl.1 mf_X4_tell kl_X4_60 ⟨rfl, rfl, Nat.le_of_ble_eq_true rfl, Nat.le_of_ble_eq_true rfl⟩ ⟨Nat.zero_le _, Nat.zero_le _⟩ [0, 1, 2, 3, 4, 5, 6, 7, 8, 9, 10, 11, 12, 13, 14, 15, 16, 17, 18, 19, 20, 21, 22, 23, 24, 25, 26, 27, 28, 29] rfl (js45 K a J) rfl rfl rfl (hX4_tell l D K G a J (0 : Int32) h17 _) rfl rfl (Nat.le_of_ble_eq_true rfl) dX4_copy_102) hA hP hD hS [0, 1, 2, 3, 4, 5, 6, 7, 8, 9, 10, 11, 12, 13, 14, 15, 16, 17, 18, 19, 20, 21, 22, 23, 24, 25, 26, 27, 28, 29] (js45 K a J) (jh52 K a J ((vX4_tell J (0 : Int32)).2)) (fun H locs hP hD hS => ?_)
    have hP := jeP (jp53 K a J ((vX4_tell J (0 : Int32)).2)) hP
    have hD := jeD (jp53 K a J ((vX4_tell J (0 : Int32)).2)) hD
    exact hend _ _ _ _ _ (by rw [hV]; exact hP) (by rw [hV]; exact hD) hS (by rw [hV]) rfl dX4_copy_105
  have hc52 : ∀ (J : JS) (H : Heap) (locs : List Loc) (ls : Array Slot), (vX4_copy J0 p1 p2 p3 p4 p5) = vX4_copy_c52 p1 p2 p3 p4 p5 J → kX4_copy_c52 p1 p2 p3 p4 p5 J → va_P D vwCl (wJ K a J) H → va_D A (wJ K a J) → va_S A s.heap H locs → lv_has ls 8 [(0, .ref (a 0)), (1, .int p1), (2, .int p2), (3, .int p3), (4, .int p4), (5, .int p5)] → W p l e rX4_copy s m ([.ref (a 0), .int p1, .int p2, .int p3, .int p4, .int p5] : List Value).toArray below meth c H locs 0 0 Q (F0 m 52 ls []) := by
    intro J H locs ls hV hk hP hD hS hl
    rw [vX4_copy_c52] at hV
    rw [kX4_copy_c52] at hk
    refine lv_aload_n hx hb dX4_copy_52 rfl (lv_at hl 0 rfl) ?_
    refine lv_iconst (v := (5 : Int32)) hx hb dX4_copy_53 (by decide) ?_
    obtain ⟨h18, hk⟩ := hk
    refine jci (jrunV (As := [.int (5 : Int32)]) (rest := []) hx hb hml hown hts hK hZ hA hP hD hS hl.1 mf_X4_tell kl_X4_60 ⟨rfl, rfl, Nat.le_of_ble_eq_true rfl, Nat.le_of_ble_eq_true rfl⟩ ⟨Nat.zero_le _, Nat.zero_le _⟩ [0, 1, 2, 3, 4, 5, 6, 7, 8, 9, 10, 11, 12, 13, 14, 15, 16, 17, 18, 19, 20, 21, 22, 23, 24, 25, 26, 27, 28, 29] rfl (js45 K a J) rfl rfl rfl (hX4_tell l D K G a J (5 : Int32) h18 _) rfl rfl (Nat.le_of_ble_eq_true rfl) dX4_copy_54) hA hP hD hS [0, 1, 2, 3, 4, 5, 6, 7, 8, 9, 10, 11, 12, 13, 14, 15, 16, 17, 18, 19, 20, 21, 22, 23, 24, 25, 26, 27, 28, 29] (js45 K a J) (jh52 K a J ((vX4_tell J (5 : Int32)).2)) (fun H locs hP hD hS => ?_)
    have hP := jeP (jp53 K a J ((vX4_tell J (5 : Int32)).2)) hP
    have hD := jeD (jp53 K a J ((vX4_tell J (5 : Int32)).2)) hD
    exact hend _ _ _ _ _ (by rw [hV]; exact hP) (by rw [hV]; exact hD) hS (by rw [hV]) rfl dX4_copy_57
  have hc14 : ∀ (J : JS) (H : Heap) (locs : List Loc) (ls : Array Slot), (vX4_copy J0 p1 p2 p3 p4 p5) = vX4_copy_c14 p1 p2 p3 p4 p5 J → kX4_copy_c14 p1 p2 p3 p4 p5 J → va_P D vwCl (wJ K a J) H → va_D A (wJ K a J) → va_S A s.heap H locs → lv_has ls 8 [(0, .ref (a 0)), (1, .int p1), (2, .int p2), (3, .int p3), (4, .int p4), (5, .int p5)] → W p l e rX4_copy s m ([.ref (a 0), .int p1, .int p2, .int p3, .int p4, .int p5] : List Value).toArray below meth c H locs 0 0 Q (F0 m 14 ls []) := by
    intro J H locs ls hV hk hP hD hS hl
    rw [vX4_copy_c14] at hV
    rw [kX4_copy_c14] at hk
    refine lv_aload_n hx hb dX4_copy_14 rfl (lv_at hl 0 rfl) ?_
    refine lv_iconst (v := (0 : Int32)) hx hb dX4_copy_15 (by decide) ?_
    obtain ⟨h19, hk⟩ := hk
    refine jci (jrunV (As := [.int (0 : Int32)]) (rest := []) hx hb hml hown hts hK hZ hA hP hD hS hl.1 mf_X4_tell kl_X4_60 ⟨rfl, rfl, Nat.le_of_ble_eq_true rfl, Nat.le_of_ble_eq_true rfl⟩ ⟨Nat.zero_le _, Nat.zero_le _⟩ [0, 1, 2, 3, 4, 5, 6, 7, 8, 9, 10, 11, 12, 13, 14, 15, 16, 17, 18, 19, 20, 21, 22, 23, 24, 25, 26, 27, 28, 29] rfl (js45 K a J) rfl rfl rfl (hX4_tell l D K G a J (0 : Int32) h19 _) rfl rfl (Nat.le_of_ble_eq_true rfl) dX4_copy_16) hA hP hD hS [0, 1, 2, 3, 4, 5, 6, 7, 8, 9, 10, 11, 12, 13, 14, 15, 16, 17, 18, 19, 20, 21, 22, 23, 24, 25, 26, 27, 28, 29] (js45 K a J) (jh52 K a J ((vX4_tell J (0 : Int32)).2)) (fun H locs hP hD hS => ?_)
    have hP := jeP (jp53 K a J ((vX4_tell J (0 : Int32)).2)) hP
    have hD := jeD (jp53 K a J ((vX4_tell J (0 : Int32)).2)) hD
    exact hend _ _ _ _ _ (by rw [hV]; exact hP) (by rw [hV]; exact hD) hS (by rw [hV]) rfl dX4_copy_19
  have hV := vX4_copy.eq_1 J0 p1 p2 p3 p4 p5
  rw [kX4_copy] at hk
  refine lv_iload_n hx hb dX4_copy_0 rfl (lv_at hl 1 rfl) ?_
  obtain ⟨h20, hk⟩ := hk
  refine jci0 (jrunS (As := [.int p1]) (rest := []) hx hb hml hown hts hK hZ hA hP hD hS hl.1 mf_X4_isSheet kl_X4_205 ⟨rfl, rfl, Nat.le_of_ble_eq_true rfl, Nat.le_of_ble_eq_true rfl⟩ ⟨Nat.zero_le _, Nat.zero_le _⟩ [] rfl rfl (hX4_isSheet l D K G p1 h20 _) rfl rfl (Nat.le_of_ble_eq_true rfl) dX4_copy_1) hA hP hD hS [] rfl (fun H locs hP hS => ?_)
  refine lv_if_eq (tgt := 14) hx hb dX4_copy_4 (by decide) (fun c21 => ?_) (fun c21 => ?_)
  · have hV := hV.trans (if_pos c21)
    have hk := hk.1 c21
    exact hc14 J0 _ _ _ hV hk hP hD hS (lv_sub hl [0, 1, 2, 3, 4, 5] rfl)
  · have hV := hV.trans (if_neg c21)
    have hk := hk.2 c21
    refine lv_iload_n hx hb dX4_copy_7 rfl (lv_at hl 3 rfl) ?_
    obtain ⟨h22, hk⟩ := hk
    refine jci0 (jrunS (As := [.int p3]) (rest := []) hx hb hml hown hts hK hZ hA hP hD hS hl.1 mf_X4_isSheet kl_X4_205 ⟨rfl, rfl, Nat.le_of_ble_eq_true rfl, Nat.le_of_ble_eq_true rfl⟩ ⟨Nat.zero_le _, Nat.zero_le _⟩ [] rfl rfl (hX4_isSheet l D K G p3 h22 _) rfl rfl (Nat.le_of_ble_eq_true rfl) dX4_copy_8) hA hP hD hS [] rfl (fun H locs hP hS => ?_)
    refine lv_if_ne (tgt := 20) hx hb dX4_copy_11 (by decide) (fun c23 => ?_) (fun c23 => ?_)
    · have hV := hV.trans (if_neg c23)
      have hk := hk.2 c23
      refine lv_aload_n hx hb dX4_copy_20 rfl (lv_at hl 0 rfl) ?_
      refine gf_X4_31 (v := .ref (a 18)) hx hb hts hown hK hZ hP (0) rfl rfl dX4_copy_21 ?_
      refine lv_iload_n hx hb dX4_copy_24 rfl (lv_at hl 1 rfl) ?_
      obtain ⟨h24, hk⟩ := hk
      refine j_aald hx hb hK hP h24 dX4_copy_25 ?_
      refine lv_astore (lv' := [(6, .ref (a (19 + 2 * (p1).toNatClampNeg))), (0, .ref (a 0)), (1, .int p1), (2, .int p2), (3, .int p3), (4, .int p4), (5, .int p5)]) hx hb dX4_copy_26 hl (by decide) rfl (fun ls hl => ?_)
      refine lv_aload_n hx hb dX4_copy_28 rfl (lv_at hl 1 rfl) ?_
      refine gf_X4_31 (v := .ref (a 18)) hx hb hts hown hK hZ hP (0) rfl rfl dX4_copy_29 ?_
      refine lv_iload_n hx hb dX4_copy_32 rfl (lv_at hl 4 rfl) ?_
      obtain ⟨h25, hk⟩ := hk
      refine j_aald hx hb hK hP h25 dX4_copy_33 ?_
      refine lv_astore (lv' := [(7, .ref (a (19 + 2 * (p3).toNatClampNeg))), (6, .ref (a (19 + 2 * (p1).toNatClampNeg))), (0, .ref (a 0)), (1, .int p1), (2, .int p2), (3, .int p3), (4, .int p4), (5, .int p5)]) hx hb dX4_copy_34 hl (by decide) rfl (fun ls hl => ?_)
      refine lv_aload hx hb dX4_copy_36 (lv_at hl 1 rfl) ?_
      refine gf_X4_220 (v := .int (s_bits (j_s J0 (p1).toNatClampNeg))) hx hb hts hown hK hZ hP (19 + 2 * (p1).toNatClampNeg) (wJ_sh D K _ _ ((jlt4 h24))) rfl dX4_copy_38 ?_
      refine lv_if_eq (tgt := 52) hx hb dX4_copy_41 (by decide) (fun c26 => ?_) (fun c26 => ?_)
      · have hV := hV.trans (if_pos c26)
        have hk := hk.1 c26
        exact hc52 J0 _ _ _ hV hk hP hD hS (lv_sub hl [2, 3, 4, 5, 6, 7] rfl)
      · have hV := hV.trans (if_neg c26)
        have hk := hk.2 c26
        refine lv_aload hx hb dX4_copy_44 (lv_at hl 0 rfl) ?_
        refine gf_X4_220 (v := .int (s_bits (j_s J0 (p3).toNatClampNeg))) hx hb hts hown hK hZ hP (19 + 2 * (p3).toNatClampNeg) (wJ_sh D K _ _ ((jlt4 h25))) rfl dX4_copy_46 ?_
        refine lv_if_ne (tgt := 58) hx hb dX4_copy_49 (by decide) (fun c27 => ?_) (fun c27 => ?_)
        · have hV := hV.trans (if_neg c27)
          have hk := hk.2 c27
          refine lv_aload hx hb dX4_copy_58 (lv_at hl 1 rfl) ?_
          refine gf_X4_220 (v := .int (s_bits (j_s J0 (p1).toNatClampNeg))) hx hb hts hown hK hZ hP (19 + 2 * (p1).toNatClampNeg) (wJ_sh D K _ _ ((jlt4 h24))) rfl dX4_copy_60 ?_
          refine lv_aload hx hb dX4_copy_63 (lv_at hl 0 rfl) ?_
          refine gf_X4_220 (v := .int (s_bits (j_s J0 (p3).toNatClampNeg))) hx hb hts hown hK hZ hP (19 + 2 * (p3).toNatClampNeg) (wJ_sh D K _ _ ((jlt4 h25))) rfl dX4_copy_65 ?_
          refine lv_icmp_eq (tgt := 77) hx hb dX4_copy_68 (by decide) (fun c28 => ?_) (fun c28 => ?_)
          · have hV := hV.trans (if_pos c28)
            have hk := hk.1 c28
            refine lv_aload hx hb dX4_copy_77 (lv_at hl 1 rfl) ?_
            refine lv_iload_n hx hb dX4_copy_79 rfl (lv_at hl 4 rfl) ?_
            refine lv_iload hx hb dX4_copy_80 (lv_at hl 7 rfl) ?_
            refine jci0 (jrunV (As := [.int p2, .int p5]) (rest := []) hx hb hml hown hts hK hZ hA hP hD hS hl.1 mf_X2_hasRow kl_X4_223 ⟨rfl, rfl, Nat.le_of_ble_eq_true rfl, Nat.le_of_ble_eq_true rfl⟩ ⟨Nat.zero_le _, Nat.zero_le _⟩ [19 + 2 * (p1).toNatClampNeg, 20 + 2 * (p1).toNatClampNeg] (jnd2 _) (wJ_sC D K _ _ ((jlt4 h24))) rfl rfl rfl (hX2_hasRow l D K G (fun k => a (19 + 2 * (p1).toNatClampNeg + k)) (j_s J0 (p1).toNatClampNeg) p2 p5 _) rfl rfl (Nat.le_of_ble_eq_true rfl) dX4_copy_82) hA hP hD hS [19 + 2 * (p1).toNatClampNeg, 20 + 2 * (p1).toNatClampNeg] (wJ_sC D K _ _ ((jlt4 h24))) (fun H locs hP hS => ?_)
            refine lv_if_eq (tgt := 100) hx hb dX4_copy_85 (by decide) (fun c29 => ?_) (fun c29 => ?_)
            · have hV := hV.trans (if_pos c29)
              have hk := hk.1 c29
              exact hc100 J0 _ _ _ hV hk hP hD hS (lv_sub hl [2, 3, 4, 5, 6, 7] rfl)
            · have hV := hV.trans (if_neg c29)
              have hk := hk.2 c29
              refine lv_aload hx hb dX4_copy_88 (lv_at hl 0 rfl) ?_
              refine lv_iload hx hb dX4_copy_90 (lv_at hl 6 rfl) ?_
              refine lv_iload hx hb dX4_copy_92 (lv_at hl 7 rfl) ?_
              refine jci0 (jrunV (As := [.int p4, .int p5]) (rest := []) hx hb hml hown hts hK hZ hA hP hD hS hl.1 mf_X2_hasRow kl_X4_223 ⟨rfl, rfl, Nat.le_of_ble_eq_true rfl, Nat.le_of_ble_eq_true rfl⟩ ⟨Nat.zero_le _, Nat.zero_le _⟩ [19 + 2 * (p3).toNatClampNeg, 20 + 2 * (p3).toNatClampNeg] (jnd2 _) (wJ_sC D K _ _ ((jlt4 h25))) rfl rfl rfl (hX2_hasRow l D K G (fun k => a (19 + 2 * (p3).toNatClampNeg + k)) (j_s J0 (p3).toNatClampNeg) p4 p5 _) rfl rfl (Nat.le_of_ble_eq_true rfl) dX4_copy_94) hA hP hD hS [19 + 2 * (p3).toNatClampNeg, 20 + 2 * (p3).toNatClampNeg] (wJ_sC D K _ _ ((jlt4 h25))) (fun H locs hP hS => ?_)
              refine lv_if_ne (tgt := 106) hx hb dX4_copy_97 (by decide) (fun c30 => ?_) (fun c30 => ?_)
              · have hV := hV.trans (if_neg c30)
                have hk := hk.2 c30
                refine lv_aload hx hb dX4_copy_106 (lv_at hl 1 rfl) ?_
                refine gf_X4_226 (v := .ref (a (20 + 2 * (p1).toNatClampNeg))) hx hb hts hown hK hZ hP (19 + 2 * (p1).toNatClampNeg) (wJ_sh D K _ _ ((jlt4 h24))) rfl dX4_copy_108 ?_
                refine lv_iload_n hx hb dX4_copy_111 rfl (lv_at hl 4 rfl) ?_
                refine lv_aload hx hb dX4_copy_112 (lv_at hl 0 rfl) ?_
                refine gf_X4_226 (v := .ref (a (20 + 2 * (p3).toNatClampNeg))) hx hb hts hown hK hZ hP (19 + 2 * (p3).toNatClampNeg) (wJ_sh D K _ _ ((jlt4 h25))) rfl dX4_copy_114 ?_
                refine lv_iload hx hb dX4_copy_117 (lv_at hl 6 rfl) ?_
                refine lv_iload hx hb dX4_copy_119 (lv_at hl 7 rfl) ?_
                obtain ⟨h31, hk⟩ := hk
                refine va_copyi (sp := p2) (dp := p4) (n := p5) hx hb (hml.trans hl.1.symm) hown (hts _ kac_X4) (hts _ kac_nat) (hts _ kac_stat) (hts _ kac_ini) hK hP hD hS (20 + 2 * (p1).toNatClampNeg) (20 + 2 * (p3).toNatClampNeg) 0 0 (wJ_sn D K _ _ ((jlt4 h24))) (wJ_sn D K _ _ ((jlt4 h25))) rfl rfl rfl h31.1 h31.2.1 h31.2.2.1 h31.2.2.2.1 h31.2.2.2.2 (fun _ _ => rfl) (Nat.le_of_ble_eq_true rfl) (Nat.le_of_ble_eq_true rfl) dX4_copy_121 (fun H locs hP hD hS => ?_)
                have hP := jeP (wJ_sN D K _ _ _ ((jlt4 h25))) hP
                have hD := jeD (wJ_sN D K _ _ _ ((jlt4 h25))) hD
                refine lv_iload hx hb dX4_copy_124 (lv_at hl 7 rfl) ?_
                exact hend _ _ _ _ _ (by rw [hV]; exact hP) (by rw [hV]; exact hD) hS (by rw [hV]) rfl dX4_copy_126
              · have hV := hV.trans (if_pos c30)
                have hk := hk.1 c30
                exact hc100 J0 _ _ _ hV hk hP hD hS (lv_sub hl [2, 3, 4, 5, 6, 7] rfl)
          · have hV := hV.trans (if_neg c28)
            have hk := hk.2 c28
            refine lv_aload_n hx hb dX4_copy_71 rfl (lv_at hl 2 rfl) ?_
            refine lv_iconst (v := (2 : Int32)) hx hb dX4_copy_72 (by decide) ?_
            obtain ⟨h32, hk⟩ := hk
            refine jci (jrunV (As := [.int (2 : Int32)]) (rest := []) hx hb hml hown hts hK hZ hA hP hD hS hl.1 mf_X4_tell kl_X4_60 ⟨rfl, rfl, Nat.le_of_ble_eq_true rfl, Nat.le_of_ble_eq_true rfl⟩ ⟨Nat.zero_le _, Nat.zero_le _⟩ [0, 1, 2, 3, 4, 5, 6, 7, 8, 9, 10, 11, 12, 13, 14, 15, 16, 17, 18, 19, 20, 21, 22, 23, 24, 25, 26, 27, 28, 29] rfl (js45 K a J0) rfl rfl rfl (hX4_tell l D K G a J0 (2 : Int32) h32 _) rfl rfl (Nat.le_of_ble_eq_true rfl) dX4_copy_73) hA hP hD hS [0, 1, 2, 3, 4, 5, 6, 7, 8, 9, 10, 11, 12, 13, 14, 15, 16, 17, 18, 19, 20, 21, 22, 23, 24, 25, 26, 27, 28, 29] (js45 K a J0) (jh52 K a J0 ((vX4_tell J0 (2 : Int32)).2)) (fun H locs hP hD hS => ?_)
            have hP := jeP (jp53 K a J0 ((vX4_tell J0 (2 : Int32)).2)) hP
            have hD := jeD (jp53 K a J0 ((vX4_tell J0 (2 : Int32)).2)) hD
            exact hend _ _ _ _ _ (by rw [hV]; exact hP) (by rw [hV]; exact hD) hS (by rw [hV]) rfl dX4_copy_76
        · have hV := hV.trans (if_pos c27)
          have hk := hk.1 c27
          exact hc52 J0 _ _ _ hV hk hP hD hS (lv_sub hl [2, 3, 4, 5, 6, 7] rfl)
    · have hV := hV.trans (if_pos c23)
      have hk := hk.1 c23
      exact hc14 J0 _ _ _ hV hk hP hD hS (lv_sub hl [0, 1, 2, 3, 4, 5] rfl)
theorem dX4_count_0 : decode cX4_count 0 = .ok (.iload_n 1, 1) := by decide +kernel
theorem dX4_count_1 : decode cX4_count 1 = .ok (.tableswitch 115 0 7 #[47, 55, 63, 73, 81, 91, 99, 107], 47) := by decide +kernel
theorem dX4_count_48 : decode cX4_count 48 = .ok (.aload_n 0, 1) := by decide +kernel
theorem dX4_count_49 : decode cX4_count 49 = .ok (.getfield 10, 3) := by decide +kernel
theorem dX4_count_52 : decode cX4_count 52 = .ok (.getfield 110, 3) := by decide +kernel
theorem dX4_count_55 : decode cX4_count 55 = .ok (.ireturn, 1) := by decide +kernel
theorem dX4_count_56 : decode cX4_count 56 = .ok (.aload_n 0, 1) := by decide +kernel
theorem dX4_count_57 : decode cX4_count 57 = .ok (.getfield 10, 3) := by decide +kernel
theorem dX4_count_60 : decode cX4_count 60 = .ok (.getfield 87, 3) := by decide +kernel
theorem dX4_count_63 : decode cX4_count 63 = .ok (.ireturn, 1) := by decide +kernel
theorem dX4_count_64 : decode cX4_count 64 = .ok (.aload_n 0, 1) := by decide +kernel
theorem dX4_count_65 : decode cX4_count 65 = .ok (.getfield 10, 3) := by decide +kernel
theorem dX4_count_68 : decode cX4_count 68 = .ok (.getfield 64, 3) := by decide +kernel
theorem dX4_count_71 : decode cX4_count 71 = .ok (.iconst 0, 1) := by decide +kernel
theorem dX4_count_72 : decode cX4_count 72 = .ok (.iaload, 1) := by decide +kernel
theorem dX4_count_73 : decode cX4_count 73 = .ok (.ireturn, 1) := by decide +kernel
theorem dX4_count_74 : decode cX4_count 74 = .ok (.aload_n 0, 1) := by decide +kernel
theorem dX4_count_75 : decode cX4_count 75 = .ok (.getfield 10, 3) := by decide +kernel
theorem dX4_count_78 : decode cX4_count 78 = .ok (.invokevirtual 118, 3) := by decide +kernel
theorem dX4_count_81 : decode cX4_count 81 = .ok (.ireturn, 1) := by decide +kernel
theorem dX4_count_82 : decode cX4_count 82 = .ok (.aload_n 0, 1) := by decide +kernel
theorem dX4_count_83 : decode cX4_count 83 = .ok (.getfield 10, 3) := by decide +kernel
theorem dX4_count_86 : decode cX4_count 86 = .ok (.bipush 6, 2) := by decide +kernel
theorem dX4_count_88 : decode cX4_count 88 = .ok (.invokevirtual 122, 3) := by decide +kernel
theorem dX4_count_91 : decode cX4_count 91 = .ok (.ireturn, 1) := by decide +kernel
theorem dX4_count_92 : decode cX4_count 92 = .ok (.aload_n 0, 1) := by decide +kernel
theorem dX4_count_93 : decode cX4_count 93 = .ok (.getfield 25, 3) := by decide +kernel
theorem dX4_count_96 : decode cX4_count 96 = .ok (.getfield 182, 3) := by decide +kernel
theorem dX4_count_99 : decode cX4_count 99 = .ok (.ireturn, 1) := by decide +kernel
theorem dX4_count_100 : decode cX4_count 100 = .ok (.aload_n 0, 1) := by decide +kernel
theorem dX4_count_101 : decode cX4_count 101 = .ok (.getfield 10, 3) := by decide +kernel
theorem dX4_count_104 : decode cX4_count 104 = .ok (.getfield 179, 3) := by decide +kernel
theorem dX4_count_107 : decode cX4_count 107 = .ok (.ireturn, 1) := by decide +kernel
theorem dX4_count_108 : decode cX4_count 108 = .ok (.aload_n 0, 1) := by decide +kernel
theorem dX4_count_109 : decode cX4_count 109 = .ok (.getfield 10, 3) := by decide +kernel
theorem dX4_count_112 : decode cX4_count 112 = .ok (.invokevirtual 240, 3) := by decide +kernel
theorem dX4_count_115 : decode cX4_count 115 = .ok (.ireturn, 1) := by decide +kernel
theorem dX4_count_116 : decode cX4_count 116 = .ok (.aload_n 0, 1) := by decide +kernel
theorem dX4_count_117 : decode cX4_count 117 = .ok (.iconst 0, 1) := by decide +kernel
theorem dX4_count_118 : decode cX4_count 118 = .ok (.invokevirtual 60, 3) := by decide +kernel
theorem dX4_count_121 : decode cX4_count 121 = .ok (.ireturn, 1) := by decide +kernel
def rX4_count : Room := { frames := 6, cells := 0, slots := 0, locals := 131 }
def vX4_count (J0 : JS) (p1 : Int32) : Int32 × JS := if (p1 = (0 : Int32)) then ((e_day (j_E J0)), J0) else if (p1 = (1 : Int32)) then ((e_things (j_E J0)), J0) else if (p1 = (2 : Int32)) then (((e_home (j_E J0)) ((0 : Int32)).toNatClampNeg), J0) else if (p1 = (3 : Int32)) then ((vX0_awarded (j_E J0)), J0) else if (p1 = (4 : Int32)) then ((vX0_sum (j_E J0) (6 : Int32)), J0) else if (p1 = (5 : Int32)) then ((t_length (j_tape J0)), J0) else if (p1 = (6 : Int32)) then ((e_z (j_E J0)), J0) else if (p1 = (7 : Int32)) then ((vX0_heldSpots (j_E J0)), J0) else (((vX4_tell J0 (0 : Int32)).1), ((vX4_tell J0 (0 : Int32)).2))
def kX4_count (J0 : JS) (p1 : Int32) : Prop := ((p1 = (0 : Int32)) → True) ∧ (¬ (p1 = (0 : Int32)) → (((p1 = (1 : Int32)) → True) ∧ (¬ (p1 = (1 : Int32)) → (((p1 = (2 : Int32)) → True) ∧ (¬ (p1 = (2 : Int32)) → (((p1 = (3 : Int32)) → ((kX0_awarded (j_E J0)) ∧ True)) ∧ (¬ (p1 = (3 : Int32)) → (((p1 = (4 : Int32)) → ((kX0_sum (j_E J0) (6 : Int32)) ∧ True)) ∧ (¬ (p1 = (4 : Int32)) → (((p1 = (5 : Int32)) → True) ∧ (¬ (p1 = (5 : Int32)) → (((p1 = (6 : Int32)) → True) ∧ (¬ (p1 = (6 : Int32)) → (((p1 = (7 : Int32)) → ((kX0_heldSpots (j_E J0)) ∧ True)) ∧ (¬ (p1 = (7 : Int32)) → ((kX4_tell J0 (0 : Int32)) ∧ True))))))))))))))))
set_option maxHeartbeats 4000000 in
set_option maxRecDepth 100000 in
theorem hX4_count (l : Launch) (D : va_G) (K : JK) (G : JG) (a : Nat → Nat) (J0 : JS) (p1 : Int32) (hk : kX4_count J0 p1) (sz : Nat) : Met l yX4_count (.code yX4_count cX4_count 2 (some .int) :: jGW) rX4_count (jPre D (jT K) G [.ref (a 0), .int p1] (wJ K a J0) sz) (jQi D (jT K) ((vX4_count J0 p1).1) (wJ K a ((vX4_count J0 p1).2)) (va_A (wJ K a J0) sz)) 0 0 (va_A (wJ K a J0) sz) := by
  refine jEi (by decide) (Nat.le_of_ble_eq_true rfl) (fun p e s m below meth c A Q ls hat hP hD hS hl hend => ?_)
  obtain ⟨hx, hb, hml, hown, hts, hK, hZ, hA⟩ := hat
  have hl : lv_has ls 2 [(0, .ref (a 0)), (1, .int p1)] := hl
  have hV := vX4_count.eq_1 J0 p1
  rw [kX4_count] at hk
  refine lv_iload_n hx hb dX4_count_0 rfl (lv_at hl 1 rfl) ?_
  by_cases c13 : (p1 = (0 : Int32))
  · have hV := hV.trans (if_pos c13)
    have hk := hk.1 c13
    refine lv_tableIn (off := 47) (tgt := 48) hx hb dX4_count_1 (by rw [c13]; decide) (by rw [c13]; decide) (by rw [c13]; rfl) (by decide) ?_
    refine lv_aload_n hx hb dX4_count_48 rfl (lv_at hl 0 rfl) ?_
    refine gf_X4_10 (v := .ref (a 1)) hx hb hts hown hK hZ hP (0) rfl rfl dX4_count_49 ?_
    refine gf_X4_110 (v := .int (e_day (j_E J0))) hx hb hts hown hK hZ hP (1) rfl rfl dX4_count_52 ?_
    exact hend _ _ _ _ _ (by rw [hV]; exact hP) (by rw [hV]; exact hD) hS (by rw [hV]) rfl dX4_count_55
  · have hV := hV.trans (if_neg c13)
    have hk := hk.2 c13
    by_cases c14 : (p1 = (1 : Int32))
    · have hV := hV.trans (if_pos c14)
      have hk := hk.1 c14
      refine lv_tableIn (off := 55) (tgt := 56) hx hb dX4_count_1 (by rw [c14]; decide) (by rw [c14]; decide) (by rw [c14]; rfl) (by decide) ?_
      refine lv_aload_n hx hb dX4_count_56 rfl (lv_at hl 0 rfl) ?_
      refine gf_X4_10 (v := .ref (a 1)) hx hb hts hown hK hZ hP (0) rfl rfl dX4_count_57 ?_
      refine gf_X4_87 (v := .int (e_things (j_E J0))) hx hb hts hown hK hZ hP (1) rfl rfl dX4_count_60 ?_
      exact hend _ _ _ _ _ (by rw [hV]; exact hP) (by rw [hV]; exact hD) hS (by rw [hV]) rfl dX4_count_63
    · have hV := hV.trans (if_neg c14)
      have hk := hk.2 c14
      by_cases c15 : (p1 = (2 : Int32))
      · have hV := hV.trans (if_pos c15)
        have hk := hk.1 c15
        refine lv_tableIn (off := 63) (tgt := 64) hx hb dX4_count_1 (by rw [c15]; decide) (by rw [c15]; decide) (by rw [c15]; rfl) (by decide) ?_
        refine lv_aload_n hx hb dX4_count_64 rfl (lv_at hl 0 rfl) ?_
        refine gf_X4_10 (v := .ref (a 1)) hx hb hts hown hK hZ hP (0) rfl rfl dX4_count_65 ?_
        refine gf_X4_64 (v := .ref (a 2)) hx hb hts hown hK hZ hP (1) rfl rfl dX4_count_68 ?_
        refine lv_iconst (v := (0 : Int32)) hx hb dX4_count_71 (by decide) ?_
        refine va_iald hx hb hK hP (2) 0 rfl rfl (by unfold vp_in; decide) dX4_count_72 ?_
        exact hend _ _ _ _ _ (by rw [hV]; exact hP) (by rw [hV]; exact hD) hS (by rw [hV]) rfl dX4_count_73
      · have hV := hV.trans (if_neg c15)
        have hk := hk.2 c15
        by_cases c16 : (p1 = (3 : Int32))
        · have hV := hV.trans (if_pos c16)
          have hk := hk.1 c16
          refine lv_tableIn (off := 73) (tgt := 74) hx hb dX4_count_1 (by rw [c16]; decide) (by rw [c16]; decide) (by rw [c16]; rfl) (by decide) ?_
          refine lv_aload_n hx hb dX4_count_74 rfl (lv_at hl 0 rfl) ?_
          refine gf_X4_10 (v := .ref (a 1)) hx hb hts hown hK hZ hP (0) rfl rfl dX4_count_75 ?_
          obtain ⟨h24, hk⟩ := hk
          refine jci0 (jrunV (As := []) (rest := []) hx hb hml hown hts hK hZ hA hP hD hS hl.1 mf_X0_awarded kl_X4_118 ⟨rfl, rfl, Nat.le_of_ble_eq_true rfl, Nat.le_of_ble_eq_true rfl⟩ ⟨Nat.zero_le _, Nat.zero_le _⟩ [1, 2, 3, 4, 5] rfl (js43 K a J0) rfl rfl rfl (hX0_awarded l D K G (fun k => a (1 + k)) (j_E J0) h24 _) rfl rfl (Nat.le_of_ble_eq_true rfl) dX4_count_78) hA hP hD hS [1, 2, 3, 4, 5] (js43 K a J0) (fun H locs hP hS => ?_)
          exact hend _ _ _ _ _ (by rw [hV]; exact hP) (by rw [hV]; exact hD) hS (by rw [hV]) rfl dX4_count_81
        · have hV := hV.trans (if_neg c16)
          have hk := hk.2 c16
          by_cases c17 : (p1 = (4 : Int32))
          · have hV := hV.trans (if_pos c17)
            have hk := hk.1 c17
            refine lv_tableIn (off := 81) (tgt := 82) hx hb dX4_count_1 (by rw [c17]; decide) (by rw [c17]; decide) (by rw [c17]; rfl) (by decide) ?_
            refine lv_aload_n hx hb dX4_count_82 rfl (lv_at hl 0 rfl) ?_
            refine gf_X4_10 (v := .ref (a 1)) hx hb hts hown hK hZ hP (0) rfl rfl dX4_count_83 ?_
            refine lv_bipush (v := (6 : Int32)) hx hb dX4_count_86 (by decide) ?_
            obtain ⟨h23, hk⟩ := hk
            refine jci0 (jrunV (As := [.int (6 : Int32)]) (rest := []) hx hb hml hown hts hK hZ hA hP hD hS hl.1 mf_X0_sum kl_X4_122 ⟨rfl, rfl, Nat.le_of_ble_eq_true rfl, Nat.le_of_ble_eq_true rfl⟩ ⟨Nat.zero_le _, Nat.zero_le _⟩ [1, 2, 3, 4, 5] rfl (js43 K a J0) rfl rfl rfl (hX0_sum l D K G (fun k => a (1 + k)) (j_E J0) (6 : Int32) h23 _) rfl rfl (Nat.le_of_ble_eq_true rfl) dX4_count_88) hA hP hD hS [1, 2, 3, 4, 5] (js43 K a J0) (fun H locs hP hS => ?_)
            exact hend _ _ _ _ _ (by rw [hV]; exact hP) (by rw [hV]; exact hD) hS (by rw [hV]) rfl dX4_count_91
          · have hV := hV.trans (if_neg c17)
            have hk := hk.2 c17
            by_cases c18 : (p1 = (5 : Int32))
            · have hV := hV.trans (if_pos c18)
              have hk := hk.1 c18
              refine lv_tableIn (off := 91) (tgt := 92) hx hb dX4_count_1 (by rw [c18]; decide) (by rw [c18]; decide) (by rw [c18]; rfl) (by decide) ?_
              refine lv_aload_n hx hb dX4_count_92 rfl (lv_at hl 0 rfl) ?_
              refine gf_X4_25 (v := .ref (a 16)) hx hb hts hown hK hZ hP (0) rfl rfl dX4_count_93 ?_
              refine gf_X4_182 (v := .int (t_length (j_tape J0))) hx hb hts hown hK hZ hP (16) rfl rfl dX4_count_96 ?_
              exact hend _ _ _ _ _ (by rw [hV]; exact hP) (by rw [hV]; exact hD) hS (by rw [hV]) rfl dX4_count_99
            · have hV := hV.trans (if_neg c18)
              have hk := hk.2 c18
              by_cases c19 : (p1 = (6 : Int32))
              · have hV := hV.trans (if_pos c19)
                have hk := hk.1 c19
                refine lv_tableIn (off := 99) (tgt := 100) hx hb dX4_count_1 (by rw [c19]; decide) (by rw [c19]; decide) (by rw [c19]; rfl) (by decide) ?_
                refine lv_aload_n hx hb dX4_count_100 rfl (lv_at hl 0 rfl) ?_
                refine gf_X4_10 (v := .ref (a 1)) hx hb hts hown hK hZ hP (0) rfl rfl dX4_count_101 ?_
                refine gf_X4_179 (v := .int (e_z (j_E J0))) hx hb hts hown hK hZ hP (1) rfl rfl dX4_count_104 ?_
                exact hend _ _ _ _ _ (by rw [hV]; exact hP) (by rw [hV]; exact hD) hS (by rw [hV]) rfl dX4_count_107
              · have hV := hV.trans (if_neg c19)
                have hk := hk.2 c19
                by_cases c20 : (p1 = (7 : Int32))
                · have hV := hV.trans (if_pos c20)
                  have hk := hk.1 c20
                  refine lv_tableIn (off := 107) (tgt := 108) hx hb dX4_count_1 (by rw [c20]; decide) (by rw [c20]; decide) (by rw [c20]; rfl) (by decide) ?_
                  refine lv_aload_n hx hb dX4_count_108 rfl (lv_at hl 0 rfl) ?_
                  refine gf_X4_10 (v := .ref (a 1)) hx hb hts hown hK hZ hP (0) rfl rfl dX4_count_109 ?_
                  obtain ⟨h22, hk⟩ := hk
                  refine jci0 (jrunV (As := []) (rest := []) hx hb hml hown hts hK hZ hA hP hD hS hl.1 mf_X0_heldSpots kl_X4_240 ⟨rfl, rfl, Nat.le_of_ble_eq_true rfl, Nat.le_of_ble_eq_true rfl⟩ ⟨Nat.zero_le _, Nat.zero_le _⟩ [1, 2, 3, 4, 5] rfl (js43 K a J0) rfl rfl rfl (hX0_heldSpots l D K G (fun k => a (1 + k)) (j_E J0) h22 _) rfl rfl (Nat.le_of_ble_eq_true rfl) dX4_count_112) hA hP hD hS [1, 2, 3, 4, 5] (js43 K a J0) (fun H locs hP hS => ?_)
                  exact hend _ _ _ _ _ (by rw [hV]; exact hP) (by rw [hV]; exact hD) hS (by rw [hV]) rfl dX4_count_115
                · have hV := hV.trans (if_neg c20)
                  have hk := hk.2 c20
                  refine lv_tableOut (tgt := 116) hx hb dX4_count_1 (by have n0 := jneL (z := 0) c13 (by decide); have n1 := jneL (z := 1) c14 (by decide); have n2 := jneL (z := 2) c15 (by decide); have n3 := jneL (z := 3) c16 (by decide); have n4 := jneL (z := 4) c17 (by decide); have n5 := jneL (z := 5) c18 (by decide); have n6 := jneL (z := 6) c19 (by decide); have n7 := jneL (z := 7) c20 (by decide); omega) (by decide) ?_
                  refine lv_aload_n hx hb dX4_count_116 rfl (lv_at hl 0 rfl) ?_
                  refine lv_iconst (v := (0 : Int32)) hx hb dX4_count_117 (by decide) ?_
                  obtain ⟨h21, hk⟩ := hk
                  refine jci (jrunV (As := [.int (0 : Int32)]) (rest := []) hx hb hml hown hts hK hZ hA hP hD hS hl.1 mf_X4_tell kl_X4_60 ⟨rfl, rfl, Nat.le_of_ble_eq_true rfl, Nat.le_of_ble_eq_true rfl⟩ ⟨Nat.zero_le _, Nat.zero_le _⟩ [0, 1, 2, 3, 4, 5, 6, 7, 8, 9, 10, 11, 12, 13, 14, 15, 16, 17, 18, 19, 20, 21, 22, 23, 24, 25, 26, 27, 28, 29] rfl (js45 K a J0) rfl rfl rfl (hX4_tell l D K G a J0 (0 : Int32) h21 _) rfl rfl (Nat.le_of_ble_eq_true rfl) dX4_count_118) hA hP hD hS [0, 1, 2, 3, 4, 5, 6, 7, 8, 9, 10, 11, 12, 13, 14, 15, 16, 17, 18, 19, 20, 21, 22, 23, 24, 25, 26, 27, 28, 29] (js45 K a J0) (jh52 K a J0 ((vX4_tell J0 (0 : Int32)).2)) (fun H locs hP hD hS => ?_)
                  have hP := jeP (jp53 K a J0 ((vX4_tell J0 (0 : Int32)).2)) hP
                  have hD := jeD (jp53 K a J0 ((vX4_tell J0 (0 : Int32)).2)) hD
                  exact hend _ _ _ _ _ (by rw [hV]; exact hP) (by rw [hV]; exact hD) hS (by rw [hV]) rfl dX4_count_121
theorem js57 (K : JK) (a : Nat → Nat) (J : JS) : [16, 17].map (fun i => (wJ K a J)[i]?) = (wT K (fun k => a (16 + k)) (j_tape J)).map some := rfl
theorem jh58 (K : JK) (a : Nat → Nat) (J : JS) (Z0 : TS) : (wT K (fun k => a (16 + k)) Z0).map Prod.fst = (wT K (fun k => a (16 + k)) (j_tape J)).map Prod.fst := rfl
theorem jp59 (K : JK) (a : Nat → Nat) (J : JS) (Z0 : TS) : jput (wJ K a J) [16, 17] (wT K (fun k => a (16 + k)) Z0) = (wJ K a (j_s_tape J Z0)) := rfl
theorem dX4_feed_0 : decode cX4_feed 0 = .ok (.iload_n 2, 1) := by decide +kernel
theorem dX4_feed_1 : decode cX4_feed 1 = .ok (.iconst 1, 1) := by decide +kernel
theorem dX4_feed_2 : decode cX4_feed 2 = .ok (.iconst 4, 1) := by decide +kernel
theorem dX4_feed_3 : decode cX4_feed 3 = .ok (.invokestatic 50, 3) := by decide +kernel
theorem dX4_feed_6 : decode cX4_feed 6 = .ok (.ifCond .ne 9, 3) := by decide +kernel
theorem dX4_feed_9 : decode cX4_feed 9 = .ok (.aload_n 0, 1) := by decide +kernel
theorem dX4_feed_10 : decode cX4_feed 10 = .ok (.iconst 0, 1) := by decide +kernel
theorem dX4_feed_11 : decode cX4_feed 11 = .ok (.invokevirtual 60, 3) := by decide +kernel
theorem dX4_feed_14 : decode cX4_feed 14 = .ok (.ireturn, 1) := by decide +kernel
theorem dX4_feed_15 : decode cX4_feed 15 = .ok (.aload_n 0, 1) := by decide +kernel
theorem dX4_feed_16 : decode cX4_feed 16 = .ok (.getfield 25, 3) := by decide +kernel
theorem dX4_feed_19 : decode cX4_feed 19 = .ok (.getfield 182, 3) := by decide +kernel
theorem dX4_feed_22 : decode cX4_feed 22 = .ok (.iload_n 2, 1) := by decide +kernel
theorem dX4_feed_23 : decode cX4_feed 23 = .ok (.iadd, 1) := by decide +kernel
theorem dX4_feed_24 : decode cX4_feed 24 = .ok (.bipush 120, 2) := by decide +kernel
theorem dX4_feed_26 : decode cX4_feed 26 = .ok (.if_icmp .le 9, 3) := by decide +kernel
theorem dX4_feed_29 : decode cX4_feed 29 = .ok (.aload_n 0, 1) := by decide +kernel
theorem dX4_feed_30 : decode cX4_feed 30 = .ok (.iconst 1, 1) := by decide +kernel
theorem dX4_feed_31 : decode cX4_feed 31 = .ok (.invokevirtual 60, 3) := by decide +kernel
theorem dX4_feed_34 : decode cX4_feed 34 = .ok (.ireturn, 1) := by decide +kernel
theorem dX4_feed_35 : decode cX4_feed 35 = .ok (.iload_n 2, 1) := by decide +kernel
theorem dX4_feed_36 : decode cX4_feed 36 = .ok (.iconst 1, 1) := by decide +kernel
theorem dX4_feed_37 : decode cX4_feed 37 = .ok (.isub, 1) := by decide +kernel
theorem dX4_feed_38 : decode cX4_feed 38 = .ok (.istore_n 3, 1) := by decide +kernel
theorem dX4_feed_39 : decode cX4_feed 39 = .ok (.iload_n 3, 1) := by decide +kernel
theorem dX4_feed_40 : decode cX4_feed 40 = .ok (.ifCond .lt 23, 3) := by decide +kernel
theorem dX4_feed_43 : decode cX4_feed 43 = .ok (.aload_n 0, 1) := by decide +kernel
theorem dX4_feed_44 : decode cX4_feed 44 = .ok (.getfield 25, 3) := by decide +kernel
theorem dX4_feed_47 : decode cX4_feed 47 = .ok (.iload_n 1, 1) := by decide +kernel
theorem dX4_feed_48 : decode cX4_feed 48 = .ok (.bipush 8, 2) := by decide +kernel
theorem dX4_feed_50 : decode cX4_feed 50 = .ok (.iload_n 3, 1) := by decide +kernel
theorem dX4_feed_51 : decode cX4_feed 51 = .ok (.imul, 1) := by decide +kernel
theorem dX4_feed_52 : decode cX4_feed 52 = .ok (.ishr, 1) := by decide +kernel
theorem dX4_feed_53 : decode cX4_feed 53 = .ok (.i2b, 1) := by decide +kernel
theorem dX4_feed_54 : decode cX4_feed 54 = .ok (.invokevirtual 185, 3) := by decide +kernel
theorem dX4_feed_57 : decode cX4_feed 57 = .ok (.iinc 3 (-1), 3) := by decide +kernel
theorem dX4_feed_60 : decode cX4_feed 60 = .ok (.goto (-21), 3) := by decide +kernel
theorem dX4_feed_63 : decode cX4_feed 63 = .ok (.aload_n 0, 1) := by decide +kernel
theorem dX4_feed_64 : decode cX4_feed 64 = .ok (.getfield 25, 3) := by decide +kernel
theorem dX4_feed_67 : decode cX4_feed 67 = .ok (.getfield 182, 3) := by decide +kernel
theorem dX4_feed_70 : decode cX4_feed 70 = .ok (.ireturn, 1) := by decide +kernel
def rX4_feed : Room := { frames := 2, cells := 0, slots := 0, locals := 43 }
def vX4_feed_c57 (p1 : Int32) (p2 : Int32) (k : JS → Int32 → Int32 × JS) (J : JS) (x3 : Int32) : Int32 × JS := (k J (x3 + (-1 : Int32)))
def kX4_feed_c57 (p1 : Int32) (p2 : Int32) (q : JS → Int32 → Prop) (J : JS) (x3 : Int32) : Prop := (q J (x3 + (-1 : Int32)))
def vX4_feed_c39 (p1 : Int32) (p2 : Int32) : Nat → JS → Int32 → Int32 × JS
  | 0, J, x3 => (0, J)
  | n + 1, J, x3 => if (x3 < 0) then ((t_length (j_tape J)), J) else (vX4_feed_c57 p1 p2 (fun J x3 => vX4_feed_c39 p1 p2 n J x3) (j_s_tape J (vX3_append (j_tape J) (((p1 >>> (((8 : Int32) * x3) &&& 31))).toInt8.toInt32))) x3)
def kX4_feed_c39 (p1 : Int32) (p2 : Int32) : Nat → JS → Int32 → Prop
  | 0, _, _ => False
  | n + 1, J, x3 => ((x3 < 0) → True) ∧ (¬ (x3 < 0) → ((kX3_append (j_tape J) (((p1 >>> (((8 : Int32) * x3) &&& 31))).toInt8.toInt32)) ∧ (kX4_feed_c57 p1 p2 (fun J x3 => kX4_feed_c39 p1 p2 n J x3) (j_s_tape J (vX3_append (j_tape J) (((p1 >>> (((8 : Int32) * x3) &&& 31))).toInt8.toInt32))) x3)))
def vX4_feed (J0 : JS) (p1 : Int32) (p2 : Int32) : Int32 × JS := if ((vX4_within p2 (1 : Int32) (4 : Int32)) = 0) then (((vX4_tell J0 (0 : Int32)).1), ((vX4_tell J0 (0 : Int32)).2)) else if (((t_length (j_tape J0)) + p2) ≤ (120 : Int32)) then (vX4_feed_c39 p1 p2 1024 J0 (p2 - (1 : Int32))) else (((vX4_tell J0 (1 : Int32)).1), ((vX4_tell J0 (1 : Int32)).2))
def kX4_feed (J0 : JS) (p1 : Int32) (p2 : Int32) : Prop := (((vX4_within p2 (1 : Int32) (4 : Int32)) = 0) → ((kX4_tell J0 (0 : Int32)) ∧ True)) ∧ (¬ ((vX4_within p2 (1 : Int32) (4 : Int32)) = 0) → (((((t_length (j_tape J0)) + p2) ≤ (120 : Int32)) → ((kX4_feed_c39 p1 p2 1024 J0 (p2 - (1 : Int32))))) ∧ (¬ (((t_length (j_tape J0)) + p2) ≤ (120 : Int32)) → ((kX4_tell J0 (1 : Int32)) ∧ True))))
set_option maxHeartbeats 4000000 in
set_option maxRecDepth 100000 in
theorem hX4_feed (l : Launch) (D : va_G) (K : JK) (G : JG) (a : Nat → Nat) (J0 : JS) (p1 : Int32) (p2 : Int32) (hk : kX4_feed J0 p1 p2) (sz : Nat) : Met l yX4_feed (.code yX4_feed cX4_feed 4 (some .int) :: jGW) rX4_feed (jPre D (jT K) G [.ref (a 0), .int p1, .int p2] (wJ K a J0) sz) (jQi D (jT K) ((vX4_feed J0 p1 p2).1) (wJ K a ((vX4_feed J0 p1 p2).2)) (va_A (wJ K a J0) sz)) 0 0 (va_A (wJ K a J0) sz) := by
  refine jEi (by decide) (Nat.le_of_ble_eq_true rfl) (fun p e s m below meth c A Q ls hat hP hD hS hl hend => ?_)
  obtain ⟨hx, hb, hml, hown, hts, hK, hZ, hA⟩ := hat
  have hl : lv_has ls 4 [(0, .ref (a 0)), (1, .int p1), (2, .int p2)] := hl
  have hc39 : ∀ (n : Nat) (J : JS) (x3 : Int32) (H : Heap) (locs : List Loc) (ls : Array Slot), (vX4_feed J0 p1 p2) = vX4_feed_c39 p1 p2 n J x3 → kX4_feed_c39 p1 p2 n J x3 → va_P D vwCl (wJ K a J) H → va_D A (wJ K a J) → va_S A s.heap H locs → lv_has ls 4 [(0, .ref (a 0)), (1, .int p1), (2, .int p2), (3, .int x3)] → W p l e rX4_feed s m ([.ref (a 0), .int p1, .int p2] : List Value).toArray below meth c H locs 0 0 Q (F0 m 39 ls []) := by
    intro n
    induction n with
    | zero =>
      intro J x3 H locs ls hV hk hP hD hS hl
      exact False.elim hk
    | succ n ih =>
      have hc57 : ∀ (J : JS) (x3 : Int32) (H : Heap) (locs : List Loc) (ls : Array Slot), (vX4_feed J0 p1 p2) = vX4_feed_c57 p1 p2 (fun J x3 => vX4_feed_c39 p1 p2 n J x3) J x3 → kX4_feed_c57 p1 p2 (fun J x3 => kX4_feed_c39 p1 p2 n J x3) J x3 → va_P D vwCl (wJ K a J) H → va_D A (wJ K a J) → va_S A s.heap H locs → lv_has ls 4 [(0, .ref (a 0)), (1, .int p1), (2, .int p2), (3, .int x3)] → W p l e rX4_feed s m ([.ref (a 0), .int p1, .int p2] : List Value).toArray below meth c H locs 0 0 Q (F0 m 57 ls []) := by
        intro J x3 H locs ls hV hk hP hD hS hl
        rw [vX4_feed_c57] at hV
        rw [kX4_feed_c57] at hk
        refine lv_iinc (v := (x3 + (-1 : Int32))) (lv' := [(3, .int (x3 + (-1 : Int32))), (0, .ref (a 0)), (1, .int p1), (2, .int p2)]) hx hb dX4_feed_57 hl (k := 3) rfl rfl (by decide) rfl (fun ls hl => ?_)
        refine lv_goto (tgt := 39) hx hb dX4_feed_60 (by decide) ?_
        exact ih J (x3 + (-1 : Int32)) _ _ _ hV hk hP hD hS (lv_sub hl [1, 2, 3, 0] rfl)
      intro J x3 H locs ls hV hk hP hD hS hl
      rw [vX4_feed_c39] at hV
      rw [kX4_feed_c39] at hk
      refine lv_iload_n hx hb dX4_feed_39 rfl (lv_at hl 3 rfl) ?_
      refine lv_if_lt (tgt := 63) hx hb dX4_feed_40 (by decide) (fun c7 => ?_) (fun c7 => ?_)
      · have hV := hV.trans (if_pos c7)
        have hk := hk.1 c7
        refine lv_aload_n hx hb dX4_feed_63 rfl (lv_at hl 0 rfl) ?_
        refine gf_X4_25 (v := .ref (a 16)) hx hb hts hown hK hZ hP (0) rfl rfl dX4_feed_64 ?_
        refine gf_X4_182 (v := .int (t_length (j_tape J))) hx hb hts hown hK hZ hP (16) rfl rfl dX4_feed_67 ?_
        exact hend _ _ _ _ _ (by rw [hV]; exact hP) (by rw [hV]; exact hD) hS (by rw [hV]) rfl dX4_feed_70
      · have hV := hV.trans (if_neg c7)
        have hk := hk.2 c7
        refine lv_aload_n hx hb dX4_feed_43 rfl (lv_at hl 0 rfl) ?_
        refine gf_X4_25 (v := .ref (a 16)) hx hb hts hown hK hZ hP (0) rfl rfl dX4_feed_44 ?_
        refine lv_iload_n hx hb dX4_feed_47 rfl (lv_at hl 1 rfl) ?_
        refine lv_bipush (v := (8 : Int32)) hx hb dX4_feed_48 (by decide) ?_
        refine lv_iload_n hx hb dX4_feed_50 rfl (lv_at hl 3 rfl) ?_
        refine lv_imul hx hb dX4_feed_51 ?_
        refine lv_ishr hx hb dX4_feed_52 ?_
        refine lv_i2b hx hb dX4_feed_53 rfl ?_
        obtain ⟨h8, hk⟩ := hk
        refine jcv (jrunV (As := [.int (((p1 >>> (((8 : Int32) * x3) &&& 31))).toInt8.toInt32)]) (rest := []) hx hb hml hown hts hK hZ hA hP hD hS hl.1 mf_X3_append kl_X4_185 ⟨rfl, rfl, Nat.le_of_ble_eq_true rfl, Nat.le_of_ble_eq_true rfl⟩ ⟨Nat.zero_le _, Nat.zero_le _⟩ [16, 17] rfl (js57 K a J) rfl rfl rfl (hX3_append l D K G (fun k => a (16 + k)) (j_tape J) (((p1 >>> (((8 : Int32) * x3) &&& 31))).toInt8.toInt32) h8 _) rfl rfl (Nat.le_of_ble_eq_true rfl) dX4_feed_54) hA hP hD hS [16, 17] (js57 K a J) (jh58 K a J (vX3_append (j_tape J) (((p1 >>> (((8 : Int32) * x3) &&& 31))).toInt8.toInt32))) (fun H locs hP hD hS => ?_)
        have hP := jeP (jp59 K a J (vX3_append (j_tape J) (((p1 >>> (((8 : Int32) * x3) &&& 31))).toInt8.toInt32))) hP
        have hD := jeD (jp59 K a J (vX3_append (j_tape J) (((p1 >>> (((8 : Int32) * x3) &&& 31))).toInt8.toInt32))) hD
        exact hc57 (j_s_tape J (vX3_append (j_tape J) (((p1 >>> (((8 : Int32) * x3) &&& 31))).toInt8.toInt32))) x3 _ _ _ hV hk hP hD hS (lv_sub hl [0, 1, 2, 3] rfl)
  have hV := vX4_feed.eq_1 J0 p1 p2
  rw [kX4_feed] at hk
  refine lv_iload_n hx hb dX4_feed_0 rfl (lv_at hl 2 rfl) ?_
  refine lv_iconst (v := (1 : Int32)) hx hb dX4_feed_1 (by decide) ?_
  refine lv_iconst (v := (4 : Int32)) hx hb dX4_feed_2 (by decide) ?_
  refine jci0 (jrunS (As := [.int p2, .int (1 : Int32), .int (4 : Int32)]) (rest := []) hx hb hml hown hts hK hZ hA hP hD hS hl.1 mf_X4_within kl_X4_50 ⟨rfl, rfl, Nat.le_of_ble_eq_true rfl, Nat.le_of_ble_eq_true rfl⟩ ⟨Nat.zero_le _, Nat.zero_le _⟩ [] rfl rfl (hX4_within l D K G p2 (1 : Int32) (4 : Int32) _) rfl rfl (Nat.le_of_ble_eq_true rfl) dX4_feed_3) hA hP hD hS [] rfl (fun H locs hP hS => ?_)
  refine lv_if_ne (tgt := 15) hx hb dX4_feed_6 (by decide) (fun c9 => ?_) (fun c9 => ?_)
  · have hV := hV.trans (if_neg c9)
    have hk := hk.2 c9
    refine lv_aload_n hx hb dX4_feed_15 rfl (lv_at hl 0 rfl) ?_
    refine gf_X4_25 (v := .ref (a 16)) hx hb hts hown hK hZ hP (0) rfl rfl dX4_feed_16 ?_
    refine gf_X4_182 (v := .int (t_length (j_tape J0))) hx hb hts hown hK hZ hP (16) rfl rfl dX4_feed_19 ?_
    refine lv_iload_n hx hb dX4_feed_22 rfl (lv_at hl 2 rfl) ?_
    refine lv_iadd hx hb dX4_feed_23 ?_
    refine lv_bipush (v := (120 : Int32)) hx hb dX4_feed_24 (by decide) ?_
    refine lv_icmp_le (tgt := 35) hx hb dX4_feed_26 (by decide) (fun c10 => ?_) (fun c10 => ?_)
    · have hV := hV.trans (if_pos c10)
      have hk := hk.1 c10
      refine lv_iload_n hx hb dX4_feed_35 rfl (lv_at hl 2 rfl) ?_
      refine lv_iconst (v := (1 : Int32)) hx hb dX4_feed_36 (by decide) ?_
      refine lv_isub hx hb dX4_feed_37 ?_
      refine lv_istore_n (lv' := [(3, .int (p2 - (1 : Int32))), (0, .ref (a 0)), (1, .int p1), (2, .int p2)]) hx hb dX4_feed_38 rfl hl (by decide) rfl (fun ls hl => ?_)
      exact hc39 1024 J0 (p2 - (1 : Int32)) _ _ _ hV hk hP hD hS (lv_sub hl [1, 2, 3, 0] rfl)
    · have hV := hV.trans (if_neg c10)
      have hk := hk.2 c10
      refine lv_aload_n hx hb dX4_feed_29 rfl (lv_at hl 0 rfl) ?_
      refine lv_iconst (v := (1 : Int32)) hx hb dX4_feed_30 (by decide) ?_
      obtain ⟨h11, hk⟩ := hk
      refine jci (jrunV (As := [.int (1 : Int32)]) (rest := []) hx hb hml hown hts hK hZ hA hP hD hS hl.1 mf_X4_tell kl_X4_60 ⟨rfl, rfl, Nat.le_of_ble_eq_true rfl, Nat.le_of_ble_eq_true rfl⟩ ⟨Nat.zero_le _, Nat.zero_le _⟩ [0, 1, 2, 3, 4, 5, 6, 7, 8, 9, 10, 11, 12, 13, 14, 15, 16, 17, 18, 19, 20, 21, 22, 23, 24, 25, 26, 27, 28, 29] rfl (js45 K a J0) rfl rfl rfl (hX4_tell l D K G a J0 (1 : Int32) h11 _) rfl rfl (Nat.le_of_ble_eq_true rfl) dX4_feed_31) hA hP hD hS [0, 1, 2, 3, 4, 5, 6, 7, 8, 9, 10, 11, 12, 13, 14, 15, 16, 17, 18, 19, 20, 21, 22, 23, 24, 25, 26, 27, 28, 29] (js45 K a J0) (jh52 K a J0 ((vX4_tell J0 (1 : Int32)).2)) (fun H locs hP hD hS => ?_)
      have hP := jeP (jp53 K a J0 ((vX4_tell J0 (1 : Int32)).2)) hP
      have hD := jeD (jp53 K a J0 ((vX4_tell J0 (1 : Int32)).2)) hD
      exact hend _ _ _ _ _ (by rw [hV]; exact hP) (by rw [hV]; exact hD) hS (by rw [hV]) rfl dX4_feed_34
  · have hV := hV.trans (if_pos c9)
    have hk := hk.1 c9
    refine lv_aload_n hx hb dX4_feed_9 rfl (lv_at hl 0 rfl) ?_
    refine lv_iconst (v := (0 : Int32)) hx hb dX4_feed_10 (by decide) ?_
    obtain ⟨h12, hk⟩ := hk
    refine jci (jrunV (As := [.int (0 : Int32)]) (rest := []) hx hb hml hown hts hK hZ hA hP hD hS hl.1 mf_X4_tell kl_X4_60 ⟨rfl, rfl, Nat.le_of_ble_eq_true rfl, Nat.le_of_ble_eq_true rfl⟩ ⟨Nat.zero_le _, Nat.zero_le _⟩ [0, 1, 2, 3, 4, 5, 6, 7, 8, 9, 10, 11, 12, 13, 14, 15, 16, 17, 18, 19, 20, 21, 22, 23, 24, 25, 26, 27, 28, 29] rfl (js45 K a J0) rfl rfl rfl (hX4_tell l D K G a J0 (0 : Int32) h12 _) rfl rfl (Nat.le_of_ble_eq_true rfl) dX4_feed_11) hA hP hD hS [0, 1, 2, 3, 4, 5, 6, 7, 8, 9, 10, 11, 12, 13, 14, 15, 16, 17, 18, 19, 20, 21, 22, 23, 24, 25, 26, 27, 28, 29] (js45 K a J0) (jh52 K a J0 ((vX4_tell J0 (0 : Int32)).2)) (fun H locs hP hD hS => ?_)
    have hP := jeP (jp53 K a J0 ((vX4_tell J0 (0 : Int32)).2)) hP
    have hD := jeD (jp53 K a J0 ((vX4_tell J0 (0 : Int32)).2)) hD
    exact hend _ _ _ _ _ (by rw [hV]; exact hP) (by rw [hV]; exact hD) hS (by rw [hV]) rfl dX4_feed_14
theorem dX4_lackOf_0 : decode cX4_lackOf 0 = .ok (.iload_n 1, 1) := by decide +kernel
theorem dX4_lackOf_1 : decode cX4_lackOf 1 = .ok (.invokestatic 205, 3) := by decide +kernel
theorem dX4_lackOf_4 : decode cX4_lackOf 4 = .ok (.ifCond .ne 5, 3) := by decide +kernel
theorem dX4_lackOf_7 : decode cX4_lackOf 7 = .ok (.iconst 0, 1) := by decide +kernel
theorem dX4_lackOf_8 : decode cX4_lackOf 8 = .ok (.ireturn, 1) := by decide +kernel
theorem dX4_lackOf_9 : decode cX4_lackOf 9 = .ok (.aload_n 0, 1) := by decide +kernel
theorem dX4_lackOf_10 : decode cX4_lackOf 10 = .ok (.getfield 31, 3) := by decide +kernel
theorem dX4_lackOf_13 : decode cX4_lackOf 13 = .ok (.iload_n 1, 1) := by decide +kernel
theorem dX4_lackOf_14 : decode cX4_lackOf 14 = .ok (.aaload, 1) := by decide +kernel
theorem dX4_lackOf_15 : decode cX4_lackOf 15 = .ok (.getfield 220, 3) := by decide +kernel
theorem dX4_lackOf_18 : decode cX4_lackOf 18 = .ok (.ifCond .ne 7, 3) := by decide +kernel
theorem dX4_lackOf_21 : decode cX4_lackOf 21 = .ok (.iconst 5, 1) := by decide +kernel
theorem dX4_lackOf_22 : decode cX4_lackOf 22 = .ok (.goto 4, 3) := by decide +kernel
theorem dX4_lackOf_25 : decode cX4_lackOf 25 = .ok (.iconst (-1), 1) := by decide +kernel
theorem dX4_lackOf_26 : decode cX4_lackOf 26 = .ok (.ireturn, 1) := by decide +kernel
def rX4_lackOf : Room := { frames := 2, cells := 0, slots := 0, locals := 42 }
def vX4_lackOf (J0 : JS) (p1 : Int32) : Int32 := if ((vX4_isSheet p1) = 0) then (0 : Int32) else if ((s_bits (j_s J0 (p1).toNatClampNeg)) = 0) then (5 : Int32) else (-1 : Int32)
def kX4_lackOf (J0 : JS) (p1 : Int32) : Prop := (kX4_isSheet p1) ∧ (((vX4_isSheet p1) = 0) → True) ∧ (¬ ((vX4_isSheet p1) = 0) → ((vp_in p1 4) ∧ True))
set_option maxHeartbeats 4000000 in
set_option maxRecDepth 100000 in
theorem hX4_lackOf (l : Launch) (D : va_G) (K : JK) (G : JG) (a : Nat → Nat) (J0 : JS) (p1 : Int32) (hk : kX4_lackOf J0 p1) (sz : Nat) : Met l yX4_lackOf (.code yX4_lackOf cX4_lackOf 2 (some .int) :: jGW) rX4_lackOf (jPre D (jT K) G [.ref (a 0), .int p1] (wJ K a J0) sz) (jQi D (jT K) (vX4_lackOf J0 p1) (wJ K a J0) (va_A (wJ K a J0) sz)) 0 0 (va_A (wJ K a J0) sz) := by
  refine jEi (by decide) (Nat.le_of_ble_eq_true rfl) (fun p e s m below meth c A Q ls hat hP hD hS hl hend => ?_)
  obtain ⟨hx, hb, hml, hown, hts, hK, hZ, hA⟩ := hat
  have hl : lv_has ls 2 [(0, .ref (a 0)), (1, .int p1)] := hl
  have hV := vX4_lackOf.eq_1 J0 p1
  rw [kX4_lackOf] at hk
  refine lv_iload_n hx hb dX4_lackOf_0 rfl (lv_at hl 1 rfl) ?_
  obtain ⟨h5, hk⟩ := hk
  refine jci0 (jrunS (As := [.int p1]) (rest := []) hx hb hml hown hts hK hZ hA hP hD hS hl.1 mf_X4_isSheet kl_X4_205 ⟨rfl, rfl, Nat.le_of_ble_eq_true rfl, Nat.le_of_ble_eq_true rfl⟩ ⟨Nat.zero_le _, Nat.zero_le _⟩ [] rfl rfl (hX4_isSheet l D K G p1 h5 _) rfl rfl (Nat.le_of_ble_eq_true rfl) dX4_lackOf_1) hA hP hD hS [] rfl (fun H locs hP hS => ?_)
  refine lv_if_ne (tgt := 9) hx hb dX4_lackOf_4 (by decide) (fun c6 => ?_) (fun c6 => ?_)
  · have hV := hV.trans (if_neg c6)
    have hk := hk.2 c6
    refine lv_aload_n hx hb dX4_lackOf_9 rfl (lv_at hl 0 rfl) ?_
    refine gf_X4_31 (v := .ref (a 18)) hx hb hts hown hK hZ hP (0) rfl rfl dX4_lackOf_10 ?_
    refine lv_iload_n hx hb dX4_lackOf_13 rfl (lv_at hl 1 rfl) ?_
    obtain ⟨h7, hk⟩ := hk
    refine j_aald hx hb hK hP h7 dX4_lackOf_14 ?_
    refine gf_X4_220 (v := .int (s_bits (j_s J0 (p1).toNatClampNeg))) hx hb hts hown hK hZ hP (19 + 2 * (p1).toNatClampNeg) (wJ_sh D K _ _ ((jlt4 h7))) rfl dX4_lackOf_15 ?_
    refine lv_if_ne (tgt := 25) hx hb dX4_lackOf_18 (by decide) (fun c8 => ?_) (fun c8 => ?_)
    · have hV := hV.trans (if_neg c8)
      refine lv_iconst (v := (-1 : Int32)) hx hb dX4_lackOf_25 (by decide) ?_
      exact hend _ _ _ _ _ hP hD hS hV.symm rfl dX4_lackOf_26
    · have hV := hV.trans (if_pos c8)
      refine lv_iconst (v := (5 : Int32)) hx hb dX4_lackOf_21 (by decide) ?_
      refine lv_goto (tgt := 26) hx hb dX4_lackOf_22 (by decide) ?_
      exact hend _ _ _ _ _ hP hD hS hV.symm rfl dX4_lackOf_26
  · have hV := hV.trans (if_pos c6)
    have hk := hk.1 c6
    refine lv_iconst (v := (0 : Int32)) hx hb dX4_lackOf_7 (by decide) ?_
    exact hend _ _ _ _ _ hP hD hS hV.symm rfl dX4_lackOf_8
theorem dX4_lackFor_0 : decode cX4_lackFor 0 = .ok (.aload_n 0, 1) := by decide +kernel
theorem dX4_lackFor_1 : decode cX4_lackFor 1 = .ok (.iload_n 1, 1) := by decide +kernel
theorem dX4_lackFor_2 : decode cX4_lackFor 2 = .ok (.invokevirtual 215, 3) := by decide +kernel
theorem dX4_lackFor_5 : decode cX4_lackFor 5 = .ok (.istore_n 3, 1) := by decide +kernel
theorem dX4_lackFor_6 : decode cX4_lackFor 6 = .ok (.iload_n 3, 1) := by decide +kernel
theorem dX4_lackFor_7 : decode cX4_lackFor 7 = .ok (.ifCond .lt 5, 3) := by decide +kernel
theorem dX4_lackFor_10 : decode cX4_lackFor 10 = .ok (.iload_n 3, 1) := by decide +kernel
theorem dX4_lackFor_11 : decode cX4_lackFor 11 = .ok (.ireturn, 1) := by decide +kernel
theorem dX4_lackFor_12 : decode cX4_lackFor 12 = .ok (.aload_n 0, 1) := by decide +kernel
theorem dX4_lackFor_13 : decode cX4_lackFor 13 = .ok (.iload_n 2, 1) := by decide +kernel
theorem dX4_lackFor_14 : decode cX4_lackFor 14 = .ok (.invokevirtual 94, 3) := by decide +kernel
theorem dX4_lackFor_17 : decode cX4_lackFor 17 = .ok (.ifCond .eq 7, 3) := by decide +kernel
theorem dX4_lackFor_20 : decode cX4_lackFor 20 = .ok (.iconst (-1), 1) := by decide +kernel
theorem dX4_lackFor_21 : decode cX4_lackFor 21 = .ok (.goto 4, 3) := by decide +kernel
theorem dX4_lackFor_24 : decode cX4_lackFor 24 = .ok (.iconst 0, 1) := by decide +kernel
theorem dX4_lackFor_25 : decode cX4_lackFor 25 = .ok (.ireturn, 1) := by decide +kernel
def rX4_lackFor : Room := { frames := 3, cells := 0, slots := 0, locals := 63 }
def vX4_lackFor (J0 : JS) (p1 : Int32) (p2 : Int32) : Int32 := if ((vX4_lackOf J0 p1) < 0) then (if ((vX4_isThing J0 p2) = 0) then (0 : Int32) else (-1 : Int32)) else (vX4_lackOf J0 p1)
def kX4_lackFor (J0 : JS) (p1 : Int32) (p2 : Int32) : Prop := (kX4_lackOf J0 p1) ∧ (((vX4_lackOf J0 p1) < 0) → ((kX4_isThing J0 p2) ∧ True)) ∧ (¬ ((vX4_lackOf J0 p1) < 0) → True)
set_option maxHeartbeats 4000000 in
set_option maxRecDepth 100000 in
theorem hX4_lackFor (l : Launch) (D : va_G) (K : JK) (G : JG) (a : Nat → Nat) (J0 : JS) (p1 : Int32) (p2 : Int32) (hk : kX4_lackFor J0 p1 p2) (sz : Nat) : Met l yX4_lackFor (.code yX4_lackFor cX4_lackFor 4 (some .int) :: jGW) rX4_lackFor (jPre D (jT K) G [.ref (a 0), .int p1, .int p2] (wJ K a J0) sz) (jQi D (jT K) (vX4_lackFor J0 p1 p2) (wJ K a J0) (va_A (wJ K a J0) sz)) 0 0 (va_A (wJ K a J0) sz) := by
  refine jEi (by decide) (Nat.le_of_ble_eq_true rfl) (fun p e s m below meth c A Q ls hat hP hD hS hl hend => ?_)
  obtain ⟨hx, hb, hml, hown, hts, hK, hZ, hA⟩ := hat
  have hl : lv_has ls 4 [(0, .ref (a 0)), (1, .int p1), (2, .int p2)] := hl
  have hV := vX4_lackFor.eq_1 J0 p1 p2
  rw [kX4_lackFor] at hk
  refine lv_aload_n hx hb dX4_lackFor_0 rfl (lv_at hl 0 rfl) ?_
  refine lv_iload_n hx hb dX4_lackFor_1 rfl (lv_at hl 1 rfl) ?_
  obtain ⟨h5, hk⟩ := hk
  refine jci0 (jrunV (As := [.int p1]) (rest := []) hx hb hml hown hts hK hZ hA hP hD hS hl.1 mf_X4_lackOf kl_X4_215 ⟨rfl, rfl, Nat.le_of_ble_eq_true rfl, Nat.le_of_ble_eq_true rfl⟩ ⟨Nat.zero_le _, Nat.zero_le _⟩ [0, 1, 2, 3, 4, 5, 6, 7, 8, 9, 10, 11, 12, 13, 14, 15, 16, 17, 18, 19, 20, 21, 22, 23, 24, 25, 26, 27, 28, 29] rfl (js45 K a J0) rfl rfl rfl (hX4_lackOf l D K G a J0 p1 h5 _) rfl rfl (Nat.le_of_ble_eq_true rfl) dX4_lackFor_2) hA hP hD hS [0, 1, 2, 3, 4, 5, 6, 7, 8, 9, 10, 11, 12, 13, 14, 15, 16, 17, 18, 19, 20, 21, 22, 23, 24, 25, 26, 27, 28, 29] (js45 K a J0) (fun H locs hP hS => ?_)
  refine lv_istore_n (lv' := [(3, .int (vX4_lackOf J0 p1)), (0, .ref (a 0)), (1, .int p1), (2, .int p2)]) hx hb dX4_lackFor_5 rfl hl (by decide) rfl (fun ls hl => ?_)
  refine lv_iload_n hx hb dX4_lackFor_6 rfl (lv_at hl 0 rfl) ?_
  refine lv_if_lt (tgt := 12) hx hb dX4_lackFor_7 (by decide) (fun c6 => ?_) (fun c6 => ?_)
  · have hV := hV.trans (if_pos c6)
    have hk := hk.1 c6
    refine lv_aload_n hx hb dX4_lackFor_12 rfl (lv_at hl 1 rfl) ?_
    refine lv_iload_n hx hb dX4_lackFor_13 rfl (lv_at hl 3 rfl) ?_
    obtain ⟨h7, hk⟩ := hk
    refine jci0 (jrunV (As := [.int p2]) (rest := []) hx hb hml hown hts hK hZ hA hP hD hS hl.1 mf_X4_isThing kl_X4_94 ⟨rfl, rfl, Nat.le_of_ble_eq_true rfl, Nat.le_of_ble_eq_true rfl⟩ ⟨Nat.zero_le _, Nat.zero_le _⟩ [0, 1, 2, 3, 4, 5, 6, 7, 8, 9, 10, 11, 12, 13, 14, 15, 16, 17, 18, 19, 20, 21, 22, 23, 24, 25, 26, 27, 28, 29] rfl (js45 K a J0) rfl rfl rfl (hX4_isThing l D K G a J0 p2 h7 _) rfl rfl (Nat.le_of_ble_eq_true rfl) dX4_lackFor_14) hA hP hD hS [0, 1, 2, 3, 4, 5, 6, 7, 8, 9, 10, 11, 12, 13, 14, 15, 16, 17, 18, 19, 20, 21, 22, 23, 24, 25, 26, 27, 28, 29] (js45 K a J0) (fun H locs hP hS => ?_)
    refine lv_if_eq (tgt := 24) hx hb dX4_lackFor_17 (by decide) (fun c8 => ?_) (fun c8 => ?_)
    · have hV := hV.trans (if_pos c8)
      refine lv_iconst (v := (0 : Int32)) hx hb dX4_lackFor_24 (by decide) ?_
      exact hend _ _ _ _ _ hP hD hS hV.symm rfl dX4_lackFor_25
    · have hV := hV.trans (if_neg c8)
      refine lv_iconst (v := (-1 : Int32)) hx hb dX4_lackFor_20 (by decide) ?_
      refine lv_goto (tgt := 25) hx hb dX4_lackFor_21 (by decide) ?_
      exact hend _ _ _ _ _ hP hD hS hV.symm rfl dX4_lackFor_25
  · have hV := hV.trans (if_neg c6)
    have hk := hk.2 c6
    refine lv_iload_n hx hb dX4_lackFor_10 rfl (lv_at hl 0 rfl) ?_
    exact hend _ _ _ _ _ hP hD hS hV.symm rfl dX4_lackFor_11
theorem ja60 (K : JK) (a : Nat → Nat) (J : JS) (f : FA) : (wJ K a J).set 29 ((a 29), .inl (K.1, 10, .inl f)) = (wJ K a (j_s_worses J f)) := rfl
theorem dX4_foreseeWorses_0 : decode cX4_foreseeWorses 0 = .ok (.aload_n 0, 1) := by decide +kernel
theorem dX4_foreseeWorses_1 : decode cX4_foreseeWorses 1 = .ok (.getfield 19, 3) := by decide +kernel
theorem dX4_foreseeWorses_4 : decode cX4_foreseeWorses 4 = .ok (.aload_n 0, 1) := by decide +kernel
theorem dX4_foreseeWorses_5 : decode cX4_foreseeWorses 5 = .ok (.getfield 10, 3) := by decide +kernel
theorem dX4_foreseeWorses_8 : decode cX4_foreseeWorses 8 = .ok (.invokevirtual 132, 3) := by decide +kernel
theorem dX4_foreseeWorses_11 : decode cX4_foreseeWorses 11 = .ok (.iconst 0, 1) := by decide +kernel
theorem dX4_foreseeWorses_12 : decode cX4_foreseeWorses 12 = .ok (.istore_n 2, 1) := by decide +kernel
theorem dX4_foreseeWorses_13 : decode cX4_foreseeWorses 13 = .ok (.iload_n 2, 1) := by decide +kernel
theorem dX4_foreseeWorses_14 : decode cX4_foreseeWorses 14 = .ok (.bipush 10, 2) := by decide +kernel
theorem dX4_foreseeWorses_16 : decode cX4_foreseeWorses 16 = .ok (.if_icmp .ge 30, 3) := by decide +kernel
theorem dX4_foreseeWorses_19 : decode cX4_foreseeWorses 19 = .ok (.aload_n 0, 1) := by decide +kernel
theorem dX4_foreseeWorses_20 : decode cX4_foreseeWorses 20 = .ok (.getfield 42, 3) := by decide +kernel
theorem dX4_foreseeWorses_23 : decode cX4_foreseeWorses 23 = .ok (.iload_n 2, 1) := by decide +kernel
theorem dX4_foreseeWorses_24 : decode cX4_foreseeWorses 24 = .ok (.aload_n 0, 1) := by decide +kernel
theorem dX4_foreseeWorses_25 : decode cX4_foreseeWorses 25 = .ok (.getfield 19, 3) := by decide +kernel
theorem dX4_foreseeWorses_28 : decode cX4_foreseeWorses 28 = .ok (.iload_n 1, 1) := by decide +kernel
theorem dX4_foreseeWorses_29 : decode cX4_foreseeWorses 29 = .ok (.invokevirtual 247, 3) := by decide +kernel
theorem dX4_foreseeWorses_32 : decode cX4_foreseeWorses 32 = .ok (.iastore, 1) := by decide +kernel
theorem dX4_foreseeWorses_33 : decode cX4_foreseeWorses 33 = .ok (.aload_n 0, 1) := by decide +kernel
theorem dX4_foreseeWorses_34 : decode cX4_foreseeWorses 34 = .ok (.getfield 19, 3) := by decide +kernel
theorem dX4_foreseeWorses_37 : decode cX4_foreseeWorses 37 = .ok (.invokevirtual 139, 3) := by decide +kernel
theorem dX4_foreseeWorses_40 : decode cX4_foreseeWorses 40 = .ok (.iinc 2 1, 3) := by decide +kernel
theorem dX4_foreseeWorses_43 : decode cX4_foreseeWorses 43 = .ok (.goto (-30), 3) := by decide +kernel
theorem dX4_foreseeWorses_46 : decode cX4_foreseeWorses 46 = .ok (.return_, 1) := by decide +kernel
def rX4_foreseeWorses : Room := { frames := 3, cells := 0, slots := 0, locals := 69 }
def vX4_foreseeWorses_c40 (p1 : Int32) (k : JS → Int32 → JS) (J : JS) (x2 : Int32) : JS := (k J (x2 + (1 : Int32)))
def kX4_foreseeWorses_c40 (p1 : Int32) (q : JS → Int32 → Prop) (J : JS) (x2 : Int32) : Prop := (q J (x2 + (1 : Int32)))
def vX4_foreseeWorses_c33 (p1 : Int32) (k : JS → Int32 → JS) (J : JS) (x2 : Int32) : JS := (vX4_foreseeWorses_c40 p1 k (j_s_T J (vX0_passDay (j_T J))) x2)
def kX4_foreseeWorses_c33 (p1 : Int32) (q : JS → Int32 → Prop) (J : JS) (x2 : Int32) : Prop := (kX0_passDay (j_T J)) ∧ (kX4_foreseeWorses_c40 p1 q (j_s_T J (vX0_passDay (j_T J))) x2)
def vX4_foreseeWorses_c13 (p1 : Int32) : Nat → JS → Int32 → JS
  | 0, J, x2 => (J)
  | n + 1, J, x2 => if ((10 : Int32) ≤ x2) then J else (vX4_foreseeWorses_c33 p1 (fun J x2 => vX4_foreseeWorses_c13 p1 n J x2) (j_s_worses J (upd (j_worses J) (x2).toNatClampNeg (vX0_worse (j_T J) p1))) x2)
def kX4_foreseeWorses_c13 (p1 : Int32) : Nat → JS → Int32 → Prop
  | 0, _, _ => False
  | n + 1, J, x2 => (((10 : Int32) ≤ x2) → True) ∧ (¬ ((10 : Int32) ≤ x2) → ((kX0_worse (j_T J) p1) ∧ (vp_in x2 10) ∧ (kX4_foreseeWorses_c33 p1 (fun J x2 => kX4_foreseeWorses_c13 p1 n J x2) (j_s_worses J (upd (j_worses J) (x2).toNatClampNeg (vX0_worse (j_T J) p1))) x2)))
def vX4_foreseeWorses_c11 (p1 : Int32) (J : JS) : JS := (vX4_foreseeWorses_c13 p1 1024 J (0 : Int32))
def kX4_foreseeWorses_c11 (p1 : Int32) (J : JS) : Prop := (kX4_foreseeWorses_c13 p1 1024 J (0 : Int32))
def vX4_foreseeWorses (J0 : JS) (p1 : Int32) : JS := (vX4_foreseeWorses_c11 p1 (j_s_T J0 (vX0_become (j_T J0) (j_E J0))))
def kX4_foreseeWorses (J0 : JS) (p1 : Int32) : Prop := (kX0_become (j_T J0) (j_E J0)) ∧ (kX4_foreseeWorses_c11 p1 (j_s_T J0 (vX0_become (j_T J0) (j_E J0))))
set_option maxHeartbeats 4000000 in
set_option maxRecDepth 100000 in
theorem hX4_foreseeWorses (l : Launch) (D : va_G) (K : JK) (G : JG) (a : Nat → Nat) (J0 : JS) (p1 : Int32) (hk : kX4_foreseeWorses J0 p1) (sz : Nat) : Met l yX4_foreseeWorses (.code yX4_foreseeWorses cX4_foreseeWorses 3 none :: jGW) rX4_foreseeWorses (jPre D (jT K) G [.ref (a 0), .int p1] (wJ K a J0) sz) (jQv D (jT K) (wJ K a (vX4_foreseeWorses J0 p1)) (va_A (wJ K a J0) sz)) 0 0 (va_A (wJ K a J0) sz) := by
  refine jEv (by decide) (Nat.le_of_ble_eq_true rfl) (fun p e s m below meth c A Q ls hat hP hD hS hl hend => ?_)
  obtain ⟨hx, hb, hml, hown, hts, hK, hZ, hA⟩ := hat
  have hl : lv_has ls 3 [(0, .ref (a 0)), (1, .int p1)] := hl
  have hc13 : ∀ (n : Nat) (J : JS) (x2 : Int32) (H : Heap) (locs : List Loc) (ls : Array Slot), (vX4_foreseeWorses J0 p1) = vX4_foreseeWorses_c13 p1 n J x2 → kX4_foreseeWorses_c13 p1 n J x2 → va_P D vwCl (wJ K a J) H → va_D A (wJ K a J) → va_S A s.heap H locs → lv_has ls 3 [(0, .ref (a 0)), (1, .int p1), (2, .int x2)] → W p l e rX4_foreseeWorses s m ([.ref (a 0), .int p1] : List Value).toArray below meth c H locs 0 0 Q (F0 m 13 ls []) := by
    intro n
    induction n with
    | zero =>
      intro J x2 H locs ls hV hk hP hD hS hl
      exact False.elim hk
    | succ n ih =>
      have hc40 : ∀ (J : JS) (x2 : Int32) (H : Heap) (locs : List Loc) (ls : Array Slot), (vX4_foreseeWorses J0 p1) = vX4_foreseeWorses_c40 p1 (fun J x2 => vX4_foreseeWorses_c13 p1 n J x2) J x2 → kX4_foreseeWorses_c40 p1 (fun J x2 => kX4_foreseeWorses_c13 p1 n J x2) J x2 → va_P D vwCl (wJ K a J) H → va_D A (wJ K a J) → va_S A s.heap H locs → lv_has ls 3 [(0, .ref (a 0)), (1, .int p1), (2, .int x2)] → W p l e rX4_foreseeWorses s m ([.ref (a 0), .int p1] : List Value).toArray below meth c H locs 0 0 Q (F0 m 40 ls []) := by
        intro J x2 H locs ls hV hk hP hD hS hl
        rw [vX4_foreseeWorses_c40] at hV
        rw [kX4_foreseeWorses_c40] at hk
        refine lv_iinc (v := (x2 + (1 : Int32))) (lv' := [(2, .int (x2 + (1 : Int32))), (0, .ref (a 0)), (1, .int p1)]) hx hb dX4_foreseeWorses_40 hl (k := 2) rfl rfl (by decide) rfl (fun ls hl => ?_)
        refine lv_goto (tgt := 13) hx hb dX4_foreseeWorses_43 (by decide) ?_
        exact ih J (x2 + (1 : Int32)) _ _ _ hV hk hP hD hS (lv_sub hl [1, 2, 0] rfl)
      have hc33 : ∀ (J : JS) (x2 : Int32) (H : Heap) (locs : List Loc) (ls : Array Slot), (vX4_foreseeWorses J0 p1) = vX4_foreseeWorses_c33 p1 (fun J x2 => vX4_foreseeWorses_c13 p1 n J x2) J x2 → kX4_foreseeWorses_c33 p1 (fun J x2 => kX4_foreseeWorses_c13 p1 n J x2) J x2 → va_P D vwCl (wJ K a J) H → va_D A (wJ K a J) → va_S A s.heap H locs → lv_has ls 3 [(0, .ref (a 0)), (1, .int p1), (2, .int x2)] → W p l e rX4_foreseeWorses s m ([.ref (a 0), .int p1] : List Value).toArray below meth c H locs 0 0 Q (F0 m 33 ls []) := by
        intro J x2 H locs ls hV hk hP hD hS hl
        rw [vX4_foreseeWorses_c33] at hV
        rw [kX4_foreseeWorses_c33] at hk
        refine lv_aload_n hx hb dX4_foreseeWorses_33 rfl (lv_at hl 0 rfl) ?_
        refine gf_X4_19 (v := .ref (a 11)) hx hb hts hown hK hZ hP (0) rfl rfl dX4_foreseeWorses_34 ?_
        obtain ⟨h6, hk⟩ := hk
        refine jcv (jrunV (As := []) (rest := []) hx hb hml hown hts hK hZ hA hP hD hS hl.1 mf_X0_passDay kl_X4_139 ⟨rfl, rfl, Nat.le_of_ble_eq_true rfl, Nat.le_of_ble_eq_true rfl⟩ ⟨Nat.zero_le _, Nat.zero_le _⟩ [11, 12, 13, 14, 15] rfl (js49 K a J) rfl rfl rfl (hX0_passDay l D K G (fun k => a (11 + k)) (j_T J) h6 _) rfl rfl (Nat.le_of_ble_eq_true rfl) dX4_foreseeWorses_37) hA hP hD hS [11, 12, 13, 14, 15] (js49 K a J) (jh50 K a J (vX0_passDay (j_T J))) (fun H locs hP hD hS => ?_)
        have hP := jeP (jp51 K a J (vX0_passDay (j_T J))) hP
        have hD := jeD (jp51 K a J (vX0_passDay (j_T J))) hD
        exact hc40 (j_s_T J (vX0_passDay (j_T J))) x2 _ _ _ hV hk hP hD hS (lv_sub hl [0, 1, 2] rfl)
      intro J x2 H locs ls hV hk hP hD hS hl
      rw [vX4_foreseeWorses_c13] at hV
      rw [kX4_foreseeWorses_c13] at hk
      refine lv_iload_n hx hb dX4_foreseeWorses_13 rfl (lv_at hl 2 rfl) ?_
      refine lv_bipush (v := (10 : Int32)) hx hb dX4_foreseeWorses_14 (by decide) ?_
      refine lv_icmp_ge (tgt := 46) hx hb dX4_foreseeWorses_16 (by decide) (fun c7 => ?_) (fun c7 => ?_)
      · have hV := hV.trans (if_pos c7)
        have hk := hk.1 c7
        exact hend _ _ _ _ (by rw [hV]; exact hP) (by rw [hV]; exact hD) hS dX4_foreseeWorses_46
      · have hV := hV.trans (if_neg c7)
        have hk := hk.2 c7
        refine lv_aload_n hx hb dX4_foreseeWorses_19 rfl (lv_at hl 0 rfl) ?_
        refine gf_X4_42 (v := .ref (a 29)) hx hb hts hown hK hZ hP (0) rfl rfl dX4_foreseeWorses_20 ?_
        refine lv_iload_n hx hb dX4_foreseeWorses_23 rfl (lv_at hl 2 rfl) ?_
        refine lv_aload_n hx hb dX4_foreseeWorses_24 rfl (lv_at hl 0 rfl) ?_
        refine gf_X4_19 (v := .ref (a 11)) hx hb hts hown hK hZ hP (0) rfl rfl dX4_foreseeWorses_25 ?_
        refine lv_iload_n hx hb dX4_foreseeWorses_28 rfl (lv_at hl 1 rfl) ?_
        obtain ⟨h8, hk⟩ := hk
        refine jci0 (jrunV (As := [.int p1]) (rest := [.int x2, .ref (a 29)]) hx hb hml hown hts hK hZ hA hP hD hS hl.1 mf_X0_worse kl_X4_247 ⟨rfl, rfl, Nat.le_of_ble_eq_true rfl, Nat.le_of_ble_eq_true rfl⟩ ⟨Nat.zero_le _, Nat.zero_le _⟩ [11, 12, 13, 14, 15] rfl (js49 K a J) rfl rfl rfl (hX0_worse l D K G (fun k => a (11 + k)) (j_T J) p1 h8 _) rfl rfl (Nat.le_of_ble_eq_true rfl) dX4_foreseeWorses_29) hA hP hD hS [11, 12, 13, 14, 15] (js49 K a J) (fun H locs hP hS => ?_)
        obtain ⟨h9, hk⟩ := hk
        refine va_iast hx hb hK hP hD hS (29) 0 rfl rfl h9 dX4_foreseeWorses_32 (fun H locs hP hD hS => ?_)
        have hP := jeP (ja60 K a J (upd (j_worses J) (x2).toNatClampNeg (vX0_worse (j_T J) p1))) hP
        have hD := jeD (ja60 K a J (upd (j_worses J) (x2).toNatClampNeg (vX0_worse (j_T J) p1))) hD
        exact hc33 (j_s_worses J (upd (j_worses J) (x2).toNatClampNeg (vX0_worse (j_T J) p1))) x2 _ _ _ hV hk hP hD hS (lv_sub hl [0, 1, 2] rfl)
  have hc11 : ∀ (J : JS) (H : Heap) (locs : List Loc) (ls : Array Slot), (vX4_foreseeWorses J0 p1) = vX4_foreseeWorses_c11 p1 J → kX4_foreseeWorses_c11 p1 J → va_P D vwCl (wJ K a J) H → va_D A (wJ K a J) → va_S A s.heap H locs → lv_has ls 3 [(0, .ref (a 0)), (1, .int p1)] → W p l e rX4_foreseeWorses s m ([.ref (a 0), .int p1] : List Value).toArray below meth c H locs 0 0 Q (F0 m 11 ls []) := by
    intro J H locs ls hV hk hP hD hS hl
    rw [vX4_foreseeWorses_c11] at hV
    rw [kX4_foreseeWorses_c11] at hk
    refine lv_iconst (v := (0 : Int32)) hx hb dX4_foreseeWorses_11 (by decide) ?_
    refine lv_istore_n (lv' := [(2, .int (0 : Int32)), (0, .ref (a 0)), (1, .int p1)]) hx hb dX4_foreseeWorses_12 rfl hl (by decide) rfl (fun ls hl => ?_)
    exact hc13 1024 J (0 : Int32) _ _ _ hV hk hP hD hS (lv_sub hl [1, 2, 0] rfl)
  have hV := vX4_foreseeWorses.eq_1 J0 p1
  rw [kX4_foreseeWorses] at hk
  refine lv_aload_n hx hb dX4_foreseeWorses_0 rfl (lv_at hl 0 rfl) ?_
  refine gf_X4_19 (v := .ref (a 11)) hx hb hts hown hK hZ hP (0) rfl rfl dX4_foreseeWorses_1 ?_
  refine lv_aload_n hx hb dX4_foreseeWorses_4 rfl (lv_at hl 0 rfl) ?_
  refine gf_X4_10 (v := .ref (a 1)) hx hb hts hown hK hZ hP (0) rfl rfl dX4_foreseeWorses_5 ?_
  obtain ⟨h10, hk⟩ := hk
  refine jcv (jrunV (As := [.ref (a 1)]) (rest := []) hx hb hml hown hts hK hZ hA hP hD hS hl.1 mf_X0_become kl_X4_132 ⟨rfl, rfl, Nat.le_of_ble_eq_true rfl, Nat.le_of_ble_eq_true rfl⟩ ⟨Nat.zero_le _, Nat.zero_le _⟩ [11, 12, 13, 14, 15, 1, 2, 3, 4, 5] rfl (js46 K a J0) rfl rfl rfl (hX0_become l D K G (fun k => a (11 + k)) (fun k => a (1 + k)) (j_T J0) (j_E J0) h10 _) rfl rfl (Nat.le_of_ble_eq_true rfl) dX4_foreseeWorses_8) hA hP hD hS [11, 12, 13, 14, 15, 1, 2, 3, 4, 5] (js46 K a J0) (jh47 K a J0 (vX0_become (j_T J0) (j_E J0))) (fun H locs hP hD hS => ?_)
  have hP := jeP (jp48 K a J0 (vX0_become (j_T J0) (j_E J0))) hP
  have hD := jeD (jp48 K a J0 (vX0_become (j_T J0) (j_E J0))) hD
  exact hc11 (j_s_T J0 (vX0_become (j_T J0) (j_E J0))) _ _ _ hV hk hP hD hS (lv_sub hl [0, 1] rfl)
theorem dX4_fits_0 : decode cX4_fits 0 = .ok (.aload_n 0, 1) := by decide +kernel
theorem dX4_fits_1 : decode cX4_fits 1 = .ok (.iload_n 1, 1) := by decide +kernel
theorem dX4_fits_2 : decode cX4_fits 2 = .ok (.iload_n 2, 1) := by decide +kernel
theorem dX4_fits_3 : decode cX4_fits 3 = .ok (.invokevirtual 156, 3) := by decide +kernel
theorem dX4_fits_6 : decode cX4_fits 6 = .ok (.istore_n 3, 1) := by decide +kernel
theorem dX4_fits_7 : decode cX4_fits 7 = .ok (.iload_n 3, 1) := by decide +kernel
theorem dX4_fits_8 : decode cX4_fits 8 = .ok (.ifCond .lt 9, 3) := by decide +kernel
theorem dX4_fits_11 : decode cX4_fits 11 = .ok (.aload_n 0, 1) := by decide +kernel
theorem dX4_fits_12 : decode cX4_fits 12 = .ok (.iload_n 3, 1) := by decide +kernel
theorem dX4_fits_13 : decode cX4_fits 13 = .ok (.invokevirtual 60, 3) := by decide +kernel
theorem dX4_fits_16 : decode cX4_fits 16 = .ok (.ireturn, 1) := by decide +kernel
theorem dX4_fits_17 : decode cX4_fits 17 = .ok (.aload_n 0, 1) := by decide +kernel
theorem dX4_fits_18 : decode cX4_fits 18 = .ok (.iload_n 2, 1) := by decide +kernel
theorem dX4_fits_19 : decode cX4_fits 19 = .ok (.invokevirtual 159, 3) := by decide +kernel
theorem dX4_fits_22 : decode cX4_fits 22 = .ok (.iconst 0, 1) := by decide +kernel
theorem dX4_fits_23 : decode cX4_fits 23 = .ok (.istore 4, 2) := by decide +kernel
theorem dX4_fits_25 : decode cX4_fits 25 = .ok (.iconst 0, 1) := by decide +kernel
theorem dX4_fits_26 : decode cX4_fits 26 = .ok (.istore 5, 2) := by decide +kernel
theorem dX4_fits_28 : decode cX4_fits 28 = .ok (.iload 5, 2) := by decide +kernel
theorem dX4_fits_30 : decode cX4_fits 30 = .ok (.sipush 599, 3) := by decide +kernel
theorem dX4_fits_33 : decode cX4_fits 33 = .ok (.if_icmp .gt 28, 3) := by decide +kernel
theorem dX4_fits_36 : decode cX4_fits 36 = .ok (.aload_n 0, 1) := by decide +kernel
theorem dX4_fits_37 : decode cX4_fits 37 = .ok (.aload_n 0, 1) := by decide +kernel
theorem dX4_fits_38 : decode cX4_fits 38 = .ok (.getfield 31, 3) := by decide +kernel
theorem dX4_fits_41 : decode cX4_fits 41 = .ok (.iload_n 1, 1) := by decide +kernel
theorem dX4_fits_42 : decode cX4_fits 42 = .ok (.aaload, 1) := by decide +kernel
theorem dX4_fits_43 : decode cX4_fits 43 = .ok (.iload_n 2, 1) := by decide +kernel
theorem dX4_fits_44 : decode cX4_fits 44 = .ok (.iload 5, 2) := by decide +kernel
theorem dX4_fits_46 : decode cX4_fits 46 = .ok (.invokevirtual 162, 3) := by decide +kernel
theorem dX4_fits_49 : decode cX4_fits 49 = .ok (.ifCond .eq 6, 3) := by decide +kernel
theorem dX4_fits_52 : decode cX4_fits 52 = .ok (.iinc 4 1, 3) := by decide +kernel
theorem dX4_fits_55 : decode cX4_fits 55 = .ok (.iinc 5 1, 3) := by decide +kernel
theorem dX4_fits_58 : decode cX4_fits 58 = .ok (.goto (-30), 3) := by decide +kernel
theorem dX4_fits_61 : decode cX4_fits 61 = .ok (.iload 4, 2) := by decide +kernel
theorem dX4_fits_63 : decode cX4_fits 63 = .ok (.ireturn, 1) := by decide +kernel
def rX4_fits : Room := { frames := 4, cells := 0, slots := 0, locals := 91 }
def vX4_fits_c55 (p1 : Int32) (p2 : Int32) (k : JS → Int32 → Int32 → Int32 × JS) (J : JS) (x4 : Int32) (x5 : Int32) : Int32 × JS := (k J x4 (x5 + (1 : Int32)))
def kX4_fits_c55 (p1 : Int32) (p2 : Int32) (q : JS → Int32 → Int32 → Prop) (J : JS) (x4 : Int32) (x5 : Int32) : Prop := (q J x4 (x5 + (1 : Int32)))
def vX4_fits_c28 (p1 : Int32) (p2 : Int32) : Nat → JS → Int32 → Int32 → Int32 × JS
  | 0, J, x4, x5 => (0, J)
  | n + 1, J, x4, x5 => if ((599 : Int32) < x5) then (x4, J) else if ((vX4_ageFits J ((p1).toNatClampNeg) p2 x5) = 0) then (vX4_fits_c55 p1 p2 (fun J x4 x5 => vX4_fits_c28 p1 p2 n J x4 x5) J x4 x5) else (vX4_fits_c55 p1 p2 (fun J x4 x5 => vX4_fits_c28 p1 p2 n J x4 x5) J (x4 + (1 : Int32)) x5)
def kX4_fits_c28 (p1 : Int32) (p2 : Int32) : Nat → JS → Int32 → Int32 → Prop
  | 0, _, _, _ => False
  | n + 1, J, x4, x5 => (((599 : Int32) < x5) → True) ∧ (¬ ((599 : Int32) < x5) → ((vp_in p1 4) ∧ (kX4_ageFits J ((p1).toNatClampNeg) p2 x5) ∧ (((vX4_ageFits J ((p1).toNatClampNeg) p2 x5) = 0) → ((kX4_fits_c55 p1 p2 (fun J x4 x5 => kX4_fits_c28 p1 p2 n J x4 x5) J x4 x5))) ∧ (¬ ((vX4_ageFits J ((p1).toNatClampNeg) p2 x5) = 0) → ((kX4_fits_c55 p1 p2 (fun J x4 x5 => kX4_fits_c28 p1 p2 n J x4 x5) J (x4 + (1 : Int32)) x5)))))
def vX4_fits_c22 (p1 : Int32) (p2 : Int32) (J : JS) : Int32 × JS := (vX4_fits_c28 p1 p2 1024 J (0 : Int32) (0 : Int32))
def kX4_fits_c22 (p1 : Int32) (p2 : Int32) (J : JS) : Prop := (kX4_fits_c28 p1 p2 1024 J (0 : Int32) (0 : Int32))
def vX4_fits (J0 : JS) (p1 : Int32) (p2 : Int32) : Int32 × JS := if ((vX4_lackFor J0 p1 p2) < 0) then (vX4_fits_c22 p1 p2 (vX4_foreseeWorses J0 p2)) else (((vX4_tell J0 (vX4_lackFor J0 p1 p2)).1), ((vX4_tell J0 (vX4_lackFor J0 p1 p2)).2))
def kX4_fits (J0 : JS) (p1 : Int32) (p2 : Int32) : Prop := (kX4_lackFor J0 p1 p2) ∧ (((vX4_lackFor J0 p1 p2) < 0) → ((kX4_foreseeWorses J0 p2) ∧ (kX4_fits_c22 p1 p2 (vX4_foreseeWorses J0 p2)))) ∧ (¬ ((vX4_lackFor J0 p1 p2) < 0) → ((kX4_tell J0 (vX4_lackFor J0 p1 p2)) ∧ True))
set_option maxHeartbeats 4000000 in
set_option maxRecDepth 100000 in
theorem hX4_fits (l : Launch) (D : va_G) (K : JK) (G : JG) (a : Nat → Nat) (J0 : JS) (p1 : Int32) (p2 : Int32) (hk : kX4_fits J0 p1 p2) (sz : Nat) : Met l yX4_fits (.code yX4_fits cX4_fits 6 (some .int) :: jGW) rX4_fits (jPre D (jT K) G [.ref (a 0), .int p1, .int p2] (wJ K a J0) sz) (jQi D (jT K) ((vX4_fits J0 p1 p2).1) (wJ K a ((vX4_fits J0 p1 p2).2)) (va_A (wJ K a J0) sz)) 0 0 (va_A (wJ K a J0) sz) := by
  refine jEi (by decide) (Nat.le_of_ble_eq_true rfl) (fun p e s m below meth c A Q ls hat hP hD hS hl hend => ?_)
  obtain ⟨hx, hb, hml, hown, hts, hK, hZ, hA⟩ := hat
  have hl : lv_has ls 6 [(0, .ref (a 0)), (1, .int p1), (2, .int p2)] := hl
  have hc28 : ∀ (n : Nat) (J : JS) (x4 : Int32) (x5 : Int32) (H : Heap) (locs : List Loc) (ls : Array Slot), (vX4_fits J0 p1 p2) = vX4_fits_c28 p1 p2 n J x4 x5 → kX4_fits_c28 p1 p2 n J x4 x5 → va_P D vwCl (wJ K a J) H → va_D A (wJ K a J) → va_S A s.heap H locs → lv_has ls 6 [(0, .ref (a 0)), (1, .int p1), (2, .int p2), (4, .int x4), (5, .int x5)] → W p l e rX4_fits s m ([.ref (a 0), .int p1, .int p2] : List Value).toArray below meth c H locs 0 0 Q (F0 m 28 ls []) := by
    intro n
    induction n with
    | zero =>
      intro J x4 x5 H locs ls hV hk hP hD hS hl
      exact False.elim hk
    | succ n ih =>
      have hc55 : ∀ (J : JS) (x4 : Int32) (x5 : Int32) (H : Heap) (locs : List Loc) (ls : Array Slot), (vX4_fits J0 p1 p2) = vX4_fits_c55 p1 p2 (fun J x4 x5 => vX4_fits_c28 p1 p2 n J x4 x5) J x4 x5 → kX4_fits_c55 p1 p2 (fun J x4 x5 => kX4_fits_c28 p1 p2 n J x4 x5) J x4 x5 → va_P D vwCl (wJ K a J) H → va_D A (wJ K a J) → va_S A s.heap H locs → lv_has ls 6 [(0, .ref (a 0)), (1, .int p1), (2, .int p2), (4, .int x4), (5, .int x5)] → W p l e rX4_fits s m ([.ref (a 0), .int p1, .int p2] : List Value).toArray below meth c H locs 0 0 Q (F0 m 55 ls []) := by
        intro J x4 x5 H locs ls hV hk hP hD hS hl
        rw [vX4_fits_c55] at hV
        rw [kX4_fits_c55] at hk
        refine lv_iinc (v := (x5 + (1 : Int32))) (lv' := [(5, .int (x5 + (1 : Int32))), (0, .ref (a 0)), (1, .int p1), (2, .int p2), (4, .int x4)]) hx hb dX4_fits_55 hl (k := 4) rfl rfl (by decide) rfl (fun ls hl => ?_)
        refine lv_goto (tgt := 28) hx hb dX4_fits_58 (by decide) ?_
        exact ih J x4 (x5 + (1 : Int32)) _ _ _ hV hk hP hD hS (lv_sub hl [1, 2, 3, 4, 0] rfl)
      intro J x4 x5 H locs ls hV hk hP hD hS hl
      rw [vX4_fits_c28] at hV
      rw [kX4_fits_c28] at hk
      refine lv_iload hx hb dX4_fits_28 (lv_at hl 4 rfl) ?_
      refine lv_sipush (v := (599 : Int32)) hx hb dX4_fits_30 (by decide) ?_
      refine lv_icmp_gt (tgt := 61) hx hb dX4_fits_33 (by decide) (fun c9 => ?_) (fun c9 => ?_)
      · have hV := hV.trans (if_pos c9)
        have hk := hk.1 c9
        refine lv_iload hx hb dX4_fits_61 (lv_at hl 3 rfl) ?_
        exact hend _ _ _ _ _ (by rw [hV]; exact hP) (by rw [hV]; exact hD) hS (by rw [hV]) rfl dX4_fits_63
      · have hV := hV.trans (if_neg c9)
        have hk := hk.2 c9
        refine lv_aload_n hx hb dX4_fits_36 rfl (lv_at hl 0 rfl) ?_
        refine lv_aload_n hx hb dX4_fits_37 rfl (lv_at hl 0 rfl) ?_
        refine gf_X4_31 (v := .ref (a 18)) hx hb hts hown hK hZ hP (0) rfl rfl dX4_fits_38 ?_
        refine lv_iload_n hx hb dX4_fits_41 rfl (lv_at hl 1 rfl) ?_
        obtain ⟨h10, hk⟩ := hk
        refine j_aald hx hb hK hP h10 dX4_fits_42 ?_
        refine lv_iload_n hx hb dX4_fits_43 rfl (lv_at hl 2 rfl) ?_
        refine lv_iload hx hb dX4_fits_44 (lv_at hl 4 rfl) ?_
        obtain ⟨h11, hk⟩ := hk
        refine jci0 (jrunV (As := [.ref (a (19 + 2 * (p1).toNatClampNeg)), .int p2, .int x5]) (rest := []) hx hb hml hown hts hK hZ hA hP hD hS hl.1 mf_X4_ageFits kl_X4_162 ⟨rfl, rfl, Nat.le_of_ble_eq_true rfl, Nat.le_of_ble_eq_true rfl⟩ ⟨Nat.zero_le _, Nat.zero_le _⟩ [0, 1, 2, 3, 4, 5, 6, 7, 8, 9, 10, 11, 12, 13, 14, 15, 16, 17, 18, 19, 20, 21, 22, 23, 24, 25, 26, 27, 28, 29] rfl (js45 K a J) rfl rfl rfl (hX4_ageFits l D K G a J ((p1).toNatClampNeg) p2 x5 ((jlt4 h10)) h11 _) rfl rfl (Nat.le_of_ble_eq_true rfl) dX4_fits_46) hA hP hD hS [0, 1, 2, 3, 4, 5, 6, 7, 8, 9, 10, 11, 12, 13, 14, 15, 16, 17, 18, 19, 20, 21, 22, 23, 24, 25, 26, 27, 28, 29] (js45 K a J) (fun H locs hP hS => ?_)
        refine lv_if_eq (tgt := 55) hx hb dX4_fits_49 (by decide) (fun c12 => ?_) (fun c12 => ?_)
        · have hV := hV.trans (if_pos c12)
          have hk := hk.1 c12
          exact hc55 J x4 x5 _ _ _ hV hk hP hD hS (lv_sub hl [0, 1, 2, 3, 4] rfl)
        · have hV := hV.trans (if_neg c12)
          have hk := hk.2 c12
          refine lv_iinc (v := (x4 + (1 : Int32))) (lv' := [(4, .int (x4 + (1 : Int32))), (0, .ref (a 0)), (1, .int p1), (2, .int p2), (5, .int x5)]) hx hb dX4_fits_52 hl (k := 3) rfl rfl (by decide) rfl (fun ls hl => ?_)
          exact hc55 J (x4 + (1 : Int32)) x5 _ _ _ hV hk hP hD hS (lv_sub hl [1, 2, 3, 0, 4] rfl)
  have hc22 : ∀ (J : JS) (H : Heap) (locs : List Loc) (ls : Array Slot), (vX4_fits J0 p1 p2) = vX4_fits_c22 p1 p2 J → kX4_fits_c22 p1 p2 J → va_P D vwCl (wJ K a J) H → va_D A (wJ K a J) → va_S A s.heap H locs → lv_has ls 6 [(0, .ref (a 0)), (1, .int p1), (2, .int p2)] → W p l e rX4_fits s m ([.ref (a 0), .int p1, .int p2] : List Value).toArray below meth c H locs 0 0 Q (F0 m 22 ls []) := by
    intro J H locs ls hV hk hP hD hS hl
    rw [vX4_fits_c22] at hV
    rw [kX4_fits_c22] at hk
    refine lv_iconst (v := (0 : Int32)) hx hb dX4_fits_22 (by decide) ?_
    refine lv_istore (lv' := [(4, .int (0 : Int32)), (0, .ref (a 0)), (1, .int p1), (2, .int p2)]) hx hb dX4_fits_23 hl (by decide) rfl (fun ls hl => ?_)
    refine lv_iconst (v := (0 : Int32)) hx hb dX4_fits_25 (by decide) ?_
    refine lv_istore (lv' := [(5, .int (0 : Int32)), (4, .int (0 : Int32)), (0, .ref (a 0)), (1, .int p1), (2, .int p2)]) hx hb dX4_fits_26 hl (by decide) rfl (fun ls hl => ?_)
    exact hc28 1024 J (0 : Int32) (0 : Int32) _ _ _ hV hk hP hD hS (lv_sub hl [2, 3, 4, 1, 0] rfl)
  have hV := vX4_fits.eq_1 J0 p1 p2
  rw [kX4_fits] at hk
  refine lv_aload_n hx hb dX4_fits_0 rfl (lv_at hl 0 rfl) ?_
  refine lv_iload_n hx hb dX4_fits_1 rfl (lv_at hl 1 rfl) ?_
  refine lv_iload_n hx hb dX4_fits_2 rfl (lv_at hl 2 rfl) ?_
  obtain ⟨h13, hk⟩ := hk
  refine jci0 (jrunV (As := [.int p1, .int p2]) (rest := []) hx hb hml hown hts hK hZ hA hP hD hS hl.1 mf_X4_lackFor kl_X4_156 ⟨rfl, rfl, Nat.le_of_ble_eq_true rfl, Nat.le_of_ble_eq_true rfl⟩ ⟨Nat.zero_le _, Nat.zero_le _⟩ [0, 1, 2, 3, 4, 5, 6, 7, 8, 9, 10, 11, 12, 13, 14, 15, 16, 17, 18, 19, 20, 21, 22, 23, 24, 25, 26, 27, 28, 29] rfl (js45 K a J0) rfl rfl rfl (hX4_lackFor l D K G a J0 p1 p2 h13 _) rfl rfl (Nat.le_of_ble_eq_true rfl) dX4_fits_3) hA hP hD hS [0, 1, 2, 3, 4, 5, 6, 7, 8, 9, 10, 11, 12, 13, 14, 15, 16, 17, 18, 19, 20, 21, 22, 23, 24, 25, 26, 27, 28, 29] (js45 K a J0) (fun H locs hP hS => ?_)
  refine lv_istore_n (lv' := [(3, .int (vX4_lackFor J0 p1 p2)), (0, .ref (a 0)), (1, .int p1), (2, .int p2)]) hx hb dX4_fits_6 rfl hl (by decide) rfl (fun ls hl => ?_)
  refine lv_iload_n hx hb dX4_fits_7 rfl (lv_at hl 0 rfl) ?_
  refine lv_if_lt (tgt := 17) hx hb dX4_fits_8 (by decide) (fun c14 => ?_) (fun c14 => ?_)
  · have hV := hV.trans (if_pos c14)
    have hk := hk.1 c14
    refine lv_aload_n hx hb dX4_fits_17 rfl (lv_at hl 1 rfl) ?_
    refine lv_iload_n hx hb dX4_fits_18 rfl (lv_at hl 3 rfl) ?_
    obtain ⟨h15, hk⟩ := hk
    refine jcv (jrunV (As := [.int p2]) (rest := []) hx hb hml hown hts hK hZ hA hP hD hS hl.1 mf_X4_foreseeWorses kl_X4_159 ⟨rfl, rfl, Nat.le_of_ble_eq_true rfl, Nat.le_of_ble_eq_true rfl⟩ ⟨Nat.zero_le _, Nat.zero_le _⟩ [0, 1, 2, 3, 4, 5, 6, 7, 8, 9, 10, 11, 12, 13, 14, 15, 16, 17, 18, 19, 20, 21, 22, 23, 24, 25, 26, 27, 28, 29] rfl (js45 K a J0) rfl rfl rfl (hX4_foreseeWorses l D K G a J0 p2 h15 _) rfl rfl (Nat.le_of_ble_eq_true rfl) dX4_fits_19) hA hP hD hS [0, 1, 2, 3, 4, 5, 6, 7, 8, 9, 10, 11, 12, 13, 14, 15, 16, 17, 18, 19, 20, 21, 22, 23, 24, 25, 26, 27, 28, 29] (js45 K a J0) (jh52 K a J0 (vX4_foreseeWorses J0 p2)) (fun H locs hP hD hS => ?_)
    have hP := jeP (jp53 K a J0 (vX4_foreseeWorses J0 p2)) hP
    have hD := jeD (jp53 K a J0 (vX4_foreseeWorses J0 p2)) hD
    exact hc22 (vX4_foreseeWorses J0 p2) _ _ _ hV hk hP hD hS (lv_sub hl [1, 2, 3] rfl)
  · have hV := hV.trans (if_neg c14)
    have hk := hk.2 c14
    refine lv_aload_n hx hb dX4_fits_11 rfl (lv_at hl 1 rfl) ?_
    refine lv_iload_n hx hb dX4_fits_12 rfl (lv_at hl 0 rfl) ?_
    obtain ⟨h16, hk⟩ := hk
    refine jci (jrunV (As := [.int (vX4_lackFor J0 p1 p2)]) (rest := []) hx hb hml hown hts hK hZ hA hP hD hS hl.1 mf_X4_tell kl_X4_60 ⟨rfl, rfl, Nat.le_of_ble_eq_true rfl, Nat.le_of_ble_eq_true rfl⟩ ⟨Nat.zero_le _, Nat.zero_le _⟩ [0, 1, 2, 3, 4, 5, 6, 7, 8, 9, 10, 11, 12, 13, 14, 15, 16, 17, 18, 19, 20, 21, 22, 23, 24, 25, 26, 27, 28, 29] rfl (js45 K a J0) rfl rfl rfl (hX4_tell l D K G a J0 (vX4_lackFor J0 p1 p2) h16 _) rfl rfl (Nat.le_of_ble_eq_true rfl) dX4_fits_13) hA hP hD hS [0, 1, 2, 3, 4, 5, 6, 7, 8, 9, 10, 11, 12, 13, 14, 15, 16, 17, 18, 19, 20, 21, 22, 23, 24, 25, 26, 27, 28, 29] (js45 K a J0) (jh52 K a J0 ((vX4_tell J0 (vX4_lackFor J0 p1 p2)).2)) (fun H locs hP hD hS => ?_)
    have hP := jeP (jp53 K a J0 ((vX4_tell J0 (vX4_lackFor J0 p1 p2)).2)) hP
    have hD := jeD (jp53 K a J0 ((vX4_tell J0 (vX4_lackFor J0 p1 p2)).2)) hD
    exact hend _ _ _ _ _ (by rw [hV]; exact hP) (by rw [hV]; exact hD) hS (by rw [hV]) rfl dX4_fits_16
theorem ja61 (K : JK) (a : Nat → Nat) (J : JS) (f : FA) : (wJ K a J).set 13 ((a 13), .inl (K.1, 6, .inl f)) = (wJ K a (j_s_T J (e_s_list (j_T J) f))) := rfl
theorem dX4_forceFor_0 : decode cX4_forceFor 0 = .ok (.iload_n 1, 1) := by decide +kernel
theorem dX4_forceFor_1 : decode cX4_forceFor 1 = .ok (.invokestatic 67, 3) := by decide +kernel
theorem dX4_forceFor_4 : decode cX4_forceFor 4 = .ok (.ifCond .eq 24, 3) := by decide +kernel
theorem dX4_forceFor_7 : decode cX4_forceFor 7 = .ok (.iload_n 2, 1) := by decide +kernel
theorem dX4_forceFor_8 : decode cX4_forceFor 8 = .ok (.iconst 0, 1) := by decide +kernel
theorem dX4_forceFor_9 : decode cX4_forceFor 9 = .ok (.sipush 9999, 3) := by decide +kernel
theorem dX4_forceFor_12 : decode cX4_forceFor 12 = .ok (.invokestatic 50, 3) := by decide +kernel
theorem dX4_forceFor_15 : decode cX4_forceFor 15 = .ok (.ifCond .eq 13, 3) := by decide +kernel
theorem dX4_forceFor_18 : decode cX4_forceFor 18 = .ok (.iload_n 3, 1) := by decide +kernel
theorem dX4_forceFor_19 : decode cX4_forceFor 19 = .ok (.iconst 0, 1) := by decide +kernel
theorem dX4_forceFor_20 : decode cX4_forceFor 20 = .ok (.bipush 60, 2) := by decide +kernel
theorem dX4_forceFor_22 : decode cX4_forceFor 22 = .ok (.invokestatic 50, 3) := by decide +kernel
theorem dX4_forceFor_25 : decode cX4_forceFor 25 = .ok (.ifCond .ne 9, 3) := by decide +kernel
theorem dX4_forceFor_28 : decode cX4_forceFor 28 = .ok (.aload_n 0, 1) := by decide +kernel
theorem dX4_forceFor_29 : decode cX4_forceFor 29 = .ok (.iconst 0, 1) := by decide +kernel
theorem dX4_forceFor_30 : decode cX4_forceFor 30 = .ok (.invokevirtual 60, 3) := by decide +kernel
theorem dX4_forceFor_33 : decode cX4_forceFor 33 = .ok (.ireturn, 1) := by decide +kernel
theorem dX4_forceFor_34 : decode cX4_forceFor 34 = .ok (.aload_n 0, 1) := by decide +kernel
theorem dX4_forceFor_35 : decode cX4_forceFor 35 = .ok (.getfield 10, 3) := by decide +kernel
theorem dX4_forceFor_38 : decode cX4_forceFor 38 = .ok (.getfield 74, 3) := by decide +kernel
theorem dX4_forceFor_41 : decode cX4_forceFor 41 = .ok (.iload_n 1, 1) := by decide +kernel
theorem dX4_forceFor_42 : decode cX4_forceFor 42 = .ok (.iaload, 1) := by decide +kernel
theorem dX4_forceFor_43 : decode cX4_forceFor 43 = .ok (.invokestatic 145, 3) := by decide +kernel
theorem dX4_forceFor_46 : decode cX4_forceFor 46 = .ok (.istore 4, 2) := by decide +kernel
theorem dX4_forceFor_48 : decode cX4_forceFor 48 = .ok (.iconst 0, 1) := by decide +kernel
theorem dX4_forceFor_49 : decode cX4_forceFor 49 = .ok (.istore 5, 2) := by decide +kernel
theorem dX4_forceFor_51 : decode cX4_forceFor 51 = .ok (.iload 5, 2) := by decide +kernel
theorem dX4_forceFor_53 : decode cX4_forceFor 53 = .ok (.bipush 10, 2) := by decide +kernel
theorem dX4_forceFor_55 : decode cX4_forceFor 55 = .ok (.if_icmp .ge 48, 3) := by decide +kernel
theorem dX4_forceFor_58 : decode cX4_forceFor 58 = .ok (.aload_n 0, 1) := by decide +kernel
theorem dX4_forceFor_59 : decode cX4_forceFor 59 = .ok (.getfield 19, 3) := by decide +kernel
theorem dX4_forceFor_62 : decode cX4_forceFor 62 = .ok (.aload_n 0, 1) := by decide +kernel
theorem dX4_forceFor_63 : decode cX4_forceFor 63 = .ok (.getfield 10, 3) := by decide +kernel
theorem dX4_forceFor_66 : decode cX4_forceFor 66 = .ok (.invokevirtual 132, 3) := by decide +kernel
theorem dX4_forceFor_69 : decode cX4_forceFor 69 = .ok (.aload_n 0, 1) := by decide +kernel
theorem dX4_forceFor_70 : decode cX4_forceFor 70 = .ok (.getfield 19, 3) := by decide +kernel
theorem dX4_forceFor_73 : decode cX4_forceFor 73 = .ok (.getfield 74, 3) := by decide +kernel
theorem dX4_forceFor_76 : decode cX4_forceFor 76 = .ok (.iload_n 1, 1) := by decide +kernel
theorem dX4_forceFor_77 : decode cX4_forceFor 77 = .ok (.iload 4, 2) := by decide +kernel
theorem dX4_forceFor_79 : decode cX4_forceFor 79 = .ok (.iload 5, 2) := by decide +kernel
theorem dX4_forceFor_81 : decode cX4_forceFor 81 = .ok (.invokestatic 77, 3) := by decide +kernel
theorem dX4_forceFor_84 : decode cX4_forceFor 84 = .ok (.iastore, 1) := by decide +kernel
theorem dX4_forceFor_85 : decode cX4_forceFor 85 = .ok (.aload_n 0, 1) := by decide +kernel
theorem dX4_forceFor_86 : decode cX4_forceFor 86 = .ok (.iload_n 3, 1) := by decide +kernel
theorem dX4_forceFor_87 : decode cX4_forceFor 87 = .ok (.invokevirtual 136, 3) := by decide +kernel
theorem dX4_forceFor_90 : decode cX4_forceFor 90 = .ok (.iload_n 2, 1) := by decide +kernel
theorem dX4_forceFor_91 : decode cX4_forceFor 91 = .ok (.if_icmp .lt 6, 3) := by decide +kernel
theorem dX4_forceFor_94 : decode cX4_forceFor 94 = .ok (.iload 5, 2) := by decide +kernel
theorem dX4_forceFor_96 : decode cX4_forceFor 96 = .ok (.ireturn, 1) := by decide +kernel
theorem dX4_forceFor_97 : decode cX4_forceFor 97 = .ok (.iinc 5 1, 3) := by decide +kernel
theorem dX4_forceFor_100 : decode cX4_forceFor 100 = .ok (.goto (-49), 3) := by decide +kernel
theorem dX4_forceFor_103 : decode cX4_forceFor 103 = .ok (.aload_n 0, 1) := by decide +kernel
theorem dX4_forceFor_104 : decode cX4_forceFor 104 = .ok (.iconst 3, 1) := by decide +kernel
theorem dX4_forceFor_105 : decode cX4_forceFor 105 = .ok (.invokevirtual 60, 3) := by decide +kernel
theorem dX4_forceFor_108 : decode cX4_forceFor 108 = .ok (.ireturn, 1) := by decide +kernel
def rX4_forceFor : Room := { frames := 6, cells := 0, slots := 0, locals := 129 }
def vX4_forceFor_c90 (p1 : Int32) (p2 : Int32) (p3 : Int32) (k : JS → Int32 → Int32 → Int32 × JS) (J : JS) (x4 : Int32) (x5 : Int32) (y0 : Int32) : Int32 × JS := if (y0 < p2) then (k J x4 (x5 + (1 : Int32))) else (x5, J)
def kX4_forceFor_c90 (p1 : Int32) (p2 : Int32) (p3 : Int32) (q : JS → Int32 → Int32 → Prop) (J : JS) (x4 : Int32) (x5 : Int32) (y0 : Int32) : Prop := ((y0 < p2) → ((q J x4 (x5 + (1 : Int32))))) ∧ (¬ (y0 < p2) → True)
def vX4_forceFor_c85 (p1 : Int32) (p2 : Int32) (p3 : Int32) (k : JS → Int32 → Int32 → Int32 × JS) (J : JS) (x4 : Int32) (x5 : Int32) : Int32 × JS := (vX4_forceFor_c90 p1 p2 p3 k ((vX4_awardedBehind J p3).2) x4 x5 ((vX4_awardedBehind J p3).1))
def kX4_forceFor_c85 (p1 : Int32) (p2 : Int32) (p3 : Int32) (q : JS → Int32 → Int32 → Prop) (J : JS) (x4 : Int32) (x5 : Int32) : Prop := (kX4_awardedBehind J p3) ∧ (kX4_forceFor_c90 p1 p2 p3 q ((vX4_awardedBehind J p3).2) x4 x5 ((vX4_awardedBehind J p3).1))
def vX4_forceFor_c69 (p1 : Int32) (p2 : Int32) (p3 : Int32) (k : JS → Int32 → Int32 → Int32 × JS) (J : JS) (x4 : Int32) (x5 : Int32) : Int32 × JS := (vX4_forceFor_c85 p1 p2 p3 k (j_s_T J (e_s_list (j_T J) (upd (e_list (j_T J)) (p1).toNatClampNeg (vX4_blowOf x4 x5)))) x4 x5)
def kX4_forceFor_c69 (p1 : Int32) (p2 : Int32) (p3 : Int32) (q : JS → Int32 → Int32 → Prop) (J : JS) (x4 : Int32) (x5 : Int32) : Prop := (vp_in p1 6) ∧ (kX4_forceFor_c85 p1 p2 p3 q (j_s_T J (e_s_list (j_T J) (upd (e_list (j_T J)) (p1).toNatClampNeg (vX4_blowOf x4 x5)))) x4 x5)
def vX4_forceFor_c51 (p1 : Int32) (p2 : Int32) (p3 : Int32) : Nat → JS → Int32 → Int32 → Int32 × JS
  | 0, J, x4, x5 => (0, J)
  | n + 1, J, x4, x5 => if ((10 : Int32) ≤ x5) then (((vX4_tell J (3 : Int32)).1), ((vX4_tell J (3 : Int32)).2)) else (vX4_forceFor_c69 p1 p2 p3 (fun J x4 x5 => vX4_forceFor_c51 p1 p2 p3 n J x4 x5) (j_s_T J (vX0_become (j_T J) (j_E J))) x4 x5)
def kX4_forceFor_c51 (p1 : Int32) (p2 : Int32) (p3 : Int32) : Nat → JS → Int32 → Int32 → Prop
  | 0, _, _, _ => False
  | n + 1, J, x4, x5 => (((10 : Int32) ≤ x5) → ((kX4_tell J (3 : Int32)) ∧ True)) ∧ (¬ ((10 : Int32) ≤ x5) → ((kX0_become (j_T J) (j_E J)) ∧ (kX4_forceFor_c69 p1 p2 p3 (fun J x4 x5 => kX4_forceFor_c51 p1 p2 p3 n J x4 x5) (j_s_T J (vX0_become (j_T J) (j_E J))) x4 x5)))
def vX4_forceFor_c28 (p1 : Int32) (p2 : Int32) (p3 : Int32) (J : JS) : Int32 × JS := (((vX4_tell J (0 : Int32)).1), ((vX4_tell J (0 : Int32)).2))
def kX4_forceFor_c28 (p1 : Int32) (p2 : Int32) (p3 : Int32) (J : JS) : Prop := (kX4_tell J (0 : Int32)) ∧ True
def vX4_forceFor (J0 : JS) (p1 : Int32) (p2 : Int32) (p3 : Int32) : Int32 × JS := if ((vX4_isPlace p1) = 0) then (vX4_forceFor_c28 p1 p2 p3 J0) else if ((vX4_within p2 (0 : Int32) (9999 : Int32)) = 0) then (vX4_forceFor_c28 p1 p2 p3 J0) else if ((vX4_within p3 (0 : Int32) (60 : Int32)) = 0) then (vX4_forceFor_c28 p1 p2 p3 J0) else (vX4_forceFor_c51 p1 p2 p3 1024 J0 (vX4_thingOfBlow ((e_list (j_E J0)) (p1).toNatClampNeg)) (0 : Int32))
def kX4_forceFor (J0 : JS) (p1 : Int32) (p2 : Int32) (p3 : Int32) : Prop := (kX4_isPlace p1) ∧ (((vX4_isPlace p1) = 0) → ((kX4_forceFor_c28 p1 p2 p3 J0))) ∧ (¬ ((vX4_isPlace p1) = 0) → ((((vX4_within p2 (0 : Int32) (9999 : Int32)) = 0) → ((kX4_forceFor_c28 p1 p2 p3 J0))) ∧ (¬ ((vX4_within p2 (0 : Int32) (9999 : Int32)) = 0) → ((((vX4_within p3 (0 : Int32) (60 : Int32)) = 0) → ((kX4_forceFor_c28 p1 p2 p3 J0))) ∧ (¬ ((vX4_within p3 (0 : Int32) (60 : Int32)) = 0) → ((vp_in p1 6) ∧ (kX4_forceFor_c51 p1 p2 p3 1024 J0 (vX4_thingOfBlow ((e_list (j_E J0)) (p1).toNatClampNeg)) (0 : Int32))))))))
set_option maxHeartbeats 4000000 in
set_option maxRecDepth 100000 in
theorem hX4_forceFor (l : Launch) (D : va_G) (K : JK) (G : JG) (a : Nat → Nat) (J0 : JS) (p1 : Int32) (p2 : Int32) (p3 : Int32) (hk : kX4_forceFor J0 p1 p2 p3) (sz : Nat) : Met l yX4_forceFor (.code yX4_forceFor cX4_forceFor 6 (some .int) :: jGW) rX4_forceFor (jPre D (jT K) G [.ref (a 0), .int p1, .int p2, .int p3] (wJ K a J0) sz) (jQi D (jT K) ((vX4_forceFor J0 p1 p2 p3).1) (wJ K a ((vX4_forceFor J0 p1 p2 p3).2)) (va_A (wJ K a J0) sz)) 0 0 (va_A (wJ K a J0) sz) := by
  refine jEi (by decide) (Nat.le_of_ble_eq_true rfl) (fun p e s m below meth c A Q ls hat hP hD hS hl hend => ?_)
  obtain ⟨hx, hb, hml, hown, hts, hK, hZ, hA⟩ := hat
  have hl : lv_has ls 6 [(0, .ref (a 0)), (1, .int p1), (2, .int p2), (3, .int p3)] := hl
  have hc51 : ∀ (n : Nat) (J : JS) (x4 : Int32) (x5 : Int32) (H : Heap) (locs : List Loc) (ls : Array Slot), (vX4_forceFor J0 p1 p2 p3) = vX4_forceFor_c51 p1 p2 p3 n J x4 x5 → kX4_forceFor_c51 p1 p2 p3 n J x4 x5 → va_P D vwCl (wJ K a J) H → va_D A (wJ K a J) → va_S A s.heap H locs → lv_has ls 6 [(0, .ref (a 0)), (1, .int p1), (2, .int p2), (3, .int p3), (4, .int x4), (5, .int x5)] → W p l e rX4_forceFor s m ([.ref (a 0), .int p1, .int p2, .int p3] : List Value).toArray below meth c H locs 0 0 Q (F0 m 51 ls []) := by
    intro n
    induction n with
    | zero =>
      intro J x4 x5 H locs ls hV hk hP hD hS hl
      exact False.elim hk
    | succ n ih =>
      have hc90 : ∀ (J : JS) (x4 : Int32) (x5 : Int32) (y0 : Int32) (H : Heap) (locs : List Loc) (ls : Array Slot), (vX4_forceFor J0 p1 p2 p3) = vX4_forceFor_c90 p1 p2 p3 (fun J x4 x5 => vX4_forceFor_c51 p1 p2 p3 n J x4 x5) J x4 x5 y0 → kX4_forceFor_c90 p1 p2 p3 (fun J x4 x5 => kX4_forceFor_c51 p1 p2 p3 n J x4 x5) J x4 x5 y0 → va_P D vwCl (wJ K a J) H → va_D A (wJ K a J) → va_S A s.heap H locs → lv_has ls 6 [(0, .ref (a 0)), (1, .int p1), (2, .int p2), (3, .int p3), (4, .int x4), (5, .int x5)] → W p l e rX4_forceFor s m ([.ref (a 0), .int p1, .int p2, .int p3] : List Value).toArray below meth c H locs 0 0 Q (F0 m 90 ls [.int y0]) := by
        intro J x4 x5 y0 H locs ls hV hk hP hD hS hl
        rw [vX4_forceFor_c90] at hV
        rw [kX4_forceFor_c90] at hk
        refine lv_iload_n hx hb dX4_forceFor_90 rfl (lv_at hl 2 rfl) ?_
        refine lv_icmp_lt (tgt := 97) hx hb dX4_forceFor_91 (by decide) (fun c13 => ?_) (fun c13 => ?_)
        · have hV := hV.trans (if_pos c13)
          have hk := hk.1 c13
          refine lv_iinc (v := (x5 + (1 : Int32))) (lv' := [(5, .int (x5 + (1 : Int32))), (0, .ref (a 0)), (1, .int p1), (2, .int p2), (3, .int p3), (4, .int x4)]) hx hb dX4_forceFor_97 hl (k := 5) rfl rfl (by decide) rfl (fun ls hl => ?_)
          refine lv_goto (tgt := 51) hx hb dX4_forceFor_100 (by decide) ?_
          exact ih J x4 (x5 + (1 : Int32)) _ _ _ hV hk hP hD hS (lv_sub hl [1, 2, 3, 4, 5, 0] rfl)
        · have hV := hV.trans (if_neg c13)
          have hk := hk.2 c13
          refine lv_iload hx hb dX4_forceFor_94 (lv_at hl 5 rfl) ?_
          exact hend _ _ _ _ _ (by rw [hV]; exact hP) (by rw [hV]; exact hD) hS (by rw [hV]) rfl dX4_forceFor_96
      have hc85 : ∀ (J : JS) (x4 : Int32) (x5 : Int32) (H : Heap) (locs : List Loc) (ls : Array Slot), (vX4_forceFor J0 p1 p2 p3) = vX4_forceFor_c85 p1 p2 p3 (fun J x4 x5 => vX4_forceFor_c51 p1 p2 p3 n J x4 x5) J x4 x5 → kX4_forceFor_c85 p1 p2 p3 (fun J x4 x5 => kX4_forceFor_c51 p1 p2 p3 n J x4 x5) J x4 x5 → va_P D vwCl (wJ K a J) H → va_D A (wJ K a J) → va_S A s.heap H locs → lv_has ls 6 [(0, .ref (a 0)), (1, .int p1), (2, .int p2), (3, .int p3), (4, .int x4), (5, .int x5)] → W p l e rX4_forceFor s m ([.ref (a 0), .int p1, .int p2, .int p3] : List Value).toArray below meth c H locs 0 0 Q (F0 m 85 ls []) := by
        intro J x4 x5 H locs ls hV hk hP hD hS hl
        rw [vX4_forceFor_c85] at hV
        rw [kX4_forceFor_c85] at hk
        refine lv_aload_n hx hb dX4_forceFor_85 rfl (lv_at hl 0 rfl) ?_
        refine lv_iload_n hx hb dX4_forceFor_86 rfl (lv_at hl 3 rfl) ?_
        obtain ⟨h14, hk⟩ := hk
        refine jci (jrunV (As := [.int p3]) (rest := []) hx hb hml hown hts hK hZ hA hP hD hS hl.1 mf_X4_awardedBehind kl_X4_136 ⟨rfl, rfl, Nat.le_of_ble_eq_true rfl, Nat.le_of_ble_eq_true rfl⟩ ⟨Nat.zero_le _, Nat.zero_le _⟩ [0, 1, 2, 3, 4, 5, 6, 7, 8, 9, 10, 11, 12, 13, 14, 15, 16, 17, 18, 19, 20, 21, 22, 23, 24, 25, 26, 27, 28, 29] rfl (js45 K a J) rfl rfl rfl (hX4_awardedBehind l D K G a J p3 h14 _) rfl rfl (Nat.le_of_ble_eq_true rfl) dX4_forceFor_87) hA hP hD hS [0, 1, 2, 3, 4, 5, 6, 7, 8, 9, 10, 11, 12, 13, 14, 15, 16, 17, 18, 19, 20, 21, 22, 23, 24, 25, 26, 27, 28, 29] (js45 K a J) (jh52 K a J ((vX4_awardedBehind J p3).2)) (fun H locs hP hD hS => ?_)
        have hP := jeP (jp53 K a J ((vX4_awardedBehind J p3).2)) hP
        have hD := jeD (jp53 K a J ((vX4_awardedBehind J p3).2)) hD
        exact hc90 ((vX4_awardedBehind J p3).2) x4 x5 ((vX4_awardedBehind J p3).1) _ _ _ hV hk hP hD hS (lv_sub hl [0, 1, 2, 3, 4, 5] rfl)
      have hc69 : ∀ (J : JS) (x4 : Int32) (x5 : Int32) (H : Heap) (locs : List Loc) (ls : Array Slot), (vX4_forceFor J0 p1 p2 p3) = vX4_forceFor_c69 p1 p2 p3 (fun J x4 x5 => vX4_forceFor_c51 p1 p2 p3 n J x4 x5) J x4 x5 → kX4_forceFor_c69 p1 p2 p3 (fun J x4 x5 => kX4_forceFor_c51 p1 p2 p3 n J x4 x5) J x4 x5 → va_P D vwCl (wJ K a J) H → va_D A (wJ K a J) → va_S A s.heap H locs → lv_has ls 6 [(0, .ref (a 0)), (1, .int p1), (2, .int p2), (3, .int p3), (4, .int x4), (5, .int x5)] → W p l e rX4_forceFor s m ([.ref (a 0), .int p1, .int p2, .int p3] : List Value).toArray below meth c H locs 0 0 Q (F0 m 69 ls []) := by
        intro J x4 x5 H locs ls hV hk hP hD hS hl
        rw [vX4_forceFor_c69] at hV
        rw [kX4_forceFor_c69] at hk
        refine lv_aload_n hx hb dX4_forceFor_69 rfl (lv_at hl 0 rfl) ?_
        refine gf_X4_19 (v := .ref (a 11)) hx hb hts hown hK hZ hP (0) rfl rfl dX4_forceFor_70 ?_
        refine gf_X4_74 (v := .ref (a 13)) hx hb hts hown hK hZ hP (11) rfl rfl dX4_forceFor_73 ?_
        refine lv_iload_n hx hb dX4_forceFor_76 rfl (lv_at hl 1 rfl) ?_
        refine lv_iload hx hb dX4_forceFor_77 (lv_at hl 4 rfl) ?_
        refine lv_iload hx hb dX4_forceFor_79 (lv_at hl 5 rfl) ?_
        refine jci0 (jrunS (As := [.int x4, .int x5]) (rest := [.int p1, .ref (a 13)]) hx hb hml hown hts hK hZ hA hP hD hS hl.1 mf_X4_blowOf kl_X4_77 ⟨rfl, rfl, Nat.le_of_ble_eq_true rfl, Nat.le_of_ble_eq_true rfl⟩ ⟨Nat.zero_le _, Nat.zero_le _⟩ [] rfl rfl (hX4_blowOf l D K G x4 x5 _) rfl rfl (Nat.le_of_ble_eq_true rfl) dX4_forceFor_81) hA hP hD hS [] rfl (fun H locs hP hS => ?_)
        obtain ⟨h15, hk⟩ := hk
        refine va_iast hx hb hK hP hD hS (13) 0 rfl rfl h15 dX4_forceFor_84 (fun H locs hP hD hS => ?_)
        have hP := jeP (ja61 K a J (upd (e_list (j_T J)) (p1).toNatClampNeg (vX4_blowOf x4 x5))) hP
        have hD := jeD (ja61 K a J (upd (e_list (j_T J)) (p1).toNatClampNeg (vX4_blowOf x4 x5))) hD
        exact hc85 (j_s_T J (e_s_list (j_T J) (upd (e_list (j_T J)) (p1).toNatClampNeg (vX4_blowOf x4 x5)))) x4 x5 _ _ _ hV hk hP hD hS (lv_sub hl [0, 1, 2, 3, 4, 5] rfl)
      intro J x4 x5 H locs ls hV hk hP hD hS hl
      rw [vX4_forceFor_c51] at hV
      rw [kX4_forceFor_c51] at hk
      refine lv_iload hx hb dX4_forceFor_51 (lv_at hl 5 rfl) ?_
      refine lv_bipush (v := (10 : Int32)) hx hb dX4_forceFor_53 (by decide) ?_
      refine lv_icmp_ge (tgt := 103) hx hb dX4_forceFor_55 (by decide) (fun c16 => ?_) (fun c16 => ?_)
      · have hV := hV.trans (if_pos c16)
        have hk := hk.1 c16
        refine lv_aload_n hx hb dX4_forceFor_103 rfl (lv_at hl 0 rfl) ?_
        refine lv_iconst (v := (3 : Int32)) hx hb dX4_forceFor_104 (by decide) ?_
        obtain ⟨h17, hk⟩ := hk
        refine jci (jrunV (As := [.int (3 : Int32)]) (rest := []) hx hb hml hown hts hK hZ hA hP hD hS hl.1 mf_X4_tell kl_X4_60 ⟨rfl, rfl, Nat.le_of_ble_eq_true rfl, Nat.le_of_ble_eq_true rfl⟩ ⟨Nat.zero_le _, Nat.zero_le _⟩ [0, 1, 2, 3, 4, 5, 6, 7, 8, 9, 10, 11, 12, 13, 14, 15, 16, 17, 18, 19, 20, 21, 22, 23, 24, 25, 26, 27, 28, 29] rfl (js45 K a J) rfl rfl rfl (hX4_tell l D K G a J (3 : Int32) h17 _) rfl rfl (Nat.le_of_ble_eq_true rfl) dX4_forceFor_105) hA hP hD hS [0, 1, 2, 3, 4, 5, 6, 7, 8, 9, 10, 11, 12, 13, 14, 15, 16, 17, 18, 19, 20, 21, 22, 23, 24, 25, 26, 27, 28, 29] (js45 K a J) (jh52 K a J ((vX4_tell J (3 : Int32)).2)) (fun H locs hP hD hS => ?_)
        have hP := jeP (jp53 K a J ((vX4_tell J (3 : Int32)).2)) hP
        have hD := jeD (jp53 K a J ((vX4_tell J (3 : Int32)).2)) hD
        exact hend _ _ _ _ _ (by rw [hV]; exact hP) (by rw [hV]; exact hD) hS (by rw [hV]) rfl dX4_forceFor_108
      · have hV := hV.trans (if_neg c16)
        have hk := hk.2 c16
        refine lv_aload_n hx hb dX4_forceFor_58 rfl (lv_at hl 0 rfl) ?_
        refine gf_X4_19 (v := .ref (a 11)) hx hb hts hown hK hZ hP (0) rfl rfl dX4_forceFor_59 ?_
        refine lv_aload_n hx hb dX4_forceFor_62 rfl (lv_at hl 0 rfl) ?_
        refine gf_X4_10 (v := .ref (a 1)) hx hb hts hown hK hZ hP (0) rfl rfl dX4_forceFor_63 ?_
        obtain ⟨h18, hk⟩ := hk
        refine jcv (jrunV (As := [.ref (a 1)]) (rest := []) hx hb hml hown hts hK hZ hA hP hD hS hl.1 mf_X0_become kl_X4_132 ⟨rfl, rfl, Nat.le_of_ble_eq_true rfl, Nat.le_of_ble_eq_true rfl⟩ ⟨Nat.zero_le _, Nat.zero_le _⟩ [11, 12, 13, 14, 15, 1, 2, 3, 4, 5] rfl (js46 K a J) rfl rfl rfl (hX0_become l D K G (fun k => a (11 + k)) (fun k => a (1 + k)) (j_T J) (j_E J) h18 _) rfl rfl (Nat.le_of_ble_eq_true rfl) dX4_forceFor_66) hA hP hD hS [11, 12, 13, 14, 15, 1, 2, 3, 4, 5] (js46 K a J) (jh47 K a J (vX0_become (j_T J) (j_E J))) (fun H locs hP hD hS => ?_)
        have hP := jeP (jp48 K a J (vX0_become (j_T J) (j_E J))) hP
        have hD := jeD (jp48 K a J (vX0_become (j_T J) (j_E J))) hD
        exact hc69 (j_s_T J (vX0_become (j_T J) (j_E J))) x4 x5 _ _ _ hV hk hP hD hS (lv_sub hl [0, 1, 2, 3, 4, 5] rfl)
  have hc28 : ∀ (J : JS) (H : Heap) (locs : List Loc) (ls : Array Slot), (vX4_forceFor J0 p1 p2 p3) = vX4_forceFor_c28 p1 p2 p3 J → kX4_forceFor_c28 p1 p2 p3 J → va_P D vwCl (wJ K a J) H → va_D A (wJ K a J) → va_S A s.heap H locs → lv_has ls 6 [(0, .ref (a 0)), (1, .int p1), (2, .int p2), (3, .int p3)] → W p l e rX4_forceFor s m ([.ref (a 0), .int p1, .int p2, .int p3] : List Value).toArray below meth c H locs 0 0 Q (F0 m 28 ls []) := by
    intro J H locs ls hV hk hP hD hS hl
    rw [vX4_forceFor_c28] at hV
    rw [kX4_forceFor_c28] at hk
    refine lv_aload_n hx hb dX4_forceFor_28 rfl (lv_at hl 0 rfl) ?_
    refine lv_iconst (v := (0 : Int32)) hx hb dX4_forceFor_29 (by decide) ?_
    obtain ⟨h19, hk⟩ := hk
    refine jci (jrunV (As := [.int (0 : Int32)]) (rest := []) hx hb hml hown hts hK hZ hA hP hD hS hl.1 mf_X4_tell kl_X4_60 ⟨rfl, rfl, Nat.le_of_ble_eq_true rfl, Nat.le_of_ble_eq_true rfl⟩ ⟨Nat.zero_le _, Nat.zero_le _⟩ [0, 1, 2, 3, 4, 5, 6, 7, 8, 9, 10, 11, 12, 13, 14, 15, 16, 17, 18, 19, 20, 21, 22, 23, 24, 25, 26, 27, 28, 29] rfl (js45 K a J) rfl rfl rfl (hX4_tell l D K G a J (0 : Int32) h19 _) rfl rfl (Nat.le_of_ble_eq_true rfl) dX4_forceFor_30) hA hP hD hS [0, 1, 2, 3, 4, 5, 6, 7, 8, 9, 10, 11, 12, 13, 14, 15, 16, 17, 18, 19, 20, 21, 22, 23, 24, 25, 26, 27, 28, 29] (js45 K a J) (jh52 K a J ((vX4_tell J (0 : Int32)).2)) (fun H locs hP hD hS => ?_)
    have hP := jeP (jp53 K a J ((vX4_tell J (0 : Int32)).2)) hP
    have hD := jeD (jp53 K a J ((vX4_tell J (0 : Int32)).2)) hD
    exact hend _ _ _ _ _ (by rw [hV]; exact hP) (by rw [hV]; exact hD) hS (by rw [hV]) rfl dX4_forceFor_33
  have hV := vX4_forceFor.eq_1 J0 p1 p2 p3
  rw [kX4_forceFor] at hk
  refine lv_iload_n hx hb dX4_forceFor_0 rfl (lv_at hl 1 rfl) ?_
  obtain ⟨h20, hk⟩ := hk
  refine jci0 (jrunS (As := [.int p1]) (rest := []) hx hb hml hown hts hK hZ hA hP hD hS hl.1 mf_X4_isPlace kl_X4_67 ⟨rfl, rfl, Nat.le_of_ble_eq_true rfl, Nat.le_of_ble_eq_true rfl⟩ ⟨Nat.zero_le _, Nat.zero_le _⟩ [] rfl rfl (hX4_isPlace l D K G p1 h20 _) rfl rfl (Nat.le_of_ble_eq_true rfl) dX4_forceFor_1) hA hP hD hS [] rfl (fun H locs hP hS => ?_)
  refine lv_if_eq (tgt := 28) hx hb dX4_forceFor_4 (by decide) (fun c21 => ?_) (fun c21 => ?_)
  · have hV := hV.trans (if_pos c21)
    have hk := hk.1 c21
    exact hc28 J0 _ _ _ hV hk hP hD hS (lv_sub hl [0, 1, 2, 3] rfl)
  · have hV := hV.trans (if_neg c21)
    have hk := hk.2 c21
    refine lv_iload_n hx hb dX4_forceFor_7 rfl (lv_at hl 2 rfl) ?_
    refine lv_iconst (v := (0 : Int32)) hx hb dX4_forceFor_8 (by decide) ?_
    refine lv_sipush (v := (9999 : Int32)) hx hb dX4_forceFor_9 (by decide) ?_
    refine jci0 (jrunS (As := [.int p2, .int (0 : Int32), .int (9999 : Int32)]) (rest := []) hx hb hml hown hts hK hZ hA hP hD hS hl.1 mf_X4_within kl_X4_50 ⟨rfl, rfl, Nat.le_of_ble_eq_true rfl, Nat.le_of_ble_eq_true rfl⟩ ⟨Nat.zero_le _, Nat.zero_le _⟩ [] rfl rfl (hX4_within l D K G p2 (0 : Int32) (9999 : Int32) _) rfl rfl (Nat.le_of_ble_eq_true rfl) dX4_forceFor_12) hA hP hD hS [] rfl (fun H locs hP hS => ?_)
    refine lv_if_eq (tgt := 28) hx hb dX4_forceFor_15 (by decide) (fun c22 => ?_) (fun c22 => ?_)
    · have hV := hV.trans (if_pos c22)
      have hk := hk.1 c22
      exact hc28 J0 _ _ _ hV hk hP hD hS (lv_sub hl [0, 1, 2, 3] rfl)
    · have hV := hV.trans (if_neg c22)
      have hk := hk.2 c22
      refine lv_iload_n hx hb dX4_forceFor_18 rfl (lv_at hl 3 rfl) ?_
      refine lv_iconst (v := (0 : Int32)) hx hb dX4_forceFor_19 (by decide) ?_
      refine lv_bipush (v := (60 : Int32)) hx hb dX4_forceFor_20 (by decide) ?_
      refine jci0 (jrunS (As := [.int p3, .int (0 : Int32), .int (60 : Int32)]) (rest := []) hx hb hml hown hts hK hZ hA hP hD hS hl.1 mf_X4_within kl_X4_50 ⟨rfl, rfl, Nat.le_of_ble_eq_true rfl, Nat.le_of_ble_eq_true rfl⟩ ⟨Nat.zero_le _, Nat.zero_le _⟩ [] rfl rfl (hX4_within l D K G p3 (0 : Int32) (60 : Int32) _) rfl rfl (Nat.le_of_ble_eq_true rfl) dX4_forceFor_22) hA hP hD hS [] rfl (fun H locs hP hS => ?_)
      refine lv_if_ne (tgt := 34) hx hb dX4_forceFor_25 (by decide) (fun c23 => ?_) (fun c23 => ?_)
      · have hV := hV.trans (if_neg c23)
        have hk := hk.2 c23
        refine lv_aload_n hx hb dX4_forceFor_34 rfl (lv_at hl 0 rfl) ?_
        refine gf_X4_10 (v := .ref (a 1)) hx hb hts hown hK hZ hP (0) rfl rfl dX4_forceFor_35 ?_
        refine gf_X4_74 (v := .ref (a 3)) hx hb hts hown hK hZ hP (1) rfl rfl dX4_forceFor_38 ?_
        refine lv_iload_n hx hb dX4_forceFor_41 rfl (lv_at hl 1 rfl) ?_
        obtain ⟨h24, hk⟩ := hk
        refine va_iald hx hb hK hP (3) 0 rfl rfl h24 dX4_forceFor_42 ?_
        refine jci0 (jrunS (As := [.int ((e_list (j_E J0)) (p1).toNatClampNeg)]) (rest := []) hx hb hml hown hts hK hZ hA hP hD hS hl.1 mf_X4_thingOfBlow kl_X4_145 ⟨rfl, rfl, Nat.le_of_ble_eq_true rfl, Nat.le_of_ble_eq_true rfl⟩ ⟨Nat.zero_le _, Nat.zero_le _⟩ [] rfl rfl (hX4_thingOfBlow l D K G ((e_list (j_E J0)) (p1).toNatClampNeg) _) rfl rfl (Nat.le_of_ble_eq_true rfl) dX4_forceFor_43) hA hP hD hS [] rfl (fun H locs hP hS => ?_)
        refine lv_istore (lv' := [(4, .int (vX4_thingOfBlow ((e_list (j_E J0)) (p1).toNatClampNeg))), (0, .ref (a 0)), (1, .int p1), (2, .int p2), (3, .int p3)]) hx hb dX4_forceFor_46 hl (by decide) rfl (fun ls hl => ?_)
        refine lv_iconst (v := (0 : Int32)) hx hb dX4_forceFor_48 (by decide) ?_
        refine lv_istore (lv' := [(5, .int (0 : Int32)), (4, .int (vX4_thingOfBlow ((e_list (j_E J0)) (p1).toNatClampNeg))), (0, .ref (a 0)), (1, .int p1), (2, .int p2), (3, .int p3)]) hx hb dX4_forceFor_49 hl (by decide) rfl (fun ls hl => ?_)
        exact hc51 1024 J0 (vX4_thingOfBlow ((e_list (j_E J0)) (p1).toNatClampNeg)) (0 : Int32) _ _ _ hV hk hP hD hS (lv_sub hl [2, 3, 4, 5, 1, 0] rfl)
      · have hV := hV.trans (if_pos c23)
        have hk := hk.1 c23
        exact hc28 J0 _ _ _ hV hk hP hD hS (lv_sub hl [0, 1, 2, 3] rfl)
theorem dX4_forgiven_0 : decode cX4_forgiven 0 = .ok (.aload_n 0, 1) := by decide +kernel
theorem dX4_forgiven_1 : decode cX4_forgiven 1 = .ok (.getfield 19, 3) := by decide +kernel
theorem dX4_forgiven_4 : decode cX4_forgiven 4 = .ok (.aload_n 0, 1) := by decide +kernel
theorem dX4_forgiven_5 : decode cX4_forgiven 5 = .ok (.getfield 10, 3) := by decide +kernel
theorem dX4_forgiven_8 : decode cX4_forgiven 8 = .ok (.invokevirtual 132, 3) := by decide +kernel
theorem dX4_forgiven_11 : decode cX4_forgiven 11 = .ok (.iconst 0, 1) := by decide +kernel
theorem dX4_forgiven_12 : decode cX4_forgiven 12 = .ok (.istore_n 1, 1) := by decide +kernel
theorem dX4_forgiven_13 : decode cX4_forgiven 13 = .ok (.iload_n 1, 1) := by decide +kernel
theorem dX4_forgiven_14 : decode cX4_forgiven 14 = .ok (.sipush 200, 3) := by decide +kernel
theorem dX4_forgiven_17 : decode cX4_forgiven 17 = .ok (.if_icmp .gt 28, 3) := by decide +kernel
theorem dX4_forgiven_20 : decode cX4_forgiven 20 = .ok (.aload_n 0, 1) := by decide +kernel
theorem dX4_forgiven_21 : decode cX4_forgiven 21 = .ok (.getfield 19, 3) := by decide +kernel
theorem dX4_forgiven_24 : decode cX4_forgiven 24 = .ok (.invokevirtual 118, 3) := by decide +kernel
theorem dX4_forgiven_27 : decode cX4_forgiven 27 = .ok (.ifCond .ne 5, 3) := by decide +kernel
theorem dX4_forgiven_30 : decode cX4_forgiven 30 = .ok (.iload_n 1, 1) := by decide +kernel
theorem dX4_forgiven_31 : decode cX4_forgiven 31 = .ok (.ireturn, 1) := by decide +kernel
theorem dX4_forgiven_32 : decode cX4_forgiven 32 = .ok (.aload_n 0, 1) := by decide +kernel
theorem dX4_forgiven_33 : decode cX4_forgiven 33 = .ok (.getfield 19, 3) := by decide +kernel
theorem dX4_forgiven_36 : decode cX4_forgiven 36 = .ok (.invokevirtual 139, 3) := by decide +kernel
theorem dX4_forgiven_39 : decode cX4_forgiven 39 = .ok (.iinc 1 1, 3) := by decide +kernel
theorem dX4_forgiven_42 : decode cX4_forgiven 42 = .ok (.goto (-29), 3) := by decide +kernel
theorem dX4_forgiven_45 : decode cX4_forgiven 45 = .ok (.aload_n 0, 1) := by decide +kernel
theorem dX4_forgiven_46 : decode cX4_forgiven 46 = .ok (.iconst 3, 1) := by decide +kernel
theorem dX4_forgiven_47 : decode cX4_forgiven 47 = .ok (.invokevirtual 60, 3) := by decide +kernel
theorem dX4_forgiven_50 : decode cX4_forgiven 50 = .ok (.ireturn, 1) := by decide +kernel
def rX4_forgiven : Room := { frames := 5, cells := 0, slots := 0, locals := 108 }
def vX4_forgiven_c39 (k : JS → Int32 → Int32 × JS) (J : JS) (x1 : Int32) : Int32 × JS := (k J (x1 + (1 : Int32)))
def kX4_forgiven_c39 (q : JS → Int32 → Prop) (J : JS) (x1 : Int32) : Prop := (q J (x1 + (1 : Int32)))
def vX4_forgiven_c13 : Nat → JS → Int32 → Int32 × JS
  | 0, J, x1 => (0, J)
  | n + 1, J, x1 => if ((200 : Int32) < x1) then (((vX4_tell J (3 : Int32)).1), ((vX4_tell J (3 : Int32)).2)) else if ((vX0_awarded (j_T J)) = 0) then (x1, J) else (vX4_forgiven_c39 (fun J x1 => vX4_forgiven_c13 n J x1) (j_s_T J (vX0_passDay (j_T J))) x1)
def kX4_forgiven_c13 : Nat → JS → Int32 → Prop
  | 0, _, _ => False
  | n + 1, J, x1 => (((200 : Int32) < x1) → ((kX4_tell J (3 : Int32)) ∧ True)) ∧ (¬ ((200 : Int32) < x1) → ((kX0_awarded (j_T J)) ∧ (((vX0_awarded (j_T J)) = 0) → True) ∧ (¬ ((vX0_awarded (j_T J)) = 0) → ((kX0_passDay (j_T J)) ∧ (kX4_forgiven_c39 (fun J x1 => kX4_forgiven_c13 n J x1) (j_s_T J (vX0_passDay (j_T J))) x1)))))
def vX4_forgiven_c11 (J : JS) : Int32 × JS := (vX4_forgiven_c13 1024 J (0 : Int32))
def kX4_forgiven_c11 (J : JS) : Prop := (kX4_forgiven_c13 1024 J (0 : Int32))
def vX4_forgiven (J0 : JS) : Int32 × JS := (vX4_forgiven_c11 (j_s_T J0 (vX0_become (j_T J0) (j_E J0))))
def kX4_forgiven (J0 : JS) : Prop := (kX0_become (j_T J0) (j_E J0)) ∧ (kX4_forgiven_c11 (j_s_T J0 (vX0_become (j_T J0) (j_E J0))))
set_option maxHeartbeats 4000000 in
set_option maxRecDepth 100000 in
theorem hX4_forgiven (l : Launch) (D : va_G) (K : JK) (G : JG) (a : Nat → Nat) (J0 : JS) (hk : kX4_forgiven J0) (sz : Nat) : Met l yX4_forgiven (.code yX4_forgiven cX4_forgiven 2 (some .int) :: jGW) rX4_forgiven (jPre D (jT K) G [.ref (a 0)] (wJ K a J0) sz) (jQi D (jT K) ((vX4_forgiven J0).1) (wJ K a ((vX4_forgiven J0).2)) (va_A (wJ K a J0) sz)) 0 0 (va_A (wJ K a J0) sz) := by
  refine jEi (by decide) (Nat.le_of_ble_eq_true rfl) (fun p e s m below meth c A Q ls hat hP hD hS hl hend => ?_)
  obtain ⟨hx, hb, hml, hown, hts, hK, hZ, hA⟩ := hat
  have hl : lv_has ls 2 [(0, .ref (a 0))] := hl
  have hc13 : ∀ (n : Nat) (J : JS) (x1 : Int32) (H : Heap) (locs : List Loc) (ls : Array Slot), (vX4_forgiven J0) = vX4_forgiven_c13 n J x1 → kX4_forgiven_c13 n J x1 → va_P D vwCl (wJ K a J) H → va_D A (wJ K a J) → va_S A s.heap H locs → lv_has ls 2 [(0, .ref (a 0)), (1, .int x1)] → W p l e rX4_forgiven s m ([.ref (a 0)] : List Value).toArray below meth c H locs 0 0 Q (F0 m 13 ls []) := by
    intro n
    induction n with
    | zero =>
      intro J x1 H locs ls hV hk hP hD hS hl
      exact False.elim hk
    | succ n ih =>
      have hc39 : ∀ (J : JS) (x1 : Int32) (H : Heap) (locs : List Loc) (ls : Array Slot), (vX4_forgiven J0) = vX4_forgiven_c39 (fun J x1 => vX4_forgiven_c13 n J x1) J x1 → kX4_forgiven_c39 (fun J x1 => kX4_forgiven_c13 n J x1) J x1 → va_P D vwCl (wJ K a J) H → va_D A (wJ K a J) → va_S A s.heap H locs → lv_has ls 2 [(0, .ref (a 0)), (1, .int x1)] → W p l e rX4_forgiven s m ([.ref (a 0)] : List Value).toArray below meth c H locs 0 0 Q (F0 m 39 ls []) := by
        intro J x1 H locs ls hV hk hP hD hS hl
        rw [vX4_forgiven_c39] at hV
        rw [kX4_forgiven_c39] at hk
        refine lv_iinc (v := (x1 + (1 : Int32))) (lv' := [(1, .int (x1 + (1 : Int32))), (0, .ref (a 0))]) hx hb dX4_forgiven_39 hl (k := 1) rfl rfl (by decide) rfl (fun ls hl => ?_)
        refine lv_goto (tgt := 13) hx hb dX4_forgiven_42 (by decide) ?_
        exact ih J (x1 + (1 : Int32)) _ _ _ hV hk hP hD hS (lv_sub hl [1, 0] rfl)
      intro J x1 H locs ls hV hk hP hD hS hl
      rw [vX4_forgiven_c13] at hV
      rw [kX4_forgiven_c13] at hk
      refine lv_iload_n hx hb dX4_forgiven_13 rfl (lv_at hl 1 rfl) ?_
      refine lv_sipush (v := (200 : Int32)) hx hb dX4_forgiven_14 (by decide) ?_
      refine lv_icmp_gt (tgt := 45) hx hb dX4_forgiven_17 (by decide) (fun c7 => ?_) (fun c7 => ?_)
      · have hV := hV.trans (if_pos c7)
        have hk := hk.1 c7
        refine lv_aload_n hx hb dX4_forgiven_45 rfl (lv_at hl 0 rfl) ?_
        refine lv_iconst (v := (3 : Int32)) hx hb dX4_forgiven_46 (by decide) ?_
        obtain ⟨h8, hk⟩ := hk
        refine jci (jrunV (As := [.int (3 : Int32)]) (rest := []) hx hb hml hown hts hK hZ hA hP hD hS hl.1 mf_X4_tell kl_X4_60 ⟨rfl, rfl, Nat.le_of_ble_eq_true rfl, Nat.le_of_ble_eq_true rfl⟩ ⟨Nat.zero_le _, Nat.zero_le _⟩ [0, 1, 2, 3, 4, 5, 6, 7, 8, 9, 10, 11, 12, 13, 14, 15, 16, 17, 18, 19, 20, 21, 22, 23, 24, 25, 26, 27, 28, 29] rfl (js45 K a J) rfl rfl rfl (hX4_tell l D K G a J (3 : Int32) h8 _) rfl rfl (Nat.le_of_ble_eq_true rfl) dX4_forgiven_47) hA hP hD hS [0, 1, 2, 3, 4, 5, 6, 7, 8, 9, 10, 11, 12, 13, 14, 15, 16, 17, 18, 19, 20, 21, 22, 23, 24, 25, 26, 27, 28, 29] (js45 K a J) (jh52 K a J ((vX4_tell J (3 : Int32)).2)) (fun H locs hP hD hS => ?_)
        have hP := jeP (jp53 K a J ((vX4_tell J (3 : Int32)).2)) hP
        have hD := jeD (jp53 K a J ((vX4_tell J (3 : Int32)).2)) hD
        exact hend _ _ _ _ _ (by rw [hV]; exact hP) (by rw [hV]; exact hD) hS (by rw [hV]) rfl dX4_forgiven_50
      · have hV := hV.trans (if_neg c7)
        have hk := hk.2 c7
        refine lv_aload_n hx hb dX4_forgiven_20 rfl (lv_at hl 0 rfl) ?_
        refine gf_X4_19 (v := .ref (a 11)) hx hb hts hown hK hZ hP (0) rfl rfl dX4_forgiven_21 ?_
        obtain ⟨h9, hk⟩ := hk
        refine jci0 (jrunV (As := []) (rest := []) hx hb hml hown hts hK hZ hA hP hD hS hl.1 mf_X0_awarded kl_X4_118 ⟨rfl, rfl, Nat.le_of_ble_eq_true rfl, Nat.le_of_ble_eq_true rfl⟩ ⟨Nat.zero_le _, Nat.zero_le _⟩ [11, 12, 13, 14, 15] rfl (js49 K a J) rfl rfl rfl (hX0_awarded l D K G (fun k => a (11 + k)) (j_T J) h9 _) rfl rfl (Nat.le_of_ble_eq_true rfl) dX4_forgiven_24) hA hP hD hS [11, 12, 13, 14, 15] (js49 K a J) (fun H locs hP hS => ?_)
        refine lv_if_ne (tgt := 32) hx hb dX4_forgiven_27 (by decide) (fun c10 => ?_) (fun c10 => ?_)
        · have hV := hV.trans (if_neg c10)
          have hk := hk.2 c10
          refine lv_aload_n hx hb dX4_forgiven_32 rfl (lv_at hl 0 rfl) ?_
          refine gf_X4_19 (v := .ref (a 11)) hx hb hts hown hK hZ hP (0) rfl rfl dX4_forgiven_33 ?_
          obtain ⟨h11, hk⟩ := hk
          refine jcv (jrunV (As := []) (rest := []) hx hb hml hown hts hK hZ hA hP hD hS hl.1 mf_X0_passDay kl_X4_139 ⟨rfl, rfl, Nat.le_of_ble_eq_true rfl, Nat.le_of_ble_eq_true rfl⟩ ⟨Nat.zero_le _, Nat.zero_le _⟩ [11, 12, 13, 14, 15] rfl (js49 K a J) rfl rfl rfl (hX0_passDay l D K G (fun k => a (11 + k)) (j_T J) h11 _) rfl rfl (Nat.le_of_ble_eq_true rfl) dX4_forgiven_36) hA hP hD hS [11, 12, 13, 14, 15] (js49 K a J) (jh50 K a J (vX0_passDay (j_T J))) (fun H locs hP hD hS => ?_)
          have hP := jeP (jp51 K a J (vX0_passDay (j_T J))) hP
          have hD := jeD (jp51 K a J (vX0_passDay (j_T J))) hD
          exact hc39 (j_s_T J (vX0_passDay (j_T J))) x1 _ _ _ hV hk hP hD hS (lv_sub hl [0, 1] rfl)
        · have hV := hV.trans (if_pos c10)
          have hk := hk.1 c10
          refine lv_iload_n hx hb dX4_forgiven_30 rfl (lv_at hl 1 rfl) ?_
          exact hend _ _ _ _ _ (by rw [hV]; exact hP) (by rw [hV]; exact hD) hS (by rw [hV]) rfl dX4_forgiven_31
  have hc11 : ∀ (J : JS) (H : Heap) (locs : List Loc) (ls : Array Slot), (vX4_forgiven J0) = vX4_forgiven_c11 J → kX4_forgiven_c11 J → va_P D vwCl (wJ K a J) H → va_D A (wJ K a J) → va_S A s.heap H locs → lv_has ls 2 [(0, .ref (a 0))] → W p l e rX4_forgiven s m ([.ref (a 0)] : List Value).toArray below meth c H locs 0 0 Q (F0 m 11 ls []) := by
    intro J H locs ls hV hk hP hD hS hl
    rw [vX4_forgiven_c11] at hV
    rw [kX4_forgiven_c11] at hk
    refine lv_iconst (v := (0 : Int32)) hx hb dX4_forgiven_11 (by decide) ?_
    refine lv_istore_n (lv' := [(1, .int (0 : Int32)), (0, .ref (a 0))]) hx hb dX4_forgiven_12 rfl hl (by decide) rfl (fun ls hl => ?_)
    exact hc13 1024 J (0 : Int32) _ _ _ hV hk hP hD hS (lv_sub hl [1, 0] rfl)
  have hV := vX4_forgiven.eq_1 J0
  rw [kX4_forgiven] at hk
  refine lv_aload_n hx hb dX4_forgiven_0 rfl (lv_at hl 0 rfl) ?_
  refine gf_X4_19 (v := .ref (a 11)) hx hb hts hown hK hZ hP (0) rfl rfl dX4_forgiven_1 ?_
  refine lv_aload_n hx hb dX4_forgiven_4 rfl (lv_at hl 0 rfl) ?_
  refine gf_X4_10 (v := .ref (a 1)) hx hb hts hown hK hZ hP (0) rfl rfl dX4_forgiven_5 ?_
  obtain ⟨h12, hk⟩ := hk
  refine jcv (jrunV (As := [.ref (a 1)]) (rest := []) hx hb hml hown hts hK hZ hA hP hD hS hl.1 mf_X0_become kl_X4_132 ⟨rfl, rfl, Nat.le_of_ble_eq_true rfl, Nat.le_of_ble_eq_true rfl⟩ ⟨Nat.zero_le _, Nat.zero_le _⟩ [11, 12, 13, 14, 15, 1, 2, 3, 4, 5] rfl (js46 K a J0) rfl rfl rfl (hX0_become l D K G (fun k => a (11 + k)) (fun k => a (1 + k)) (j_T J0) (j_E J0) h12 _) rfl rfl (Nat.le_of_ble_eq_true rfl) dX4_forgiven_8) hA hP hD hS [11, 12, 13, 14, 15, 1, 2, 3, 4, 5] (js46 K a J0) (jh47 K a J0 (vX0_become (j_T J0) (j_E J0))) (fun H locs hP hD hS => ?_)
  have hP := jeP (jp48 K a J0 (vX0_become (j_T J0) (j_E J0))) hP
  have hD := jeD (jp48 K a J0 (vX0_become (j_T J0) (j_E J0))) hD
  exact hc11 (j_s_T J0 (vX0_become (j_T J0) (j_E J0))) _ _ _ hV hk hP hD hS (lv_sub hl [0] rfl)
theorem dX4_leftWithout_0 : decode cX4_leftWithout 0 = .ok (.iconst 0, 1) := by decide +kernel
theorem dX4_leftWithout_1 : decode cX4_leftWithout 1 = .ok (.istore_n 2, 1) := by decide +kernel
theorem dX4_leftWithout_2 : decode cX4_leftWithout 2 = .ok (.iconst 0, 1) := by decide +kernel
theorem dX4_leftWithout_3 : decode cX4_leftWithout 3 = .ok (.istore_n 3, 1) := by decide +kernel
theorem dX4_leftWithout_4 : decode cX4_leftWithout 4 = .ok (.iload_n 3, 1) := by decide +kernel
theorem dX4_leftWithout_5 : decode cX4_leftWithout 5 = .ok (.aload_n 0, 1) := by decide +kernel
theorem dX4_leftWithout_6 : decode cX4_leftWithout 6 = .ok (.getfield 19, 3) := by decide +kernel
theorem dX4_leftWithout_9 : decode cX4_leftWithout 9 = .ok (.getfield 87, 3) := by decide +kernel
theorem dX4_leftWithout_12 : decode cX4_leftWithout 12 = .ok (.if_icmp .ge 26, 3) := by decide +kernel
theorem dX4_leftWithout_15 : decode cX4_leftWithout 15 = .ok (.iload_n 1, 1) := by decide +kernel
theorem dX4_leftWithout_16 : decode cX4_leftWithout 16 = .ok (.iload_n 3, 1) := by decide +kernel
theorem dX4_leftWithout_17 : decode cX4_leftWithout 17 = .ok (.ishr, 1) := by decide +kernel
theorem dX4_leftWithout_18 : decode cX4_leftWithout 18 = .ok (.iconst 1, 1) := by decide +kernel
theorem dX4_leftWithout_19 : decode cX4_leftWithout 19 = .ok (.iand, 1) := by decide +kernel
theorem dX4_leftWithout_20 : decode cX4_leftWithout 20 = .ok (.ifCond .ne 12, 3) := by decide +kernel
theorem dX4_leftWithout_23 : decode cX4_leftWithout 23 = .ok (.iload_n 2, 1) := by decide +kernel
theorem dX4_leftWithout_24 : decode cX4_leftWithout 24 = .ok (.aload_n 0, 1) := by decide +kernel
theorem dX4_leftWithout_25 : decode cX4_leftWithout 25 = .ok (.getfield 39, 3) := by decide +kernel
theorem dX4_leftWithout_28 : decode cX4_leftWithout 28 = .ok (.iload_n 3, 1) := by decide +kernel
theorem dX4_leftWithout_29 : decode cX4_leftWithout 29 = .ok (.iaload, 1) := by decide +kernel
theorem dX4_leftWithout_30 : decode cX4_leftWithout 30 = .ok (.iadd, 1) := by decide +kernel
theorem dX4_leftWithout_31 : decode cX4_leftWithout 31 = .ok (.istore_n 2, 1) := by decide +kernel
theorem dX4_leftWithout_32 : decode cX4_leftWithout 32 = .ok (.iinc 3 1, 3) := by decide +kernel
theorem dX4_leftWithout_35 : decode cX4_leftWithout 35 = .ok (.goto (-31), 3) := by decide +kernel
theorem dX4_leftWithout_38 : decode cX4_leftWithout 38 = .ok (.aload_n 0, 1) := by decide +kernel
theorem dX4_leftWithout_39 : decode cX4_leftWithout 39 = .ok (.getfield 19, 3) := by decide +kernel
theorem dX4_leftWithout_42 : decode cX4_leftWithout 42 = .ok (.getfield 64, 3) := by decide +kernel
theorem dX4_leftWithout_45 : decode cX4_leftWithout 45 = .ok (.iconst 0, 1) := by decide +kernel
theorem dX4_leftWithout_46 : decode cX4_leftWithout 46 = .ok (.iaload, 1) := by decide +kernel
theorem dX4_leftWithout_47 : decode cX4_leftWithout 47 = .ok (.aload_n 0, 1) := by decide +kernel
theorem dX4_leftWithout_48 : decode cX4_leftWithout 48 = .ok (.getfield 19, 3) := by decide +kernel
theorem dX4_leftWithout_51 : decode cX4_leftWithout 51 = .ok (.iload_n 2, 1) := by decide +kernel
theorem dX4_leftWithout_52 : decode cX4_leftWithout 52 = .ok (.invokevirtual 244, 3) := by decide +kernel
theorem dX4_leftWithout_55 : decode cX4_leftWithout 55 = .ok (.isub, 1) := by decide +kernel
theorem dX4_leftWithout_56 : decode cX4_leftWithout 56 = .ok (.ireturn, 1) := by decide +kernel
def rX4_leftWithout : Room := { frames := 2, cells := 0, slots := 0, locals := 42 }
def vX4_leftWithout_c32 (J0 : JS) (p1 : Int32) (k : Int32 → Int32 → Int32) (x2 : Int32) (x3 : Int32) : Int32 := (k x2 (x3 + (1 : Int32)))
def kX4_leftWithout_c32 (J0 : JS) (p1 : Int32) (q : Int32 → Int32 → Prop) (x2 : Int32) (x3 : Int32) : Prop := (q x2 (x3 + (1 : Int32)))
def vX4_leftWithout_c4 (J0 : JS) (p1 : Int32) : Nat → Int32 → Int32 → Int32
  | 0, x2, x3 => (0)
  | n + 1, x2, x3 => if ((e_things (j_T J0)) ≤ x3) then (((e_home (j_T J0)) ((0 : Int32)).toNatClampNeg) - (vX0_awardedOf (j_T J0) x2)) else if (((p1 >>> (x3 &&& 31)) &&& (1 : Int32)) = 0) then (vX4_leftWithout_c32 J0 p1 (fun x2 x3 => vX4_leftWithout_c4 J0 p1 n x2 x3) (x2 + ((j_awards J0) (x3).toNatClampNeg)) x3) else (vX4_leftWithout_c32 J0 p1 (fun x2 x3 => vX4_leftWithout_c4 J0 p1 n x2 x3) x2 x3)
def kX4_leftWithout_c4 (J0 : JS) (p1 : Int32) : Nat → Int32 → Int32 → Prop
  | 0, _, _ => False
  | n + 1, x2, x3 => (((e_things (j_T J0)) ≤ x3) → True) ∧ (¬ ((e_things (j_T J0)) ≤ x3) → (((((p1 >>> (x3 &&& 31)) &&& (1 : Int32)) = 0) → ((vp_in x3 8) ∧ (kX4_leftWithout_c32 J0 p1 (fun x2 x3 => kX4_leftWithout_c4 J0 p1 n x2 x3) (x2 + ((j_awards J0) (x3).toNatClampNeg)) x3))) ∧ (¬ (((p1 >>> (x3 &&& 31)) &&& (1 : Int32)) = 0) → ((kX4_leftWithout_c32 J0 p1 (fun x2 x3 => kX4_leftWithout_c4 J0 p1 n x2 x3) x2 x3)))))
def vX4_leftWithout (J0 : JS) (p1 : Int32) : Int32 := (vX4_leftWithout_c4 J0 p1 1024 (0 : Int32) (0 : Int32))
def kX4_leftWithout (J0 : JS) (p1 : Int32) : Prop := (kX4_leftWithout_c4 J0 p1 1024 (0 : Int32) (0 : Int32))
set_option maxHeartbeats 4000000 in
set_option maxRecDepth 100000 in
theorem hX4_leftWithout (l : Launch) (D : va_G) (K : JK) (G : JG) (a : Nat → Nat) (J0 : JS) (p1 : Int32) (hk : kX4_leftWithout J0 p1) (sz : Nat) : Met l yX4_leftWithout (.code yX4_leftWithout cX4_leftWithout 4 (some .int) :: jGW) rX4_leftWithout (jPre D (jT K) G [.ref (a 0), .int p1] (wJ K a J0) sz) (jQi D (jT K) (vX4_leftWithout J0 p1) (wJ K a J0) (va_A (wJ K a J0) sz)) 0 0 (va_A (wJ K a J0) sz) := by
  refine jEi (by decide) (Nat.le_of_ble_eq_true rfl) (fun p e s m below meth c A Q ls hat hP hD hS hl hend => ?_)
  obtain ⟨hx, hb, hml, hown, hts, hK, hZ, hA⟩ := hat
  have hl : lv_has ls 4 [(0, .ref (a 0)), (1, .int p1)] := hl
  have hc4 : ∀ (n : Nat) (x2 : Int32) (x3 : Int32) (H : Heap) (locs : List Loc) (ls : Array Slot), (vX4_leftWithout J0 p1) = vX4_leftWithout_c4 J0 p1 n x2 x3 → kX4_leftWithout_c4 J0 p1 n x2 x3 → va_P D vwCl (wJ K a J0) H → va_D A (wJ K a J0) → va_S A s.heap H locs → lv_has ls 4 [(0, .ref (a 0)), (1, .int p1), (2, .int x2), (3, .int x3)] → W p l e rX4_leftWithout s m ([.ref (a 0), .int p1] : List Value).toArray below meth c H locs 0 0 Q (F0 m 4 ls []) := by
    intro n
    induction n with
    | zero =>
      intro x2 x3 H locs ls hV hk hP hD hS hl
      exact False.elim hk
    | succ n ih =>
      have hc32 : ∀ (x2 : Int32) (x3 : Int32) (H : Heap) (locs : List Loc) (ls : Array Slot), (vX4_leftWithout J0 p1) = vX4_leftWithout_c32 J0 p1 (fun x2 x3 => vX4_leftWithout_c4 J0 p1 n x2 x3) x2 x3 → kX4_leftWithout_c32 J0 p1 (fun x2 x3 => kX4_leftWithout_c4 J0 p1 n x2 x3) x2 x3 → va_P D vwCl (wJ K a J0) H → va_D A (wJ K a J0) → va_S A s.heap H locs → lv_has ls 4 [(0, .ref (a 0)), (1, .int p1), (2, .int x2), (3, .int x3)] → W p l e rX4_leftWithout s m ([.ref (a 0), .int p1] : List Value).toArray below meth c H locs 0 0 Q (F0 m 32 ls []) := by
        intro x2 x3 H locs ls hV hk hP hD hS hl
        rw [vX4_leftWithout_c32] at hV
        rw [kX4_leftWithout_c32] at hk
        refine lv_iinc (v := (x3 + (1 : Int32))) (lv' := [(3, .int (x3 + (1 : Int32))), (0, .ref (a 0)), (1, .int p1), (2, .int x2)]) hx hb dX4_leftWithout_32 hl (k := 3) rfl rfl (by decide) rfl (fun ls hl => ?_)
        refine lv_goto (tgt := 4) hx hb dX4_leftWithout_35 (by decide) ?_
        exact ih x2 (x3 + (1 : Int32)) _ _ _ hV hk hP hD hS (lv_sub hl [1, 2, 3, 0] rfl)
      intro x2 x3 H locs ls hV hk hP hD hS hl
      rw [vX4_leftWithout_c4] at hV
      rw [kX4_leftWithout_c4] at hk
      refine lv_iload_n hx hb dX4_leftWithout_4 rfl (lv_at hl 3 rfl) ?_
      refine lv_aload_n hx hb dX4_leftWithout_5 rfl (lv_at hl 0 rfl) ?_
      refine gf_X4_19 (v := .ref (a 11)) hx hb hts hown hK hZ hP (0) rfl rfl dX4_leftWithout_6 ?_
      refine gf_X4_87 (v := .int (e_things (j_T J0))) hx hb hts hown hK hZ hP (11) rfl rfl dX4_leftWithout_9 ?_
      refine lv_icmp_ge (tgt := 38) hx hb dX4_leftWithout_12 (by decide) (fun c4 => ?_) (fun c4 => ?_)
      · have hV := hV.trans (if_pos c4)
        have hk := hk.1 c4
        refine lv_aload_n hx hb dX4_leftWithout_38 rfl (lv_at hl 0 rfl) ?_
        refine gf_X4_19 (v := .ref (a 11)) hx hb hts hown hK hZ hP (0) rfl rfl dX4_leftWithout_39 ?_
        refine gf_X4_64 (v := .ref (a 12)) hx hb hts hown hK hZ hP (11) rfl rfl dX4_leftWithout_42 ?_
        refine lv_iconst (v := (0 : Int32)) hx hb dX4_leftWithout_45 (by decide) ?_
        refine va_iald hx hb hK hP (12) 0 rfl rfl (by unfold vp_in; decide) dX4_leftWithout_46 ?_
        refine lv_aload_n hx hb dX4_leftWithout_47 rfl (lv_at hl 0 rfl) ?_
        refine gf_X4_19 (v := .ref (a 11)) hx hb hts hown hK hZ hP (0) rfl rfl dX4_leftWithout_48 ?_
        refine lv_iload_n hx hb dX4_leftWithout_51 rfl (lv_at hl 2 rfl) ?_
        refine jci0 (jrunV (As := [.int x2]) (rest := [.int ((e_home (j_T J0)) ((0 : Int32)).toNatClampNeg)]) hx hb hml hown hts hK hZ hA hP hD hS hl.1 mf_X0_awardedOf kl_X4_244 ⟨rfl, rfl, Nat.le_of_ble_eq_true rfl, Nat.le_of_ble_eq_true rfl⟩ ⟨Nat.zero_le _, Nat.zero_le _⟩ [11, 12, 13, 14, 15] rfl (js49 K a J0) rfl rfl rfl (hX0_awardedOf l D K G (fun k => a (11 + k)) (j_T J0) x2 _) rfl rfl (Nat.le_of_ble_eq_true rfl) dX4_leftWithout_52) hA hP hD hS [11, 12, 13, 14, 15] (js49 K a J0) (fun H locs hP hS => ?_)
        refine lv_isub hx hb dX4_leftWithout_55 ?_
        exact hend _ _ _ _ _ hP hD hS hV.symm rfl dX4_leftWithout_56
      · have hV := hV.trans (if_neg c4)
        have hk := hk.2 c4
        refine lv_iload_n hx hb dX4_leftWithout_15 rfl (lv_at hl 1 rfl) ?_
        refine lv_iload_n hx hb dX4_leftWithout_16 rfl (lv_at hl 3 rfl) ?_
        refine lv_ishr hx hb dX4_leftWithout_17 ?_
        refine lv_iconst (v := (1 : Int32)) hx hb dX4_leftWithout_18 (by decide) ?_
        refine lv_iand hx hb dX4_leftWithout_19 ?_
        refine lv_if_ne (tgt := 32) hx hb dX4_leftWithout_20 (by decide) (fun c5 => ?_) (fun c5 => ?_)
        · have hV := hV.trans (if_neg c5)
          have hk := hk.2 c5
          exact hc32 x2 x3 _ _ _ hV hk hP hD hS (lv_sub hl [0, 1, 2, 3] rfl)
        · have hV := hV.trans (if_pos c5)
          have hk := hk.1 c5
          refine lv_iload_n hx hb dX4_leftWithout_23 rfl (lv_at hl 2 rfl) ?_
          refine lv_aload_n hx hb dX4_leftWithout_24 rfl (lv_at hl 0 rfl) ?_
          refine gf_X4_39 (v := .ref (a 28)) hx hb hts hown hK hZ hP (0) rfl rfl dX4_leftWithout_25 ?_
          refine lv_iload_n hx hb dX4_leftWithout_28 rfl (lv_at hl 3 rfl) ?_
          obtain ⟨h6, hk⟩ := hk
          refine va_iald hx hb hK hP (28) 0 rfl rfl h6 dX4_leftWithout_29 ?_
          refine lv_iadd hx hb dX4_leftWithout_30 ?_
          refine lv_istore_n (lv' := [(2, .int (x2 + ((j_awards J0) (x3).toNatClampNeg))), (0, .ref (a 0)), (1, .int p1), (3, .int x3)]) hx hb dX4_leftWithout_31 rfl hl (by decide) rfl (fun ls hl => ?_)
          exact hc32 (x2 + ((j_awards J0) (x3).toNatClampNeg)) x3 _ _ _ hV hk hP hD hS (lv_sub hl [1, 2, 0, 3] rfl)
  have hV := vX4_leftWithout.eq_1 J0 p1
  rw [kX4_leftWithout] at hk
  refine lv_iconst (v := (0 : Int32)) hx hb dX4_leftWithout_0 (by decide) ?_
  refine lv_istore_n (lv' := [(2, .int (0 : Int32)), (0, .ref (a 0)), (1, .int p1)]) hx hb dX4_leftWithout_1 rfl hl (by decide) rfl (fun ls hl => ?_)
  refine lv_iconst (v := (0 : Int32)) hx hb dX4_leftWithout_2 (by decide) ?_
  refine lv_istore_n (lv' := [(3, .int (0 : Int32)), (2, .int (0 : Int32)), (0, .ref (a 0)), (1, .int p1)]) hx hb dX4_leftWithout_3 rfl hl (by decide) rfl (fun ls hl => ?_)
  exact hc4 1024 (0 : Int32) (0 : Int32) _ _ _ hV hk hP hD hS (lv_sub hl [2, 3, 1, 0] rfl)
theorem ja62 (K : JK) (a : Nat → Nat) (J : JS) (f : FA) : (wJ K a J).set 28 ((a 28), .inl (K.1, 8, .inl f)) = (wJ K a (j_s_awards J f)) := rfl
theorem dX4_giveUp_0 : decode cX4_giveUp 0 = .ok (.iload_n 1, 1) := by decide +kernel
theorem dX4_giveUp_1 : decode cX4_giveUp 1 = .ok (.iconst 0, 1) := by decide +kernel
theorem dX4_giveUp_2 : decode cX4_giveUp 2 = .ok (.sipush 9999, 3) := by decide +kernel
theorem dX4_giveUp_5 : decode cX4_giveUp 5 = .ok (.invokestatic 50, 3) := by decide +kernel
theorem dX4_giveUp_8 : decode cX4_giveUp 8 = .ok (.ifCond .eq 13, 3) := by decide +kernel
theorem dX4_giveUp_11 : decode cX4_giveUp 11 = .ok (.iload_n 2, 1) := by decide +kernel
theorem dX4_giveUp_12 : decode cX4_giveUp 12 = .ok (.iconst 0, 1) := by decide +kernel
theorem dX4_giveUp_13 : decode cX4_giveUp 13 = .ok (.bipush 20, 2) := by decide +kernel
theorem dX4_giveUp_15 : decode cX4_giveUp 15 = .ok (.invokestatic 50, 3) := by decide +kernel
theorem dX4_giveUp_18 : decode cX4_giveUp 18 = .ok (.ifCond .ne 9, 3) := by decide +kernel
theorem dX4_giveUp_21 : decode cX4_giveUp 21 = .ok (.aload_n 0, 1) := by decide +kernel
theorem dX4_giveUp_22 : decode cX4_giveUp 22 = .ok (.iconst 0, 1) := by decide +kernel
theorem dX4_giveUp_23 : decode cX4_giveUp 23 = .ok (.invokevirtual 60, 3) := by decide +kernel
theorem dX4_giveUp_26 : decode cX4_giveUp 26 = .ok (.ireturn, 1) := by decide +kernel
theorem dX4_giveUp_27 : decode cX4_giveUp 27 = .ok (.aload_n 0, 1) := by decide +kernel
theorem dX4_giveUp_28 : decode cX4_giveUp 28 = .ok (.getfield 19, 3) := by decide +kernel
theorem dX4_giveUp_31 : decode cX4_giveUp 31 = .ok (.aload_n 0, 1) := by decide +kernel
theorem dX4_giveUp_32 : decode cX4_giveUp 32 = .ok (.getfield 10, 3) := by decide +kernel
theorem dX4_giveUp_35 : decode cX4_giveUp 35 = .ok (.invokevirtual 132, 3) := by decide +kernel
theorem dX4_giveUp_38 : decode cX4_giveUp 38 = .ok (.aload_n 0, 1) := by decide +kernel
theorem dX4_giveUp_39 : decode cX4_giveUp 39 = .ok (.getfield 19, 3) := by decide +kernel
theorem dX4_giveUp_42 : decode cX4_giveUp 42 = .ok (.iload_n 2, 1) := by decide +kernel
theorem dX4_giveUp_43 : decode cX4_giveUp 43 = .ok (.invokevirtual 114, 3) := by decide +kernel
theorem dX4_giveUp_46 : decode cX4_giveUp 46 = .ok (.iconst 0, 1) := by decide +kernel
theorem dX4_giveUp_47 : decode cX4_giveUp 47 = .ok (.istore_n 3, 1) := by decide +kernel
theorem dX4_giveUp_48 : decode cX4_giveUp 48 = .ok (.iload_n 3, 1) := by decide +kernel
theorem dX4_giveUp_49 : decode cX4_giveUp 49 = .ok (.aload_n 0, 1) := by decide +kernel
theorem dX4_giveUp_50 : decode cX4_giveUp 50 = .ok (.getfield 19, 3) := by decide +kernel
theorem dX4_giveUp_53 : decode cX4_giveUp 53 = .ok (.getfield 87, 3) := by decide +kernel
theorem dX4_giveUp_56 : decode cX4_giveUp 56 = .ok (.if_icmp .ge 23, 3) := by decide +kernel
theorem dX4_giveUp_59 : decode cX4_giveUp 59 = .ok (.aload_n 0, 1) := by decide +kernel
theorem dX4_giveUp_60 : decode cX4_giveUp 60 = .ok (.getfield 39, 3) := by decide +kernel
theorem dX4_giveUp_63 : decode cX4_giveUp 63 = .ok (.iload_n 3, 1) := by decide +kernel
theorem dX4_giveUp_64 : decode cX4_giveUp 64 = .ok (.aload_n 0, 1) := by decide +kernel
theorem dX4_giveUp_65 : decode cX4_giveUp 65 = .ok (.getfield 19, 3) := by decide +kernel
theorem dX4_giveUp_68 : decode cX4_giveUp 68 = .ok (.iload_n 3, 1) := by decide +kernel
theorem dX4_giveUp_69 : decode cX4_giveUp 69 = .ok (.invokevirtual 142, 3) := by decide +kernel
theorem dX4_giveUp_72 : decode cX4_giveUp 72 = .ok (.iastore, 1) := by decide +kernel
theorem dX4_giveUp_73 : decode cX4_giveUp 73 = .ok (.iinc 3 1, 3) := by decide +kernel
theorem dX4_giveUp_76 : decode cX4_giveUp 76 = .ok (.goto (-28), 3) := by decide +kernel
theorem dX4_giveUp_79 : decode cX4_giveUp 79 = .ok (.iconst (-1), 1) := by decide +kernel
theorem dX4_giveUp_80 : decode cX4_giveUp 80 = .ok (.istore_n 3, 1) := by decide +kernel
theorem dX4_giveUp_81 : decode cX4_giveUp 81 = .ok (.iconst 0, 1) := by decide +kernel
theorem dX4_giveUp_82 : decode cX4_giveUp 82 = .ok (.istore 4, 2) := by decide +kernel
theorem dX4_giveUp_84 : decode cX4_giveUp 84 = .ok (.iload 4, 2) := by decide +kernel
theorem dX4_giveUp_86 : decode cX4_giveUp 86 = .ok (.iconst 1, 1) := by decide +kernel
theorem dX4_giveUp_87 : decode cX4_giveUp 87 = .ok (.aload_n 0, 1) := by decide +kernel
theorem dX4_giveUp_88 : decode cX4_giveUp 88 = .ok (.getfield 19, 3) := by decide +kernel
theorem dX4_giveUp_91 : decode cX4_giveUp 91 = .ok (.getfield 87, 3) := by decide +kernel
theorem dX4_giveUp_94 : decode cX4_giveUp 94 = .ok (.ishl, 1) := by decide +kernel
theorem dX4_giveUp_95 : decode cX4_giveUp 95 = .ok (.if_icmp .ge 51, 3) := by decide +kernel
theorem dX4_giveUp_98 : decode cX4_giveUp 98 = .ok (.iload_n 3, 1) := by decide +kernel
theorem dX4_giveUp_99 : decode cX4_giveUp 99 = .ok (.iconst (-1), 1) := by decide +kernel
theorem dX4_giveUp_100 : decode cX4_giveUp 100 = .ok (.if_icmp .eq 15, 3) := by decide +kernel
theorem dX4_giveUp_103 : decode cX4_giveUp 103 = .ok (.iload 4, 2) := by decide +kernel
theorem dX4_giveUp_105 : decode cX4_giveUp 105 = .ok (.invokestatic 148, 3) := by decide +kernel
theorem dX4_giveUp_108 : decode cX4_giveUp 108 = .ok (.iload_n 3, 1) := by decide +kernel
theorem dX4_giveUp_109 : decode cX4_giveUp 109 = .ok (.invokestatic 148, 3) := by decide +kernel
theorem dX4_giveUp_112 : decode cX4_giveUp 112 = .ok (.if_icmp .ge 7, 3) := by decide +kernel
theorem dX4_giveUp_115 : decode cX4_giveUp 115 = .ok (.iconst 1, 1) := by decide +kernel
theorem dX4_giveUp_116 : decode cX4_giveUp 116 = .ok (.goto 4, 3) := by decide +kernel
theorem dX4_giveUp_119 : decode cX4_giveUp 119 = .ok (.iconst 0, 1) := by decide +kernel
theorem dX4_giveUp_120 : decode cX4_giveUp 120 = .ok (.istore 5, 2) := by decide +kernel
theorem dX4_giveUp_122 : decode cX4_giveUp 122 = .ok (.iload 5, 2) := by decide +kernel
theorem dX4_giveUp_124 : decode cX4_giveUp 124 = .ok (.ifCond .eq 16, 3) := by decide +kernel
theorem dX4_giveUp_127 : decode cX4_giveUp 127 = .ok (.aload_n 0, 1) := by decide +kernel
theorem dX4_giveUp_128 : decode cX4_giveUp 128 = .ok (.iload 4, 2) := by decide +kernel
theorem dX4_giveUp_130 : decode cX4_giveUp 130 = .ok (.invokevirtual 153, 3) := by decide +kernel
theorem dX4_giveUp_133 : decode cX4_giveUp 133 = .ok (.iload_n 1, 1) := by decide +kernel
theorem dX4_giveUp_134 : decode cX4_giveUp 134 = .ok (.if_icmp .lt 6, 3) := by decide +kernel
theorem dX4_giveUp_137 : decode cX4_giveUp 137 = .ok (.iload 4, 2) := by decide +kernel
theorem dX4_giveUp_139 : decode cX4_giveUp 139 = .ok (.istore_n 3, 1) := by decide +kernel
theorem dX4_giveUp_140 : decode cX4_giveUp 140 = .ok (.iinc 4 1, 3) := by decide +kernel
theorem dX4_giveUp_143 : decode cX4_giveUp 143 = .ok (.goto (-59), 3) := by decide +kernel
theorem dX4_giveUp_146 : decode cX4_giveUp 146 = .ok (.iload_n 3, 1) := by decide +kernel
theorem dX4_giveUp_147 : decode cX4_giveUp 147 = .ok (.iconst (-1), 1) := by decide +kernel
theorem dX4_giveUp_148 : decode cX4_giveUp 148 = .ok (.if_icmp .ne 11, 3) := by decide +kernel
theorem dX4_giveUp_151 : decode cX4_giveUp 151 = .ok (.aload_n 0, 1) := by decide +kernel
theorem dX4_giveUp_152 : decode cX4_giveUp 152 = .ok (.iconst 3, 1) := by decide +kernel
theorem dX4_giveUp_153 : decode cX4_giveUp 153 = .ok (.invokevirtual 60, 3) := by decide +kernel
theorem dX4_giveUp_156 : decode cX4_giveUp 156 = .ok (.goto 4, 3) := by decide +kernel
theorem dX4_giveUp_159 : decode cX4_giveUp 159 = .ok (.iload_n 3, 1) := by decide +kernel
theorem dX4_giveUp_160 : decode cX4_giveUp 160 = .ok (.ireturn, 1) := by decide +kernel
def rX4_giveUp : Room := { frames := 4, cells := 0, slots := 0, locals := 91 }
def vX4_giveUp_c140 (p1 : Int32) (p2 : Int32) (k : JS → Int32 → Int32 → Int32 × JS) (J : JS) (x3 : Int32) (x4 : Int32) : Int32 × JS := (k J x3 (x4 + (1 : Int32)))
def kX4_giveUp_c140 (p1 : Int32) (p2 : Int32) (q : JS → Int32 → Int32 → Prop) (J : JS) (x3 : Int32) (x4 : Int32) : Prop := (q J x3 (x4 + (1 : Int32)))
def vX4_giveUp_c120 (p1 : Int32) (p2 : Int32) (k : JS → Int32 → Int32 → Int32 × JS) (J : JS) (x3 : Int32) (x4 : Int32) (y0 : Int32) : Int32 × JS := if (y0 = 0) then (vX4_giveUp_c140 p1 p2 k J x3 x4) else if ((vX4_leftWithout J x4) < p1) then (vX4_giveUp_c140 p1 p2 k J x3 x4) else (vX4_giveUp_c140 p1 p2 k J x4 x4)
def kX4_giveUp_c120 (p1 : Int32) (p2 : Int32) (q : JS → Int32 → Int32 → Prop) (J : JS) (x3 : Int32) (x4 : Int32) (y0 : Int32) : Prop := ((y0 = 0) → ((kX4_giveUp_c140 p1 p2 q J x3 x4))) ∧ (¬ (y0 = 0) → ((kX4_leftWithout J x4) ∧ (((vX4_leftWithout J x4) < p1) → ((kX4_giveUp_c140 p1 p2 q J x3 x4))) ∧ (¬ ((vX4_leftWithout J x4) < p1) → ((kX4_giveUp_c140 p1 p2 q J x4 x4)))))
def vX4_giveUp_c115 (p1 : Int32) (p2 : Int32) (k : JS → Int32 → Int32 → Int32 × JS) (J : JS) (x3 : Int32) (x4 : Int32) : Int32 × JS := (vX4_giveUp_c120 p1 p2 k J x3 x4 (1 : Int32))
def kX4_giveUp_c115 (p1 : Int32) (p2 : Int32) (q : JS → Int32 → Int32 → Prop) (J : JS) (x3 : Int32) (x4 : Int32) : Prop := (kX4_giveUp_c120 p1 p2 q J x3 x4 (1 : Int32))
def vX4_giveUp_c84 (p1 : Int32) (p2 : Int32) : Nat → JS → Int32 → Int32 → Int32 × JS
  | 0, J, x3, x4 => (0, J)
  | n + 1, J, x3, x4 => if (((1 : Int32) <<< ((e_things (j_T J)) &&& 31)) ≤ x4) then (if (x3 = (-1 : Int32)) then (((vX4_tell J (3 : Int32)).1), ((vX4_tell J (3 : Int32)).2)) else (x3, J)) else if (x3 = (-1 : Int32)) then (vX4_giveUp_c115 p1 p2 (fun J x3 x4 => vX4_giveUp_c84 p1 p2 n J x3 x4) J x3 x4) else if ((vJ6_bitCount_0f7a4 x3) ≤ (vJ6_bitCount_0f7a4 x4)) then (vX4_giveUp_c120 p1 p2 (fun J x3 x4 => vX4_giveUp_c84 p1 p2 n J x3 x4) J x3 x4 (0 : Int32)) else (vX4_giveUp_c115 p1 p2 (fun J x3 x4 => vX4_giveUp_c84 p1 p2 n J x3 x4) J x3 x4)
def kX4_giveUp_c84 (p1 : Int32) (p2 : Int32) : Nat → JS → Int32 → Int32 → Prop
  | 0, _, _, _ => False
  | n + 1, J, x3, x4 => ((((1 : Int32) <<< ((e_things (j_T J)) &&& 31)) ≤ x4) → (((x3 = (-1 : Int32)) → ((kX4_tell J (3 : Int32)) ∧ True)) ∧ (¬ (x3 = (-1 : Int32)) → True))) ∧ (¬ (((1 : Int32) <<< ((e_things (j_T J)) &&& 31)) ≤ x4) → (((x3 = (-1 : Int32)) → ((kX4_giveUp_c115 p1 p2 (fun J x3 x4 => kX4_giveUp_c84 p1 p2 n J x3 x4) J x3 x4))) ∧ (¬ (x3 = (-1 : Int32)) → ((((vJ6_bitCount_0f7a4 x3) ≤ (vJ6_bitCount_0f7a4 x4)) → ((kX4_giveUp_c120 p1 p2 (fun J x3 x4 => kX4_giveUp_c84 p1 p2 n J x3 x4) J x3 x4 (0 : Int32)))) ∧ (¬ ((vJ6_bitCount_0f7a4 x3) ≤ (vJ6_bitCount_0f7a4 x4)) → ((kX4_giveUp_c115 p1 p2 (fun J x3 x4 => kX4_giveUp_c84 p1 p2 n J x3 x4) J x3 x4)))))))
def vX4_giveUp_c73 (p1 : Int32) (p2 : Int32) (k : JS → Int32 → Int32 × JS) (J : JS) (x3 : Int32) : Int32 × JS := (k J (x3 + (1 : Int32)))
def kX4_giveUp_c73 (p1 : Int32) (p2 : Int32) (q : JS → Int32 → Prop) (J : JS) (x3 : Int32) : Prop := (q J (x3 + (1 : Int32)))
def vX4_giveUp_c48 (p1 : Int32) (p2 : Int32) : Nat → JS → Int32 → Int32 × JS
  | 0, J, x3 => (0, J)
  | n + 1, J, x3 => if ((e_things (j_T J)) ≤ x3) then (vX4_giveUp_c84 p1 p2 1024 J (-1 : Int32) (0 : Int32)) else (vX4_giveUp_c73 p1 p2 (fun J x3 => vX4_giveUp_c48 p1 p2 n J x3) (j_s_awards J (upd (j_awards J) (x3).toNatClampNeg (vX0_award (j_T J) x3))) x3)
def kX4_giveUp_c48 (p1 : Int32) (p2 : Int32) : Nat → JS → Int32 → Prop
  | 0, _, _ => False
  | n + 1, J, x3 => (((e_things (j_T J)) ≤ x3) → ((kX4_giveUp_c84 p1 p2 1024 J (-1 : Int32) (0 : Int32)))) ∧ (¬ ((e_things (j_T J)) ≤ x3) → ((kX0_award (j_T J) x3) ∧ (vp_in x3 8) ∧ (kX4_giveUp_c73 p1 p2 (fun J x3 => kX4_giveUp_c48 p1 p2 n J x3) (j_s_awards J (upd (j_awards J) (x3).toNatClampNeg (vX0_award (j_T J) x3))) x3)))
def vX4_giveUp_c46 (p1 : Int32) (p2 : Int32) (J : JS) : Int32 × JS := (vX4_giveUp_c48 p1 p2 1024 J (0 : Int32))
def kX4_giveUp_c46 (p1 : Int32) (p2 : Int32) (J : JS) : Prop := (kX4_giveUp_c48 p1 p2 1024 J (0 : Int32))
def vX4_giveUp_c38 (p1 : Int32) (p2 : Int32) (J : JS) : Int32 × JS := (vX4_giveUp_c46 p1 p2 (j_s_T J (vX0_passDays (j_T J) p2)))
def kX4_giveUp_c38 (p1 : Int32) (p2 : Int32) (J : JS) : Prop := (kX0_passDays (j_T J) p2) ∧ (kX4_giveUp_c46 p1 p2 (j_s_T J (vX0_passDays (j_T J) p2)))
def vX4_giveUp_c21 (p1 : Int32) (p2 : Int32) (J : JS) : Int32 × JS := (((vX4_tell J (0 : Int32)).1), ((vX4_tell J (0 : Int32)).2))
def kX4_giveUp_c21 (p1 : Int32) (p2 : Int32) (J : JS) : Prop := (kX4_tell J (0 : Int32)) ∧ True
def vX4_giveUp (J0 : JS) (p1 : Int32) (p2 : Int32) : Int32 × JS := if ((vX4_within p1 (0 : Int32) (9999 : Int32)) = 0) then (vX4_giveUp_c21 p1 p2 J0) else if ((vX4_within p2 (0 : Int32) (20 : Int32)) = 0) then (vX4_giveUp_c21 p1 p2 J0) else (vX4_giveUp_c38 p1 p2 (j_s_T J0 (vX0_become (j_T J0) (j_E J0))))
def kX4_giveUp (J0 : JS) (p1 : Int32) (p2 : Int32) : Prop := (((vX4_within p1 (0 : Int32) (9999 : Int32)) = 0) → ((kX4_giveUp_c21 p1 p2 J0))) ∧ (¬ ((vX4_within p1 (0 : Int32) (9999 : Int32)) = 0) → ((((vX4_within p2 (0 : Int32) (20 : Int32)) = 0) → ((kX4_giveUp_c21 p1 p2 J0))) ∧ (¬ ((vX4_within p2 (0 : Int32) (20 : Int32)) = 0) → ((kX0_become (j_T J0) (j_E J0)) ∧ (kX4_giveUp_c38 p1 p2 (j_s_T J0 (vX0_become (j_T J0) (j_E J0))))))))
set_option maxHeartbeats 4000000 in
set_option maxRecDepth 100000 in
theorem hX4_giveUp (l : Launch) (D : va_G) (K : JK) (G : JG) (a : Nat → Nat) (J0 : JS) (p1 : Int32) (p2 : Int32) (hk : kX4_giveUp J0 p1 p2) (sz : Nat) : Met l yX4_giveUp (.code yX4_giveUp cX4_giveUp 6 (some .int) :: jGW) rX4_giveUp (jPre D (jT K) G [.ref (a 0), .int p1, .int p2] (wJ K a J0) sz) (jQi D (jT K) ((vX4_giveUp J0 p1 p2).1) (wJ K a ((vX4_giveUp J0 p1 p2).2)) (va_A (wJ K a J0) sz)) 0 0 (va_A (wJ K a J0) sz) := by
  refine jEi (by decide) (Nat.le_of_ble_eq_true rfl) (fun p e s m below meth c A Q ls hat hP hD hS hl hend => ?_)
  obtain ⟨hx, hb, hml, hown, hts, hK, hZ, hA⟩ := hat
  have hl : lv_has ls 6 [(0, .ref (a 0)), (1, .int p1), (2, .int p2)] := hl
  have hc84 : ∀ (n : Nat) (J : JS) (x3 : Int32) (x4 : Int32) (H : Heap) (locs : List Loc) (ls : Array Slot), (vX4_giveUp J0 p1 p2) = vX4_giveUp_c84 p1 p2 n J x3 x4 → kX4_giveUp_c84 p1 p2 n J x3 x4 → va_P D vwCl (wJ K a J) H → va_D A (wJ K a J) → va_S A s.heap H locs → lv_has ls 6 [(0, .ref (a 0)), (1, .int p1), (2, .int p2), (3, .int x3), (4, .int x4)] → W p l e rX4_giveUp s m ([.ref (a 0), .int p1, .int p2] : List Value).toArray below meth c H locs 0 0 Q (F0 m 84 ls []) := by
    intro n
    induction n with
    | zero =>
      intro J x3 x4 H locs ls hV hk hP hD hS hl
      exact False.elim hk
    | succ n ih =>
      have hc140 : ∀ (J : JS) (x3 : Int32) (x4 : Int32) (H : Heap) (locs : List Loc) (ls : Array Slot), (vX4_giveUp J0 p1 p2) = vX4_giveUp_c140 p1 p2 (fun J x3 x4 => vX4_giveUp_c84 p1 p2 n J x3 x4) J x3 x4 → kX4_giveUp_c140 p1 p2 (fun J x3 x4 => kX4_giveUp_c84 p1 p2 n J x3 x4) J x3 x4 → va_P D vwCl (wJ K a J) H → va_D A (wJ K a J) → va_S A s.heap H locs → lv_has ls 6 [(0, .ref (a 0)), (1, .int p1), (2, .int p2), (3, .int x3), (4, .int x4)] → W p l e rX4_giveUp s m ([.ref (a 0), .int p1, .int p2] : List Value).toArray below meth c H locs 0 0 Q (F0 m 140 ls []) := by
        intro J x3 x4 H locs ls hV hk hP hD hS hl
        rw [vX4_giveUp_c140] at hV
        rw [kX4_giveUp_c140] at hk
        refine lv_iinc (v := (x4 + (1 : Int32))) (lv' := [(4, .int (x4 + (1 : Int32))), (0, .ref (a 0)), (1, .int p1), (2, .int p2), (3, .int x3)]) hx hb dX4_giveUp_140 hl (k := 4) rfl rfl (by decide) rfl (fun ls hl => ?_)
        refine lv_goto (tgt := 84) hx hb dX4_giveUp_143 (by decide) ?_
        exact ih J x3 (x4 + (1 : Int32)) _ _ _ hV hk hP hD hS (lv_sub hl [1, 2, 3, 4, 0] rfl)
      have hc120 : ∀ (J : JS) (x3 : Int32) (x4 : Int32) (y0 : Int32) (H : Heap) (locs : List Loc) (ls : Array Slot), (vX4_giveUp J0 p1 p2) = vX4_giveUp_c120 p1 p2 (fun J x3 x4 => vX4_giveUp_c84 p1 p2 n J x3 x4) J x3 x4 y0 → kX4_giveUp_c120 p1 p2 (fun J x3 x4 => kX4_giveUp_c84 p1 p2 n J x3 x4) J x3 x4 y0 → va_P D vwCl (wJ K a J) H → va_D A (wJ K a J) → va_S A s.heap H locs → lv_has ls 6 [(0, .ref (a 0)), (1, .int p1), (2, .int p2), (3, .int x3), (4, .int x4)] → W p l e rX4_giveUp s m ([.ref (a 0), .int p1, .int p2] : List Value).toArray below meth c H locs 0 0 Q (F0 m 120 ls [.int y0]) := by
        intro J x3 x4 y0 H locs ls hV hk hP hD hS hl
        rw [vX4_giveUp_c120] at hV
        rw [kX4_giveUp_c120] at hk
        refine lv_istore (lv' := [(5, .int y0), (0, .ref (a 0)), (1, .int p1), (2, .int p2), (3, .int x3), (4, .int x4)]) hx hb dX4_giveUp_120 hl (by decide) rfl (fun ls hl => ?_)
        refine lv_iload hx hb dX4_giveUp_122 (lv_at hl 0 rfl) ?_
        refine lv_if_eq (tgt := 140) hx hb dX4_giveUp_124 (by decide) (fun c17 => ?_) (fun c17 => ?_)
        · have hV := hV.trans (if_pos c17)
          have hk := hk.1 c17
          exact hc140 J x3 x4 _ _ _ hV hk hP hD hS (lv_sub hl [1, 2, 3, 4, 5] rfl)
        · have hV := hV.trans (if_neg c17)
          have hk := hk.2 c17
          refine lv_aload_n hx hb dX4_giveUp_127 rfl (lv_at hl 1 rfl) ?_
          refine lv_iload hx hb dX4_giveUp_128 (lv_at hl 5 rfl) ?_
          obtain ⟨h18, hk⟩ := hk
          refine jci0 (jrunV (As := [.int x4]) (rest := []) hx hb hml hown hts hK hZ hA hP hD hS hl.1 mf_X4_leftWithout kl_X4_153 ⟨rfl, rfl, Nat.le_of_ble_eq_true rfl, Nat.le_of_ble_eq_true rfl⟩ ⟨Nat.zero_le _, Nat.zero_le _⟩ [0, 1, 2, 3, 4, 5, 6, 7, 8, 9, 10, 11, 12, 13, 14, 15, 16, 17, 18, 19, 20, 21, 22, 23, 24, 25, 26, 27, 28, 29] rfl (js45 K a J) rfl rfl rfl (hX4_leftWithout l D K G a J x4 h18 _) rfl rfl (Nat.le_of_ble_eq_true rfl) dX4_giveUp_130) hA hP hD hS [0, 1, 2, 3, 4, 5, 6, 7, 8, 9, 10, 11, 12, 13, 14, 15, 16, 17, 18, 19, 20, 21, 22, 23, 24, 25, 26, 27, 28, 29] (js45 K a J) (fun H locs hP hS => ?_)
          refine lv_iload_n hx hb dX4_giveUp_133 rfl (lv_at hl 2 rfl) ?_
          refine lv_icmp_lt (tgt := 140) hx hb dX4_giveUp_134 (by decide) (fun c19 => ?_) (fun c19 => ?_)
          · have hV := hV.trans (if_pos c19)
            have hk := hk.1 c19
            exact hc140 J x3 x4 _ _ _ hV hk hP hD hS (lv_sub hl [1, 2, 3, 4, 5] rfl)
          · have hV := hV.trans (if_neg c19)
            have hk := hk.2 c19
            refine lv_iload hx hb dX4_giveUp_137 (lv_at hl 5 rfl) ?_
            refine lv_istore_n (lv' := [(3, .int x4), (5, .int y0), (0, .ref (a 0)), (1, .int p1), (2, .int p2), (4, .int x4)]) hx hb dX4_giveUp_139 rfl hl (by decide) rfl (fun ls hl => ?_)
            exact hc140 J x4 x4 _ _ _ hV hk hP hD hS (lv_sub hl [2, 3, 4, 0, 5] rfl)
      have hc115 : ∀ (J : JS) (x3 : Int32) (x4 : Int32) (H : Heap) (locs : List Loc) (ls : Array Slot), (vX4_giveUp J0 p1 p2) = vX4_giveUp_c115 p1 p2 (fun J x3 x4 => vX4_giveUp_c84 p1 p2 n J x3 x4) J x3 x4 → kX4_giveUp_c115 p1 p2 (fun J x3 x4 => kX4_giveUp_c84 p1 p2 n J x3 x4) J x3 x4 → va_P D vwCl (wJ K a J) H → va_D A (wJ K a J) → va_S A s.heap H locs → lv_has ls 6 [(0, .ref (a 0)), (1, .int p1), (2, .int p2), (3, .int x3), (4, .int x4)] → W p l e rX4_giveUp s m ([.ref (a 0), .int p1, .int p2] : List Value).toArray below meth c H locs 0 0 Q (F0 m 115 ls []) := by
        intro J x3 x4 H locs ls hV hk hP hD hS hl
        rw [vX4_giveUp_c115] at hV
        rw [kX4_giveUp_c115] at hk
        refine lv_iconst (v := (1 : Int32)) hx hb dX4_giveUp_115 (by decide) ?_
        refine lv_goto (tgt := 120) hx hb dX4_giveUp_116 (by decide) ?_
        exact hc120 J x3 x4 (1 : Int32) _ _ _ hV hk hP hD hS (lv_sub hl [0, 1, 2, 3, 4] rfl)
      intro J x3 x4 H locs ls hV hk hP hD hS hl
      rw [vX4_giveUp_c84] at hV
      rw [kX4_giveUp_c84] at hk
      refine lv_iload hx hb dX4_giveUp_84 (lv_at hl 4 rfl) ?_
      refine lv_iconst (v := (1 : Int32)) hx hb dX4_giveUp_86 (by decide) ?_
      refine lv_aload_n hx hb dX4_giveUp_87 rfl (lv_at hl 0 rfl) ?_
      refine gf_X4_19 (v := .ref (a 11)) hx hb hts hown hK hZ hP (0) rfl rfl dX4_giveUp_88 ?_
      refine gf_X4_87 (v := .int (e_things (j_T J))) hx hb hts hown hK hZ hP (11) rfl rfl dX4_giveUp_91 ?_
      refine lv_ishl hx hb dX4_giveUp_94 ?_
      refine lv_icmp_ge (tgt := 146) hx hb dX4_giveUp_95 (by decide) (fun c20 => ?_) (fun c20 => ?_)
      · have hV := hV.trans (if_pos c20)
        have hk := hk.1 c20
        refine lv_iload_n hx hb dX4_giveUp_146 rfl (lv_at hl 3 rfl) ?_
        refine lv_iconst (v := (-1 : Int32)) hx hb dX4_giveUp_147 (by decide) ?_
        refine lv_icmp_ne (tgt := 159) hx hb dX4_giveUp_148 (by decide) (fun c21 => ?_) (fun c21 => ?_)
        · have hV := hV.trans (if_neg c21)
          have hk := hk.2 c21
          refine lv_iload_n hx hb dX4_giveUp_159 rfl (lv_at hl 3 rfl) ?_
          exact hend _ _ _ _ _ (by rw [hV]; exact hP) (by rw [hV]; exact hD) hS (by rw [hV]) rfl dX4_giveUp_160
        · have hV := hV.trans (if_pos c21)
          have hk := hk.1 c21
          refine lv_aload_n hx hb dX4_giveUp_151 rfl (lv_at hl 0 rfl) ?_
          refine lv_iconst (v := (3 : Int32)) hx hb dX4_giveUp_152 (by decide) ?_
          obtain ⟨h22, hk⟩ := hk
          refine jci (jrunV (As := [.int (3 : Int32)]) (rest := []) hx hb hml hown hts hK hZ hA hP hD hS hl.1 mf_X4_tell kl_X4_60 ⟨rfl, rfl, Nat.le_of_ble_eq_true rfl, Nat.le_of_ble_eq_true rfl⟩ ⟨Nat.zero_le _, Nat.zero_le _⟩ [0, 1, 2, 3, 4, 5, 6, 7, 8, 9, 10, 11, 12, 13, 14, 15, 16, 17, 18, 19, 20, 21, 22, 23, 24, 25, 26, 27, 28, 29] rfl (js45 K a J) rfl rfl rfl (hX4_tell l D K G a J (3 : Int32) h22 _) rfl rfl (Nat.le_of_ble_eq_true rfl) dX4_giveUp_153) hA hP hD hS [0, 1, 2, 3, 4, 5, 6, 7, 8, 9, 10, 11, 12, 13, 14, 15, 16, 17, 18, 19, 20, 21, 22, 23, 24, 25, 26, 27, 28, 29] (js45 K a J) (jh52 K a J ((vX4_tell J (3 : Int32)).2)) (fun H locs hP hD hS => ?_)
          have hP := jeP (jp53 K a J ((vX4_tell J (3 : Int32)).2)) hP
          have hD := jeD (jp53 K a J ((vX4_tell J (3 : Int32)).2)) hD
          refine lv_goto (tgt := 160) hx hb dX4_giveUp_156 (by decide) ?_
          exact hend _ _ _ _ _ (by rw [hV]; exact hP) (by rw [hV]; exact hD) hS (by rw [hV]) rfl dX4_giveUp_160
      · have hV := hV.trans (if_neg c20)
        have hk := hk.2 c20
        refine lv_iload_n hx hb dX4_giveUp_98 rfl (lv_at hl 3 rfl) ?_
        refine lv_iconst (v := (-1 : Int32)) hx hb dX4_giveUp_99 (by decide) ?_
        refine lv_icmp_eq (tgt := 115) hx hb dX4_giveUp_100 (by decide) (fun c23 => ?_) (fun c23 => ?_)
        · have hV := hV.trans (if_pos c23)
          have hk := hk.1 c23
          exact hc115 J x3 x4 _ _ _ hV hk hP hD hS (lv_sub hl [0, 1, 2, 3, 4] rfl)
        · have hV := hV.trans (if_neg c23)
          have hk := hk.2 c23
          refine lv_iload hx hb dX4_giveUp_103 (lv_at hl 4 rfl) ?_
          refine jci0 (jrunS (As := [.int x4]) (rest := []) hx hb hml hown hts hK hZ hA hP hD hS hl.1 mf_J6_bitCount_0f7a4 kl_X4_148 ⟨rfl, rfl, Nat.le_of_ble_eq_true rfl, Nat.le_of_ble_eq_true rfl⟩ ⟨Nat.zero_le _, Nat.zero_le _⟩ [] rfl rfl (hJ6_bitCount_0f7a4 l D K G x4 _) rfl rfl (Nat.le_of_ble_eq_true rfl) dX4_giveUp_105) hA hP hD hS [] rfl (fun H locs hP hS => ?_)
          refine lv_iload_n hx hb dX4_giveUp_108 rfl (lv_at hl 3 rfl) ?_
          refine jci0 (jrunS (As := [.int x3]) (rest := [.int (vJ6_bitCount_0f7a4 x4)]) hx hb hml hown hts hK hZ hA hP hD hS hl.1 mf_J6_bitCount_0f7a4 kl_X4_148 ⟨rfl, rfl, Nat.le_of_ble_eq_true rfl, Nat.le_of_ble_eq_true rfl⟩ ⟨Nat.zero_le _, Nat.zero_le _⟩ [] rfl rfl (hJ6_bitCount_0f7a4 l D K G x3 _) rfl rfl (Nat.le_of_ble_eq_true rfl) dX4_giveUp_109) hA hP hD hS [] rfl (fun H locs hP hS => ?_)
          refine lv_icmp_ge (tgt := 119) hx hb dX4_giveUp_112 (by decide) (fun c24 => ?_) (fun c24 => ?_)
          · have hV := hV.trans (if_pos c24)
            have hk := hk.1 c24
            refine lv_iconst (v := (0 : Int32)) hx hb dX4_giveUp_119 (by decide) ?_
            exact hc120 J x3 x4 (0 : Int32) _ _ _ hV hk hP hD hS (lv_sub hl [0, 1, 2, 3, 4] rfl)
          · have hV := hV.trans (if_neg c24)
            have hk := hk.2 c24
            exact hc115 J x3 x4 _ _ _ hV hk hP hD hS (lv_sub hl [0, 1, 2, 3, 4] rfl)
  have hc48 : ∀ (n : Nat) (J : JS) (x3 : Int32) (H : Heap) (locs : List Loc) (ls : Array Slot), (vX4_giveUp J0 p1 p2) = vX4_giveUp_c48 p1 p2 n J x3 → kX4_giveUp_c48 p1 p2 n J x3 → va_P D vwCl (wJ K a J) H → va_D A (wJ K a J) → va_S A s.heap H locs → lv_has ls 6 [(0, .ref (a 0)), (1, .int p1), (2, .int p2), (3, .int x3)] → W p l e rX4_giveUp s m ([.ref (a 0), .int p1, .int p2] : List Value).toArray below meth c H locs 0 0 Q (F0 m 48 ls []) := by
    intro n
    induction n with
    | zero =>
      intro J x3 H locs ls hV hk hP hD hS hl
      exact False.elim hk
    | succ n ih =>
      have hc73 : ∀ (J : JS) (x3 : Int32) (H : Heap) (locs : List Loc) (ls : Array Slot), (vX4_giveUp J0 p1 p2) = vX4_giveUp_c73 p1 p2 (fun J x3 => vX4_giveUp_c48 p1 p2 n J x3) J x3 → kX4_giveUp_c73 p1 p2 (fun J x3 => kX4_giveUp_c48 p1 p2 n J x3) J x3 → va_P D vwCl (wJ K a J) H → va_D A (wJ K a J) → va_S A s.heap H locs → lv_has ls 6 [(0, .ref (a 0)), (1, .int p1), (2, .int p2), (3, .int x3)] → W p l e rX4_giveUp s m ([.ref (a 0), .int p1, .int p2] : List Value).toArray below meth c H locs 0 0 Q (F0 m 73 ls []) := by
        intro J x3 H locs ls hV hk hP hD hS hl
        rw [vX4_giveUp_c73] at hV
        rw [kX4_giveUp_c73] at hk
        refine lv_iinc (v := (x3 + (1 : Int32))) (lv' := [(3, .int (x3 + (1 : Int32))), (0, .ref (a 0)), (1, .int p1), (2, .int p2)]) hx hb dX4_giveUp_73 hl (k := 3) rfl rfl (by decide) rfl (fun ls hl => ?_)
        refine lv_goto (tgt := 48) hx hb dX4_giveUp_76 (by decide) ?_
        exact ih J (x3 + (1 : Int32)) _ _ _ hV hk hP hD hS (lv_sub hl [1, 2, 3, 0] rfl)
      intro J x3 H locs ls hV hk hP hD hS hl
      rw [vX4_giveUp_c48] at hV
      rw [kX4_giveUp_c48] at hk
      refine lv_iload_n hx hb dX4_giveUp_48 rfl (lv_at hl 3 rfl) ?_
      refine lv_aload_n hx hb dX4_giveUp_49 rfl (lv_at hl 0 rfl) ?_
      refine gf_X4_19 (v := .ref (a 11)) hx hb hts hown hK hZ hP (0) rfl rfl dX4_giveUp_50 ?_
      refine gf_X4_87 (v := .int (e_things (j_T J))) hx hb hts hown hK hZ hP (11) rfl rfl dX4_giveUp_53 ?_
      refine lv_icmp_ge (tgt := 79) hx hb dX4_giveUp_56 (by decide) (fun c25 => ?_) (fun c25 => ?_)
      · have hV := hV.trans (if_pos c25)
        have hk := hk.1 c25
        refine lv_iconst (v := (-1 : Int32)) hx hb dX4_giveUp_79 (by decide) ?_
        refine lv_istore_n (lv' := [(3, .int (-1 : Int32)), (0, .ref (a 0)), (1, .int p1), (2, .int p2)]) hx hb dX4_giveUp_80 rfl hl (by decide) rfl (fun ls hl => ?_)
        refine lv_iconst (v := (0 : Int32)) hx hb dX4_giveUp_81 (by decide) ?_
        refine lv_istore (lv' := [(4, .int (0 : Int32)), (3, .int (-1 : Int32)), (0, .ref (a 0)), (1, .int p1), (2, .int p2)]) hx hb dX4_giveUp_82 hl (by decide) rfl (fun ls hl => ?_)
        exact hc84 1024 J (-1 : Int32) (0 : Int32) _ _ _ hV hk hP hD hS (lv_sub hl [2, 3, 4, 1, 0] rfl)
      · have hV := hV.trans (if_neg c25)
        have hk := hk.2 c25
        refine lv_aload_n hx hb dX4_giveUp_59 rfl (lv_at hl 0 rfl) ?_
        refine gf_X4_39 (v := .ref (a 28)) hx hb hts hown hK hZ hP (0) rfl rfl dX4_giveUp_60 ?_
        refine lv_iload_n hx hb dX4_giveUp_63 rfl (lv_at hl 3 rfl) ?_
        refine lv_aload_n hx hb dX4_giveUp_64 rfl (lv_at hl 0 rfl) ?_
        refine gf_X4_19 (v := .ref (a 11)) hx hb hts hown hK hZ hP (0) rfl rfl dX4_giveUp_65 ?_
        refine lv_iload_n hx hb dX4_giveUp_68 rfl (lv_at hl 3 rfl) ?_
        obtain ⟨h26, hk⟩ := hk
        refine jci0 (jrunV (As := [.int x3]) (rest := [.int x3, .ref (a 28)]) hx hb hml hown hts hK hZ hA hP hD hS hl.1 mf_X0_award kl_X4_142 ⟨rfl, rfl, Nat.le_of_ble_eq_true rfl, Nat.le_of_ble_eq_true rfl⟩ ⟨Nat.zero_le _, Nat.zero_le _⟩ [11, 12, 13, 14, 15] rfl (js49 K a J) rfl rfl rfl (hX0_award l D K G (fun k => a (11 + k)) (j_T J) x3 h26 _) rfl rfl (Nat.le_of_ble_eq_true rfl) dX4_giveUp_69) hA hP hD hS [11, 12, 13, 14, 15] (js49 K a J) (fun H locs hP hS => ?_)
        obtain ⟨h27, hk⟩ := hk
        refine va_iast hx hb hK hP hD hS (28) 0 rfl rfl h27 dX4_giveUp_72 (fun H locs hP hD hS => ?_)
        have hP := jeP (ja62 K a J (upd (j_awards J) (x3).toNatClampNeg (vX0_award (j_T J) x3))) hP
        have hD := jeD (ja62 K a J (upd (j_awards J) (x3).toNatClampNeg (vX0_award (j_T J) x3))) hD
        exact hc73 (j_s_awards J (upd (j_awards J) (x3).toNatClampNeg (vX0_award (j_T J) x3))) x3 _ _ _ hV hk hP hD hS (lv_sub hl [0, 1, 2, 3] rfl)
  have hc46 : ∀ (J : JS) (H : Heap) (locs : List Loc) (ls : Array Slot), (vX4_giveUp J0 p1 p2) = vX4_giveUp_c46 p1 p2 J → kX4_giveUp_c46 p1 p2 J → va_P D vwCl (wJ K a J) H → va_D A (wJ K a J) → va_S A s.heap H locs → lv_has ls 6 [(0, .ref (a 0)), (1, .int p1), (2, .int p2)] → W p l e rX4_giveUp s m ([.ref (a 0), .int p1, .int p2] : List Value).toArray below meth c H locs 0 0 Q (F0 m 46 ls []) := by
    intro J H locs ls hV hk hP hD hS hl
    rw [vX4_giveUp_c46] at hV
    rw [kX4_giveUp_c46] at hk
    refine lv_iconst (v := (0 : Int32)) hx hb dX4_giveUp_46 (by decide) ?_
    refine lv_istore_n (lv' := [(3, .int (0 : Int32)), (0, .ref (a 0)), (1, .int p1), (2, .int p2)]) hx hb dX4_giveUp_47 rfl hl (by decide) rfl (fun ls hl => ?_)
    exact hc48 1024 J (0 : Int32) _ _ _ hV hk hP hD hS (lv_sub hl [1, 2, 3, 0] rfl)
  have hc38 : ∀ (J : JS) (H : Heap) (locs : List Loc) (ls : Array Slot), (vX4_giveUp J0 p1 p2) = vX4_giveUp_c38 p1 p2 J → kX4_giveUp_c38 p1 p2 J → va_P D vwCl (wJ K a J) H → va_D A (wJ K a J) → va_S A s.heap H locs → lv_has ls 6 [(0, .ref (a 0)), (1, .int p1), (2, .int p2)] → W p l e rX4_giveUp s m ([.ref (a 0), .int p1, .int p2] : List Value).toArray below meth c H locs 0 0 Q (F0 m 38 ls []) := by
    intro J H locs ls hV hk hP hD hS hl
    rw [vX4_giveUp_c38] at hV
    rw [kX4_giveUp_c38] at hk
    refine lv_aload_n hx hb dX4_giveUp_38 rfl (lv_at hl 0 rfl) ?_
    refine gf_X4_19 (v := .ref (a 11)) hx hb hts hown hK hZ hP (0) rfl rfl dX4_giveUp_39 ?_
    refine lv_iload_n hx hb dX4_giveUp_42 rfl (lv_at hl 2 rfl) ?_
    obtain ⟨h28, hk⟩ := hk
    refine jcv (jrunV (As := [.int p2]) (rest := []) hx hb hml hown hts hK hZ hA hP hD hS hl.1 mf_X0_passDays kl_X4_114 ⟨rfl, rfl, Nat.le_of_ble_eq_true rfl, Nat.le_of_ble_eq_true rfl⟩ ⟨Nat.zero_le _, Nat.zero_le _⟩ [11, 12, 13, 14, 15] rfl (js49 K a J) rfl rfl rfl (hX0_passDays l D K G (fun k => a (11 + k)) (j_T J) p2 h28 _) rfl rfl (Nat.le_of_ble_eq_true rfl) dX4_giveUp_43) hA hP hD hS [11, 12, 13, 14, 15] (js49 K a J) (jh50 K a J (vX0_passDays (j_T J) p2)) (fun H locs hP hD hS => ?_)
    have hP := jeP (jp51 K a J (vX0_passDays (j_T J) p2)) hP
    have hD := jeD (jp51 K a J (vX0_passDays (j_T J) p2)) hD
    exact hc46 (j_s_T J (vX0_passDays (j_T J) p2)) _ _ _ hV hk hP hD hS (lv_sub hl [0, 1, 2] rfl)
  have hc21 : ∀ (J : JS) (H : Heap) (locs : List Loc) (ls : Array Slot), (vX4_giveUp J0 p1 p2) = vX4_giveUp_c21 p1 p2 J → kX4_giveUp_c21 p1 p2 J → va_P D vwCl (wJ K a J) H → va_D A (wJ K a J) → va_S A s.heap H locs → lv_has ls 6 [(0, .ref (a 0)), (1, .int p1), (2, .int p2)] → W p l e rX4_giveUp s m ([.ref (a 0), .int p1, .int p2] : List Value).toArray below meth c H locs 0 0 Q (F0 m 21 ls []) := by
    intro J H locs ls hV hk hP hD hS hl
    rw [vX4_giveUp_c21] at hV
    rw [kX4_giveUp_c21] at hk
    refine lv_aload_n hx hb dX4_giveUp_21 rfl (lv_at hl 0 rfl) ?_
    refine lv_iconst (v := (0 : Int32)) hx hb dX4_giveUp_22 (by decide) ?_
    obtain ⟨h29, hk⟩ := hk
    refine jci (jrunV (As := [.int (0 : Int32)]) (rest := []) hx hb hml hown hts hK hZ hA hP hD hS hl.1 mf_X4_tell kl_X4_60 ⟨rfl, rfl, Nat.le_of_ble_eq_true rfl, Nat.le_of_ble_eq_true rfl⟩ ⟨Nat.zero_le _, Nat.zero_le _⟩ [0, 1, 2, 3, 4, 5, 6, 7, 8, 9, 10, 11, 12, 13, 14, 15, 16, 17, 18, 19, 20, 21, 22, 23, 24, 25, 26, 27, 28, 29] rfl (js45 K a J) rfl rfl rfl (hX4_tell l D K G a J (0 : Int32) h29 _) rfl rfl (Nat.le_of_ble_eq_true rfl) dX4_giveUp_23) hA hP hD hS [0, 1, 2, 3, 4, 5, 6, 7, 8, 9, 10, 11, 12, 13, 14, 15, 16, 17, 18, 19, 20, 21, 22, 23, 24, 25, 26, 27, 28, 29] (js45 K a J) (jh52 K a J ((vX4_tell J (0 : Int32)).2)) (fun H locs hP hD hS => ?_)
    have hP := jeP (jp53 K a J ((vX4_tell J (0 : Int32)).2)) hP
    have hD := jeD (jp53 K a J ((vX4_tell J (0 : Int32)).2)) hD
    exact hend _ _ _ _ _ (by rw [hV]; exact hP) (by rw [hV]; exact hD) hS (by rw [hV]) rfl dX4_giveUp_26
  have hV := vX4_giveUp.eq_1 J0 p1 p2
  rw [kX4_giveUp] at hk
  refine lv_iload_n hx hb dX4_giveUp_0 rfl (lv_at hl 1 rfl) ?_
  refine lv_iconst (v := (0 : Int32)) hx hb dX4_giveUp_1 (by decide) ?_
  refine lv_sipush (v := (9999 : Int32)) hx hb dX4_giveUp_2 (by decide) ?_
  refine jci0 (jrunS (As := [.int p1, .int (0 : Int32), .int (9999 : Int32)]) (rest := []) hx hb hml hown hts hK hZ hA hP hD hS hl.1 mf_X4_within kl_X4_50 ⟨rfl, rfl, Nat.le_of_ble_eq_true rfl, Nat.le_of_ble_eq_true rfl⟩ ⟨Nat.zero_le _, Nat.zero_le _⟩ [] rfl rfl (hX4_within l D K G p1 (0 : Int32) (9999 : Int32) _) rfl rfl (Nat.le_of_ble_eq_true rfl) dX4_giveUp_5) hA hP hD hS [] rfl (fun H locs hP hS => ?_)
  refine lv_if_eq (tgt := 21) hx hb dX4_giveUp_8 (by decide) (fun c30 => ?_) (fun c30 => ?_)
  · have hV := hV.trans (if_pos c30)
    have hk := hk.1 c30
    exact hc21 J0 _ _ _ hV hk hP hD hS (lv_sub hl [0, 1, 2] rfl)
  · have hV := hV.trans (if_neg c30)
    have hk := hk.2 c30
    refine lv_iload_n hx hb dX4_giveUp_11 rfl (lv_at hl 2 rfl) ?_
    refine lv_iconst (v := (0 : Int32)) hx hb dX4_giveUp_12 (by decide) ?_
    refine lv_bipush (v := (20 : Int32)) hx hb dX4_giveUp_13 (by decide) ?_
    refine jci0 (jrunS (As := [.int p2, .int (0 : Int32), .int (20 : Int32)]) (rest := []) hx hb hml hown hts hK hZ hA hP hD hS hl.1 mf_X4_within kl_X4_50 ⟨rfl, rfl, Nat.le_of_ble_eq_true rfl, Nat.le_of_ble_eq_true rfl⟩ ⟨Nat.zero_le _, Nat.zero_le _⟩ [] rfl rfl (hX4_within l D K G p2 (0 : Int32) (20 : Int32) _) rfl rfl (Nat.le_of_ble_eq_true rfl) dX4_giveUp_15) hA hP hD hS [] rfl (fun H locs hP hS => ?_)
    refine lv_if_ne (tgt := 27) hx hb dX4_giveUp_18 (by decide) (fun c31 => ?_) (fun c31 => ?_)
    · have hV := hV.trans (if_neg c31)
      have hk := hk.2 c31
      refine lv_aload_n hx hb dX4_giveUp_27 rfl (lv_at hl 0 rfl) ?_
      refine gf_X4_19 (v := .ref (a 11)) hx hb hts hown hK hZ hP (0) rfl rfl dX4_giveUp_28 ?_
      refine lv_aload_n hx hb dX4_giveUp_31 rfl (lv_at hl 0 rfl) ?_
      refine gf_X4_10 (v := .ref (a 1)) hx hb hts hown hK hZ hP (0) rfl rfl dX4_giveUp_32 ?_
      obtain ⟨h32, hk⟩ := hk
      refine jcv (jrunV (As := [.ref (a 1)]) (rest := []) hx hb hml hown hts hK hZ hA hP hD hS hl.1 mf_X0_become kl_X4_132 ⟨rfl, rfl, Nat.le_of_ble_eq_true rfl, Nat.le_of_ble_eq_true rfl⟩ ⟨Nat.zero_le _, Nat.zero_le _⟩ [11, 12, 13, 14, 15, 1, 2, 3, 4, 5] rfl (js46 K a J0) rfl rfl rfl (hX0_become l D K G (fun k => a (11 + k)) (fun k => a (1 + k)) (j_T J0) (j_E J0) h32 _) rfl rfl (Nat.le_of_ble_eq_true rfl) dX4_giveUp_35) hA hP hD hS [11, 12, 13, 14, 15, 1, 2, 3, 4, 5] (js46 K a J0) (jh47 K a J0 (vX0_become (j_T J0) (j_E J0))) (fun H locs hP hD hS => ?_)
      have hP := jeP (jp48 K a J0 (vX0_become (j_T J0) (j_E J0))) hP
      have hD := jeD (jp48 K a J0 (vX0_become (j_T J0) (j_E J0))) hD
      exact hc38 (j_s_T J0 (vX0_become (j_T J0) (j_E J0))) _ _ _ hV hk hP hD hS (lv_sub hl [0, 1, 2] rfl)
    · have hV := hV.trans (if_pos c31)
      have hk := hk.1 c31
      exact hc21 J0 _ _ _ hV hk hP hD hS (lv_sub hl [0, 1, 2] rfl)
theorem dX4_go_0 : decode cX4_go 0 = .ok (.iload_n 1, 1) := by decide +kernel
theorem dX4_go_1 : decode cX4_go 1 = .ok (.iconst 1, 1) := by decide +kernel
theorem dX4_go_2 : decode cX4_go 2 = .ok (.bipush 60, 2) := by decide +kernel
theorem dX4_go_4 : decode cX4_go 4 = .ok (.invokestatic 50, 3) := by decide +kernel
theorem dX4_go_7 : decode cX4_go 7 = .ok (.ifCond .ne 9, 3) := by decide +kernel
theorem dX4_go_10 : decode cX4_go 10 = .ok (.aload_n 0, 1) := by decide +kernel
theorem dX4_go_11 : decode cX4_go 11 = .ok (.iconst 0, 1) := by decide +kernel
theorem dX4_go_12 : decode cX4_go 12 = .ok (.invokevirtual 60, 3) := by decide +kernel
theorem dX4_go_15 : decode cX4_go 15 = .ok (.ireturn, 1) := by decide +kernel
theorem dX4_go_16 : decode cX4_go 16 = .ok (.aload_n 0, 1) := by decide +kernel
theorem dX4_go_17 : decode cX4_go 17 = .ok (.getfield 10, 3) := by decide +kernel
theorem dX4_go_20 : decode cX4_go 20 = .ok (.getfield 110, 3) := by decide +kernel
theorem dX4_go_23 : decode cX4_go 23 = .ok (.iload_n 1, 1) := by decide +kernel
theorem dX4_go_24 : decode cX4_go 24 = .ok (.iadd, 1) := by decide +kernel
theorem dX4_go_25 : decode cX4_go 25 = .ok (.ldc 113, 2) := by decide +kernel
theorem dX4_go_27 : decode cX4_go 27 = .ok (.if_icmp .le 9, 3) := by decide +kernel
theorem dX4_go_30 : decode cX4_go 30 = .ok (.aload_n 0, 1) := by decide +kernel
theorem dX4_go_31 : decode cX4_go 31 = .ok (.iconst 4, 1) := by decide +kernel
theorem dX4_go_32 : decode cX4_go 32 = .ok (.invokevirtual 60, 3) := by decide +kernel
theorem dX4_go_35 : decode cX4_go 35 = .ok (.ireturn, 1) := by decide +kernel
theorem dX4_go_36 : decode cX4_go 36 = .ok (.aload_n 0, 1) := by decide +kernel
theorem dX4_go_37 : decode cX4_go 37 = .ok (.getfield 10, 3) := by decide +kernel
theorem dX4_go_40 : decode cX4_go 40 = .ok (.iload_n 1, 1) := by decide +kernel
theorem dX4_go_41 : decode cX4_go 41 = .ok (.invokevirtual 114, 3) := by decide +kernel
theorem dX4_go_44 : decode cX4_go 44 = .ok (.aload_n 0, 1) := by decide +kernel
theorem dX4_go_45 : decode cX4_go 45 = .ok (.getfield 10, 3) := by decide +kernel
theorem dX4_go_48 : decode cX4_go 48 = .ok (.invokevirtual 118, 3) := by decide +kernel
theorem dX4_go_51 : decode cX4_go 51 = .ok (.ireturn, 1) := by decide +kernel
def rX4_go : Room := { frames := 5, cells := 0, slots := 0, locals := 108 }
def vX4_go_c44 (p1 : Int32) (J : JS) : Int32 × JS := ((vX0_awarded (j_E J)), J)
def kX4_go_c44 (p1 : Int32) (J : JS) : Prop := (kX0_awarded (j_E J)) ∧ True
def vX4_go (J0 : JS) (p1 : Int32) : Int32 × JS := if ((vX4_within p1 (1 : Int32) (60 : Int32)) = 0) then (((vX4_tell J0 (0 : Int32)).1), ((vX4_tell J0 (0 : Int32)).2)) else if (((e_day (j_E J0)) + p1) ≤ (99999 : Int32)) then (vX4_go_c44 p1 (j_s_E J0 (vX0_passDays (j_E J0) p1))) else (((vX4_tell J0 (4 : Int32)).1), ((vX4_tell J0 (4 : Int32)).2))
def kX4_go (J0 : JS) (p1 : Int32) : Prop := (((vX4_within p1 (1 : Int32) (60 : Int32)) = 0) → ((kX4_tell J0 (0 : Int32)) ∧ True)) ∧ (¬ ((vX4_within p1 (1 : Int32) (60 : Int32)) = 0) → (((((e_day (j_E J0)) + p1) ≤ (99999 : Int32)) → ((kX0_passDays (j_E J0) p1) ∧ (kX4_go_c44 p1 (j_s_E J0 (vX0_passDays (j_E J0) p1))))) ∧ (¬ (((e_day (j_E J0)) + p1) ≤ (99999 : Int32)) → ((kX4_tell J0 (4 : Int32)) ∧ True))))
set_option maxHeartbeats 4000000 in
set_option maxRecDepth 100000 in
theorem hX4_go (l : Launch) (D : va_G) (K : JK) (G : JG) (a : Nat → Nat) (J0 : JS) (p1 : Int32) (hk : kX4_go J0 p1) (sz : Nat) : Met l yX4_go (.code yX4_go cX4_go 2 (some .int) :: jGW) rX4_go (jPre D (jT K) G [.ref (a 0), .int p1] (wJ K a J0) sz) (jQi D (jT K) ((vX4_go J0 p1).1) (wJ K a ((vX4_go J0 p1).2)) (va_A (wJ K a J0) sz)) 0 0 (va_A (wJ K a J0) sz) := by
  refine jEi (by decide) (Nat.le_of_ble_eq_true rfl) (fun p e s m below meth c A Q ls hat hP hD hS hl hend => ?_)
  obtain ⟨hx, hb, hml, hown, hts, hK, hZ, hA⟩ := hat
  have hl : lv_has ls 2 [(0, .ref (a 0)), (1, .int p1)] := hl
  have hc44 : ∀ (J : JS) (H : Heap) (locs : List Loc) (ls : Array Slot), (vX4_go J0 p1) = vX4_go_c44 p1 J → kX4_go_c44 p1 J → va_P D vwCl (wJ K a J) H → va_D A (wJ K a J) → va_S A s.heap H locs → lv_has ls 2 [(0, .ref (a 0)), (1, .int p1)] → W p l e rX4_go s m ([.ref (a 0), .int p1] : List Value).toArray below meth c H locs 0 0 Q (F0 m 44 ls []) := by
    intro J H locs ls hV hk hP hD hS hl
    rw [vX4_go_c44] at hV
    rw [kX4_go_c44] at hk
    refine lv_aload_n hx hb dX4_go_44 rfl (lv_at hl 0 rfl) ?_
    refine gf_X4_10 (v := .ref (a 1)) hx hb hts hown hK hZ hP (0) rfl rfl dX4_go_45 ?_
    obtain ⟨h7, hk⟩ := hk
    refine jci0 (jrunV (As := []) (rest := []) hx hb hml hown hts hK hZ hA hP hD hS hl.1 mf_X0_awarded kl_X4_118 ⟨rfl, rfl, Nat.le_of_ble_eq_true rfl, Nat.le_of_ble_eq_true rfl⟩ ⟨Nat.zero_le _, Nat.zero_le _⟩ [1, 2, 3, 4, 5] rfl (js43 K a J) rfl rfl rfl (hX0_awarded l D K G (fun k => a (1 + k)) (j_E J) h7 _) rfl rfl (Nat.le_of_ble_eq_true rfl) dX4_go_48) hA hP hD hS [1, 2, 3, 4, 5] (js43 K a J) (fun H locs hP hS => ?_)
    exact hend _ _ _ _ _ (by rw [hV]; exact hP) (by rw [hV]; exact hD) hS (by rw [hV]) rfl dX4_go_51
  have hV := vX4_go.eq_1 J0 p1
  rw [kX4_go] at hk
  refine lv_iload_n hx hb dX4_go_0 rfl (lv_at hl 1 rfl) ?_
  refine lv_iconst (v := (1 : Int32)) hx hb dX4_go_1 (by decide) ?_
  refine lv_bipush (v := (60 : Int32)) hx hb dX4_go_2 (by decide) ?_
  refine jci0 (jrunS (As := [.int p1, .int (1 : Int32), .int (60 : Int32)]) (rest := []) hx hb hml hown hts hK hZ hA hP hD hS hl.1 mf_X4_within kl_X4_50 ⟨rfl, rfl, Nat.le_of_ble_eq_true rfl, Nat.le_of_ble_eq_true rfl⟩ ⟨Nat.zero_le _, Nat.zero_le _⟩ [] rfl rfl (hX4_within l D K G p1 (1 : Int32) (60 : Int32) _) rfl rfl (Nat.le_of_ble_eq_true rfl) dX4_go_4) hA hP hD hS [] rfl (fun H locs hP hS => ?_)
  refine lv_if_ne (tgt := 16) hx hb dX4_go_7 (by decide) (fun c8 => ?_) (fun c8 => ?_)
  · have hV := hV.trans (if_neg c8)
    have hk := hk.2 c8
    refine lv_aload_n hx hb dX4_go_16 rfl (lv_at hl 0 rfl) ?_
    refine gf_X4_10 (v := .ref (a 1)) hx hb hts hown hK hZ hP (0) rfl rfl dX4_go_17 ?_
    refine gf_X4_110 (v := .int (e_day (j_E J0))) hx hb hts hown hK hZ hP (1) rfl rfl dX4_go_20 ?_
    refine lv_iload_n hx hb dX4_go_23 rfl (lv_at hl 1 rfl) ?_
    refine lv_iadd hx hb dX4_go_24 ?_
    refine lv_ldc (v := (99999 : Int32)) hx hb hown (hts _ kc_X4_113) dX4_go_25 ?_
    refine lv_icmp_le (tgt := 36) hx hb dX4_go_27 (by decide) (fun c9 => ?_) (fun c9 => ?_)
    · have hV := hV.trans (if_pos c9)
      have hk := hk.1 c9
      refine lv_aload_n hx hb dX4_go_36 rfl (lv_at hl 0 rfl) ?_
      refine gf_X4_10 (v := .ref (a 1)) hx hb hts hown hK hZ hP (0) rfl rfl dX4_go_37 ?_
      refine lv_iload_n hx hb dX4_go_40 rfl (lv_at hl 1 rfl) ?_
      obtain ⟨h10, hk⟩ := hk
      refine jcv (jrunV (As := [.int p1]) (rest := []) hx hb hml hown hts hK hZ hA hP hD hS hl.1 mf_X0_passDays kl_X4_114 ⟨rfl, rfl, Nat.le_of_ble_eq_true rfl, Nat.le_of_ble_eq_true rfl⟩ ⟨Nat.zero_le _, Nat.zero_le _⟩ [1, 2, 3, 4, 5] rfl (js43 K a J0) rfl rfl rfl (hX0_passDays l D K G (fun k => a (1 + k)) (j_E J0) p1 h10 _) rfl rfl (Nat.le_of_ble_eq_true rfl) dX4_go_41) hA hP hD hS [1, 2, 3, 4, 5] (js43 K a J0) (jh55 K a J0 (vX0_passDays (j_E J0) p1)) (fun H locs hP hD hS => ?_)
      have hP := jeP (jp56 K a J0 (vX0_passDays (j_E J0) p1)) hP
      have hD := jeD (jp56 K a J0 (vX0_passDays (j_E J0) p1)) hD
      exact hc44 (j_s_E J0 (vX0_passDays (j_E J0) p1)) _ _ _ hV hk hP hD hS (lv_sub hl [0, 1] rfl)
    · have hV := hV.trans (if_neg c9)
      have hk := hk.2 c9
      refine lv_aload_n hx hb dX4_go_30 rfl (lv_at hl 0 rfl) ?_
      refine lv_iconst (v := (4 : Int32)) hx hb dX4_go_31 (by decide) ?_
      obtain ⟨h11, hk⟩ := hk
      refine jci (jrunV (As := [.int (4 : Int32)]) (rest := []) hx hb hml hown hts hK hZ hA hP hD hS hl.1 mf_X4_tell kl_X4_60 ⟨rfl, rfl, Nat.le_of_ble_eq_true rfl, Nat.le_of_ble_eq_true rfl⟩ ⟨Nat.zero_le _, Nat.zero_le _⟩ [0, 1, 2, 3, 4, 5, 6, 7, 8, 9, 10, 11, 12, 13, 14, 15, 16, 17, 18, 19, 20, 21, 22, 23, 24, 25, 26, 27, 28, 29] rfl (js45 K a J0) rfl rfl rfl (hX4_tell l D K G a J0 (4 : Int32) h11 _) rfl rfl (Nat.le_of_ble_eq_true rfl) dX4_go_32) hA hP hD hS [0, 1, 2, 3, 4, 5, 6, 7, 8, 9, 10, 11, 12, 13, 14, 15, 16, 17, 18, 19, 20, 21, 22, 23, 24, 25, 26, 27, 28, 29] (js45 K a J0) (jh52 K a J0 ((vX4_tell J0 (4 : Int32)).2)) (fun H locs hP hD hS => ?_)
      have hP := jeP (jp53 K a J0 ((vX4_tell J0 (4 : Int32)).2)) hP
      have hD := jeD (jp53 K a J0 ((vX4_tell J0 (4 : Int32)).2)) hD
      exact hend _ _ _ _ _ (by rw [hV]; exact hP) (by rw [hV]; exact hD) hS (by rw [hV]) rfl dX4_go_35
  · have hV := hV.trans (if_pos c8)
    have hk := hk.1 c8
    refine lv_aload_n hx hb dX4_go_10 rfl (lv_at hl 0 rfl) ?_
    refine lv_iconst (v := (0 : Int32)) hx hb dX4_go_11 (by decide) ?_
    obtain ⟨h12, hk⟩ := hk
    refine jci (jrunV (As := [.int (0 : Int32)]) (rest := []) hx hb hml hown hts hK hZ hA hP hD hS hl.1 mf_X4_tell kl_X4_60 ⟨rfl, rfl, Nat.le_of_ble_eq_true rfl, Nat.le_of_ble_eq_true rfl⟩ ⟨Nat.zero_le _, Nat.zero_le _⟩ [0, 1, 2, 3, 4, 5, 6, 7, 8, 9, 10, 11, 12, 13, 14, 15, 16, 17, 18, 19, 20, 21, 22, 23, 24, 25, 26, 27, 28, 29] rfl (js45 K a J0) rfl rfl rfl (hX4_tell l D K G a J0 (0 : Int32) h12 _) rfl rfl (Nat.le_of_ble_eq_true rfl) dX4_go_12) hA hP hD hS [0, 1, 2, 3, 4, 5, 6, 7, 8, 9, 10, 11, 12, 13, 14, 15, 16, 17, 18, 19, 20, 21, 22, 23, 24, 25, 26, 27, 28, 29] (js45 K a J0) (jh52 K a J0 ((vX4_tell J0 (0 : Int32)).2)) (fun H locs hP hD hS => ?_)
    have hP := jeP (jp53 K a J0 ((vX4_tell J0 (0 : Int32)).2)) hP
    have hD := jeD (jp53 K a J0 ((vX4_tell J0 (0 : Int32)).2)) hD
    exact hend _ _ _ _ _ (by rw [hV]; exact hP) (by rw [hV]; exact hD) hS (by rw [hV]) rfl dX4_go_15
theorem ja63 (K : JK) (a : Nat → Nat) (J : JS) (f : FA) : (wJ K a J).set 5 ((a 5), .inl (K.1, 10, .inl f)) = (wJ K a (j_s_E J (e_s_spots (j_E J) f))) := rfl
theorem dX4_hold_0 : decode cX4_hold 0 = .ok (.iload_n 1, 1) := by decide +kernel
theorem dX4_hold_1 : decode cX4_hold 1 = .ok (.invokestatic 193, 3) := by decide +kernel
theorem dX4_hold_4 : decode cX4_hold 4 = .ok (.ifCond .eq 16, 3) := by decide +kernel
theorem dX4_hold_7 : decode cX4_hold 7 = .ok (.iload_n 2, 1) := by decide +kernel
theorem dX4_hold_8 : decode cX4_hold 8 = .ok (.iconst (-1), 1) := by decide +kernel
theorem dX4_hold_9 : decode cX4_hold 9 = .ok (.if_icmp .eq 17, 3) := by decide +kernel
theorem dX4_hold_12 : decode cX4_hold 12 = .ok (.aload_n 0, 1) := by decide +kernel
theorem dX4_hold_13 : decode cX4_hold 13 = .ok (.iload_n 2, 1) := by decide +kernel
theorem dX4_hold_14 : decode cX4_hold 14 = .ok (.invokevirtual 94, 3) := by decide +kernel
theorem dX4_hold_17 : decode cX4_hold 17 = .ok (.ifCond .ne 9, 3) := by decide +kernel
theorem dX4_hold_20 : decode cX4_hold 20 = .ok (.aload_n 0, 1) := by decide +kernel
theorem dX4_hold_21 : decode cX4_hold 21 = .ok (.iconst 0, 1) := by decide +kernel
theorem dX4_hold_22 : decode cX4_hold 22 = .ok (.invokevirtual 60, 3) := by decide +kernel
theorem dX4_hold_25 : decode cX4_hold 25 = .ok (.ireturn, 1) := by decide +kernel
theorem dX4_hold_26 : decode cX4_hold 26 = .ok (.aload_n 0, 1) := by decide +kernel
theorem dX4_hold_27 : decode cX4_hold 27 = .ok (.getfield 10, 3) := by decide +kernel
theorem dX4_hold_30 : decode cX4_hold 30 = .ok (.getfield 196, 3) := by decide +kernel
theorem dX4_hold_33 : decode cX4_hold 33 = .ok (.iload_n 1, 1) := by decide +kernel
theorem dX4_hold_34 : decode cX4_hold 34 = .ok (.iload_n 2, 1) := by decide +kernel
theorem dX4_hold_35 : decode cX4_hold 35 = .ok (.iastore, 1) := by decide +kernel
theorem dX4_hold_36 : decode cX4_hold 36 = .ok (.iconst 1, 1) := by decide +kernel
theorem dX4_hold_37 : decode cX4_hold 37 = .ok (.ireturn, 1) := by decide +kernel
def rX4_hold : Room := { frames := 2, cells := 0, slots := 0, locals := 43 }
def vX4_hold_c26 (p1 : Int32) (p2 : Int32) (J : JS) : Int32 × JS := ((1 : Int32), (j_s_E J (e_s_spots (j_E J) (upd (e_spots (j_E J)) (p1).toNatClampNeg p2))))
def kX4_hold_c26 (p1 : Int32) (p2 : Int32) (J : JS) : Prop := (vp_in p1 10) ∧ True
def vX4_hold_c20 (p1 : Int32) (p2 : Int32) (J : JS) : Int32 × JS := (((vX4_tell J (0 : Int32)).1), ((vX4_tell J (0 : Int32)).2))
def kX4_hold_c20 (p1 : Int32) (p2 : Int32) (J : JS) : Prop := (kX4_tell J (0 : Int32)) ∧ True
def vX4_hold (J0 : JS) (p1 : Int32) (p2 : Int32) : Int32 × JS := if ((vX4_isSpot p1) = 0) then (vX4_hold_c20 p1 p2 J0) else if (p2 = (-1 : Int32)) then (vX4_hold_c26 p1 p2 J0) else if ((vX4_isThing J0 p2) = 0) then (vX4_hold_c20 p1 p2 J0) else (vX4_hold_c26 p1 p2 J0)
def kX4_hold (J0 : JS) (p1 : Int32) (p2 : Int32) : Prop := (kX4_isSpot p1) ∧ (((vX4_isSpot p1) = 0) → ((kX4_hold_c20 p1 p2 J0))) ∧ (¬ ((vX4_isSpot p1) = 0) → (((p2 = (-1 : Int32)) → ((kX4_hold_c26 p1 p2 J0))) ∧ (¬ (p2 = (-1 : Int32)) → ((kX4_isThing J0 p2) ∧ (((vX4_isThing J0 p2) = 0) → ((kX4_hold_c20 p1 p2 J0))) ∧ (¬ ((vX4_isThing J0 p2) = 0) → ((kX4_hold_c26 p1 p2 J0)))))))
set_option maxHeartbeats 4000000 in
set_option maxRecDepth 100000 in
theorem hX4_hold (l : Launch) (D : va_G) (K : JK) (G : JG) (a : Nat → Nat) (J0 : JS) (p1 : Int32) (p2 : Int32) (hk : kX4_hold J0 p1 p2) (sz : Nat) : Met l yX4_hold (.code yX4_hold cX4_hold 3 (some .int) :: jGW) rX4_hold (jPre D (jT K) G [.ref (a 0), .int p1, .int p2] (wJ K a J0) sz) (jQi D (jT K) ((vX4_hold J0 p1 p2).1) (wJ K a ((vX4_hold J0 p1 p2).2)) (va_A (wJ K a J0) sz)) 0 0 (va_A (wJ K a J0) sz) := by
  refine jEi (by decide) (Nat.le_of_ble_eq_true rfl) (fun p e s m below meth c A Q ls hat hP hD hS hl hend => ?_)
  obtain ⟨hx, hb, hml, hown, hts, hK, hZ, hA⟩ := hat
  have hl : lv_has ls 3 [(0, .ref (a 0)), (1, .int p1), (2, .int p2)] := hl
  have hc26 : ∀ (J : JS) (H : Heap) (locs : List Loc) (ls : Array Slot), (vX4_hold J0 p1 p2) = vX4_hold_c26 p1 p2 J → kX4_hold_c26 p1 p2 J → va_P D vwCl (wJ K a J) H → va_D A (wJ K a J) → va_S A s.heap H locs → lv_has ls 3 [(0, .ref (a 0)), (1, .int p1), (2, .int p2)] → W p l e rX4_hold s m ([.ref (a 0), .int p1, .int p2] : List Value).toArray below meth c H locs 0 0 Q (F0 m 26 ls []) := by
    intro J H locs ls hV hk hP hD hS hl
    rw [vX4_hold_c26] at hV
    rw [kX4_hold_c26] at hk
    refine lv_aload_n hx hb dX4_hold_26 rfl (lv_at hl 0 rfl) ?_
    refine gf_X4_10 (v := .ref (a 1)) hx hb hts hown hK hZ hP (0) rfl rfl dX4_hold_27 ?_
    refine gf_X4_196 (v := .ref (a 5)) hx hb hts hown hK hZ hP (1) rfl rfl dX4_hold_30 ?_
    refine lv_iload_n hx hb dX4_hold_33 rfl (lv_at hl 1 rfl) ?_
    refine lv_iload_n hx hb dX4_hold_34 rfl (lv_at hl 2 rfl) ?_
    obtain ⟨h8, hk⟩ := hk
    refine va_iast hx hb hK hP hD hS (5) 0 rfl rfl h8 dX4_hold_35 (fun H locs hP hD hS => ?_)
    have hP := jeP (ja63 K a J (upd (e_spots (j_E J)) (p1).toNatClampNeg p2)) hP
    have hD := jeD (ja63 K a J (upd (e_spots (j_E J)) (p1).toNatClampNeg p2)) hD
    refine lv_iconst (v := (1 : Int32)) hx hb dX4_hold_36 (by decide) ?_
    exact hend _ _ _ _ _ (by rw [hV]; exact hP) (by rw [hV]; exact hD) hS (by rw [hV]) rfl dX4_hold_37
  have hc20 : ∀ (J : JS) (H : Heap) (locs : List Loc) (ls : Array Slot), (vX4_hold J0 p1 p2) = vX4_hold_c20 p1 p2 J → kX4_hold_c20 p1 p2 J → va_P D vwCl (wJ K a J) H → va_D A (wJ K a J) → va_S A s.heap H locs → lv_has ls 3 [(0, .ref (a 0)), (1, .int p1), (2, .int p2)] → W p l e rX4_hold s m ([.ref (a 0), .int p1, .int p2] : List Value).toArray below meth c H locs 0 0 Q (F0 m 20 ls []) := by
    intro J H locs ls hV hk hP hD hS hl
    rw [vX4_hold_c20] at hV
    rw [kX4_hold_c20] at hk
    refine lv_aload_n hx hb dX4_hold_20 rfl (lv_at hl 0 rfl) ?_
    refine lv_iconst (v := (0 : Int32)) hx hb dX4_hold_21 (by decide) ?_
    obtain ⟨h9, hk⟩ := hk
    refine jci (jrunV (As := [.int (0 : Int32)]) (rest := []) hx hb hml hown hts hK hZ hA hP hD hS hl.1 mf_X4_tell kl_X4_60 ⟨rfl, rfl, Nat.le_of_ble_eq_true rfl, Nat.le_of_ble_eq_true rfl⟩ ⟨Nat.zero_le _, Nat.zero_le _⟩ [0, 1, 2, 3, 4, 5, 6, 7, 8, 9, 10, 11, 12, 13, 14, 15, 16, 17, 18, 19, 20, 21, 22, 23, 24, 25, 26, 27, 28, 29] rfl (js45 K a J) rfl rfl rfl (hX4_tell l D K G a J (0 : Int32) h9 _) rfl rfl (Nat.le_of_ble_eq_true rfl) dX4_hold_22) hA hP hD hS [0, 1, 2, 3, 4, 5, 6, 7, 8, 9, 10, 11, 12, 13, 14, 15, 16, 17, 18, 19, 20, 21, 22, 23, 24, 25, 26, 27, 28, 29] (js45 K a J) (jh52 K a J ((vX4_tell J (0 : Int32)).2)) (fun H locs hP hD hS => ?_)
    have hP := jeP (jp53 K a J ((vX4_tell J (0 : Int32)).2)) hP
    have hD := jeD (jp53 K a J ((vX4_tell J (0 : Int32)).2)) hD
    exact hend _ _ _ _ _ (by rw [hV]; exact hP) (by rw [hV]; exact hD) hS (by rw [hV]) rfl dX4_hold_25
  have hV := vX4_hold.eq_1 J0 p1 p2
  rw [kX4_hold] at hk
  refine lv_iload_n hx hb dX4_hold_0 rfl (lv_at hl 1 rfl) ?_
  obtain ⟨h10, hk⟩ := hk
  refine jci0 (jrunS (As := [.int p1]) (rest := []) hx hb hml hown hts hK hZ hA hP hD hS hl.1 mf_X4_isSpot kl_X4_193 ⟨rfl, rfl, Nat.le_of_ble_eq_true rfl, Nat.le_of_ble_eq_true rfl⟩ ⟨Nat.zero_le _, Nat.zero_le _⟩ [] rfl rfl (hX4_isSpot l D K G p1 h10 _) rfl rfl (Nat.le_of_ble_eq_true rfl) dX4_hold_1) hA hP hD hS [] rfl (fun H locs hP hS => ?_)
  refine lv_if_eq (tgt := 20) hx hb dX4_hold_4 (by decide) (fun c11 => ?_) (fun c11 => ?_)
  · have hV := hV.trans (if_pos c11)
    have hk := hk.1 c11
    exact hc20 J0 _ _ _ hV hk hP hD hS (lv_sub hl [0, 1, 2] rfl)
  · have hV := hV.trans (if_neg c11)
    have hk := hk.2 c11
    refine lv_iload_n hx hb dX4_hold_7 rfl (lv_at hl 2 rfl) ?_
    refine lv_iconst (v := (-1 : Int32)) hx hb dX4_hold_8 (by decide) ?_
    refine lv_icmp_eq (tgt := 26) hx hb dX4_hold_9 (by decide) (fun c12 => ?_) (fun c12 => ?_)
    · have hV := hV.trans (if_pos c12)
      have hk := hk.1 c12
      exact hc26 J0 _ _ _ hV hk hP hD hS (lv_sub hl [0, 1, 2] rfl)
    · have hV := hV.trans (if_neg c12)
      have hk := hk.2 c12
      refine lv_aload_n hx hb dX4_hold_12 rfl (lv_at hl 0 rfl) ?_
      refine lv_iload_n hx hb dX4_hold_13 rfl (lv_at hl 2 rfl) ?_
      obtain ⟨h13, hk⟩ := hk
      refine jci0 (jrunV (As := [.int p2]) (rest := []) hx hb hml hown hts hK hZ hA hP hD hS hl.1 mf_X4_isThing kl_X4_94 ⟨rfl, rfl, Nat.le_of_ble_eq_true rfl, Nat.le_of_ble_eq_true rfl⟩ ⟨Nat.zero_le _, Nat.zero_le _⟩ [0, 1, 2, 3, 4, 5, 6, 7, 8, 9, 10, 11, 12, 13, 14, 15, 16, 17, 18, 19, 20, 21, 22, 23, 24, 25, 26, 27, 28, 29] rfl (js45 K a J0) rfl rfl rfl (hX4_isThing l D K G a J0 p2 h13 _) rfl rfl (Nat.le_of_ble_eq_true rfl) dX4_hold_14) hA hP hD hS [0, 1, 2, 3, 4, 5, 6, 7, 8, 9, 10, 11, 12, 13, 14, 15, 16, 17, 18, 19, 20, 21, 22, 23, 24, 25, 26, 27, 28, 29] (js45 K a J0) (fun H locs hP hS => ?_)
      refine lv_if_ne (tgt := 26) hx hb dX4_hold_17 (by decide) (fun c14 => ?_) (fun c14 => ?_)
      · have hV := hV.trans (if_neg c14)
        have hk := hk.2 c14
        exact hc26 J0 _ _ _ hV hk hP hD hS (lv_sub hl [0, 1, 2] rfl)
      · have hV := hV.trans (if_pos c14)
        have hk := hk.1 c14
        exact hc20 J0 _ _ _ hV hk hP hD hS (lv_sub hl [0, 1, 2] rfl)
theorem dX4_home_0 : decode cX4_home 0 = .ok (.iload_n 1, 1) := by decide +kernel
theorem dX4_home_1 : decode cX4_home 1 = .ok (.iconst 0, 1) := by decide +kernel
theorem dX4_home_2 : decode cX4_home 2 = .ok (.bipush 6, 2) := by decide +kernel
theorem dX4_home_4 : decode cX4_home 4 = .ok (.invokestatic 50, 3) := by decide +kernel
theorem dX4_home_7 : decode cX4_home 7 = .ok (.ifCond .eq 15, 3) := by decide +kernel
theorem dX4_home_10 : decode cX4_home 10 = .ok (.aload_n 0, 1) := by decide +kernel
theorem dX4_home_11 : decode cX4_home 11 = .ok (.getfield 10, 3) := by decide +kernel
theorem dX4_home_14 : decode cX4_home 14 = .ok (.getfield 64, 3) := by decide +kernel
theorem dX4_home_17 : decode cX4_home 17 = .ok (.iload_n 1, 1) := by decide +kernel
theorem dX4_home_18 : decode cX4_home 18 = .ok (.iaload, 1) := by decide +kernel
theorem dX4_home_19 : decode cX4_home 19 = .ok (.goto 8, 3) := by decide +kernel
theorem dX4_home_22 : decode cX4_home 22 = .ok (.aload_n 0, 1) := by decide +kernel
theorem dX4_home_23 : decode cX4_home 23 = .ok (.iconst 0, 1) := by decide +kernel
theorem dX4_home_24 : decode cX4_home 24 = .ok (.invokevirtual 60, 3) := by decide +kernel
theorem dX4_home_27 : decode cX4_home 27 = .ok (.ireturn, 1) := by decide +kernel
def rX4_home : Room := { frames := 2, cells := 0, slots := 0, locals := 43 }
def vX4_home (J0 : JS) (p1 : Int32) : Int32 × JS := if ((vX4_within p1 (0 : Int32) (6 : Int32)) = 0) then (((vX4_tell J0 (0 : Int32)).1), ((vX4_tell J0 (0 : Int32)).2)) else (((e_home (j_E J0)) (p1).toNatClampNeg), J0)
def kX4_home (J0 : JS) (p1 : Int32) : Prop := (((vX4_within p1 (0 : Int32) (6 : Int32)) = 0) → ((kX4_tell J0 (0 : Int32)) ∧ True)) ∧ (¬ ((vX4_within p1 (0 : Int32) (6 : Int32)) = 0) → ((vp_in p1 7) ∧ True))
set_option maxHeartbeats 4000000 in
set_option maxRecDepth 100000 in
theorem hX4_home (l : Launch) (D : va_G) (K : JK) (G : JG) (a : Nat → Nat) (J0 : JS) (p1 : Int32) (hk : kX4_home J0 p1) (sz : Nat) : Met l yX4_home (.code yX4_home cX4_home 2 (some .int) :: jGW) rX4_home (jPre D (jT K) G [.ref (a 0), .int p1] (wJ K a J0) sz) (jQi D (jT K) ((vX4_home J0 p1).1) (wJ K a ((vX4_home J0 p1).2)) (va_A (wJ K a J0) sz)) 0 0 (va_A (wJ K a J0) sz) := by
  refine jEi (by decide) (Nat.le_of_ble_eq_true rfl) (fun p e s m below meth c A Q ls hat hP hD hS hl hend => ?_)
  obtain ⟨hx, hb, hml, hown, hts, hK, hZ, hA⟩ := hat
  have hl : lv_has ls 2 [(0, .ref (a 0)), (1, .int p1)] := hl
  have hV := vX4_home.eq_1 J0 p1
  rw [kX4_home] at hk
  refine lv_iload_n hx hb dX4_home_0 rfl (lv_at hl 1 rfl) ?_
  refine lv_iconst (v := (0 : Int32)) hx hb dX4_home_1 (by decide) ?_
  refine lv_bipush (v := (6 : Int32)) hx hb dX4_home_2 (by decide) ?_
  refine jci0 (jrunS (As := [.int p1, .int (0 : Int32), .int (6 : Int32)]) (rest := []) hx hb hml hown hts hK hZ hA hP hD hS hl.1 mf_X4_within kl_X4_50 ⟨rfl, rfl, Nat.le_of_ble_eq_true rfl, Nat.le_of_ble_eq_true rfl⟩ ⟨Nat.zero_le _, Nat.zero_le _⟩ [] rfl rfl (hX4_within l D K G p1 (0 : Int32) (6 : Int32) _) rfl rfl (Nat.le_of_ble_eq_true rfl) dX4_home_4) hA hP hD hS [] rfl (fun H locs hP hS => ?_)
  refine lv_if_eq (tgt := 22) hx hb dX4_home_7 (by decide) (fun c4 => ?_) (fun c4 => ?_)
  · have hV := hV.trans (if_pos c4)
    have hk := hk.1 c4
    refine lv_aload_n hx hb dX4_home_22 rfl (lv_at hl 0 rfl) ?_
    refine lv_iconst (v := (0 : Int32)) hx hb dX4_home_23 (by decide) ?_
    obtain ⟨h5, hk⟩ := hk
    refine jci (jrunV (As := [.int (0 : Int32)]) (rest := []) hx hb hml hown hts hK hZ hA hP hD hS hl.1 mf_X4_tell kl_X4_60 ⟨rfl, rfl, Nat.le_of_ble_eq_true rfl, Nat.le_of_ble_eq_true rfl⟩ ⟨Nat.zero_le _, Nat.zero_le _⟩ [0, 1, 2, 3, 4, 5, 6, 7, 8, 9, 10, 11, 12, 13, 14, 15, 16, 17, 18, 19, 20, 21, 22, 23, 24, 25, 26, 27, 28, 29] rfl (js45 K a J0) rfl rfl rfl (hX4_tell l D K G a J0 (0 : Int32) h5 _) rfl rfl (Nat.le_of_ble_eq_true rfl) dX4_home_24) hA hP hD hS [0, 1, 2, 3, 4, 5, 6, 7, 8, 9, 10, 11, 12, 13, 14, 15, 16, 17, 18, 19, 20, 21, 22, 23, 24, 25, 26, 27, 28, 29] (js45 K a J0) (jh52 K a J0 ((vX4_tell J0 (0 : Int32)).2)) (fun H locs hP hD hS => ?_)
    have hP := jeP (jp53 K a J0 ((vX4_tell J0 (0 : Int32)).2)) hP
    have hD := jeD (jp53 K a J0 ((vX4_tell J0 (0 : Int32)).2)) hD
    exact hend _ _ _ _ _ (by rw [hV]; exact hP) (by rw [hV]; exact hD) hS (by rw [hV]) rfl dX4_home_27
  · have hV := hV.trans (if_neg c4)
    have hk := hk.2 c4
    refine lv_aload_n hx hb dX4_home_10 rfl (lv_at hl 0 rfl) ?_
    refine gf_X4_10 (v := .ref (a 1)) hx hb hts hown hK hZ hP (0) rfl rfl dX4_home_11 ?_
    refine gf_X4_64 (v := .ref (a 2)) hx hb hts hown hK hZ hP (1) rfl rfl dX4_home_14 ?_
    refine lv_iload_n hx hb dX4_home_17 rfl (lv_at hl 1 rfl) ?_
    obtain ⟨h6, hk⟩ := hk
    refine va_iald hx hb hK hP (2) 0 rfl rfl h6 dX4_home_18 ?_
    refine lv_goto (tgt := 27) hx hb dX4_home_19 (by decide) ?_
    exact hend _ _ _ _ _ (by rw [hV]; exact hP) (by rw [hV]; exact hD) hS (by rw [hV]) rfl dX4_home_27
theorem dX4_hurts_0 : decode cX4_hurts 0 = .ok (.aload_n 0, 1) := by decide +kernel
theorem dX4_hurts_1 : decode cX4_hurts 1 = .ok (.iload_n 1, 1) := by decide +kernel
theorem dX4_hurts_2 : decode cX4_hurts 2 = .ok (.invokevirtual 94, 3) := by decide +kernel
theorem dX4_hurts_5 : decode cX4_hurts 5 = .ok (.ifCond .eq 22, 3) := by decide +kernel
theorem dX4_hurts_8 : decode cX4_hurts 8 = .ok (.iload_n 2, 1) := by decide +kernel
theorem dX4_hurts_9 : decode cX4_hurts 9 = .ok (.invokestatic 71, 3) := by decide +kernel
theorem dX4_hurts_12 : decode cX4_hurts 12 = .ok (.ifCond .eq 15, 3) := by decide +kernel
theorem dX4_hurts_15 : decode cX4_hurts 15 = .ok (.aload_n 0, 1) := by decide +kernel
theorem dX4_hurts_16 : decode cX4_hurts 16 = .ok (.getfield 10, 3) := by decide +kernel
theorem dX4_hurts_19 : decode cX4_hurts 19 = .ok (.iload_n 1, 1) := by decide +kernel
theorem dX4_hurts_20 : decode cX4_hurts 20 = .ok (.iload_n 2, 1) := by decide +kernel
theorem dX4_hurts_21 : decode cX4_hurts 21 = .ok (.invokevirtual 107, 3) := by decide +kernel
theorem dX4_hurts_24 : decode cX4_hurts 24 = .ok (.goto 8, 3) := by decide +kernel
theorem dX4_hurts_27 : decode cX4_hurts 27 = .ok (.aload_n 0, 1) := by decide +kernel
theorem dX4_hurts_28 : decode cX4_hurts 28 = .ok (.iconst 0, 1) := by decide +kernel
theorem dX4_hurts_29 : decode cX4_hurts 29 = .ok (.invokevirtual 60, 3) := by decide +kernel
theorem dX4_hurts_32 : decode cX4_hurts 32 = .ok (.ireturn, 1) := by decide +kernel
def rX4_hurts : Room := { frames := 2, cells := 0, slots := 0, locals := 44 }
def vX4_hurts_c27 (p1 : Int32) (p2 : Int32) (J : JS) : Int32 × JS := (((vX4_tell J (0 : Int32)).1), ((vX4_tell J (0 : Int32)).2))
def kX4_hurts_c27 (p1 : Int32) (p2 : Int32) (J : JS) : Prop := (kX4_tell J (0 : Int32)) ∧ True
def vX4_hurts (J0 : JS) (p1 : Int32) (p2 : Int32) : Int32 × JS := if ((vX4_isThing J0 p1) = 0) then (vX4_hurts_c27 p1 p2 J0) else if ((vX4_isForce p2) = 0) then (vX4_hurts_c27 p1 p2 J0) else ((vX0_hurt (j_E J0) p1 p2), J0)
def kX4_hurts (J0 : JS) (p1 : Int32) (p2 : Int32) : Prop := (kX4_isThing J0 p1) ∧ (((vX4_isThing J0 p1) = 0) → ((kX4_hurts_c27 p1 p2 J0))) ∧ (¬ ((vX4_isThing J0 p1) = 0) → ((kX4_isForce p2) ∧ (((vX4_isForce p2) = 0) → ((kX4_hurts_c27 p1 p2 J0))) ∧ (¬ ((vX4_isForce p2) = 0) → ((kX0_hurt (j_E J0) p1 p2) ∧ True))))
set_option maxHeartbeats 4000000 in
set_option maxRecDepth 100000 in
theorem hX4_hurts (l : Launch) (D : va_G) (K : JK) (G : JG) (a : Nat → Nat) (J0 : JS) (p1 : Int32) (p2 : Int32) (hk : kX4_hurts J0 p1 p2) (sz : Nat) : Met l yX4_hurts (.code yX4_hurts cX4_hurts 3 (some .int) :: jGW) rX4_hurts (jPre D (jT K) G [.ref (a 0), .int p1, .int p2] (wJ K a J0) sz) (jQi D (jT K) ((vX4_hurts J0 p1 p2).1) (wJ K a ((vX4_hurts J0 p1 p2).2)) (va_A (wJ K a J0) sz)) 0 0 (va_A (wJ K a J0) sz) := by
  refine jEi (by decide) (Nat.le_of_ble_eq_true rfl) (fun p e s m below meth c A Q ls hat hP hD hS hl hend => ?_)
  obtain ⟨hx, hb, hml, hown, hts, hK, hZ, hA⟩ := hat
  have hl : lv_has ls 3 [(0, .ref (a 0)), (1, .int p1), (2, .int p2)] := hl
  have hc27 : ∀ (J : JS) (H : Heap) (locs : List Loc) (ls : Array Slot), (vX4_hurts J0 p1 p2) = vX4_hurts_c27 p1 p2 J → kX4_hurts_c27 p1 p2 J → va_P D vwCl (wJ K a J) H → va_D A (wJ K a J) → va_S A s.heap H locs → lv_has ls 3 [(0, .ref (a 0)), (1, .int p1), (2, .int p2)] → W p l e rX4_hurts s m ([.ref (a 0), .int p1, .int p2] : List Value).toArray below meth c H locs 0 0 Q (F0 m 27 ls []) := by
    intro J H locs ls hV hk hP hD hS hl
    rw [vX4_hurts_c27] at hV
    rw [kX4_hurts_c27] at hk
    refine lv_aload_n hx hb dX4_hurts_27 rfl (lv_at hl 0 rfl) ?_
    refine lv_iconst (v := (0 : Int32)) hx hb dX4_hurts_28 (by decide) ?_
    obtain ⟨h7, hk⟩ := hk
    refine jci (jrunV (As := [.int (0 : Int32)]) (rest := []) hx hb hml hown hts hK hZ hA hP hD hS hl.1 mf_X4_tell kl_X4_60 ⟨rfl, rfl, Nat.le_of_ble_eq_true rfl, Nat.le_of_ble_eq_true rfl⟩ ⟨Nat.zero_le _, Nat.zero_le _⟩ [0, 1, 2, 3, 4, 5, 6, 7, 8, 9, 10, 11, 12, 13, 14, 15, 16, 17, 18, 19, 20, 21, 22, 23, 24, 25, 26, 27, 28, 29] rfl (js45 K a J) rfl rfl rfl (hX4_tell l D K G a J (0 : Int32) h7 _) rfl rfl (Nat.le_of_ble_eq_true rfl) dX4_hurts_29) hA hP hD hS [0, 1, 2, 3, 4, 5, 6, 7, 8, 9, 10, 11, 12, 13, 14, 15, 16, 17, 18, 19, 20, 21, 22, 23, 24, 25, 26, 27, 28, 29] (js45 K a J) (jh52 K a J ((vX4_tell J (0 : Int32)).2)) (fun H locs hP hD hS => ?_)
    have hP := jeP (jp53 K a J ((vX4_tell J (0 : Int32)).2)) hP
    have hD := jeD (jp53 K a J ((vX4_tell J (0 : Int32)).2)) hD
    exact hend _ _ _ _ _ (by rw [hV]; exact hP) (by rw [hV]; exact hD) hS (by rw [hV]) rfl dX4_hurts_32
  have hV := vX4_hurts.eq_1 J0 p1 p2
  rw [kX4_hurts] at hk
  refine lv_aload_n hx hb dX4_hurts_0 rfl (lv_at hl 0 rfl) ?_
  refine lv_iload_n hx hb dX4_hurts_1 rfl (lv_at hl 1 rfl) ?_
  obtain ⟨h8, hk⟩ := hk
  refine jci0 (jrunV (As := [.int p1]) (rest := []) hx hb hml hown hts hK hZ hA hP hD hS hl.1 mf_X4_isThing kl_X4_94 ⟨rfl, rfl, Nat.le_of_ble_eq_true rfl, Nat.le_of_ble_eq_true rfl⟩ ⟨Nat.zero_le _, Nat.zero_le _⟩ [0, 1, 2, 3, 4, 5, 6, 7, 8, 9, 10, 11, 12, 13, 14, 15, 16, 17, 18, 19, 20, 21, 22, 23, 24, 25, 26, 27, 28, 29] rfl (js45 K a J0) rfl rfl rfl (hX4_isThing l D K G a J0 p1 h8 _) rfl rfl (Nat.le_of_ble_eq_true rfl) dX4_hurts_2) hA hP hD hS [0, 1, 2, 3, 4, 5, 6, 7, 8, 9, 10, 11, 12, 13, 14, 15, 16, 17, 18, 19, 20, 21, 22, 23, 24, 25, 26, 27, 28, 29] (js45 K a J0) (fun H locs hP hS => ?_)
  refine lv_if_eq (tgt := 27) hx hb dX4_hurts_5 (by decide) (fun c9 => ?_) (fun c9 => ?_)
  · have hV := hV.trans (if_pos c9)
    have hk := hk.1 c9
    exact hc27 J0 _ _ _ hV hk hP hD hS (lv_sub hl [0, 1, 2] rfl)
  · have hV := hV.trans (if_neg c9)
    have hk := hk.2 c9
    refine lv_iload_n hx hb dX4_hurts_8 rfl (lv_at hl 2 rfl) ?_
    obtain ⟨h10, hk⟩ := hk
    refine jci0 (jrunS (As := [.int p2]) (rest := []) hx hb hml hown hts hK hZ hA hP hD hS hl.1 mf_X4_isForce kl_X4_71 ⟨rfl, rfl, Nat.le_of_ble_eq_true rfl, Nat.le_of_ble_eq_true rfl⟩ ⟨Nat.zero_le _, Nat.zero_le _⟩ [] rfl rfl (hX4_isForce l D K G p2 h10 _) rfl rfl (Nat.le_of_ble_eq_true rfl) dX4_hurts_9) hA hP hD hS [] rfl (fun H locs hP hS => ?_)
    refine lv_if_eq (tgt := 27) hx hb dX4_hurts_12 (by decide) (fun c11 => ?_) (fun c11 => ?_)
    · have hV := hV.trans (if_pos c11)
      have hk := hk.1 c11
      exact hc27 J0 _ _ _ hV hk hP hD hS (lv_sub hl [0, 1, 2] rfl)
    · have hV := hV.trans (if_neg c11)
      have hk := hk.2 c11
      refine lv_aload_n hx hb dX4_hurts_15 rfl (lv_at hl 0 rfl) ?_
      refine gf_X4_10 (v := .ref (a 1)) hx hb hts hown hK hZ hP (0) rfl rfl dX4_hurts_16 ?_
      refine lv_iload_n hx hb dX4_hurts_19 rfl (lv_at hl 1 rfl) ?_
      refine lv_iload_n hx hb dX4_hurts_20 rfl (lv_at hl 2 rfl) ?_
      obtain ⟨h12, hk⟩ := hk
      refine jci0 (jrunV (As := [.int p1, .int p2]) (rest := []) hx hb hml hown hts hK hZ hA hP hD hS hl.1 mf_X0_hurt kl_X4_107 ⟨rfl, rfl, Nat.le_of_ble_eq_true rfl, Nat.le_of_ble_eq_true rfl⟩ ⟨Nat.zero_le _, Nat.zero_le _⟩ [1, 2, 3, 4, 5] rfl (js43 K a J0) rfl rfl rfl (hX0_hurt l D K G (fun k => a (1 + k)) (j_E J0) p1 p2 h12 _) rfl rfl (Nat.le_of_ble_eq_true rfl) dX4_hurts_21) hA hP hD hS [1, 2, 3, 4, 5] (js43 K a J0) (fun H locs hP hS => ?_)
      refine lv_goto (tgt := 32) hx hb dX4_hurts_24 (by decide) ?_
      exact hend _ _ _ _ _ (by rw [hV]; exact hP) (by rw [hV]; exact hD) hS (by rw [hV]) rfl dX4_hurts_32
theorem js64 (K : JK) (a : Nat → Nat) (J : JS) : [6, 7, 8, 9, 10, 1, 2, 3, 4, 5].map (fun i => (wJ K a J)[i]?) = (wE K (fun k => a (6 + k)) (j_K J) ++ wE K (fun k => a (1 + k)) (j_E J)).map some := rfl
theorem jh65 (K : JK) (a : Nat → Nat) (J : JS) (Z0 : ES) : (wE K (fun k => a (6 + k)) Z0 ++ wE K (fun k => a (1 + k)) (j_E J)).map Prod.fst = (wE K (fun k => a (6 + k)) (j_K J) ++ wE K (fun k => a (1 + k)) (j_E J)).map Prod.fst := rfl
theorem jp66 (K : JK) (a : Nat → Nat) (J : JS) (Z0 : ES) : jput (wJ K a J) [6, 7, 8, 9, 10, 1, 2, 3, 4, 5] (wE K (fun k => a (6 + k)) Z0 ++ wE K (fun k => a (1 + k)) (j_E J)) = (wJ K a (j_s_K J Z0)) := rfl
theorem jf67 (K : JK) (a : Nat → Nat) (J : JS) (v : Int32) : (wJ K a J).set 0 ((a 0), .inr (3, ([.ref (a 1), .ref (a 6), .ref (a 11), .ref (a 16), .ref (a 18), .ref (a 27), .ref (a 28), .ref (a 29), .int (j_imageKept J)] : List Value).set 8 (.int v))) = (wJ K a (j_s_imageKept J v)) := rfl
theorem dX4_image_0 : decode cX4_image 0 = .ok (.aload_n 0, 1) := by decide +kernel
theorem dX4_image_1 : decode cX4_image 1 = .ok (.getfield 16, 3) := by decide +kernel
theorem dX4_image_4 : decode cX4_image 4 = .ok (.aload_n 0, 1) := by decide +kernel
theorem dX4_image_5 : decode cX4_image 5 = .ok (.getfield 10, 3) := by decide +kernel
theorem dX4_image_8 : decode cX4_image 8 = .ok (.invokevirtual 132, 3) := by decide +kernel
theorem dX4_image_11 : decode cX4_image 11 = .ok (.aload_n 0, 1) := by decide +kernel
theorem dX4_image_12 : decode cX4_image 12 = .ok (.iconst 1, 1) := by decide +kernel
theorem dX4_image_13 : decode cX4_image 13 = .ok (.putfield 45, 3) := by decide +kernel
theorem dX4_image_16 : decode cX4_image 16 = .ok (.iconst 1, 1) := by decide +kernel
theorem dX4_image_17 : decode cX4_image 17 = .ok (.ireturn, 1) := by decide +kernel
def rX4_image : Room := { frames := 2, cells := 0, slots := 0, locals := 39 }
def vX4_image_c11 (J : JS) : Int32 × JS := ((1 : Int32), (j_s_imageKept J (1 : Int32)))
def vX4_image (J0 : JS) : Int32 × JS := (vX4_image_c11 (j_s_K J0 (vX0_become (j_K J0) (j_E J0))))
def kX4_image (J0 : JS) : Prop := (kX0_become (j_K J0) (j_E J0)) ∧ True
set_option maxHeartbeats 4000000 in
set_option maxRecDepth 100000 in
theorem hX4_image (l : Launch) (D : va_G) (K : JK) (G : JG) (a : Nat → Nat) (J0 : JS) (hk : kX4_image J0) (sz : Nat) : Met l yX4_image (.code yX4_image cX4_image 1 (some .int) :: jGW) rX4_image (jPre D (jT K) G [.ref (a 0)] (wJ K a J0) sz) (jQi D (jT K) ((vX4_image J0).1) (wJ K a ((vX4_image J0).2)) (va_A (wJ K a J0) sz)) 0 0 (va_A (wJ K a J0) sz) := by
  refine jEi (by decide) (Nat.le_of_ble_eq_true rfl) (fun p e s m below meth c A Q ls hat hP hD hS hl hend => ?_)
  obtain ⟨hx, hb, hml, hown, hts, hK, hZ, hA⟩ := hat
  have hl : lv_has ls 1 [(0, .ref (a 0))] := hl
  have hc11 : ∀ (J : JS) (H : Heap) (locs : List Loc) (ls : Array Slot), (vX4_image J0) = vX4_image_c11 J → va_P D vwCl (wJ K a J) H → va_D A (wJ K a J) → va_S A s.heap H locs → lv_has ls 1 [(0, .ref (a 0))] → W p l e rX4_image s m ([.ref (a 0)] : List Value).toArray below meth c H locs 0 0 Q (F0 m 11 ls []) := by
    intro J H locs ls hV hP hD hS hl
    rw [vX4_image_c11] at hV
    refine lv_aload_n hx hb dX4_image_11 rfl (lv_at hl 0 rfl) ?_
    refine lv_iconst (v := (1 : Int32)) hx hb dX4_image_12 (by decide) ?_
    refine pf_X4_45 (v := .int (1 : Int32)) hx hb hts hown hK hZ hP hD hS (0) rfl rfl rfl (Nat.le_of_ble_eq_true rfl) dX4_image_13 (fun H locs hP hD hS => ?_)
    have hP := jeP (jf67 K a J (1 : Int32)) hP
    have hD := jeD (jf67 K a J (1 : Int32)) hD
    refine lv_iconst (v := (1 : Int32)) hx hb dX4_image_16 (by decide) ?_
    exact hend _ _ _ _ _ (by rw [hV]; exact hP) (by rw [hV]; exact hD) hS (by rw [hV]) rfl dX4_image_17
  have hV := vX4_image.eq_1 J0
  rw [kX4_image] at hk
  refine lv_aload_n hx hb dX4_image_0 rfl (lv_at hl 0 rfl) ?_
  refine gf_X4_16 (v := .ref (a 6)) hx hb hts hown hK hZ hP (0) rfl rfl dX4_image_1 ?_
  refine lv_aload_n hx hb dX4_image_4 rfl (lv_at hl 0 rfl) ?_
  refine gf_X4_10 (v := .ref (a 1)) hx hb hts hown hK hZ hP (0) rfl rfl dX4_image_5 ?_
  obtain ⟨h2, hk⟩ := hk
  refine jcv (jrunV (As := [.ref (a 1)]) (rest := []) hx hb hml hown hts hK hZ hA hP hD hS hl.1 mf_X0_become kl_X4_132 ⟨rfl, rfl, Nat.le_of_ble_eq_true rfl, Nat.le_of_ble_eq_true rfl⟩ ⟨Nat.zero_le _, Nat.zero_le _⟩ [6, 7, 8, 9, 10, 1, 2, 3, 4, 5] rfl (js64 K a J0) rfl rfl rfl (hX0_become l D K G (fun k => a (6 + k)) (fun k => a (1 + k)) (j_K J0) (j_E J0) h2 _) rfl rfl (Nat.le_of_ble_eq_true rfl) dX4_image_8) hA hP hD hS [6, 7, 8, 9, 10, 1, 2, 3, 4, 5] (js64 K a J0) (jh65 K a J0 (vX0_become (j_K J0) (j_E J0))) (fun H locs hP hD hS => ?_)
  have hP := jeP (jp66 K a J0 (vX0_become (j_K J0) (j_E J0))) hP
  have hD := jeD (jp66 K a J0 (vX0_become (j_K J0) (j_E J0))) hD
  exact hc11 (j_s_K J0 (vX0_become (j_K J0) (j_E J0))) _ _ _ hV hP hD hS (lv_sub hl [0] rfl)
theorem dX4_judge_0 : decode cX4_judge 0 = .ok (.aload_n 0, 1) := by decide +kernel
theorem dX4_judge_1 : decode cX4_judge 1 = .ok (.iload_n 1, 1) := by decide +kernel
theorem dX4_judge_2 : decode cX4_judge 2 = .ok (.invokevirtual 215, 3) := by decide +kernel
theorem dX4_judge_5 : decode cX4_judge 5 = .ok (.istore_n 2, 1) := by decide +kernel
theorem dX4_judge_6 : decode cX4_judge 6 = .ok (.iload_n 2, 1) := by decide +kernel
theorem dX4_judge_7 : decode cX4_judge 7 = .ok (.ifCond .lt 9, 3) := by decide +kernel
theorem dX4_judge_10 : decode cX4_judge 10 = .ok (.aload_n 0, 1) := by decide +kernel
theorem dX4_judge_11 : decode cX4_judge 11 = .ok (.iload_n 2, 1) := by decide +kernel
theorem dX4_judge_12 : decode cX4_judge 12 = .ok (.invokevirtual 60, 3) := by decide +kernel
theorem dX4_judge_15 : decode cX4_judge 15 = .ok (.ireturn, 1) := by decide +kernel
theorem dX4_judge_16 : decode cX4_judge 16 = .ok (.iconst 0, 1) := by decide +kernel
theorem dX4_judge_17 : decode cX4_judge 17 = .ok (.istore_n 3, 1) := by decide +kernel
theorem dX4_judge_18 : decode cX4_judge 18 = .ok (.iload_n 3, 1) := by decide +kernel
theorem dX4_judge_19 : decode cX4_judge 19 = .ok (.aload_n 0, 1) := by decide +kernel
theorem dX4_judge_20 : decode cX4_judge 20 = .ok (.getfield 31, 3) := by decide +kernel
theorem dX4_judge_23 : decode cX4_judge 23 = .ok (.iload_n 1, 1) := by decide +kernel
theorem dX4_judge_24 : decode cX4_judge 24 = .ok (.aaload, 1) := by decide +kernel
theorem dX4_judge_25 : decode cX4_judge 25 = .ok (.getfield 212, 3) := by decide +kernel
theorem dX4_judge_28 : decode cX4_judge 28 = .ok (.if_icmp .ge 43, 3) := by decide +kernel
theorem dX4_judge_31 : decode cX4_judge 31 = .ok (.aload_n 0, 1) := by decide +kernel
theorem dX4_judge_32 : decode cX4_judge 32 = .ok (.iload_n 3, 1) := by decide +kernel
theorem dX4_judge_33 : decode cX4_judge 33 = .ok (.invokevirtual 94, 3) := by decide +kernel
theorem dX4_judge_36 : decode cX4_judge 36 = .ok (.ifCond .eq 25, 3) := by decide +kernel
theorem dX4_judge_39 : decode cX4_judge 39 = .ok (.aload_n 0, 1) := by decide +kernel
theorem dX4_judge_40 : decode cX4_judge 40 = .ok (.getfield 31, 3) := by decide +kernel
theorem dX4_judge_43 : decode cX4_judge 43 = .ok (.iload_n 1, 1) := by decide +kernel
theorem dX4_judge_44 : decode cX4_judge 44 = .ok (.aaload, 1) := by decide +kernel
theorem dX4_judge_45 : decode cX4_judge 45 = .ok (.getfield 226, 3) := by decide +kernel
theorem dX4_judge_48 : decode cX4_judge 48 = .ok (.iload_n 3, 1) := by decide +kernel
theorem dX4_judge_49 : decode cX4_judge 49 = .ok (.iaload, 1) := by decide +kernel
theorem dX4_judge_50 : decode cX4_judge 50 = .ok (.aload_n 0, 1) := by decide +kernel
theorem dX4_judge_51 : decode cX4_judge 51 = .ok (.getfield 10, 3) := by decide +kernel
theorem dX4_judge_54 : decode cX4_judge 54 = .ok (.iload_n 3, 1) := by decide +kernel
theorem dX4_judge_55 : decode cX4_judge 55 = .ok (.invokevirtual 142, 3) := by decide +kernel
theorem dX4_judge_58 : decode cX4_judge 58 = .ok (.if_icmp .eq 7, 3) := by decide +kernel
theorem dX4_judge_61 : decode cX4_judge 61 = .ok (.iconst 1, 1) := by decide +kernel
theorem dX4_judge_62 : decode cX4_judge 62 = .ok (.iload_n 3, 1) := by decide +kernel
theorem dX4_judge_63 : decode cX4_judge 63 = .ok (.iadd, 1) := by decide +kernel
theorem dX4_judge_64 : decode cX4_judge 64 = .ok (.ireturn, 1) := by decide +kernel
theorem dX4_judge_65 : decode cX4_judge 65 = .ok (.iinc 3 1, 3) := by decide +kernel
theorem dX4_judge_68 : decode cX4_judge 68 = .ok (.goto (-50), 3) := by decide +kernel
theorem dX4_judge_71 : decode cX4_judge 71 = .ok (.iconst 0, 1) := by decide +kernel
theorem dX4_judge_72 : decode cX4_judge 72 = .ok (.ireturn, 1) := by decide +kernel
def rX4_judge : Room := { frames := 4, cells := 0, slots := 0, locals := 86 }
def vX4_judge_c61 (p1 : Int32) (J : JS) (x3 : Int32) : Int32 × JS := (((1 : Int32) + x3), J)
def vX4_judge_c18 (p1 : Int32) : Nat → JS → Int32 → Int32 × JS
  | 0, J, x3 => (0, J)
  | n + 1, J, x3 => if ((s_size (j_s J (p1).toNatClampNeg)) ≤ x3) then ((0 : Int32), J) else if ((vX4_isThing J x3) = 0) then (vX4_judge_c61 p1 J x3) else if (((s_numbers (j_s J (p1).toNatClampNeg)) (x3).toNatClampNeg) = (vX0_award (j_E J) x3)) then (vX4_judge_c18 p1 n J (x3 + (1 : Int32))) else (vX4_judge_c61 p1 J x3)
def kX4_judge_c18 (p1 : Int32) : Nat → JS → Int32 → Prop
  | 0, _, _ => False
  | n + 1, J, x3 => (vp_in p1 4) ∧ (((s_size (j_s J (p1).toNatClampNeg)) ≤ x3) → True) ∧ (¬ ((s_size (j_s J (p1).toNatClampNeg)) ≤ x3) → ((kX4_isThing J x3) ∧ (((vX4_isThing J x3) = 0) → True) ∧ (¬ ((vX4_isThing J x3) = 0) → ((vp_in p1 4) ∧ (vp_in x3 40) ∧ (kX0_award (j_E J) x3) ∧ ((((s_numbers (j_s J (p1).toNatClampNeg)) (x3).toNatClampNeg) = (vX0_award (j_E J) x3)) → ((kX4_judge_c18 p1 n J (x3 + (1 : Int32))))) ∧ (¬ (((s_numbers (j_s J (p1).toNatClampNeg)) (x3).toNatClampNeg) = (vX0_award (j_E J) x3)) → True)))))
def vX4_judge (J0 : JS) (p1 : Int32) : Int32 × JS := if ((vX4_lackOf J0 p1) < 0) then (vX4_judge_c18 p1 1024 J0 (0 : Int32)) else (((vX4_tell J0 (vX4_lackOf J0 p1)).1), ((vX4_tell J0 (vX4_lackOf J0 p1)).2))
def kX4_judge (J0 : JS) (p1 : Int32) : Prop := (kX4_lackOf J0 p1) ∧ (((vX4_lackOf J0 p1) < 0) → ((kX4_judge_c18 p1 1024 J0 (0 : Int32)))) ∧ (¬ ((vX4_lackOf J0 p1) < 0) → ((kX4_tell J0 (vX4_lackOf J0 p1)) ∧ True))
set_option maxHeartbeats 4000000 in
set_option maxRecDepth 100000 in
theorem hX4_judge (l : Launch) (D : va_G) (K : JK) (G : JG) (a : Nat → Nat) (J0 : JS) (p1 : Int32) (hk : kX4_judge J0 p1) (sz : Nat) : Met l yX4_judge (.code yX4_judge cX4_judge 4 (some .int) :: jGW) rX4_judge (jPre D (jT K) G [.ref (a 0), .int p1] (wJ K a J0) sz) (jQi D (jT K) ((vX4_judge J0 p1).1) (wJ K a ((vX4_judge J0 p1).2)) (va_A (wJ K a J0) sz)) 0 0 (va_A (wJ K a J0) sz) := by
  refine jEi (by decide) (Nat.le_of_ble_eq_true rfl) (fun p e s m below meth c A Q ls hat hP hD hS hl hend => ?_)
  obtain ⟨hx, hb, hml, hown, hts, hK, hZ, hA⟩ := hat
  have hl : lv_has ls 4 [(0, .ref (a 0)), (1, .int p1)] := hl
  have hc61 : ∀ (J : JS) (x3 : Int32) (H : Heap) (locs : List Loc) (ls : Array Slot), (vX4_judge J0 p1) = vX4_judge_c61 p1 J x3 → va_P D vwCl (wJ K a J) H → va_D A (wJ K a J) → va_S A s.heap H locs → lv_has ls 4 [(0, .ref (a 0)), (1, .int p1), (3, .int x3)] → W p l e rX4_judge s m ([.ref (a 0), .int p1] : List Value).toArray below meth c H locs 0 0 Q (F0 m 61 ls []) := by
    intro J x3 H locs ls hV hP hD hS hl
    rw [vX4_judge_c61] at hV
    refine lv_iconst (v := (1 : Int32)) hx hb dX4_judge_61 (by decide) ?_
    refine lv_iload_n hx hb dX4_judge_62 rfl (lv_at hl 2 rfl) ?_
    refine lv_iadd hx hb dX4_judge_63 ?_
    exact hend _ _ _ _ _ (by rw [hV]; exact hP) (by rw [hV]; exact hD) hS (by rw [hV]) rfl dX4_judge_64
  have hc18 : ∀ (n : Nat) (J : JS) (x3 : Int32) (H : Heap) (locs : List Loc) (ls : Array Slot), (vX4_judge J0 p1) = vX4_judge_c18 p1 n J x3 → kX4_judge_c18 p1 n J x3 → va_P D vwCl (wJ K a J) H → va_D A (wJ K a J) → va_S A s.heap H locs → lv_has ls 4 [(0, .ref (a 0)), (1, .int p1), (3, .int x3)] → W p l e rX4_judge s m ([.ref (a 0), .int p1] : List Value).toArray below meth c H locs 0 0 Q (F0 m 18 ls []) := by
    intro n
    induction n with
    | zero =>
      intro J x3 H locs ls hV hk hP hD hS hl
      exact False.elim hk
    | succ n ih =>
      intro J x3 H locs ls hV hk hP hD hS hl
      rw [vX4_judge_c18] at hV
      rw [kX4_judge_c18] at hk
      refine lv_iload_n hx hb dX4_judge_18 rfl (lv_at hl 2 rfl) ?_
      refine lv_aload_n hx hb dX4_judge_19 rfl (lv_at hl 0 rfl) ?_
      refine gf_X4_31 (v := .ref (a 18)) hx hb hts hown hK hZ hP (0) rfl rfl dX4_judge_20 ?_
      refine lv_iload_n hx hb dX4_judge_23 rfl (lv_at hl 1 rfl) ?_
      obtain ⟨h12, hk⟩ := hk
      refine j_aald hx hb hK hP h12 dX4_judge_24 ?_
      refine gf_X4_212 (v := .int (s_size (j_s J (p1).toNatClampNeg))) hx hb hts hown hK hZ hP (19 + 2 * (p1).toNatClampNeg) (wJ_sh D K _ _ ((jlt4 h12))) rfl dX4_judge_25 ?_
      refine lv_icmp_ge (tgt := 71) hx hb dX4_judge_28 (by decide) (fun c13 => ?_) (fun c13 => ?_)
      · have hV := hV.trans (if_pos c13)
        have hk := hk.1 c13
        refine lv_iconst (v := (0 : Int32)) hx hb dX4_judge_71 (by decide) ?_
        exact hend _ _ _ _ _ (by rw [hV]; exact hP) (by rw [hV]; exact hD) hS (by rw [hV]) rfl dX4_judge_72
      · have hV := hV.trans (if_neg c13)
        have hk := hk.2 c13
        refine lv_aload_n hx hb dX4_judge_31 rfl (lv_at hl 0 rfl) ?_
        refine lv_iload_n hx hb dX4_judge_32 rfl (lv_at hl 2 rfl) ?_
        obtain ⟨h14, hk⟩ := hk
        refine jci0 (jrunV (As := [.int x3]) (rest := []) hx hb hml hown hts hK hZ hA hP hD hS hl.1 mf_X4_isThing kl_X4_94 ⟨rfl, rfl, Nat.le_of_ble_eq_true rfl, Nat.le_of_ble_eq_true rfl⟩ ⟨Nat.zero_le _, Nat.zero_le _⟩ [0, 1, 2, 3, 4, 5, 6, 7, 8, 9, 10, 11, 12, 13, 14, 15, 16, 17, 18, 19, 20, 21, 22, 23, 24, 25, 26, 27, 28, 29] rfl (js45 K a J) rfl rfl rfl (hX4_isThing l D K G a J x3 h14 _) rfl rfl (Nat.le_of_ble_eq_true rfl) dX4_judge_33) hA hP hD hS [0, 1, 2, 3, 4, 5, 6, 7, 8, 9, 10, 11, 12, 13, 14, 15, 16, 17, 18, 19, 20, 21, 22, 23, 24, 25, 26, 27, 28, 29] (js45 K a J) (fun H locs hP hS => ?_)
        refine lv_if_eq (tgt := 61) hx hb dX4_judge_36 (by decide) (fun c15 => ?_) (fun c15 => ?_)
        · have hV := hV.trans (if_pos c15)
          have hk := hk.1 c15
          exact hc61 J x3 _ _ _ hV hP hD hS (lv_sub hl [0, 1, 2] rfl)
        · have hV := hV.trans (if_neg c15)
          have hk := hk.2 c15
          refine lv_aload_n hx hb dX4_judge_39 rfl (lv_at hl 0 rfl) ?_
          refine gf_X4_31 (v := .ref (a 18)) hx hb hts hown hK hZ hP (0) rfl rfl dX4_judge_40 ?_
          refine lv_iload_n hx hb dX4_judge_43 rfl (lv_at hl 1 rfl) ?_
          obtain ⟨h16, hk⟩ := hk
          refine j_aald hx hb hK hP h16 dX4_judge_44 ?_
          refine gf_X4_226 (v := .ref (a (20 + 2 * (p1).toNatClampNeg))) hx hb hts hown hK hZ hP (19 + 2 * (p1).toNatClampNeg) (wJ_sh D K _ _ ((jlt4 h16))) rfl dX4_judge_45 ?_
          refine lv_iload_n hx hb dX4_judge_48 rfl (lv_at hl 2 rfl) ?_
          obtain ⟨h17, hk⟩ := hk
          refine va_iald hx hb hK hP (20 + 2 * (p1).toNatClampNeg) 0 (wJ_sn D K _ _ ((jlt4 h16))) rfl h17 dX4_judge_49 ?_
          refine lv_aload_n hx hb dX4_judge_50 rfl (lv_at hl 0 rfl) ?_
          refine gf_X4_10 (v := .ref (a 1)) hx hb hts hown hK hZ hP (0) rfl rfl dX4_judge_51 ?_
          refine lv_iload_n hx hb dX4_judge_54 rfl (lv_at hl 2 rfl) ?_
          obtain ⟨h18, hk⟩ := hk
          refine jci0 (jrunV (As := [.int x3]) (rest := [.int ((s_numbers (j_s J (p1).toNatClampNeg)) (x3).toNatClampNeg)]) hx hb hml hown hts hK hZ hA hP hD hS hl.1 mf_X0_award kl_X4_142 ⟨rfl, rfl, Nat.le_of_ble_eq_true rfl, Nat.le_of_ble_eq_true rfl⟩ ⟨Nat.zero_le _, Nat.zero_le _⟩ [1, 2, 3, 4, 5] rfl (js43 K a J) rfl rfl rfl (hX0_award l D K G (fun k => a (1 + k)) (j_E J) x3 h18 _) rfl rfl (Nat.le_of_ble_eq_true rfl) dX4_judge_55) hA hP hD hS [1, 2, 3, 4, 5] (js43 K a J) (fun H locs hP hS => ?_)
          refine lv_icmp_eq (tgt := 65) hx hb dX4_judge_58 (by decide) (fun c19 => ?_) (fun c19 => ?_)
          · have hV := hV.trans (if_pos c19)
            have hk := hk.1 c19
            refine lv_iinc (v := (x3 + (1 : Int32))) (lv' := [(3, .int (x3 + (1 : Int32))), (0, .ref (a 0)), (1, .int p1)]) hx hb dX4_judge_65 hl (k := 2) rfl rfl (by decide) rfl (fun ls hl => ?_)
            refine lv_goto (tgt := 18) hx hb dX4_judge_68 (by decide) ?_
            exact ih J (x3 + (1 : Int32)) _ _ _ hV hk hP hD hS (lv_sub hl [1, 2, 0] rfl)
          · have hV := hV.trans (if_neg c19)
            have hk := hk.2 c19
            exact hc61 J x3 _ _ _ hV hP hD hS (lv_sub hl [0, 1, 2] rfl)
  have hV := vX4_judge.eq_1 J0 p1
  rw [kX4_judge] at hk
  refine lv_aload_n hx hb dX4_judge_0 rfl (lv_at hl 0 rfl) ?_
  refine lv_iload_n hx hb dX4_judge_1 rfl (lv_at hl 1 rfl) ?_
  obtain ⟨h20, hk⟩ := hk
  refine jci0 (jrunV (As := [.int p1]) (rest := []) hx hb hml hown hts hK hZ hA hP hD hS hl.1 mf_X4_lackOf kl_X4_215 ⟨rfl, rfl, Nat.le_of_ble_eq_true rfl, Nat.le_of_ble_eq_true rfl⟩ ⟨Nat.zero_le _, Nat.zero_le _⟩ [0, 1, 2, 3, 4, 5, 6, 7, 8, 9, 10, 11, 12, 13, 14, 15, 16, 17, 18, 19, 20, 21, 22, 23, 24, 25, 26, 27, 28, 29] rfl (js45 K a J0) rfl rfl rfl (hX4_lackOf l D K G a J0 p1 h20 _) rfl rfl (Nat.le_of_ble_eq_true rfl) dX4_judge_2) hA hP hD hS [0, 1, 2, 3, 4, 5, 6, 7, 8, 9, 10, 11, 12, 13, 14, 15, 16, 17, 18, 19, 20, 21, 22, 23, 24, 25, 26, 27, 28, 29] (js45 K a J0) (fun H locs hP hS => ?_)
  refine lv_istore_n (lv' := [(2, .int (vX4_lackOf J0 p1)), (0, .ref (a 0)), (1, .int p1)]) hx hb dX4_judge_5 rfl hl (by decide) rfl (fun ls hl => ?_)
  refine lv_iload_n hx hb dX4_judge_6 rfl (lv_at hl 0 rfl) ?_
  refine lv_if_lt (tgt := 16) hx hb dX4_judge_7 (by decide) (fun c21 => ?_) (fun c21 => ?_)
  · have hV := hV.trans (if_pos c21)
    have hk := hk.1 c21
    refine lv_iconst (v := (0 : Int32)) hx hb dX4_judge_16 (by decide) ?_
    refine lv_istore_n (lv' := [(3, .int (0 : Int32)), (2, .int (vX4_lackOf J0 p1)), (0, .ref (a 0)), (1, .int p1)]) hx hb dX4_judge_17 rfl hl (by decide) rfl (fun ls hl => ?_)
    exact hc18 1024 J0 (0 : Int32) _ _ _ hV hk hP hD hS (lv_sub hl [2, 3, 0] rfl)
  · have hV := hV.trans (if_neg c21)
    have hk := hk.2 c21
    refine lv_aload_n hx hb dX4_judge_10 rfl (lv_at hl 1 rfl) ?_
    refine lv_iload_n hx hb dX4_judge_11 rfl (lv_at hl 0 rfl) ?_
    obtain ⟨h22, hk⟩ := hk
    refine jci (jrunV (As := [.int (vX4_lackOf J0 p1)]) (rest := []) hx hb hml hown hts hK hZ hA hP hD hS hl.1 mf_X4_tell kl_X4_60 ⟨rfl, rfl, Nat.le_of_ble_eq_true rfl, Nat.le_of_ble_eq_true rfl⟩ ⟨Nat.zero_le _, Nat.zero_le _⟩ [0, 1, 2, 3, 4, 5, 6, 7, 8, 9, 10, 11, 12, 13, 14, 15, 16, 17, 18, 19, 20, 21, 22, 23, 24, 25, 26, 27, 28, 29] rfl (js45 K a J0) rfl rfl rfl (hX4_tell l D K G a J0 (vX4_lackOf J0 p1) h22 _) rfl rfl (Nat.le_of_ble_eq_true rfl) dX4_judge_12) hA hP hD hS [0, 1, 2, 3, 4, 5, 6, 7, 8, 9, 10, 11, 12, 13, 14, 15, 16, 17, 18, 19, 20, 21, 22, 23, 24, 25, 26, 27, 28, 29] (js45 K a J0) (jh52 K a J0 ((vX4_tell J0 (vX4_lackOf J0 p1)).2)) (fun H locs hP hD hS => ?_)
    have hP := jeP (jp53 K a J0 ((vX4_tell J0 (vX4_lackOf J0 p1)).2)) hP
    have hD := jeD (jp53 K a J0 ((vX4_tell J0 (vX4_lackOf J0 p1)).2)) hD
    exact hend _ _ _ _ _ (by rw [hV]; exact hP) (by rw [hV]; exact hD) hS (by rw [hV]) rfl dX4_judge_15
theorem dX4_judged_0 : decode cX4_judged 0 = .ok (.iload_n 1, 1) := by decide +kernel
theorem dX4_judged_1 : decode cX4_judged 1 = .ok (.iconst 0, 1) := by decide +kernel
theorem dX4_judged_2 : decode cX4_judged 2 = .ok (.bipush 100, 2) := by decide +kernel
theorem dX4_judged_4 : decode cX4_judged 4 = .ok (.invokestatic 50, 3) := by decide +kernel
theorem dX4_judged_7 : decode cX4_judged 7 = .ok (.ifCond .ne 9, 3) := by decide +kernel
theorem dX4_judged_10 : decode cX4_judged 10 = .ok (.aload_n 0, 1) := by decide +kernel
theorem dX4_judged_11 : decode cX4_judged 11 = .ok (.iconst 0, 1) := by decide +kernel
theorem dX4_judged_12 : decode cX4_judged 12 = .ok (.invokevirtual 60, 3) := by decide +kernel
theorem dX4_judged_15 : decode cX4_judged 15 = .ok (.ireturn, 1) := by decide +kernel
theorem dX4_judged_16 : decode cX4_judged 16 = .ok (.aload_n 0, 1) := by decide +kernel
theorem dX4_judged_17 : decode cX4_judged 17 = .ok (.getfield 19, 3) := by decide +kernel
theorem dX4_judged_20 : decode cX4_judged 20 = .ok (.aload_n 0, 1) := by decide +kernel
theorem dX4_judged_21 : decode cX4_judged 21 = .ok (.getfield 10, 3) := by decide +kernel
theorem dX4_judged_24 : decode cX4_judged 24 = .ok (.invokevirtual 132, 3) := by decide +kernel
theorem dX4_judged_27 : decode cX4_judged 27 = .ok (.aload_n 0, 1) := by decide +kernel
theorem dX4_judged_28 : decode cX4_judged 28 = .ok (.iload_n 1, 1) := by decide +kernel
theorem dX4_judged_29 : decode cX4_judged 29 = .ok (.invokevirtual 136, 3) := by decide +kernel
theorem dX4_judged_32 : decode cX4_judged 32 = .ok (.ireturn, 1) := by decide +kernel
def rX4_judged : Room := { frames := 6, cells := 0, slots := 0, locals := 129 }
def vX4_judged_c27 (p1 : Int32) (J : JS) : Int32 × JS := (((vX4_awardedBehind J p1).1), ((vX4_awardedBehind J p1).2))
def kX4_judged_c27 (p1 : Int32) (J : JS) : Prop := (kX4_awardedBehind J p1) ∧ True
def vX4_judged (J0 : JS) (p1 : Int32) : Int32 × JS := if ((vX4_within p1 (0 : Int32) (100 : Int32)) = 0) then (((vX4_tell J0 (0 : Int32)).1), ((vX4_tell J0 (0 : Int32)).2)) else (vX4_judged_c27 p1 (j_s_T J0 (vX0_become (j_T J0) (j_E J0))))
def kX4_judged (J0 : JS) (p1 : Int32) : Prop := (((vX4_within p1 (0 : Int32) (100 : Int32)) = 0) → ((kX4_tell J0 (0 : Int32)) ∧ True)) ∧ (¬ ((vX4_within p1 (0 : Int32) (100 : Int32)) = 0) → ((kX0_become (j_T J0) (j_E J0)) ∧ (kX4_judged_c27 p1 (j_s_T J0 (vX0_become (j_T J0) (j_E J0))))))
set_option maxHeartbeats 4000000 in
set_option maxRecDepth 100000 in
theorem hX4_judged (l : Launch) (D : va_G) (K : JK) (G : JG) (a : Nat → Nat) (J0 : JS) (p1 : Int32) (hk : kX4_judged J0 p1) (sz : Nat) : Met l yX4_judged (.code yX4_judged cX4_judged 2 (some .int) :: jGW) rX4_judged (jPre D (jT K) G [.ref (a 0), .int p1] (wJ K a J0) sz) (jQi D (jT K) ((vX4_judged J0 p1).1) (wJ K a ((vX4_judged J0 p1).2)) (va_A (wJ K a J0) sz)) 0 0 (va_A (wJ K a J0) sz) := by
  refine jEi (by decide) (Nat.le_of_ble_eq_true rfl) (fun p e s m below meth c A Q ls hat hP hD hS hl hend => ?_)
  obtain ⟨hx, hb, hml, hown, hts, hK, hZ, hA⟩ := hat
  have hl : lv_has ls 2 [(0, .ref (a 0)), (1, .int p1)] := hl
  have hc27 : ∀ (J : JS) (H : Heap) (locs : List Loc) (ls : Array Slot), (vX4_judged J0 p1) = vX4_judged_c27 p1 J → kX4_judged_c27 p1 J → va_P D vwCl (wJ K a J) H → va_D A (wJ K a J) → va_S A s.heap H locs → lv_has ls 2 [(0, .ref (a 0)), (1, .int p1)] → W p l e rX4_judged s m ([.ref (a 0), .int p1] : List Value).toArray below meth c H locs 0 0 Q (F0 m 27 ls []) := by
    intro J H locs ls hV hk hP hD hS hl
    rw [vX4_judged_c27] at hV
    rw [kX4_judged_c27] at hk
    refine lv_aload_n hx hb dX4_judged_27 rfl (lv_at hl 0 rfl) ?_
    refine lv_iload_n hx hb dX4_judged_28 rfl (lv_at hl 1 rfl) ?_
    obtain ⟨h5, hk⟩ := hk
    refine jci (jrunV (As := [.int p1]) (rest := []) hx hb hml hown hts hK hZ hA hP hD hS hl.1 mf_X4_awardedBehind kl_X4_136 ⟨rfl, rfl, Nat.le_of_ble_eq_true rfl, Nat.le_of_ble_eq_true rfl⟩ ⟨Nat.zero_le _, Nat.zero_le _⟩ [0, 1, 2, 3, 4, 5, 6, 7, 8, 9, 10, 11, 12, 13, 14, 15, 16, 17, 18, 19, 20, 21, 22, 23, 24, 25, 26, 27, 28, 29] rfl (js45 K a J) rfl rfl rfl (hX4_awardedBehind l D K G a J p1 h5 _) rfl rfl (Nat.le_of_ble_eq_true rfl) dX4_judged_29) hA hP hD hS [0, 1, 2, 3, 4, 5, 6, 7, 8, 9, 10, 11, 12, 13, 14, 15, 16, 17, 18, 19, 20, 21, 22, 23, 24, 25, 26, 27, 28, 29] (js45 K a J) (jh52 K a J ((vX4_awardedBehind J p1).2)) (fun H locs hP hD hS => ?_)
    have hP := jeP (jp53 K a J ((vX4_awardedBehind J p1).2)) hP
    have hD := jeD (jp53 K a J ((vX4_awardedBehind J p1).2)) hD
    exact hend _ _ _ _ _ (by rw [hV]; exact hP) (by rw [hV]; exact hD) hS (by rw [hV]) rfl dX4_judged_32
  have hV := vX4_judged.eq_1 J0 p1
  rw [kX4_judged] at hk
  refine lv_iload_n hx hb dX4_judged_0 rfl (lv_at hl 1 rfl) ?_
  refine lv_iconst (v := (0 : Int32)) hx hb dX4_judged_1 (by decide) ?_
  refine lv_bipush (v := (100 : Int32)) hx hb dX4_judged_2 (by decide) ?_
  refine jci0 (jrunS (As := [.int p1, .int (0 : Int32), .int (100 : Int32)]) (rest := []) hx hb hml hown hts hK hZ hA hP hD hS hl.1 mf_X4_within kl_X4_50 ⟨rfl, rfl, Nat.le_of_ble_eq_true rfl, Nat.le_of_ble_eq_true rfl⟩ ⟨Nat.zero_le _, Nat.zero_le _⟩ [] rfl rfl (hX4_within l D K G p1 (0 : Int32) (100 : Int32) _) rfl rfl (Nat.le_of_ble_eq_true rfl) dX4_judged_4) hA hP hD hS [] rfl (fun H locs hP hS => ?_)
  refine lv_if_ne (tgt := 16) hx hb dX4_judged_7 (by decide) (fun c6 => ?_) (fun c6 => ?_)
  · have hV := hV.trans (if_neg c6)
    have hk := hk.2 c6
    refine lv_aload_n hx hb dX4_judged_16 rfl (lv_at hl 0 rfl) ?_
    refine gf_X4_19 (v := .ref (a 11)) hx hb hts hown hK hZ hP (0) rfl rfl dX4_judged_17 ?_
    refine lv_aload_n hx hb dX4_judged_20 rfl (lv_at hl 0 rfl) ?_
    refine gf_X4_10 (v := .ref (a 1)) hx hb hts hown hK hZ hP (0) rfl rfl dX4_judged_21 ?_
    obtain ⟨h7, hk⟩ := hk
    refine jcv (jrunV (As := [.ref (a 1)]) (rest := []) hx hb hml hown hts hK hZ hA hP hD hS hl.1 mf_X0_become kl_X4_132 ⟨rfl, rfl, Nat.le_of_ble_eq_true rfl, Nat.le_of_ble_eq_true rfl⟩ ⟨Nat.zero_le _, Nat.zero_le _⟩ [11, 12, 13, 14, 15, 1, 2, 3, 4, 5] rfl (js46 K a J0) rfl rfl rfl (hX0_become l D K G (fun k => a (11 + k)) (fun k => a (1 + k)) (j_T J0) (j_E J0) h7 _) rfl rfl (Nat.le_of_ble_eq_true rfl) dX4_judged_24) hA hP hD hS [11, 12, 13, 14, 15, 1, 2, 3, 4, 5] (js46 K a J0) (jh47 K a J0 (vX0_become (j_T J0) (j_E J0))) (fun H locs hP hD hS => ?_)
    have hP := jeP (jp48 K a J0 (vX0_become (j_T J0) (j_E J0))) hP
    have hD := jeD (jp48 K a J0 (vX0_become (j_T J0) (j_E J0))) hD
    exact hc27 (j_s_T J0 (vX0_become (j_T J0) (j_E J0))) _ _ _ hV hk hP hD hS (lv_sub hl [0, 1] rfl)
  · have hV := hV.trans (if_pos c6)
    have hk := hk.1 c6
    refine lv_aload_n hx hb dX4_judged_10 rfl (lv_at hl 0 rfl) ?_
    refine lv_iconst (v := (0 : Int32)) hx hb dX4_judged_11 (by decide) ?_
    obtain ⟨h8, hk⟩ := hk
    refine jci (jrunV (As := [.int (0 : Int32)]) (rest := []) hx hb hml hown hts hK hZ hA hP hD hS hl.1 mf_X4_tell kl_X4_60 ⟨rfl, rfl, Nat.le_of_ble_eq_true rfl, Nat.le_of_ble_eq_true rfl⟩ ⟨Nat.zero_le _, Nat.zero_le _⟩ [0, 1, 2, 3, 4, 5, 6, 7, 8, 9, 10, 11, 12, 13, 14, 15, 16, 17, 18, 19, 20, 21, 22, 23, 24, 25, 26, 27, 28, 29] rfl (js45 K a J0) rfl rfl rfl (hX4_tell l D K G a J0 (0 : Int32) h8 _) rfl rfl (Nat.le_of_ble_eq_true rfl) dX4_judged_12) hA hP hD hS [0, 1, 2, 3, 4, 5, 6, 7, 8, 9, 10, 11, 12, 13, 14, 15, 16, 17, 18, 19, 20, 21, 22, 23, 24, 25, 26, 27, 28, 29] (js45 K a J0) (jh52 K a J0 ((vX4_tell J0 (0 : Int32)).2)) (fun H locs hP hD hS => ?_)
    have hP := jeP (jp53 K a J0 ((vX4_tell J0 (0 : Int32)).2)) hP
    have hD := jeD (jp53 K a J0 ((vX4_tell J0 (0 : Int32)).2)) hD
    exact hend _ _ _ _ _ (by rw [hV]; exact hP) (by rw [hV]; exact hD) hS (by rw [hV]) rfl dX4_judged_15
theorem dX4_kindFits_0 : decode cX4_kindFits 0 = .ok (.aload_n 0, 1) := by decide +kernel
theorem dX4_kindFits_1 : decode cX4_kindFits 1 = .ok (.getfield 19, 3) := by decide +kernel
theorem dX4_kindFits_4 : decode cX4_kindFits 4 = .ok (.aload_n 0, 1) := by decide +kernel
theorem dX4_kindFits_5 : decode cX4_kindFits 5 = .ok (.getfield 10, 3) := by decide +kernel
theorem dX4_kindFits_8 : decode cX4_kindFits 8 = .ok (.invokevirtual 132, 3) := by decide +kernel
theorem dX4_kindFits_11 : decode cX4_kindFits 11 = .ok (.aload_n 0, 1) := by decide +kernel
theorem dX4_kindFits_12 : decode cX4_kindFits 12 = .ok (.getfield 19, 3) := by decide +kernel
theorem dX4_kindFits_15 : decode cX4_kindFits 15 = .ok (.iload_n 2, 1) := by decide +kernel
theorem dX4_kindFits_16 : decode cX4_kindFits 16 = .ok (.iconst 0, 1) := by decide +kernel
theorem dX4_kindFits_17 : decode cX4_kindFits 17 = .ok (.iload_n 3, 1) := by decide +kernel
theorem dX4_kindFits_18 : decode cX4_kindFits 18 = .ok (.invokevirtual 103, 3) := by decide +kernel
theorem dX4_kindFits_21 : decode cX4_kindFits 21 = .ok (.aload_n 1, 1) := by decide +kernel
theorem dX4_kindFits_22 : decode cX4_kindFits 22 = .ok (.getfield 212, 3) := by decide +kernel
theorem dX4_kindFits_25 : decode cX4_kindFits 25 = .ok (.bipush 10, 2) := by decide +kernel
theorem dX4_kindFits_27 : decode cX4_kindFits 27 = .ok (.invokestatic 235, 3) := by decide +kernel
theorem dX4_kindFits_30 : decode cX4_kindFits 30 = .ok (.istore 4, 2) := by decide +kernel
theorem dX4_kindFits_32 : decode cX4_kindFits 32 = .ok (.iconst 0, 1) := by decide +kernel
theorem dX4_kindFits_33 : decode cX4_kindFits 33 = .ok (.istore 5, 2) := by decide +kernel
theorem dX4_kindFits_35 : decode cX4_kindFits 35 = .ok (.iload 5, 2) := by decide +kernel
theorem dX4_kindFits_37 : decode cX4_kindFits 37 = .ok (.iload 4, 2) := by decide +kernel
theorem dX4_kindFits_39 : decode cX4_kindFits 39 = .ok (.if_icmp .ge 46, 3) := by decide +kernel
theorem dX4_kindFits_42 : decode cX4_kindFits 42 = .ok (.aload_n 1, 1) := by decide +kernel
theorem dX4_kindFits_43 : decode cX4_kindFits 43 = .ok (.getfield 226, 3) := by decide +kernel
theorem dX4_kindFits_46 : decode cX4_kindFits 46 = .ok (.iload 5, 2) := by decide +kernel
theorem dX4_kindFits_48 : decode cX4_kindFits 48 = .ok (.iaload, 1) := by decide +kernel
theorem dX4_kindFits_49 : decode cX4_kindFits 49 = .ok (.istore 6, 2) := by decide +kernel
theorem dX4_kindFits_51 : decode cX4_kindFits 51 = .ok (.iload 6, 2) := by decide +kernel
theorem dX4_kindFits_53 : decode cX4_kindFits 53 = .ok (.iconst (-1), 1) := by decide +kernel
theorem dX4_kindFits_54 : decode cX4_kindFits 54 = .ok (.if_icmp .eq 18, 3) := by decide +kernel
theorem dX4_kindFits_57 : decode cX4_kindFits 57 = .ok (.iload 6, 2) := by decide +kernel
theorem dX4_kindFits_59 : decode cX4_kindFits 59 = .ok (.aload_n 0, 1) := by decide +kernel
theorem dX4_kindFits_60 : decode cX4_kindFits 60 = .ok (.getfield 19, 3) := by decide +kernel
theorem dX4_kindFits_63 : decode cX4_kindFits 63 = .ok (.iload_n 2, 1) := by decide +kernel
theorem dX4_kindFits_64 : decode cX4_kindFits 64 = .ok (.invokevirtual 142, 3) := by decide +kernel
theorem dX4_kindFits_67 : decode cX4_kindFits 67 = .ok (.if_icmp .eq 5, 3) := by decide +kernel
theorem dX4_kindFits_70 : decode cX4_kindFits 70 = .ok (.iconst 0, 1) := by decide +kernel
theorem dX4_kindFits_71 : decode cX4_kindFits 71 = .ok (.ireturn, 1) := by decide +kernel
theorem dX4_kindFits_72 : decode cX4_kindFits 72 = .ok (.aload_n 0, 1) := by decide +kernel
theorem dX4_kindFits_73 : decode cX4_kindFits 73 = .ok (.getfield 19, 3) := by decide +kernel
theorem dX4_kindFits_76 : decode cX4_kindFits 76 = .ok (.invokevirtual 139, 3) := by decide +kernel
theorem dX4_kindFits_79 : decode cX4_kindFits 79 = .ok (.iinc 5 1, 3) := by decide +kernel
theorem dX4_kindFits_82 : decode cX4_kindFits 82 = .ok (.goto (-47), 3) := by decide +kernel
theorem dX4_kindFits_85 : decode cX4_kindFits 85 = .ok (.iconst 1, 1) := by decide +kernel
theorem dX4_kindFits_86 : decode cX4_kindFits 86 = .ok (.ireturn, 1) := by decide +kernel
def rX4_kindFits : Room := { frames := 4, cells := 0, slots := 0, locals := 86 }
def vX4_kindFits_c79 (p1 : Nat) (p2 : Int32) (p3 : Int32) (k : JS → Int32 → Int32 → Int32 × JS) (J : JS) (x4 : Int32) (x5 : Int32) : Int32 × JS := (k J x4 (x5 + (1 : Int32)))
def kX4_kindFits_c79 (p1 : Nat) (p2 : Int32) (p3 : Int32) (q : JS → Int32 → Int32 → Prop) (J : JS) (x4 : Int32) (x5 : Int32) : Prop := (q J x4 (x5 + (1 : Int32)))
def vX4_kindFits_c72 (p1 : Nat) (p2 : Int32) (p3 : Int32) (k : JS → Int32 → Int32 → Int32 × JS) (J : JS) (x4 : Int32) (x5 : Int32) : Int32 × JS := (vX4_kindFits_c79 p1 p2 p3 k (j_s_T J (vX0_passDay (j_T J))) x4 x5)
def kX4_kindFits_c72 (p1 : Nat) (p2 : Int32) (p3 : Int32) (q : JS → Int32 → Int32 → Prop) (J : JS) (x4 : Int32) (x5 : Int32) : Prop := (kX0_passDay (j_T J)) ∧ (kX4_kindFits_c79 p1 p2 p3 q (j_s_T J (vX0_passDay (j_T J))) x4 x5)
def vX4_kindFits_c35 (p1 : Nat) (p2 : Int32) (p3 : Int32) : Nat → JS → Int32 → Int32 → Int32 × JS
  | 0, J, x4, x5 => (0, J)
  | n + 1, J, x4, x5 => if (x4 ≤ x5) then ((1 : Int32), J) else if (((s_numbers (j_s J p1)) (x5).toNatClampNeg) = (-1 : Int32)) then (vX4_kindFits_c72 p1 p2 p3 (fun J x4 x5 => vX4_kindFits_c35 p1 p2 p3 n J x4 x5) J x4 x5) else if (((s_numbers (j_s J p1)) (x5).toNatClampNeg) = (vX0_award (j_T J) p2)) then (vX4_kindFits_c72 p1 p2 p3 (fun J x4 x5 => vX4_kindFits_c35 p1 p2 p3 n J x4 x5) J x4 x5) else ((0 : Int32), J)
def kX4_kindFits_c35 (p1 : Nat) (p2 : Int32) (p3 : Int32) : Nat → JS → Int32 → Int32 → Prop
  | 0, _, _, _ => False
  | n + 1, J, x4, x5 => ((x4 ≤ x5) → True) ∧ (¬ (x4 ≤ x5) → ((vp_in x5 40) ∧ ((((s_numbers (j_s J p1)) (x5).toNatClampNeg) = (-1 : Int32)) → ((kX4_kindFits_c72 p1 p2 p3 (fun J x4 x5 => kX4_kindFits_c35 p1 p2 p3 n J x4 x5) J x4 x5))) ∧ (¬ (((s_numbers (j_s J p1)) (x5).toNatClampNeg) = (-1 : Int32)) → ((kX0_award (j_T J) p2) ∧ ((((s_numbers (j_s J p1)) (x5).toNatClampNeg) = (vX0_award (j_T J) p2)) → ((kX4_kindFits_c72 p1 p2 p3 (fun J x4 x5 => kX4_kindFits_c35 p1 p2 p3 n J x4 x5) J x4 x5))) ∧ (¬ (((s_numbers (j_s J p1)) (x5).toNatClampNeg) = (vX0_award (j_T J) p2)) → True)))))
def vX4_kindFits_c21 (p1 : Nat) (p2 : Int32) (p3 : Int32) (J : JS) : Int32 × JS := (vX4_kindFits_c35 p1 p2 p3 1024 J (jmin (s_size (j_s J p1)) (10 : Int32)) (0 : Int32))
def kX4_kindFits_c21 (p1 : Nat) (p2 : Int32) (p3 : Int32) (J : JS) : Prop := (kX4_kindFits_c35 p1 p2 p3 1024 J (jmin (s_size (j_s J p1)) (10 : Int32)) (0 : Int32))
def vX4_kindFits_c11 (p1 : Nat) (p2 : Int32) (p3 : Int32) (J : JS) : Int32 × JS := (vX4_kindFits_c21 p1 p2 p3 (j_s_T J (vX0_put (j_T J) p2 (0 : Int32) p3)))
def kX4_kindFits_c11 (p1 : Nat) (p2 : Int32) (p3 : Int32) (J : JS) : Prop := (kX0_put (j_T J) p2 (0 : Int32) p3) ∧ (kX4_kindFits_c21 p1 p2 p3 (j_s_T J (vX0_put (j_T J) p2 (0 : Int32) p3)))
def vX4_kindFits (J0 : JS) (p1 : Nat) (p2 : Int32) (p3 : Int32) : Int32 × JS := (vX4_kindFits_c11 p1 p2 p3 (j_s_T J0 (vX0_become (j_T J0) (j_E J0))))
def kX4_kindFits (J0 : JS) (p1 : Nat) (p2 : Int32) (p3 : Int32) : Prop := (kX0_become (j_T J0) (j_E J0)) ∧ (kX4_kindFits_c11 p1 p2 p3 (j_s_T J0 (vX0_become (j_T J0) (j_E J0))))
set_option maxHeartbeats 4000000 in
set_option maxRecDepth 100000 in
theorem hX4_kindFits (l : Launch) (D : va_G) (K : JK) (G : JG) (a : Nat → Nat) (J0 : JS) (p1 : Nat) (p2 : Int32) (p3 : Int32) (hj_p1 : p1 < 4) (hk : kX4_kindFits J0 p1 p2 p3) (sz : Nat) : Met l yX4_kindFits (.code yX4_kindFits cX4_kindFits 7 (some .boolean) :: jGW) rX4_kindFits (jPre D (jT K) G [.ref (a 0), .ref (a (19 + 2 * p1)), .int p2, .int p3] (wJ K a J0) sz) (jQi D (jT K) ((vX4_kindFits J0 p1 p2 p3).1) (wJ K a ((vX4_kindFits J0 p1 p2 p3).2)) (va_A (wJ K a J0) sz)) 0 0 (va_A (wJ K a J0) sz) := by
  refine jEi (by decide) (Nat.le_of_ble_eq_true rfl) (fun p e s m below meth c A Q ls hat hP hD hS hl hend => ?_)
  obtain ⟨hx, hb, hml, hown, hts, hK, hZ, hA⟩ := hat
  have hl : lv_has ls 7 [(0, .ref (a 0)), (1, .ref (a (19 + 2 * p1))), (2, .int p2), (3, .int p3)] := hl
  have hc35 : ∀ (n : Nat) (J : JS) (x4 : Int32) (x5 : Int32) (H : Heap) (locs : List Loc) (ls : Array Slot), (vX4_kindFits J0 p1 p2 p3) = vX4_kindFits_c35 p1 p2 p3 n J x4 x5 → kX4_kindFits_c35 p1 p2 p3 n J x4 x5 → va_P D vwCl (wJ K a J) H → va_D A (wJ K a J) → va_S A s.heap H locs → lv_has ls 7 [(0, .ref (a 0)), (1, .ref (a (19 + 2 * p1))), (2, .int p2), (3, .int p3), (4, .int x4), (5, .int x5)] → W p l e rX4_kindFits s m ([.ref (a 0), .ref (a (19 + 2 * p1)), .int p2, .int p3] : List Value).toArray below meth c H locs 0 0 Q (F0 m 35 ls []) := by
    intro n
    induction n with
    | zero =>
      intro J x4 x5 H locs ls hV hk hP hD hS hl
      exact False.elim hk
    | succ n ih =>
      have hc79 : ∀ (J : JS) (x4 : Int32) (x5 : Int32) (H : Heap) (locs : List Loc) (ls : Array Slot), (vX4_kindFits J0 p1 p2 p3) = vX4_kindFits_c79 p1 p2 p3 (fun J x4 x5 => vX4_kindFits_c35 p1 p2 p3 n J x4 x5) J x4 x5 → kX4_kindFits_c79 p1 p2 p3 (fun J x4 x5 => kX4_kindFits_c35 p1 p2 p3 n J x4 x5) J x4 x5 → va_P D vwCl (wJ K a J) H → va_D A (wJ K a J) → va_S A s.heap H locs → lv_has ls 7 [(0, .ref (a 0)), (1, .ref (a (19 + 2 * p1))), (2, .int p2), (3, .int p3), (4, .int x4), (5, .int x5)] → W p l e rX4_kindFits s m ([.ref (a 0), .ref (a (19 + 2 * p1)), .int p2, .int p3] : List Value).toArray below meth c H locs 0 0 Q (F0 m 79 ls []) := by
        intro J x4 x5 H locs ls hV hk hP hD hS hl
        rw [vX4_kindFits_c79] at hV
        rw [kX4_kindFits_c79] at hk
        refine lv_iinc (v := (x5 + (1 : Int32))) (lv' := [(5, .int (x5 + (1 : Int32))), (0, .ref (a 0)), (1, .ref (a (19 + 2 * p1))), (2, .int p2), (3, .int p3), (4, .int x4)]) hx hb dX4_kindFits_79 hl (k := 5) rfl rfl (by decide) rfl (fun ls hl => ?_)
        refine lv_goto (tgt := 35) hx hb dX4_kindFits_82 (by decide) ?_
        exact ih J x4 (x5 + (1 : Int32)) _ _ _ hV hk hP hD hS (lv_sub hl [1, 2, 3, 4, 5, 0] rfl)
      have hc72 : ∀ (J : JS) (x4 : Int32) (x5 : Int32) (H : Heap) (locs : List Loc) (ls : Array Slot), (vX4_kindFits J0 p1 p2 p3) = vX4_kindFits_c72 p1 p2 p3 (fun J x4 x5 => vX4_kindFits_c35 p1 p2 p3 n J x4 x5) J x4 x5 → kX4_kindFits_c72 p1 p2 p3 (fun J x4 x5 => kX4_kindFits_c35 p1 p2 p3 n J x4 x5) J x4 x5 → va_P D vwCl (wJ K a J) H → va_D A (wJ K a J) → va_S A s.heap H locs → lv_has ls 7 [(0, .ref (a 0)), (1, .ref (a (19 + 2 * p1))), (2, .int p2), (3, .int p3), (4, .int x4), (5, .int x5)] → W p l e rX4_kindFits s m ([.ref (a 0), .ref (a (19 + 2 * p1)), .int p2, .int p3] : List Value).toArray below meth c H locs 0 0 Q (F0 m 72 ls []) := by
        intro J x4 x5 H locs ls hV hk hP hD hS hl
        rw [vX4_kindFits_c72] at hV
        rw [kX4_kindFits_c72] at hk
        refine lv_aload_n hx hb dX4_kindFits_72 rfl (lv_at hl 0 rfl) ?_
        refine gf_X4_19 (v := .ref (a 11)) hx hb hts hown hK hZ hP (0) rfl rfl dX4_kindFits_73 ?_
        obtain ⟨h9, hk⟩ := hk
        refine jcv (jrunV (As := []) (rest := []) hx hb hml hown hts hK hZ hA hP hD hS hl.1 mf_X0_passDay kl_X4_139 ⟨rfl, rfl, Nat.le_of_ble_eq_true rfl, Nat.le_of_ble_eq_true rfl⟩ ⟨Nat.zero_le _, Nat.zero_le _⟩ [11, 12, 13, 14, 15] rfl (js49 K a J) rfl rfl rfl (hX0_passDay l D K G (fun k => a (11 + k)) (j_T J) h9 _) rfl rfl (Nat.le_of_ble_eq_true rfl) dX4_kindFits_76) hA hP hD hS [11, 12, 13, 14, 15] (js49 K a J) (jh50 K a J (vX0_passDay (j_T J))) (fun H locs hP hD hS => ?_)
        have hP := jeP (jp51 K a J (vX0_passDay (j_T J))) hP
        have hD := jeD (jp51 K a J (vX0_passDay (j_T J))) hD
        exact hc79 (j_s_T J (vX0_passDay (j_T J))) x4 x5 _ _ _ hV hk hP hD hS (lv_sub hl [0, 1, 2, 3, 4, 5] rfl)
      intro J x4 x5 H locs ls hV hk hP hD hS hl
      rw [vX4_kindFits_c35] at hV
      rw [kX4_kindFits_c35] at hk
      refine lv_iload hx hb dX4_kindFits_35 (lv_at hl 5 rfl) ?_
      refine lv_iload hx hb dX4_kindFits_37 (lv_at hl 4 rfl) ?_
      refine lv_icmp_ge (tgt := 85) hx hb dX4_kindFits_39 (by decide) (fun c10 => ?_) (fun c10 => ?_)
      · have hV := hV.trans (if_pos c10)
        have hk := hk.1 c10
        refine lv_iconst (v := (1 : Int32)) hx hb dX4_kindFits_85 (by decide) ?_
        exact hend _ _ _ _ _ (by rw [hV]; exact hP) (by rw [hV]; exact hD) hS (by rw [hV]) rfl dX4_kindFits_86
      · have hV := hV.trans (if_neg c10)
        have hk := hk.2 c10
        refine lv_aload_n hx hb dX4_kindFits_42 rfl (lv_at hl 1 rfl) ?_
        refine gf_X4_226 (v := .ref (a (20 + 2 * p1))) hx hb hts hown hK hZ hP (19 + 2 * p1) (wJ_sh D K _ _ (hj_p1)) rfl dX4_kindFits_43 ?_
        refine lv_iload hx hb dX4_kindFits_46 (lv_at hl 5 rfl) ?_
        obtain ⟨h11, hk⟩ := hk
        refine va_iald hx hb hK hP (20 + 2 * p1) 0 (wJ_sn D K _ _ (hj_p1)) rfl h11 dX4_kindFits_48 ?_
        refine lv_istore (lv' := [(6, .int ((s_numbers (j_s J p1)) (x5).toNatClampNeg)), (0, .ref (a 0)), (1, .ref (a (19 + 2 * p1))), (2, .int p2), (3, .int p3), (4, .int x4), (5, .int x5)]) hx hb dX4_kindFits_49 hl (by decide) rfl (fun ls hl => ?_)
        refine lv_iload hx hb dX4_kindFits_51 (lv_at hl 0 rfl) ?_
        refine lv_iconst (v := (-1 : Int32)) hx hb dX4_kindFits_53 (by decide) ?_
        refine lv_icmp_eq (tgt := 72) hx hb dX4_kindFits_54 (by decide) (fun c12 => ?_) (fun c12 => ?_)
        · have hV := hV.trans (if_pos c12)
          have hk := hk.1 c12
          exact hc72 J x4 x5 _ _ _ hV hk hP hD hS (lv_sub hl [1, 2, 3, 4, 5, 6] rfl)
        · have hV := hV.trans (if_neg c12)
          have hk := hk.2 c12
          refine lv_iload hx hb dX4_kindFits_57 (lv_at hl 0 rfl) ?_
          refine lv_aload_n hx hb dX4_kindFits_59 rfl (lv_at hl 1 rfl) ?_
          refine gf_X4_19 (v := .ref (a 11)) hx hb hts hown hK hZ hP (0) rfl rfl dX4_kindFits_60 ?_
          refine lv_iload_n hx hb dX4_kindFits_63 rfl (lv_at hl 3 rfl) ?_
          obtain ⟨h13, hk⟩ := hk
          refine jci0 (jrunV (As := [.int p2]) (rest := [.int ((s_numbers (j_s J p1)) (x5).toNatClampNeg)]) hx hb hml hown hts hK hZ hA hP hD hS hl.1 mf_X0_award kl_X4_142 ⟨rfl, rfl, Nat.le_of_ble_eq_true rfl, Nat.le_of_ble_eq_true rfl⟩ ⟨Nat.zero_le _, Nat.zero_le _⟩ [11, 12, 13, 14, 15] rfl (js49 K a J) rfl rfl rfl (hX0_award l D K G (fun k => a (11 + k)) (j_T J) p2 h13 _) rfl rfl (Nat.le_of_ble_eq_true rfl) dX4_kindFits_64) hA hP hD hS [11, 12, 13, 14, 15] (js49 K a J) (fun H locs hP hS => ?_)
          refine lv_icmp_eq (tgt := 72) hx hb dX4_kindFits_67 (by decide) (fun c14 => ?_) (fun c14 => ?_)
          · have hV := hV.trans (if_pos c14)
            have hk := hk.1 c14
            exact hc72 J x4 x5 _ _ _ hV hk hP hD hS (lv_sub hl [1, 2, 3, 4, 5, 6] rfl)
          · have hV := hV.trans (if_neg c14)
            have hk := hk.2 c14
            refine lv_iconst (v := (0 : Int32)) hx hb dX4_kindFits_70 (by decide) ?_
            exact hend _ _ _ _ _ (by rw [hV]; exact hP) (by rw [hV]; exact hD) hS (by rw [hV]) rfl dX4_kindFits_71
  have hc21 : ∀ (J : JS) (H : Heap) (locs : List Loc) (ls : Array Slot), (vX4_kindFits J0 p1 p2 p3) = vX4_kindFits_c21 p1 p2 p3 J → kX4_kindFits_c21 p1 p2 p3 J → va_P D vwCl (wJ K a J) H → va_D A (wJ K a J) → va_S A s.heap H locs → lv_has ls 7 [(0, .ref (a 0)), (1, .ref (a (19 + 2 * p1))), (2, .int p2), (3, .int p3)] → W p l e rX4_kindFits s m ([.ref (a 0), .ref (a (19 + 2 * p1)), .int p2, .int p3] : List Value).toArray below meth c H locs 0 0 Q (F0 m 21 ls []) := by
    intro J H locs ls hV hk hP hD hS hl
    rw [vX4_kindFits_c21] at hV
    rw [kX4_kindFits_c21] at hk
    refine lv_aload_n hx hb dX4_kindFits_21 rfl (lv_at hl 1 rfl) ?_
    refine gf_X4_212 (v := .int (s_size (j_s J p1))) hx hb hts hown hK hZ hP (19 + 2 * p1) (wJ_sh D K _ _ (hj_p1)) rfl dX4_kindFits_22 ?_
    refine lv_bipush (v := (10 : Int32)) hx hb dX4_kindFits_25 (by decide) ?_
    refine mmin_X4_235 hx hb (hml.trans hl.1.symm) hts hown (Nat.le_of_ble_eq_true rfl) (Nat.le_of_ble_eq_true rfl) (Nat.zero_le _) (Nat.zero_le _) dX4_kindFits_27 ?_
    refine lv_istore (lv' := [(4, .int (jmin (s_size (j_s J p1)) (10 : Int32))), (0, .ref (a 0)), (1, .ref (a (19 + 2 * p1))), (2, .int p2), (3, .int p3)]) hx hb dX4_kindFits_30 hl (by decide) rfl (fun ls hl => ?_)
    refine lv_iconst (v := (0 : Int32)) hx hb dX4_kindFits_32 (by decide) ?_
    refine lv_istore (lv' := [(5, .int (0 : Int32)), (4, .int (jmin (s_size (j_s J p1)) (10 : Int32))), (0, .ref (a 0)), (1, .ref (a (19 + 2 * p1))), (2, .int p2), (3, .int p3)]) hx hb dX4_kindFits_33 hl (by decide) rfl (fun ls hl => ?_)
    exact hc35 1024 J (jmin (s_size (j_s J p1)) (10 : Int32)) (0 : Int32) _ _ _ hV hk hP hD hS (lv_sub hl [2, 3, 4, 5, 1, 0] rfl)
  have hc11 : ∀ (J : JS) (H : Heap) (locs : List Loc) (ls : Array Slot), (vX4_kindFits J0 p1 p2 p3) = vX4_kindFits_c11 p1 p2 p3 J → kX4_kindFits_c11 p1 p2 p3 J → va_P D vwCl (wJ K a J) H → va_D A (wJ K a J) → va_S A s.heap H locs → lv_has ls 7 [(0, .ref (a 0)), (1, .ref (a (19 + 2 * p1))), (2, .int p2), (3, .int p3)] → W p l e rX4_kindFits s m ([.ref (a 0), .ref (a (19 + 2 * p1)), .int p2, .int p3] : List Value).toArray below meth c H locs 0 0 Q (F0 m 11 ls []) := by
    intro J H locs ls hV hk hP hD hS hl
    rw [vX4_kindFits_c11] at hV
    rw [kX4_kindFits_c11] at hk
    refine lv_aload_n hx hb dX4_kindFits_11 rfl (lv_at hl 0 rfl) ?_
    refine gf_X4_19 (v := .ref (a 11)) hx hb hts hown hK hZ hP (0) rfl rfl dX4_kindFits_12 ?_
    refine lv_iload_n hx hb dX4_kindFits_15 rfl (lv_at hl 2 rfl) ?_
    refine lv_iconst (v := (0 : Int32)) hx hb dX4_kindFits_16 (by decide) ?_
    refine lv_iload_n hx hb dX4_kindFits_17 rfl (lv_at hl 3 rfl) ?_
    obtain ⟨h15, hk⟩ := hk
    refine jcv (jrunV (As := [.int p2, .int (0 : Int32), .int p3]) (rest := []) hx hb hml hown hts hK hZ hA hP hD hS hl.1 mf_X0_put kl_X4_103 ⟨rfl, rfl, Nat.le_of_ble_eq_true rfl, Nat.le_of_ble_eq_true rfl⟩ ⟨Nat.zero_le _, Nat.zero_le _⟩ [11, 12, 13, 14, 15] rfl (js49 K a J) rfl rfl rfl (hX0_put l D K G (fun k => a (11 + k)) (j_T J) p2 (0 : Int32) p3 h15 _) rfl rfl (Nat.le_of_ble_eq_true rfl) dX4_kindFits_18) hA hP hD hS [11, 12, 13, 14, 15] (js49 K a J) (jh50 K a J (vX0_put (j_T J) p2 (0 : Int32) p3)) (fun H locs hP hD hS => ?_)
    have hP := jeP (jp51 K a J (vX0_put (j_T J) p2 (0 : Int32) p3)) hP
    have hD := jeD (jp51 K a J (vX0_put (j_T J) p2 (0 : Int32) p3)) hD
    exact hc21 (j_s_T J (vX0_put (j_T J) p2 (0 : Int32) p3)) _ _ _ hV hk hP hD hS (lv_sub hl [0, 1, 2, 3] rfl)
  have hV := vX4_kindFits.eq_1 J0 p1 p2 p3
  rw [kX4_kindFits] at hk
  refine lv_aload_n hx hb dX4_kindFits_0 rfl (lv_at hl 0 rfl) ?_
  refine gf_X4_19 (v := .ref (a 11)) hx hb hts hown hK hZ hP (0) rfl rfl dX4_kindFits_1 ?_
  refine lv_aload_n hx hb dX4_kindFits_4 rfl (lv_at hl 0 rfl) ?_
  refine gf_X4_10 (v := .ref (a 1)) hx hb hts hown hK hZ hP (0) rfl rfl dX4_kindFits_5 ?_
  obtain ⟨h16, hk⟩ := hk
  refine jcv (jrunV (As := [.ref (a 1)]) (rest := []) hx hb hml hown hts hK hZ hA hP hD hS hl.1 mf_X0_become kl_X4_132 ⟨rfl, rfl, Nat.le_of_ble_eq_true rfl, Nat.le_of_ble_eq_true rfl⟩ ⟨Nat.zero_le _, Nat.zero_le _⟩ [11, 12, 13, 14, 15, 1, 2, 3, 4, 5] rfl (js46 K a J0) rfl rfl rfl (hX0_become l D K G (fun k => a (11 + k)) (fun k => a (1 + k)) (j_T J0) (j_E J0) h16 _) rfl rfl (Nat.le_of_ble_eq_true rfl) dX4_kindFits_8) hA hP hD hS [11, 12, 13, 14, 15, 1, 2, 3, 4, 5] (js46 K a J0) (jh47 K a J0 (vX0_become (j_T J0) (j_E J0))) (fun H locs hP hD hS => ?_)
  have hP := jeP (jp48 K a J0 (vX0_become (j_T J0) (j_E J0))) hP
  have hD := jeD (jp48 K a J0 (vX0_become (j_T J0) (j_E J0))) hD
  exact hc11 (j_s_T J0 (vX0_become (j_T J0) (j_E J0))) _ _ _ hV hk hP hD hS (lv_sub hl [0, 1, 2, 3] rfl)
theorem dX4_kindFor_0 : decode cX4_kindFor 0 = .ok (.aload_n 0, 1) := by decide +kernel
theorem dX4_kindFor_1 : decode cX4_kindFor 1 = .ok (.iload_n 1, 1) := by decide +kernel
theorem dX4_kindFor_2 : decode cX4_kindFor 2 = .ok (.invokevirtual 94, 3) := by decide +kernel
theorem dX4_kindFor_5 : decode cX4_kindFor 5 = .ok (.ifCond .eq 13, 3) := by decide +kernel
theorem dX4_kindFor_8 : decode cX4_kindFor 8 = .ok (.iload_n 2, 1) := by decide +kernel
theorem dX4_kindFor_9 : decode cX4_kindFor 9 = .ok (.iconst 0, 1) := by decide +kernel
theorem dX4_kindFor_10 : decode cX4_kindFor 10 = .ok (.bipush 60, 2) := by decide +kernel
theorem dX4_kindFor_12 : decode cX4_kindFor 12 = .ok (.invokestatic 50, 3) := by decide +kernel
theorem dX4_kindFor_15 : decode cX4_kindFor 15 = .ok (.ifCond .ne 9, 3) := by decide +kernel
theorem dX4_kindFor_18 : decode cX4_kindFor 18 = .ok (.aload_n 0, 1) := by decide +kernel
theorem dX4_kindFor_19 : decode cX4_kindFor 19 = .ok (.iconst 0, 1) := by decide +kernel
theorem dX4_kindFor_20 : decode cX4_kindFor 20 = .ok (.invokevirtual 60, 3) := by decide +kernel
theorem dX4_kindFor_23 : decode cX4_kindFor 23 = .ok (.ireturn, 1) := by decide +kernel
theorem dX4_kindFor_24 : decode cX4_kindFor 24 = .ok (.iconst 0, 1) := by decide +kernel
theorem dX4_kindFor_25 : decode cX4_kindFor 25 = .ok (.istore_n 3, 1) := by decide +kernel
theorem dX4_kindFor_26 : decode cX4_kindFor 26 = .ok (.getstatic 57, 3) := by decide +kernel
theorem dX4_kindFor_29 : decode cX4_kindFor 29 = .ok (.iconst 0, 1) := by decide +kernel
theorem dX4_kindFor_30 : decode cX4_kindFor 30 = .ok (.iaload, 1) := by decide +kernel
theorem dX4_kindFor_31 : decode cX4_kindFor 31 = .ok (.iconst 1, 1) := by decide +kernel
theorem dX4_kindFor_32 : decode cX4_kindFor 32 = .ok (.iadd, 1) := by decide +kernel
theorem dX4_kindFor_33 : decode cX4_kindFor 33 = .ok (.istore 4, 2) := by decide +kernel
theorem dX4_kindFor_35 : decode cX4_kindFor 35 = .ok (.iconst 0, 1) := by decide +kernel
theorem dX4_kindFor_36 : decode cX4_kindFor 36 = .ok (.istore 5, 2) := by decide +kernel
theorem dX4_kindFor_38 : decode cX4_kindFor 38 = .ok (.iload 5, 2) := by decide +kernel
theorem dX4_kindFor_40 : decode cX4_kindFor 40 = .ok (.bipush 7, 2) := by decide +kernel
theorem dX4_kindFor_42 : decode cX4_kindFor 42 = .ok (.if_icmp .ge 52, 3) := by decide +kernel
theorem dX4_kindFor_45 : decode cX4_kindFor 45 = .ok (.aload_n 0, 1) := by decide +kernel
theorem dX4_kindFor_46 : decode cX4_kindFor 46 = .ok (.getfield 19, 3) := by decide +kernel
theorem dX4_kindFor_49 : decode cX4_kindFor 49 = .ok (.aload_n 0, 1) := by decide +kernel
theorem dX4_kindFor_50 : decode cX4_kindFor 50 = .ok (.getfield 10, 3) := by decide +kernel
theorem dX4_kindFor_53 : decode cX4_kindFor 53 = .ok (.invokevirtual 132, 3) := by decide +kernel
theorem dX4_kindFor_56 : decode cX4_kindFor 56 = .ok (.aload_n 0, 1) := by decide +kernel
theorem dX4_kindFor_57 : decode cX4_kindFor 57 = .ok (.getfield 19, 3) := by decide +kernel
theorem dX4_kindFor_60 : decode cX4_kindFor 60 = .ok (.iload_n 1, 1) := by decide +kernel
theorem dX4_kindFor_61 : decode cX4_kindFor 61 = .ok (.iconst 0, 1) := by decide +kernel
theorem dX4_kindFor_62 : decode cX4_kindFor 62 = .ok (.iload 5, 2) := by decide +kernel
theorem dX4_kindFor_64 : decode cX4_kindFor 64 = .ok (.invokevirtual 103, 3) := by decide +kernel
theorem dX4_kindFor_67 : decode cX4_kindFor 67 = .ok (.aload_n 0, 1) := by decide +kernel
theorem dX4_kindFor_68 : decode cX4_kindFor 68 = .ok (.iload_n 2, 1) := by decide +kernel
theorem dX4_kindFor_69 : decode cX4_kindFor 69 = .ok (.invokevirtual 136, 3) := by decide +kernel
theorem dX4_kindFor_72 : decode cX4_kindFor 72 = .ok (.istore 6, 2) := by decide +kernel
theorem dX4_kindFor_74 : decode cX4_kindFor 74 = .ok (.iload 6, 2) := by decide +kernel
theorem dX4_kindFor_76 : decode cX4_kindFor 76 = .ok (.iload 4, 2) := by decide +kernel
theorem dX4_kindFor_78 : decode cX4_kindFor 78 = .ok (.if_icmp .ge 10, 3) := by decide +kernel
theorem dX4_kindFor_81 : decode cX4_kindFor 81 = .ok (.iload 6, 2) := by decide +kernel
theorem dX4_kindFor_83 : decode cX4_kindFor 83 = .ok (.istore 4, 2) := by decide +kernel
theorem dX4_kindFor_85 : decode cX4_kindFor 85 = .ok (.iload 5, 2) := by decide +kernel
theorem dX4_kindFor_87 : decode cX4_kindFor 87 = .ok (.istore_n 3, 1) := by decide +kernel
theorem dX4_kindFor_88 : decode cX4_kindFor 88 = .ok (.iinc 5 1, 3) := by decide +kernel
theorem dX4_kindFor_91 : decode cX4_kindFor 91 = .ok (.goto (-53), 3) := by decide +kernel
theorem dX4_kindFor_94 : decode cX4_kindFor 94 = .ok (.iload_n 3, 1) := by decide +kernel
theorem dX4_kindFor_95 : decode cX4_kindFor 95 = .ok (.ireturn, 1) := by decide +kernel
def rX4_kindFor : Room := { frames := 6, cells := 0, slots := 0, locals := 129 }
def vX4_kindFor_c88 (p1 : Int32) (p2 : Int32) (k : JS → Int32 → Int32 → Int32 → Int32 × JS) (J : JS) (x3 : Int32) (x4 : Int32) (x5 : Int32) : Int32 × JS := (k J x3 x4 (x5 + (1 : Int32)))
def kX4_kindFor_c88 (p1 : Int32) (p2 : Int32) (q : JS → Int32 → Int32 → Int32 → Prop) (J : JS) (x3 : Int32) (x4 : Int32) (x5 : Int32) : Prop := (q J x3 x4 (x5 + (1 : Int32)))
def vX4_kindFor_c72 (p1 : Int32) (p2 : Int32) (k : JS → Int32 → Int32 → Int32 → Int32 × JS) (J : JS) (x3 : Int32) (x4 : Int32) (x5 : Int32) (y0 : Int32) : Int32 × JS := if (x4 ≤ y0) then (vX4_kindFor_c88 p1 p2 k J x3 x4 x5) else (vX4_kindFor_c88 p1 p2 k J x5 y0 x5)
def kX4_kindFor_c72 (p1 : Int32) (p2 : Int32) (q : JS → Int32 → Int32 → Int32 → Prop) (J : JS) (x3 : Int32) (x4 : Int32) (x5 : Int32) (y0 : Int32) : Prop := ((x4 ≤ y0) → ((kX4_kindFor_c88 p1 p2 q J x3 x4 x5))) ∧ (¬ (x4 ≤ y0) → ((kX4_kindFor_c88 p1 p2 q J x5 y0 x5)))
def vX4_kindFor_c67 (p1 : Int32) (p2 : Int32) (k : JS → Int32 → Int32 → Int32 → Int32 × JS) (J : JS) (x3 : Int32) (x4 : Int32) (x5 : Int32) : Int32 × JS := (vX4_kindFor_c72 p1 p2 k ((vX4_awardedBehind J p2).2) x3 x4 x5 ((vX4_awardedBehind J p2).1))
def kX4_kindFor_c67 (p1 : Int32) (p2 : Int32) (q : JS → Int32 → Int32 → Int32 → Prop) (J : JS) (x3 : Int32) (x4 : Int32) (x5 : Int32) : Prop := (kX4_awardedBehind J p2) ∧ (kX4_kindFor_c72 p1 p2 q ((vX4_awardedBehind J p2).2) x3 x4 x5 ((vX4_awardedBehind J p2).1))
def vX4_kindFor_c56 (p1 : Int32) (p2 : Int32) (k : JS → Int32 → Int32 → Int32 → Int32 × JS) (J : JS) (x3 : Int32) (x4 : Int32) (x5 : Int32) : Int32 × JS := (vX4_kindFor_c67 p1 p2 k (j_s_T J (vX0_put (j_T J) p1 (0 : Int32) x5)) x3 x4 x5)
def kX4_kindFor_c56 (p1 : Int32) (p2 : Int32) (q : JS → Int32 → Int32 → Int32 → Prop) (J : JS) (x3 : Int32) (x4 : Int32) (x5 : Int32) : Prop := (kX0_put (j_T J) p1 (0 : Int32) x5) ∧ (kX4_kindFor_c67 p1 p2 q (j_s_T J (vX0_put (j_T J) p1 (0 : Int32) x5)) x3 x4 x5)
def vX4_kindFor_c38 (p1 : Int32) (p2 : Int32) : Nat → JS → Int32 → Int32 → Int32 → Int32 × JS
  | 0, J, x3, x4, x5 => (0, J)
  | n + 1, J, x3, x4, x5 => if ((7 : Int32) ≤ x5) then (x3, J) else (vX4_kindFor_c56 p1 p2 (fun J x3 x4 x5 => vX4_kindFor_c38 p1 p2 n J x3 x4 x5) (j_s_T J (vX0_become (j_T J) (j_E J))) x3 x4 x5)
def kX4_kindFor_c38 (p1 : Int32) (p2 : Int32) : Nat → JS → Int32 → Int32 → Int32 → Prop
  | 0, _, _, _, _ => False
  | n + 1, J, x3, x4, x5 => (((7 : Int32) ≤ x5) → True) ∧ (¬ ((7 : Int32) ≤ x5) → ((kX0_become (j_T J) (j_E J)) ∧ (kX4_kindFor_c56 p1 p2 (fun J x3 x4 x5 => kX4_kindFor_c38 p1 p2 n J x3 x4 x5) (j_s_T J (vX0_become (j_T J) (j_E J))) x3 x4 x5)))
def vX4_kindFor_c18 (p1 : Int32) (p2 : Int32) (J : JS) : Int32 × JS := (((vX4_tell J (0 : Int32)).1), ((vX4_tell J (0 : Int32)).2))
def kX4_kindFor_c18 (p1 : Int32) (p2 : Int32) (J : JS) : Prop := (kX4_tell J (0 : Int32)) ∧ True
def vX4_kindFor (J0 : JS) (p1 : Int32) (p2 : Int32) : Int32 × JS := if ((vX4_isThing J0 p1) = 0) then (vX4_kindFor_c18 p1 p2 J0) else if ((vX4_within p2 (0 : Int32) (60 : Int32)) = 0) then (vX4_kindFor_c18 p1 p2 J0) else (vX4_kindFor_c38 p1 p2 1024 J0 (0 : Int32) ((jHM.getD ((0 : Int32)).toNatClampNeg 0) + (1 : Int32)) (0 : Int32))
def kX4_kindFor (J0 : JS) (p1 : Int32) (p2 : Int32) : Prop := (kX4_isThing J0 p1) ∧ (((vX4_isThing J0 p1) = 0) → ((kX4_kindFor_c18 p1 p2 J0))) ∧ (¬ ((vX4_isThing J0 p1) = 0) → ((((vX4_within p2 (0 : Int32) (60 : Int32)) = 0) → ((kX4_kindFor_c18 p1 p2 J0))) ∧ (¬ ((vX4_within p2 (0 : Int32) (60 : Int32)) = 0) → ((kX4_kindFor_c38 p1 p2 1024 J0 (0 : Int32) ((jHM.getD ((0 : Int32)).toNatClampNeg 0) + (1 : Int32)) (0 : Int32))))))
set_option maxHeartbeats 4000000 in
set_option maxRecDepth 100000 in
theorem hX4_kindFor (l : Launch) (D : va_G) (K : JK) (G : JG) (a : Nat → Nat) (J0 : JS) (p1 : Int32) (p2 : Int32) (hk : kX4_kindFor J0 p1 p2) (sz : Nat) : Met l yX4_kindFor (.code yX4_kindFor cX4_kindFor 7 (some .int) :: jGW) rX4_kindFor (jPre D (jT K) G [.ref (a 0), .int p1, .int p2] (wJ K a J0) sz) (jQi D (jT K) ((vX4_kindFor J0 p1 p2).1) (wJ K a ((vX4_kindFor J0 p1 p2).2)) (va_A (wJ K a J0) sz)) 0 0 (va_A (wJ K a J0) sz) := by
  refine jEi (by decide) (Nat.le_of_ble_eq_true rfl) (fun p e s m below meth c A Q ls hat hP hD hS hl hend => ?_)
  obtain ⟨hx, hb, hml, hown, hts, hK, hZ, hA⟩ := hat
  have hl : lv_has ls 7 [(0, .ref (a 0)), (1, .int p1), (2, .int p2)] := hl
  have hc38 : ∀ (n : Nat) (J : JS) (x3 : Int32) (x4 : Int32) (x5 : Int32) (H : Heap) (locs : List Loc) (ls : Array Slot), (vX4_kindFor J0 p1 p2) = vX4_kindFor_c38 p1 p2 n J x3 x4 x5 → kX4_kindFor_c38 p1 p2 n J x3 x4 x5 → va_P D vwCl (wJ K a J) H → va_D A (wJ K a J) → va_S A s.heap H locs → lv_has ls 7 [(0, .ref (a 0)), (1, .int p1), (2, .int p2), (3, .int x3), (4, .int x4), (5, .int x5)] → W p l e rX4_kindFor s m ([.ref (a 0), .int p1, .int p2] : List Value).toArray below meth c H locs 0 0 Q (F0 m 38 ls []) := by
    intro n
    induction n with
    | zero =>
      intro J x3 x4 x5 H locs ls hV hk hP hD hS hl
      exact False.elim hk
    | succ n ih =>
      have hc88 : ∀ (J : JS) (x3 : Int32) (x4 : Int32) (x5 : Int32) (H : Heap) (locs : List Loc) (ls : Array Slot), (vX4_kindFor J0 p1 p2) = vX4_kindFor_c88 p1 p2 (fun J x3 x4 x5 => vX4_kindFor_c38 p1 p2 n J x3 x4 x5) J x3 x4 x5 → kX4_kindFor_c88 p1 p2 (fun J x3 x4 x5 => kX4_kindFor_c38 p1 p2 n J x3 x4 x5) J x3 x4 x5 → va_P D vwCl (wJ K a J) H → va_D A (wJ K a J) → va_S A s.heap H locs → lv_has ls 7 [(0, .ref (a 0)), (1, .int p1), (2, .int p2), (3, .int x3), (4, .int x4), (5, .int x5)] → W p l e rX4_kindFor s m ([.ref (a 0), .int p1, .int p2] : List Value).toArray below meth c H locs 0 0 Q (F0 m 88 ls []) := by
        intro J x3 x4 x5 H locs ls hV hk hP hD hS hl
        rw [vX4_kindFor_c88] at hV
        rw [kX4_kindFor_c88] at hk
        refine lv_iinc (v := (x5 + (1 : Int32))) (lv' := [(5, .int (x5 + (1 : Int32))), (0, .ref (a 0)), (1, .int p1), (2, .int p2), (3, .int x3), (4, .int x4)]) hx hb dX4_kindFor_88 hl (k := 5) rfl rfl (by decide) rfl (fun ls hl => ?_)
        refine lv_goto (tgt := 38) hx hb dX4_kindFor_91 (by decide) ?_
        exact ih J x3 x4 (x5 + (1 : Int32)) _ _ _ hV hk hP hD hS (lv_sub hl [1, 2, 3, 4, 5, 0] rfl)
      have hc72 : ∀ (J : JS) (x3 : Int32) (x4 : Int32) (x5 : Int32) (y0 : Int32) (H : Heap) (locs : List Loc) (ls : Array Slot), (vX4_kindFor J0 p1 p2) = vX4_kindFor_c72 p1 p2 (fun J x3 x4 x5 => vX4_kindFor_c38 p1 p2 n J x3 x4 x5) J x3 x4 x5 y0 → kX4_kindFor_c72 p1 p2 (fun J x3 x4 x5 => kX4_kindFor_c38 p1 p2 n J x3 x4 x5) J x3 x4 x5 y0 → va_P D vwCl (wJ K a J) H → va_D A (wJ K a J) → va_S A s.heap H locs → lv_has ls 7 [(0, .ref (a 0)), (1, .int p1), (2, .int p2), (3, .int x3), (4, .int x4), (5, .int x5)] → W p l e rX4_kindFor s m ([.ref (a 0), .int p1, .int p2] : List Value).toArray below meth c H locs 0 0 Q (F0 m 72 ls [.int y0]) := by
        intro J x3 x4 x5 y0 H locs ls hV hk hP hD hS hl
        rw [vX4_kindFor_c72] at hV
        rw [kX4_kindFor_c72] at hk
        refine lv_istore (lv' := [(6, .int y0), (0, .ref (a 0)), (1, .int p1), (2, .int p2), (3, .int x3), (4, .int x4), (5, .int x5)]) hx hb dX4_kindFor_72 hl (by decide) rfl (fun ls hl => ?_)
        refine lv_iload hx hb dX4_kindFor_74 (lv_at hl 0 rfl) ?_
        refine lv_iload hx hb dX4_kindFor_76 (lv_at hl 5 rfl) ?_
        refine lv_icmp_ge (tgt := 88) hx hb dX4_kindFor_78 (by decide) (fun c10 => ?_) (fun c10 => ?_)
        · have hV := hV.trans (if_pos c10)
          have hk := hk.1 c10
          exact hc88 J x3 x4 x5 _ _ _ hV hk hP hD hS (lv_sub hl [1, 2, 3, 4, 5, 6] rfl)
        · have hV := hV.trans (if_neg c10)
          have hk := hk.2 c10
          refine lv_iload hx hb dX4_kindFor_81 (lv_at hl 0 rfl) ?_
          refine lv_istore (lv' := [(4, .int y0), (6, .int y0), (0, .ref (a 0)), (1, .int p1), (2, .int p2), (3, .int x3), (5, .int x5)]) hx hb dX4_kindFor_83 hl (by decide) rfl (fun ls hl => ?_)
          refine lv_iload hx hb dX4_kindFor_85 (lv_at hl 6 rfl) ?_
          refine lv_istore_n (lv' := [(3, .int x5), (4, .int y0), (6, .int y0), (0, .ref (a 0)), (1, .int p1), (2, .int p2), (5, .int x5)]) hx hb dX4_kindFor_87 rfl hl (by decide) rfl (fun ls hl => ?_)
          exact hc88 J x5 y0 x5 _ _ _ hV hk hP hD hS (lv_sub hl [3, 4, 5, 0, 1, 6] rfl)
      have hc67 : ∀ (J : JS) (x3 : Int32) (x4 : Int32) (x5 : Int32) (H : Heap) (locs : List Loc) (ls : Array Slot), (vX4_kindFor J0 p1 p2) = vX4_kindFor_c67 p1 p2 (fun J x3 x4 x5 => vX4_kindFor_c38 p1 p2 n J x3 x4 x5) J x3 x4 x5 → kX4_kindFor_c67 p1 p2 (fun J x3 x4 x5 => kX4_kindFor_c38 p1 p2 n J x3 x4 x5) J x3 x4 x5 → va_P D vwCl (wJ K a J) H → va_D A (wJ K a J) → va_S A s.heap H locs → lv_has ls 7 [(0, .ref (a 0)), (1, .int p1), (2, .int p2), (3, .int x3), (4, .int x4), (5, .int x5)] → W p l e rX4_kindFor s m ([.ref (a 0), .int p1, .int p2] : List Value).toArray below meth c H locs 0 0 Q (F0 m 67 ls []) := by
        intro J x3 x4 x5 H locs ls hV hk hP hD hS hl
        rw [vX4_kindFor_c67] at hV
        rw [kX4_kindFor_c67] at hk
        refine lv_aload_n hx hb dX4_kindFor_67 rfl (lv_at hl 0 rfl) ?_
        refine lv_iload_n hx hb dX4_kindFor_68 rfl (lv_at hl 2 rfl) ?_
        obtain ⟨h11, hk⟩ := hk
        refine jci (jrunV (As := [.int p2]) (rest := []) hx hb hml hown hts hK hZ hA hP hD hS hl.1 mf_X4_awardedBehind kl_X4_136 ⟨rfl, rfl, Nat.le_of_ble_eq_true rfl, Nat.le_of_ble_eq_true rfl⟩ ⟨Nat.zero_le _, Nat.zero_le _⟩ [0, 1, 2, 3, 4, 5, 6, 7, 8, 9, 10, 11, 12, 13, 14, 15, 16, 17, 18, 19, 20, 21, 22, 23, 24, 25, 26, 27, 28, 29] rfl (js45 K a J) rfl rfl rfl (hX4_awardedBehind l D K G a J p2 h11 _) rfl rfl (Nat.le_of_ble_eq_true rfl) dX4_kindFor_69) hA hP hD hS [0, 1, 2, 3, 4, 5, 6, 7, 8, 9, 10, 11, 12, 13, 14, 15, 16, 17, 18, 19, 20, 21, 22, 23, 24, 25, 26, 27, 28, 29] (js45 K a J) (jh52 K a J ((vX4_awardedBehind J p2).2)) (fun H locs hP hD hS => ?_)
        have hP := jeP (jp53 K a J ((vX4_awardedBehind J p2).2)) hP
        have hD := jeD (jp53 K a J ((vX4_awardedBehind J p2).2)) hD
        exact hc72 ((vX4_awardedBehind J p2).2) x3 x4 x5 ((vX4_awardedBehind J p2).1) _ _ _ hV hk hP hD hS (lv_sub hl [0, 1, 2, 3, 4, 5] rfl)
      have hc56 : ∀ (J : JS) (x3 : Int32) (x4 : Int32) (x5 : Int32) (H : Heap) (locs : List Loc) (ls : Array Slot), (vX4_kindFor J0 p1 p2) = vX4_kindFor_c56 p1 p2 (fun J x3 x4 x5 => vX4_kindFor_c38 p1 p2 n J x3 x4 x5) J x3 x4 x5 → kX4_kindFor_c56 p1 p2 (fun J x3 x4 x5 => kX4_kindFor_c38 p1 p2 n J x3 x4 x5) J x3 x4 x5 → va_P D vwCl (wJ K a J) H → va_D A (wJ K a J) → va_S A s.heap H locs → lv_has ls 7 [(0, .ref (a 0)), (1, .int p1), (2, .int p2), (3, .int x3), (4, .int x4), (5, .int x5)] → W p l e rX4_kindFor s m ([.ref (a 0), .int p1, .int p2] : List Value).toArray below meth c H locs 0 0 Q (F0 m 56 ls []) := by
        intro J x3 x4 x5 H locs ls hV hk hP hD hS hl
        rw [vX4_kindFor_c56] at hV
        rw [kX4_kindFor_c56] at hk
        refine lv_aload_n hx hb dX4_kindFor_56 rfl (lv_at hl 0 rfl) ?_
        refine gf_X4_19 (v := .ref (a 11)) hx hb hts hown hK hZ hP (0) rfl rfl dX4_kindFor_57 ?_
        refine lv_iload_n hx hb dX4_kindFor_60 rfl (lv_at hl 1 rfl) ?_
        refine lv_iconst (v := (0 : Int32)) hx hb dX4_kindFor_61 (by decide) ?_
        refine lv_iload hx hb dX4_kindFor_62 (lv_at hl 5 rfl) ?_
        obtain ⟨h12, hk⟩ := hk
        refine jcv (jrunV (As := [.int p1, .int (0 : Int32), .int x5]) (rest := []) hx hb hml hown hts hK hZ hA hP hD hS hl.1 mf_X0_put kl_X4_103 ⟨rfl, rfl, Nat.le_of_ble_eq_true rfl, Nat.le_of_ble_eq_true rfl⟩ ⟨Nat.zero_le _, Nat.zero_le _⟩ [11, 12, 13, 14, 15] rfl (js49 K a J) rfl rfl rfl (hX0_put l D K G (fun k => a (11 + k)) (j_T J) p1 (0 : Int32) x5 h12 _) rfl rfl (Nat.le_of_ble_eq_true rfl) dX4_kindFor_64) hA hP hD hS [11, 12, 13, 14, 15] (js49 K a J) (jh50 K a J (vX0_put (j_T J) p1 (0 : Int32) x5)) (fun H locs hP hD hS => ?_)
        have hP := jeP (jp51 K a J (vX0_put (j_T J) p1 (0 : Int32) x5)) hP
        have hD := jeD (jp51 K a J (vX0_put (j_T J) p1 (0 : Int32) x5)) hD
        exact hc67 (j_s_T J (vX0_put (j_T J) p1 (0 : Int32) x5)) x3 x4 x5 _ _ _ hV hk hP hD hS (lv_sub hl [0, 1, 2, 3, 4, 5] rfl)
      intro J x3 x4 x5 H locs ls hV hk hP hD hS hl
      rw [vX4_kindFor_c38] at hV
      rw [kX4_kindFor_c38] at hk
      refine lv_iload hx hb dX4_kindFor_38 (lv_at hl 5 rfl) ?_
      refine lv_bipush (v := (7 : Int32)) hx hb dX4_kindFor_40 (by decide) ?_
      refine lv_icmp_ge (tgt := 94) hx hb dX4_kindFor_42 (by decide) (fun c13 => ?_) (fun c13 => ?_)
      · have hV := hV.trans (if_pos c13)
        have hk := hk.1 c13
        refine lv_iload_n hx hb dX4_kindFor_94 rfl (lv_at hl 3 rfl) ?_
        exact hend _ _ _ _ _ (by rw [hV]; exact hP) (by rw [hV]; exact hD) hS (by rw [hV]) rfl dX4_kindFor_95
      · have hV := hV.trans (if_neg c13)
        have hk := hk.2 c13
        refine lv_aload_n hx hb dX4_kindFor_45 rfl (lv_at hl 0 rfl) ?_
        refine gf_X4_19 (v := .ref (a 11)) hx hb hts hown hK hZ hP (0) rfl rfl dX4_kindFor_46 ?_
        refine lv_aload_n hx hb dX4_kindFor_49 rfl (lv_at hl 0 rfl) ?_
        refine gf_X4_10 (v := .ref (a 1)) hx hb hts hown hK hZ hP (0) rfl rfl dX4_kindFor_50 ?_
        obtain ⟨h14, hk⟩ := hk
        refine jcv (jrunV (As := [.ref (a 1)]) (rest := []) hx hb hml hown hts hK hZ hA hP hD hS hl.1 mf_X0_become kl_X4_132 ⟨rfl, rfl, Nat.le_of_ble_eq_true rfl, Nat.le_of_ble_eq_true rfl⟩ ⟨Nat.zero_le _, Nat.zero_le _⟩ [11, 12, 13, 14, 15, 1, 2, 3, 4, 5] rfl (js46 K a J) rfl rfl rfl (hX0_become l D K G (fun k => a (11 + k)) (fun k => a (1 + k)) (j_T J) (j_E J) h14 _) rfl rfl (Nat.le_of_ble_eq_true rfl) dX4_kindFor_53) hA hP hD hS [11, 12, 13, 14, 15, 1, 2, 3, 4, 5] (js46 K a J) (jh47 K a J (vX0_become (j_T J) (j_E J))) (fun H locs hP hD hS => ?_)
        have hP := jeP (jp48 K a J (vX0_become (j_T J) (j_E J))) hP
        have hD := jeD (jp48 K a J (vX0_become (j_T J) (j_E J))) hD
        exact hc56 (j_s_T J (vX0_become (j_T J) (j_E J))) x3 x4 x5 _ _ _ hV hk hP hD hS (lv_sub hl [0, 1, 2, 3, 4, 5] rfl)
  have hc18 : ∀ (J : JS) (H : Heap) (locs : List Loc) (ls : Array Slot), (vX4_kindFor J0 p1 p2) = vX4_kindFor_c18 p1 p2 J → kX4_kindFor_c18 p1 p2 J → va_P D vwCl (wJ K a J) H → va_D A (wJ K a J) → va_S A s.heap H locs → lv_has ls 7 [(0, .ref (a 0)), (1, .int p1), (2, .int p2)] → W p l e rX4_kindFor s m ([.ref (a 0), .int p1, .int p2] : List Value).toArray below meth c H locs 0 0 Q (F0 m 18 ls []) := by
    intro J H locs ls hV hk hP hD hS hl
    rw [vX4_kindFor_c18] at hV
    rw [kX4_kindFor_c18] at hk
    refine lv_aload_n hx hb dX4_kindFor_18 rfl (lv_at hl 0 rfl) ?_
    refine lv_iconst (v := (0 : Int32)) hx hb dX4_kindFor_19 (by decide) ?_
    obtain ⟨h15, hk⟩ := hk
    refine jci (jrunV (As := [.int (0 : Int32)]) (rest := []) hx hb hml hown hts hK hZ hA hP hD hS hl.1 mf_X4_tell kl_X4_60 ⟨rfl, rfl, Nat.le_of_ble_eq_true rfl, Nat.le_of_ble_eq_true rfl⟩ ⟨Nat.zero_le _, Nat.zero_le _⟩ [0, 1, 2, 3, 4, 5, 6, 7, 8, 9, 10, 11, 12, 13, 14, 15, 16, 17, 18, 19, 20, 21, 22, 23, 24, 25, 26, 27, 28, 29] rfl (js45 K a J) rfl rfl rfl (hX4_tell l D K G a J (0 : Int32) h15 _) rfl rfl (Nat.le_of_ble_eq_true rfl) dX4_kindFor_20) hA hP hD hS [0, 1, 2, 3, 4, 5, 6, 7, 8, 9, 10, 11, 12, 13, 14, 15, 16, 17, 18, 19, 20, 21, 22, 23, 24, 25, 26, 27, 28, 29] (js45 K a J) (jh52 K a J ((vX4_tell J (0 : Int32)).2)) (fun H locs hP hD hS => ?_)
    have hP := jeP (jp53 K a J ((vX4_tell J (0 : Int32)).2)) hP
    have hD := jeD (jp53 K a J ((vX4_tell J (0 : Int32)).2)) hD
    exact hend _ _ _ _ _ (by rw [hV]; exact hP) (by rw [hV]; exact hD) hS (by rw [hV]) rfl dX4_kindFor_23
  have hV := vX4_kindFor.eq_1 J0 p1 p2
  rw [kX4_kindFor] at hk
  refine lv_aload_n hx hb dX4_kindFor_0 rfl (lv_at hl 0 rfl) ?_
  refine lv_iload_n hx hb dX4_kindFor_1 rfl (lv_at hl 1 rfl) ?_
  obtain ⟨h16, hk⟩ := hk
  refine jci0 (jrunV (As := [.int p1]) (rest := []) hx hb hml hown hts hK hZ hA hP hD hS hl.1 mf_X4_isThing kl_X4_94 ⟨rfl, rfl, Nat.le_of_ble_eq_true rfl, Nat.le_of_ble_eq_true rfl⟩ ⟨Nat.zero_le _, Nat.zero_le _⟩ [0, 1, 2, 3, 4, 5, 6, 7, 8, 9, 10, 11, 12, 13, 14, 15, 16, 17, 18, 19, 20, 21, 22, 23, 24, 25, 26, 27, 28, 29] rfl (js45 K a J0) rfl rfl rfl (hX4_isThing l D K G a J0 p1 h16 _) rfl rfl (Nat.le_of_ble_eq_true rfl) dX4_kindFor_2) hA hP hD hS [0, 1, 2, 3, 4, 5, 6, 7, 8, 9, 10, 11, 12, 13, 14, 15, 16, 17, 18, 19, 20, 21, 22, 23, 24, 25, 26, 27, 28, 29] (js45 K a J0) (fun H locs hP hS => ?_)
  refine lv_if_eq (tgt := 18) hx hb dX4_kindFor_5 (by decide) (fun c17 => ?_) (fun c17 => ?_)
  · have hV := hV.trans (if_pos c17)
    have hk := hk.1 c17
    exact hc18 J0 _ _ _ hV hk hP hD hS (lv_sub hl [0, 1, 2] rfl)
  · have hV := hV.trans (if_neg c17)
    have hk := hk.2 c17
    refine lv_iload_n hx hb dX4_kindFor_8 rfl (lv_at hl 2 rfl) ?_
    refine lv_iconst (v := (0 : Int32)) hx hb dX4_kindFor_9 (by decide) ?_
    refine lv_bipush (v := (60 : Int32)) hx hb dX4_kindFor_10 (by decide) ?_
    refine jci0 (jrunS (As := [.int p2, .int (0 : Int32), .int (60 : Int32)]) (rest := []) hx hb hml hown hts hK hZ hA hP hD hS hl.1 mf_X4_within kl_X4_50 ⟨rfl, rfl, Nat.le_of_ble_eq_true rfl, Nat.le_of_ble_eq_true rfl⟩ ⟨Nat.zero_le _, Nat.zero_le _⟩ [] rfl rfl (hX4_within l D K G p2 (0 : Int32) (60 : Int32) _) rfl rfl (Nat.le_of_ble_eq_true rfl) dX4_kindFor_12) hA hP hD hS [] rfl (fun H locs hP hS => ?_)
    refine lv_if_ne (tgt := 24) hx hb dX4_kindFor_15 (by decide) (fun c18 => ?_) (fun c18 => ?_)
    · have hV := hV.trans (if_neg c18)
      have hk := hk.2 c18
      refine lv_iconst (v := (0 : Int32)) hx hb dX4_kindFor_24 (by decide) ?_
      refine lv_istore_n (lv' := [(3, .int (0 : Int32)), (0, .ref (a 0)), (1, .int p1), (2, .int p2)]) hx hb dX4_kindFor_25 rfl hl (by decide) rfl (fun ls hl => ?_)
      refine gs_X4_57 hx hb hts hown hZ hS dX4_kindFor_26 ?_
      refine lv_iconst (v := (0 : Int32)) hx hb dX4_kindFor_29 (by decide) ?_
      refine va_ti (v := .int (jHM.getD ((0 : Int32)).toNatClampNeg 0)) hx hb (hZ.1 2 _ rfl).2 hS (by unfold vp_in; decide) rfl dX4_kindFor_30 ?_
      refine lv_iconst (v := (1 : Int32)) hx hb dX4_kindFor_31 (by decide) ?_
      refine lv_iadd hx hb dX4_kindFor_32 ?_
      refine lv_istore (lv' := [(4, .int ((jHM.getD ((0 : Int32)).toNatClampNeg 0) + (1 : Int32))), (3, .int (0 : Int32)), (0, .ref (a 0)), (1, .int p1), (2, .int p2)]) hx hb dX4_kindFor_33 hl (by decide) rfl (fun ls hl => ?_)
      refine lv_iconst (v := (0 : Int32)) hx hb dX4_kindFor_35 (by decide) ?_
      refine lv_istore (lv' := [(5, .int (0 : Int32)), (4, .int ((jHM.getD ((0 : Int32)).toNatClampNeg 0) + (1 : Int32))), (3, .int (0 : Int32)), (0, .ref (a 0)), (1, .int p1), (2, .int p2)]) hx hb dX4_kindFor_36 hl (by decide) rfl (fun ls hl => ?_)
      exact hc38 1024 J0 (0 : Int32) ((jHM.getD ((0 : Int32)).toNatClampNeg 0) + (1 : Int32)) (0 : Int32) _ _ _ hV hk hP hD hS (lv_sub hl [3, 4, 5, 2, 1, 0] rfl)
    · have hV := hV.trans (if_pos c18)
      have hk := hk.1 c18
      exact hc18 J0 _ _ _ hV hk hP hD hS (lv_sub hl [0, 1, 2] rfl)
theorem dX4_kinds_0 : decode cX4_kinds 0 = .ok (.aload_n 0, 1) := by decide +kernel
theorem dX4_kinds_1 : decode cX4_kinds 1 = .ok (.iload_n 1, 1) := by decide +kernel
theorem dX4_kinds_2 : decode cX4_kinds 2 = .ok (.iload_n 2, 1) := by decide +kernel
theorem dX4_kinds_3 : decode cX4_kinds 3 = .ok (.invokevirtual 156, 3) := by decide +kernel
theorem dX4_kinds_6 : decode cX4_kinds 6 = .ok (.istore_n 3, 1) := by decide +kernel
theorem dX4_kinds_7 : decode cX4_kinds 7 = .ok (.iload_n 3, 1) := by decide +kernel
theorem dX4_kinds_8 : decode cX4_kinds 8 = .ok (.ifCond .lt 9, 3) := by decide +kernel
theorem dX4_kinds_11 : decode cX4_kinds 11 = .ok (.aload_n 0, 1) := by decide +kernel
theorem dX4_kinds_12 : decode cX4_kinds 12 = .ok (.iload_n 3, 1) := by decide +kernel
theorem dX4_kinds_13 : decode cX4_kinds 13 = .ok (.invokevirtual 60, 3) := by decide +kernel
theorem dX4_kinds_16 : decode cX4_kinds 16 = .ok (.ireturn, 1) := by decide +kernel
theorem dX4_kinds_17 : decode cX4_kinds 17 = .ok (.iconst 0, 1) := by decide +kernel
theorem dX4_kinds_18 : decode cX4_kinds 18 = .ok (.istore 4, 2) := by decide +kernel
theorem dX4_kinds_20 : decode cX4_kinds 20 = .ok (.iconst 0, 1) := by decide +kernel
theorem dX4_kinds_21 : decode cX4_kinds 21 = .ok (.istore 5, 2) := by decide +kernel
theorem dX4_kinds_23 : decode cX4_kinds 23 = .ok (.iload 5, 2) := by decide +kernel
theorem dX4_kinds_25 : decode cX4_kinds 25 = .ok (.bipush 7, 2) := by decide +kernel
theorem dX4_kinds_27 : decode cX4_kinds 27 = .ok (.if_icmp .ge 34, 3) := by decide +kernel
theorem dX4_kinds_30 : decode cX4_kinds 30 = .ok (.aload_n 0, 1) := by decide +kernel
theorem dX4_kinds_31 : decode cX4_kinds 31 = .ok (.aload_n 0, 1) := by decide +kernel
theorem dX4_kinds_32 : decode cX4_kinds 32 = .ok (.getfield 31, 3) := by decide +kernel
theorem dX4_kinds_35 : decode cX4_kinds 35 = .ok (.iload_n 1, 1) := by decide +kernel
theorem dX4_kinds_36 : decode cX4_kinds 36 = .ok (.aaload, 1) := by decide +kernel
theorem dX4_kinds_37 : decode cX4_kinds 37 = .ok (.iload_n 2, 1) := by decide +kernel
theorem dX4_kinds_38 : decode cX4_kinds 38 = .ok (.iload 5, 2) := by decide +kernel
theorem dX4_kinds_40 : decode cX4_kinds 40 = .ok (.invokevirtual 166, 3) := by decide +kernel
theorem dX4_kinds_43 : decode cX4_kinds 43 = .ok (.ifCond .eq 12, 3) := by decide +kernel
theorem dX4_kinds_46 : decode cX4_kinds 46 = .ok (.iload 4, 2) := by decide +kernel
theorem dX4_kinds_48 : decode cX4_kinds 48 = .ok (.iconst 1, 1) := by decide +kernel
theorem dX4_kinds_49 : decode cX4_kinds 49 = .ok (.iload 5, 2) := by decide +kernel
theorem dX4_kinds_51 : decode cX4_kinds 51 = .ok (.ishl, 1) := by decide +kernel
theorem dX4_kinds_52 : decode cX4_kinds 52 = .ok (.ior, 1) := by decide +kernel
theorem dX4_kinds_53 : decode cX4_kinds 53 = .ok (.istore 4, 2) := by decide +kernel
theorem dX4_kinds_55 : decode cX4_kinds 55 = .ok (.iinc 5 1, 3) := by decide +kernel
theorem dX4_kinds_58 : decode cX4_kinds 58 = .ok (.goto (-35), 3) := by decide +kernel
theorem dX4_kinds_61 : decode cX4_kinds 61 = .ok (.iload 4, 2) := by decide +kernel
theorem dX4_kinds_63 : decode cX4_kinds 63 = .ok (.ireturn, 1) := by decide +kernel
def rX4_kinds : Room := { frames := 5, cells := 0, slots := 0, locals := 112 }
def vX4_kinds_c55 (p1 : Int32) (p2 : Int32) (k : JS → Int32 → Int32 → Int32 × JS) (J : JS) (x4 : Int32) (x5 : Int32) : Int32 × JS := (k J x4 (x5 + (1 : Int32)))
def kX4_kinds_c55 (p1 : Int32) (p2 : Int32) (q : JS → Int32 → Int32 → Prop) (J : JS) (x4 : Int32) (x5 : Int32) : Prop := (q J x4 (x5 + (1 : Int32)))
def vX4_kinds_c43 (p1 : Int32) (p2 : Int32) (k : JS → Int32 → Int32 → Int32 × JS) (J : JS) (x4 : Int32) (x5 : Int32) (y0 : Int32) : Int32 × JS := if (y0 = 0) then (vX4_kinds_c55 p1 p2 k J x4 x5) else (vX4_kinds_c55 p1 p2 k J (x4 ||| ((1 : Int32) <<< (x5 &&& 31))) x5)
def kX4_kinds_c43 (p1 : Int32) (p2 : Int32) (q : JS → Int32 → Int32 → Prop) (J : JS) (x4 : Int32) (x5 : Int32) (y0 : Int32) : Prop := ((y0 = 0) → ((kX4_kinds_c55 p1 p2 q J x4 x5))) ∧ (¬ (y0 = 0) → ((kX4_kinds_c55 p1 p2 q J (x4 ||| ((1 : Int32) <<< (x5 &&& 31))) x5)))
def vX4_kinds_c23 (p1 : Int32) (p2 : Int32) : Nat → JS → Int32 → Int32 → Int32 × JS
  | 0, J, x4, x5 => (0, J)
  | n + 1, J, x4, x5 => if ((7 : Int32) ≤ x5) then (x4, J) else (vX4_kinds_c43 p1 p2 (fun J x4 x5 => vX4_kinds_c23 p1 p2 n J x4 x5) ((vX4_kindFits J ((p1).toNatClampNeg) p2 x5).2) x4 x5 ((vX4_kindFits J ((p1).toNatClampNeg) p2 x5).1))
def kX4_kinds_c23 (p1 : Int32) (p2 : Int32) : Nat → JS → Int32 → Int32 → Prop
  | 0, _, _, _ => False
  | n + 1, J, x4, x5 => (((7 : Int32) ≤ x5) → True) ∧ (¬ ((7 : Int32) ≤ x5) → ((vp_in p1 4) ∧ (kX4_kindFits J ((p1).toNatClampNeg) p2 x5) ∧ (kX4_kinds_c43 p1 p2 (fun J x4 x5 => kX4_kinds_c23 p1 p2 n J x4 x5) ((vX4_kindFits J ((p1).toNatClampNeg) p2 x5).2) x4 x5 ((vX4_kindFits J ((p1).toNatClampNeg) p2 x5).1))))
def vX4_kinds (J0 : JS) (p1 : Int32) (p2 : Int32) : Int32 × JS := if ((vX4_lackFor J0 p1 p2) < 0) then (vX4_kinds_c23 p1 p2 1024 J0 (0 : Int32) (0 : Int32)) else (((vX4_tell J0 (vX4_lackFor J0 p1 p2)).1), ((vX4_tell J0 (vX4_lackFor J0 p1 p2)).2))
def kX4_kinds (J0 : JS) (p1 : Int32) (p2 : Int32) : Prop := (kX4_lackFor J0 p1 p2) ∧ (((vX4_lackFor J0 p1 p2) < 0) → ((kX4_kinds_c23 p1 p2 1024 J0 (0 : Int32) (0 : Int32)))) ∧ (¬ ((vX4_lackFor J0 p1 p2) < 0) → ((kX4_tell J0 (vX4_lackFor J0 p1 p2)) ∧ True))
set_option maxHeartbeats 4000000 in
set_option maxRecDepth 100000 in
theorem hX4_kinds (l : Launch) (D : va_G) (K : JK) (G : JG) (a : Nat → Nat) (J0 : JS) (p1 : Int32) (p2 : Int32) (hk : kX4_kinds J0 p1 p2) (sz : Nat) : Met l yX4_kinds (.code yX4_kinds cX4_kinds 6 (some .int) :: jGW) rX4_kinds (jPre D (jT K) G [.ref (a 0), .int p1, .int p2] (wJ K a J0) sz) (jQi D (jT K) ((vX4_kinds J0 p1 p2).1) (wJ K a ((vX4_kinds J0 p1 p2).2)) (va_A (wJ K a J0) sz)) 0 0 (va_A (wJ K a J0) sz) := by
  refine jEi (by decide) (Nat.le_of_ble_eq_true rfl) (fun p e s m below meth c A Q ls hat hP hD hS hl hend => ?_)
  obtain ⟨hx, hb, hml, hown, hts, hK, hZ, hA⟩ := hat
  have hl : lv_has ls 6 [(0, .ref (a 0)), (1, .int p1), (2, .int p2)] := hl
  have hc23 : ∀ (n : Nat) (J : JS) (x4 : Int32) (x5 : Int32) (H : Heap) (locs : List Loc) (ls : Array Slot), (vX4_kinds J0 p1 p2) = vX4_kinds_c23 p1 p2 n J x4 x5 → kX4_kinds_c23 p1 p2 n J x4 x5 → va_P D vwCl (wJ K a J) H → va_D A (wJ K a J) → va_S A s.heap H locs → lv_has ls 6 [(0, .ref (a 0)), (1, .int p1), (2, .int p2), (4, .int x4), (5, .int x5)] → W p l e rX4_kinds s m ([.ref (a 0), .int p1, .int p2] : List Value).toArray below meth c H locs 0 0 Q (F0 m 23 ls []) := by
    intro n
    induction n with
    | zero =>
      intro J x4 x5 H locs ls hV hk hP hD hS hl
      exact False.elim hk
    | succ n ih =>
      have hc55 : ∀ (J : JS) (x4 : Int32) (x5 : Int32) (H : Heap) (locs : List Loc) (ls : Array Slot), (vX4_kinds J0 p1 p2) = vX4_kinds_c55 p1 p2 (fun J x4 x5 => vX4_kinds_c23 p1 p2 n J x4 x5) J x4 x5 → kX4_kinds_c55 p1 p2 (fun J x4 x5 => kX4_kinds_c23 p1 p2 n J x4 x5) J x4 x5 → va_P D vwCl (wJ K a J) H → va_D A (wJ K a J) → va_S A s.heap H locs → lv_has ls 6 [(0, .ref (a 0)), (1, .int p1), (2, .int p2), (4, .int x4), (5, .int x5)] → W p l e rX4_kinds s m ([.ref (a 0), .int p1, .int p2] : List Value).toArray below meth c H locs 0 0 Q (F0 m 55 ls []) := by
        intro J x4 x5 H locs ls hV hk hP hD hS hl
        rw [vX4_kinds_c55] at hV
        rw [kX4_kinds_c55] at hk
        refine lv_iinc (v := (x5 + (1 : Int32))) (lv' := [(5, .int (x5 + (1 : Int32))), (0, .ref (a 0)), (1, .int p1), (2, .int p2), (4, .int x4)]) hx hb dX4_kinds_55 hl (k := 4) rfl rfl (by decide) rfl (fun ls hl => ?_)
        refine lv_goto (tgt := 23) hx hb dX4_kinds_58 (by decide) ?_
        exact ih J x4 (x5 + (1 : Int32)) _ _ _ hV hk hP hD hS (lv_sub hl [1, 2, 3, 4, 0] rfl)
      have hc43 : ∀ (J : JS) (x4 : Int32) (x5 : Int32) (y0 : Int32) (H : Heap) (locs : List Loc) (ls : Array Slot), (vX4_kinds J0 p1 p2) = vX4_kinds_c43 p1 p2 (fun J x4 x5 => vX4_kinds_c23 p1 p2 n J x4 x5) J x4 x5 y0 → kX4_kinds_c43 p1 p2 (fun J x4 x5 => kX4_kinds_c23 p1 p2 n J x4 x5) J x4 x5 y0 → va_P D vwCl (wJ K a J) H → va_D A (wJ K a J) → va_S A s.heap H locs → lv_has ls 6 [(0, .ref (a 0)), (1, .int p1), (2, .int p2), (4, .int x4), (5, .int x5)] → W p l e rX4_kinds s m ([.ref (a 0), .int p1, .int p2] : List Value).toArray below meth c H locs 0 0 Q (F0 m 43 ls [.int y0]) := by
        intro J x4 x5 y0 H locs ls hV hk hP hD hS hl
        rw [vX4_kinds_c43] at hV
        rw [kX4_kinds_c43] at hk
        refine lv_if_eq (tgt := 55) hx hb dX4_kinds_43 (by decide) (fun c8 => ?_) (fun c8 => ?_)
        · have hV := hV.trans (if_pos c8)
          have hk := hk.1 c8
          exact hc55 J x4 x5 _ _ _ hV hk hP hD hS (lv_sub hl [0, 1, 2, 3, 4] rfl)
        · have hV := hV.trans (if_neg c8)
          have hk := hk.2 c8
          refine lv_iload hx hb dX4_kinds_46 (lv_at hl 3 rfl) ?_
          refine lv_iconst (v := (1 : Int32)) hx hb dX4_kinds_48 (by decide) ?_
          refine lv_iload hx hb dX4_kinds_49 (lv_at hl 4 rfl) ?_
          refine lv_ishl hx hb dX4_kinds_51 ?_
          refine lv_ior hx hb dX4_kinds_52 ?_
          refine lv_istore (lv' := [(4, .int (x4 ||| ((1 : Int32) <<< (x5 &&& 31)))), (0, .ref (a 0)), (1, .int p1), (2, .int p2), (5, .int x5)]) hx hb dX4_kinds_53 hl (by decide) rfl (fun ls hl => ?_)
          exact hc55 J (x4 ||| ((1 : Int32) <<< (x5 &&& 31))) x5 _ _ _ hV hk hP hD hS (lv_sub hl [1, 2, 3, 0, 4] rfl)
      intro J x4 x5 H locs ls hV hk hP hD hS hl
      rw [vX4_kinds_c23] at hV
      rw [kX4_kinds_c23] at hk
      refine lv_iload hx hb dX4_kinds_23 (lv_at hl 4 rfl) ?_
      refine lv_bipush (v := (7 : Int32)) hx hb dX4_kinds_25 (by decide) ?_
      refine lv_icmp_ge (tgt := 61) hx hb dX4_kinds_27 (by decide) (fun c9 => ?_) (fun c9 => ?_)
      · have hV := hV.trans (if_pos c9)
        have hk := hk.1 c9
        refine lv_iload hx hb dX4_kinds_61 (lv_at hl 3 rfl) ?_
        exact hend _ _ _ _ _ (by rw [hV]; exact hP) (by rw [hV]; exact hD) hS (by rw [hV]) rfl dX4_kinds_63
      · have hV := hV.trans (if_neg c9)
        have hk := hk.2 c9
        refine lv_aload_n hx hb dX4_kinds_30 rfl (lv_at hl 0 rfl) ?_
        refine lv_aload_n hx hb dX4_kinds_31 rfl (lv_at hl 0 rfl) ?_
        refine gf_X4_31 (v := .ref (a 18)) hx hb hts hown hK hZ hP (0) rfl rfl dX4_kinds_32 ?_
        refine lv_iload_n hx hb dX4_kinds_35 rfl (lv_at hl 1 rfl) ?_
        obtain ⟨h10, hk⟩ := hk
        refine j_aald hx hb hK hP h10 dX4_kinds_36 ?_
        refine lv_iload_n hx hb dX4_kinds_37 rfl (lv_at hl 2 rfl) ?_
        refine lv_iload hx hb dX4_kinds_38 (lv_at hl 4 rfl) ?_
        obtain ⟨h11, hk⟩ := hk
        refine jci (jrunV (As := [.ref (a (19 + 2 * (p1).toNatClampNeg)), .int p2, .int x5]) (rest := []) hx hb hml hown hts hK hZ hA hP hD hS hl.1 mf_X4_kindFits kl_X4_166 ⟨rfl, rfl, Nat.le_of_ble_eq_true rfl, Nat.le_of_ble_eq_true rfl⟩ ⟨Nat.zero_le _, Nat.zero_le _⟩ [0, 1, 2, 3, 4, 5, 6, 7, 8, 9, 10, 11, 12, 13, 14, 15, 16, 17, 18, 19, 20, 21, 22, 23, 24, 25, 26, 27, 28, 29] rfl (js45 K a J) rfl rfl rfl (hX4_kindFits l D K G a J ((p1).toNatClampNeg) p2 x5 ((jlt4 h10)) h11 _) rfl rfl (Nat.le_of_ble_eq_true rfl) dX4_kinds_40) hA hP hD hS [0, 1, 2, 3, 4, 5, 6, 7, 8, 9, 10, 11, 12, 13, 14, 15, 16, 17, 18, 19, 20, 21, 22, 23, 24, 25, 26, 27, 28, 29] (js45 K a J) (jh52 K a J ((vX4_kindFits J ((p1).toNatClampNeg) p2 x5).2)) (fun H locs hP hD hS => ?_)
        have hP := jeP (jp53 K a J ((vX4_kindFits J ((p1).toNatClampNeg) p2 x5).2)) hP
        have hD := jeD (jp53 K a J ((vX4_kindFits J ((p1).toNatClampNeg) p2 x5).2)) hD
        exact hc43 ((vX4_kindFits J ((p1).toNatClampNeg) p2 x5).2) x4 x5 ((vX4_kindFits J ((p1).toNatClampNeg) p2 x5).1) _ _ _ hV hk hP hD hS (lv_sub hl [0, 1, 2, 3, 4] rfl)
  have hV := vX4_kinds.eq_1 J0 p1 p2
  rw [kX4_kinds] at hk
  refine lv_aload_n hx hb dX4_kinds_0 rfl (lv_at hl 0 rfl) ?_
  refine lv_iload_n hx hb dX4_kinds_1 rfl (lv_at hl 1 rfl) ?_
  refine lv_iload_n hx hb dX4_kinds_2 rfl (lv_at hl 2 rfl) ?_
  obtain ⟨h12, hk⟩ := hk
  refine jci0 (jrunV (As := [.int p1, .int p2]) (rest := []) hx hb hml hown hts hK hZ hA hP hD hS hl.1 mf_X4_lackFor kl_X4_156 ⟨rfl, rfl, Nat.le_of_ble_eq_true rfl, Nat.le_of_ble_eq_true rfl⟩ ⟨Nat.zero_le _, Nat.zero_le _⟩ [0, 1, 2, 3, 4, 5, 6, 7, 8, 9, 10, 11, 12, 13, 14, 15, 16, 17, 18, 19, 20, 21, 22, 23, 24, 25, 26, 27, 28, 29] rfl (js45 K a J0) rfl rfl rfl (hX4_lackFor l D K G a J0 p1 p2 h12 _) rfl rfl (Nat.le_of_ble_eq_true rfl) dX4_kinds_3) hA hP hD hS [0, 1, 2, 3, 4, 5, 6, 7, 8, 9, 10, 11, 12, 13, 14, 15, 16, 17, 18, 19, 20, 21, 22, 23, 24, 25, 26, 27, 28, 29] (js45 K a J0) (fun H locs hP hS => ?_)
  refine lv_istore_n (lv' := [(3, .int (vX4_lackFor J0 p1 p2)), (0, .ref (a 0)), (1, .int p1), (2, .int p2)]) hx hb dX4_kinds_6 rfl hl (by decide) rfl (fun ls hl => ?_)
  refine lv_iload_n hx hb dX4_kinds_7 rfl (lv_at hl 0 rfl) ?_
  refine lv_if_lt (tgt := 17) hx hb dX4_kinds_8 (by decide) (fun c13 => ?_) (fun c13 => ?_)
  · have hV := hV.trans (if_pos c13)
    have hk := hk.1 c13
    refine lv_iconst (v := (0 : Int32)) hx hb dX4_kinds_17 (by decide) ?_
    refine lv_istore (lv' := [(4, .int (0 : Int32)), (3, .int (vX4_lackFor J0 p1 p2)), (0, .ref (a 0)), (1, .int p1), (2, .int p2)]) hx hb dX4_kinds_18 hl (by decide) rfl (fun ls hl => ?_)
    refine lv_iconst (v := (0 : Int32)) hx hb dX4_kinds_20 (by decide) ?_
    refine lv_istore (lv' := [(5, .int (0 : Int32)), (4, .int (0 : Int32)), (3, .int (vX4_lackFor J0 p1 p2)), (0, .ref (a 0)), (1, .int p1), (2, .int p2)]) hx hb dX4_kinds_21 hl (by decide) rfl (fun ls hl => ?_)
    exact hc23 1024 J0 (0 : Int32) (0 : Int32) _ _ _ hV hk hP hD hS (lv_sub hl [3, 4, 5, 1, 0] rfl)
  · have hV := hV.trans (if_neg c13)
    have hk := hk.2 c13
    refine lv_aload_n hx hb dX4_kinds_11 rfl (lv_at hl 1 rfl) ?_
    refine lv_iload_n hx hb dX4_kinds_12 rfl (lv_at hl 0 rfl) ?_
    obtain ⟨h14, hk⟩ := hk
    refine jci (jrunV (As := [.int (vX4_lackFor J0 p1 p2)]) (rest := []) hx hb hml hown hts hK hZ hA hP hD hS hl.1 mf_X4_tell kl_X4_60 ⟨rfl, rfl, Nat.le_of_ble_eq_true rfl, Nat.le_of_ble_eq_true rfl⟩ ⟨Nat.zero_le _, Nat.zero_le _⟩ [0, 1, 2, 3, 4, 5, 6, 7, 8, 9, 10, 11, 12, 13, 14, 15, 16, 17, 18, 19, 20, 21, 22, 23, 24, 25, 26, 27, 28, 29] rfl (js45 K a J0) rfl rfl rfl (hX4_tell l D K G a J0 (vX4_lackFor J0 p1 p2) h14 _) rfl rfl (Nat.le_of_ble_eq_true rfl) dX4_kinds_13) hA hP hD hS [0, 1, 2, 3, 4, 5, 6, 7, 8, 9, 10, 11, 12, 13, 14, 15, 16, 17, 18, 19, 20, 21, 22, 23, 24, 25, 26, 27, 28, 29] (js45 K a J0) (jh52 K a J0 ((vX4_tell J0 (vX4_lackFor J0 p1 p2)).2)) (fun H locs hP hD hS => ?_)
    have hP := jeP (jp53 K a J0 ((vX4_tell J0 (vX4_lackFor J0 p1 p2)).2)) hP
    have hD := jeD (jp53 K a J0 ((vX4_tell J0 (vX4_lackFor J0 p1 p2)).2)) hD
    exact hend _ _ _ _ _ (by rw [hV]; exact hP) (by rw [hV]; exact hD) hS (by rw [hV]) rfl dX4_kinds_16
theorem dX4_listed_0 : decode cX4_listed 0 = .ok (.iload_n 1, 1) := by decide +kernel
theorem dX4_listed_1 : decode cX4_listed 1 = .ok (.invokestatic 67, 3) := by decide +kernel
theorem dX4_listed_4 : decode cX4_listed 4 = .ok (.ifCond .eq 15, 3) := by decide +kernel
theorem dX4_listed_7 : decode cX4_listed 7 = .ok (.aload_n 0, 1) := by decide +kernel
theorem dX4_listed_8 : decode cX4_listed 8 = .ok (.getfield 10, 3) := by decide +kernel
theorem dX4_listed_11 : decode cX4_listed 11 = .ok (.getfield 74, 3) := by decide +kernel
theorem dX4_listed_14 : decode cX4_listed 14 = .ok (.iload_n 1, 1) := by decide +kernel
theorem dX4_listed_15 : decode cX4_listed 15 = .ok (.iaload, 1) := by decide +kernel
theorem dX4_listed_16 : decode cX4_listed 16 = .ok (.goto 8, 3) := by decide +kernel
theorem dX4_listed_19 : decode cX4_listed 19 = .ok (.aload_n 0, 1) := by decide +kernel
theorem dX4_listed_20 : decode cX4_listed 20 = .ok (.iconst 0, 1) := by decide +kernel
theorem dX4_listed_21 : decode cX4_listed 21 = .ok (.invokevirtual 60, 3) := by decide +kernel
theorem dX4_listed_24 : decode cX4_listed 24 = .ok (.ireturn, 1) := by decide +kernel
def rX4_listed : Room := { frames := 2, cells := 0, slots := 0, locals := 43 }
def vX4_listed (J0 : JS) (p1 : Int32) : Int32 × JS := if ((vX4_isPlace p1) = 0) then (((vX4_tell J0 (0 : Int32)).1), ((vX4_tell J0 (0 : Int32)).2)) else (((e_list (j_E J0)) (p1).toNatClampNeg), J0)
def kX4_listed (J0 : JS) (p1 : Int32) : Prop := (kX4_isPlace p1) ∧ (((vX4_isPlace p1) = 0) → ((kX4_tell J0 (0 : Int32)) ∧ True)) ∧ (¬ ((vX4_isPlace p1) = 0) → ((vp_in p1 6) ∧ True))
set_option maxHeartbeats 4000000 in
set_option maxRecDepth 100000 in
theorem hX4_listed (l : Launch) (D : va_G) (K : JK) (G : JG) (a : Nat → Nat) (J0 : JS) (p1 : Int32) (hk : kX4_listed J0 p1) (sz : Nat) : Met l yX4_listed (.code yX4_listed cX4_listed 2 (some .int) :: jGW) rX4_listed (jPre D (jT K) G [.ref (a 0), .int p1] (wJ K a J0) sz) (jQi D (jT K) ((vX4_listed J0 p1).1) (wJ K a ((vX4_listed J0 p1).2)) (va_A (wJ K a J0) sz)) 0 0 (va_A (wJ K a J0) sz) := by
  refine jEi (by decide) (Nat.le_of_ble_eq_true rfl) (fun p e s m below meth c A Q ls hat hP hD hS hl hend => ?_)
  obtain ⟨hx, hb, hml, hown, hts, hK, hZ, hA⟩ := hat
  have hl : lv_has ls 2 [(0, .ref (a 0)), (1, .int p1)] := hl
  have hV := vX4_listed.eq_1 J0 p1
  rw [kX4_listed] at hk
  refine lv_iload_n hx hb dX4_listed_0 rfl (lv_at hl 1 rfl) ?_
  obtain ⟨h5, hk⟩ := hk
  refine jci0 (jrunS (As := [.int p1]) (rest := []) hx hb hml hown hts hK hZ hA hP hD hS hl.1 mf_X4_isPlace kl_X4_67 ⟨rfl, rfl, Nat.le_of_ble_eq_true rfl, Nat.le_of_ble_eq_true rfl⟩ ⟨Nat.zero_le _, Nat.zero_le _⟩ [] rfl rfl (hX4_isPlace l D K G p1 h5 _) rfl rfl (Nat.le_of_ble_eq_true rfl) dX4_listed_1) hA hP hD hS [] rfl (fun H locs hP hS => ?_)
  refine lv_if_eq (tgt := 19) hx hb dX4_listed_4 (by decide) (fun c6 => ?_) (fun c6 => ?_)
  · have hV := hV.trans (if_pos c6)
    have hk := hk.1 c6
    refine lv_aload_n hx hb dX4_listed_19 rfl (lv_at hl 0 rfl) ?_
    refine lv_iconst (v := (0 : Int32)) hx hb dX4_listed_20 (by decide) ?_
    obtain ⟨h7, hk⟩ := hk
    refine jci (jrunV (As := [.int (0 : Int32)]) (rest := []) hx hb hml hown hts hK hZ hA hP hD hS hl.1 mf_X4_tell kl_X4_60 ⟨rfl, rfl, Nat.le_of_ble_eq_true rfl, Nat.le_of_ble_eq_true rfl⟩ ⟨Nat.zero_le _, Nat.zero_le _⟩ [0, 1, 2, 3, 4, 5, 6, 7, 8, 9, 10, 11, 12, 13, 14, 15, 16, 17, 18, 19, 20, 21, 22, 23, 24, 25, 26, 27, 28, 29] rfl (js45 K a J0) rfl rfl rfl (hX4_tell l D K G a J0 (0 : Int32) h7 _) rfl rfl (Nat.le_of_ble_eq_true rfl) dX4_listed_21) hA hP hD hS [0, 1, 2, 3, 4, 5, 6, 7, 8, 9, 10, 11, 12, 13, 14, 15, 16, 17, 18, 19, 20, 21, 22, 23, 24, 25, 26, 27, 28, 29] (js45 K a J0) (jh52 K a J0 ((vX4_tell J0 (0 : Int32)).2)) (fun H locs hP hD hS => ?_)
    have hP := jeP (jp53 K a J0 ((vX4_tell J0 (0 : Int32)).2)) hP
    have hD := jeD (jp53 K a J0 ((vX4_tell J0 (0 : Int32)).2)) hD
    exact hend _ _ _ _ _ (by rw [hV]; exact hP) (by rw [hV]; exact hD) hS (by rw [hV]) rfl dX4_listed_24
  · have hV := hV.trans (if_neg c6)
    have hk := hk.2 c6
    refine lv_aload_n hx hb dX4_listed_7 rfl (lv_at hl 0 rfl) ?_
    refine gf_X4_10 (v := .ref (a 1)) hx hb hts hown hK hZ hP (0) rfl rfl dX4_listed_8 ?_
    refine gf_X4_74 (v := .ref (a 3)) hx hb hts hown hK hZ hP (1) rfl rfl dX4_listed_11 ?_
    refine lv_iload_n hx hb dX4_listed_14 rfl (lv_at hl 1 rfl) ?_
    obtain ⟨h8, hk⟩ := hk
    refine va_iald hx hb hK hP (3) 0 rfl rfl h8 dX4_listed_15 ?_
    refine lv_goto (tgt := 24) hx hb dX4_listed_16 (by decide) ?_
    exact hend _ _ _ _ _ (by rw [hV]; exact hP) (by rw [hV]; exact hD) hS (by rw [hV]) rfl dX4_listed_24
theorem dX4_load_0 : decode cX4_load 0 = .ok (.aload_n 0, 1) := by decide +kernel
theorem dX4_load_1 : decode cX4_load 1 = .ok (.iload_n 1, 1) := by decide +kernel
theorem dX4_load_2 : decode cX4_load 2 = .ok (.invokevirtual 215, 3) := by decide +kernel
theorem dX4_load_5 : decode cX4_load 5 = .ok (.istore_n 2, 1) := by decide +kernel
theorem dX4_load_6 : decode cX4_load 6 = .ok (.iload_n 2, 1) := by decide +kernel
theorem dX4_load_7 : decode cX4_load 7 = .ok (.ifCond .lt 9, 3) := by decide +kernel
theorem dX4_load_10 : decode cX4_load 10 = .ok (.aload_n 0, 1) := by decide +kernel
theorem dX4_load_11 : decode cX4_load 11 = .ok (.iload_n 2, 1) := by decide +kernel
theorem dX4_load_12 : decode cX4_load 12 = .ok (.invokevirtual 60, 3) := by decide +kernel
theorem dX4_load_15 : decode cX4_load 15 = .ok (.ireturn, 1) := by decide +kernel
theorem dX4_load_16 : decode cX4_load 16 = .ok (.aload_n 0, 1) := by decide +kernel
theorem dX4_load_17 : decode cX4_load 17 = .ok (.getfield 31, 3) := by decide +kernel
theorem dX4_load_20 : decode cX4_load 20 = .ok (.iload_n 1, 1) := by decide +kernel
theorem dX4_load_21 : decode cX4_load 21 = .ok (.aaload, 1) := by decide +kernel
theorem dX4_load_22 : decode cX4_load 22 = .ok (.astore_n 3, 1) := by decide +kernel
theorem dX4_load_23 : decode cX4_load 23 = .ok (.aload_n 3, 1) := by decide +kernel
theorem dX4_load_24 : decode cX4_load 24 = .ok (.getfield 212, 3) := by decide +kernel
theorem dX4_load_27 : decode cX4_load 27 = .ok (.aload_n 0, 1) := by decide +kernel
theorem dX4_load_28 : decode cX4_load 28 = .ok (.getfield 10, 3) := by decide +kernel
theorem dX4_load_31 : decode cX4_load 31 = .ok (.getfield 87, 3) := by decide +kernel
theorem dX4_load_34 : decode cX4_load 34 = .ok (.invokestatic 235, 3) := by decide +kernel
theorem dX4_load_37 : decode cX4_load 37 = .ok (.istore 4, 2) := by decide +kernel
theorem dX4_load_39 : decode cX4_load 39 = .ok (.iconst 0, 1) := by decide +kernel
theorem dX4_load_40 : decode cX4_load 40 = .ok (.istore 5, 2) := by decide +kernel
theorem dX4_load_42 : decode cX4_load 42 = .ok (.iload 5, 2) := by decide +kernel
theorem dX4_load_44 : decode cX4_load 44 = .ok (.iload 4, 2) := by decide +kernel
theorem dX4_load_46 : decode cX4_load 46 = .ok (.if_icmp .ge 50, 3) := by decide +kernel
theorem dX4_load_49 : decode cX4_load 49 = .ok (.aload_n 3, 1) := by decide +kernel
theorem dX4_load_50 : decode cX4_load 50 = .ok (.getfield 226, 3) := by decide +kernel
theorem dX4_load_53 : decode cX4_load 53 = .ok (.iload 5, 2) := by decide +kernel
theorem dX4_load_55 : decode cX4_load 55 = .ok (.iaload, 1) := by decide +kernel
theorem dX4_load_56 : decode cX4_load 56 = .ok (.iconst 0, 1) := by decide +kernel
theorem dX4_load_57 : decode cX4_load 57 = .ok (.getstatic 84, 3) := by decide +kernel
theorem dX4_load_60 : decode cX4_load 60 = .ok (.bipush 6, 2) := by decide +kernel
theorem dX4_load_62 : decode cX4_load 62 = .ok (.iaload, 1) := by decide +kernel
theorem dX4_load_63 : decode cX4_load 63 = .ok (.invokestatic 50, 3) := by decide +kernel
theorem dX4_load_66 : decode cX4_load 66 = .ok (.ifCond .ne 6, 3) := by decide +kernel
theorem dX4_load_69 : decode cX4_load 69 = .ok (.iload 5, 2) := by decide +kernel
theorem dX4_load_71 : decode cX4_load 71 = .ok (.ireturn, 1) := by decide +kernel
theorem dX4_load_72 : decode cX4_load 72 = .ok (.aload_n 0, 1) := by decide +kernel
theorem dX4_load_73 : decode cX4_load 73 = .ok (.getfield 10, 3) := by decide +kernel
theorem dX4_load_76 : decode cX4_load 76 = .ok (.iload 5, 2) := by decide +kernel
theorem dX4_load_78 : decode cX4_load 78 = .ok (.bipush 6, 2) := by decide +kernel
theorem dX4_load_80 : decode cX4_load 80 = .ok (.aload_n 3, 1) := by decide +kernel
theorem dX4_load_81 : decode cX4_load 81 = .ok (.getfield 226, 3) := by decide +kernel
theorem dX4_load_84 : decode cX4_load 84 = .ok (.iload 5, 2) := by decide +kernel
theorem dX4_load_86 : decode cX4_load 86 = .ok (.iaload, 1) := by decide +kernel
theorem dX4_load_87 : decode cX4_load 87 = .ok (.invokevirtual 103, 3) := by decide +kernel
theorem dX4_load_90 : decode cX4_load 90 = .ok (.iinc 5 1, 3) := by decide +kernel
theorem dX4_load_93 : decode cX4_load 93 = .ok (.goto (-51), 3) := by decide +kernel
theorem dX4_load_96 : decode cX4_load 96 = .ok (.iload 4, 2) := by decide +kernel
theorem dX4_load_98 : decode cX4_load 98 = .ok (.ireturn, 1) := by decide +kernel
def rX4_load : Room := { frames := 3, cells := 0, slots := 0, locals := 63 }
def vX4_load_c90 (p1 : Int32) (k : JS → Int32 → Int32 → Int32 × JS) (J : JS) (x4 : Int32) (x5 : Int32) : Int32 × JS := (k J x4 (x5 + (1 : Int32)))
def kX4_load_c90 (p1 : Int32) (q : JS → Int32 → Int32 → Prop) (J : JS) (x4 : Int32) (x5 : Int32) : Prop := (q J x4 (x5 + (1 : Int32)))
def vX4_load_c42 (p1 : Int32) : Nat → JS → Int32 → Int32 → Int32 × JS
  | 0, J, x4, x5 => (0, J)
  | n + 1, J, x4, x5 => if (x4 ≤ x5) then (x4, J) else if ((vX4_within ((s_numbers (j_s J (p1).toNatClampNeg)) (x5).toNatClampNeg) (0 : Int32) (jTM.getD ((6 : Int32)).toNatClampNeg 0)) = 0) then (x5, J) else (vX4_load_c90 p1 (fun J x4 x5 => vX4_load_c42 p1 n J x4 x5) (j_s_E J (vX0_put (j_E J) x5 (6 : Int32) ((s_numbers (j_s J (p1).toNatClampNeg)) (x5).toNatClampNeg))) x4 x5)
def kX4_load_c42 (p1 : Int32) : Nat → JS → Int32 → Int32 → Prop
  | 0, _, _, _ => False
  | n + 1, J, x4, x5 => ((x4 ≤ x5) → True) ∧ (¬ (x4 ≤ x5) → (((p1).toNatClampNeg < 4) ∧ (vp_in x5 40) ∧ (((vX4_within ((s_numbers (j_s J (p1).toNatClampNeg)) (x5).toNatClampNeg) (0 : Int32) (jTM.getD ((6 : Int32)).toNatClampNeg 0)) = 0) → True) ∧ (¬ ((vX4_within ((s_numbers (j_s J (p1).toNatClampNeg)) (x5).toNatClampNeg) (0 : Int32) (jTM.getD ((6 : Int32)).toNatClampNeg 0)) = 0) → ((vp_in x5 40) ∧ (kX0_put (j_E J) x5 (6 : Int32) ((s_numbers (j_s J (p1).toNatClampNeg)) (x5).toNatClampNeg)) ∧ (kX4_load_c90 p1 (fun J x4 x5 => kX4_load_c42 p1 n J x4 x5) (j_s_E J (vX0_put (j_E J) x5 (6 : Int32) ((s_numbers (j_s J (p1).toNatClampNeg)) (x5).toNatClampNeg))) x4 x5)))))
def vX4_load (J0 : JS) (p1 : Int32) : Int32 × JS := if ((vX4_lackOf J0 p1) < 0) then (vX4_load_c42 p1 1024 J0 (jmin (s_size (j_s J0 (p1).toNatClampNeg)) (e_things (j_E J0))) (0 : Int32)) else (((vX4_tell J0 (vX4_lackOf J0 p1)).1), ((vX4_tell J0 (vX4_lackOf J0 p1)).2))
def kX4_load (J0 : JS) (p1 : Int32) : Prop := (kX4_lackOf J0 p1) ∧ (((vX4_lackOf J0 p1) < 0) → ((vp_in p1 4) ∧ (kX4_load_c42 p1 1024 J0 (jmin (s_size (j_s J0 (p1).toNatClampNeg)) (e_things (j_E J0))) (0 : Int32)))) ∧ (¬ ((vX4_lackOf J0 p1) < 0) → ((kX4_tell J0 (vX4_lackOf J0 p1)) ∧ True))
set_option maxHeartbeats 4000000 in
set_option maxRecDepth 100000 in
theorem hX4_load (l : Launch) (D : va_G) (K : JK) (G : JG) (a : Nat → Nat) (J0 : JS) (p1 : Int32) (hk : kX4_load J0 p1) (sz : Nat) : Met l yX4_load (.code yX4_load cX4_load 6 (some .int) :: jGW) rX4_load (jPre D (jT K) G [.ref (a 0), .int p1] (wJ K a J0) sz) (jQi D (jT K) ((vX4_load J0 p1).1) (wJ K a ((vX4_load J0 p1).2)) (va_A (wJ K a J0) sz)) 0 0 (va_A (wJ K a J0) sz) := by
  refine jEi (by decide) (Nat.le_of_ble_eq_true rfl) (fun p e s m below meth c A Q ls hat hP hD hS hl hend => ?_)
  obtain ⟨hx, hb, hml, hown, hts, hK, hZ, hA⟩ := hat
  have hl : lv_has ls 6 [(0, .ref (a 0)), (1, .int p1)] := hl
  have hc42 : ∀ (n : Nat) (J : JS) (x4 : Int32) (x5 : Int32) (H : Heap) (locs : List Loc) (ls : Array Slot), (vX4_load J0 p1) = vX4_load_c42 p1 n J x4 x5 → kX4_load_c42 p1 n J x4 x5 → va_P D vwCl (wJ K a J) H → va_D A (wJ K a J) → va_S A s.heap H locs → lv_has ls 6 [(0, .ref (a 0)), (1, .int p1), (3, .ref (a (19 + 2 * (p1).toNatClampNeg))), (4, .int x4), (5, .int x5)] → W p l e rX4_load s m ([.ref (a 0), .int p1] : List Value).toArray below meth c H locs 0 0 Q (F0 m 42 ls []) := by
    intro n
    induction n with
    | zero =>
      intro J x4 x5 H locs ls hV hk hP hD hS hl
      exact False.elim hk
    | succ n ih =>
      have hc90 : ∀ (J : JS) (x4 : Int32) (x5 : Int32) (H : Heap) (locs : List Loc) (ls : Array Slot), (vX4_load J0 p1) = vX4_load_c90 p1 (fun J x4 x5 => vX4_load_c42 p1 n J x4 x5) J x4 x5 → kX4_load_c90 p1 (fun J x4 x5 => kX4_load_c42 p1 n J x4 x5) J x4 x5 → va_P D vwCl (wJ K a J) H → va_D A (wJ K a J) → va_S A s.heap H locs → lv_has ls 6 [(0, .ref (a 0)), (1, .int p1), (3, .ref (a (19 + 2 * (p1).toNatClampNeg))), (4, .int x4), (5, .int x5)] → W p l e rX4_load s m ([.ref (a 0), .int p1] : List Value).toArray below meth c H locs 0 0 Q (F0 m 90 ls []) := by
        intro J x4 x5 H locs ls hV hk hP hD hS hl
        rw [vX4_load_c90] at hV
        rw [kX4_load_c90] at hk
        refine lv_iinc (v := (x5 + (1 : Int32))) (lv' := [(5, .int (x5 + (1 : Int32))), (0, .ref (a 0)), (1, .int p1), (3, .ref (a (19 + 2 * (p1).toNatClampNeg))), (4, .int x4)]) hx hb dX4_load_90 hl (k := 4) rfl rfl (by decide) rfl (fun ls hl => ?_)
        refine lv_goto (tgt := 42) hx hb dX4_load_93 (by decide) ?_
        exact ih J x4 (x5 + (1 : Int32)) _ _ _ hV hk hP hD hS (lv_sub hl [1, 2, 3, 4, 0] rfl)
      intro J x4 x5 H locs ls hV hk hP hD hS hl
      rw [vX4_load_c42] at hV
      rw [kX4_load_c42] at hk
      refine lv_iload hx hb dX4_load_42 (lv_at hl 4 rfl) ?_
      refine lv_iload hx hb dX4_load_44 (lv_at hl 3 rfl) ?_
      refine lv_icmp_ge (tgt := 96) hx hb dX4_load_46 (by decide) (fun c11 => ?_) (fun c11 => ?_)
      · have hV := hV.trans (if_pos c11)
        have hk := hk.1 c11
        refine lv_iload hx hb dX4_load_96 (lv_at hl 3 rfl) ?_
        exact hend _ _ _ _ _ (by rw [hV]; exact hP) (by rw [hV]; exact hD) hS (by rw [hV]) rfl dX4_load_98
      · have hV := hV.trans (if_neg c11)
        have hk := hk.2 c11
        refine lv_aload_n hx hb dX4_load_49 rfl (lv_at hl 2 rfl) ?_
        obtain ⟨h12, hk⟩ := hk
        refine gf_X4_226 (v := .ref (a (20 + 2 * (p1).toNatClampNeg))) hx hb hts hown hK hZ hP (19 + 2 * (p1).toNatClampNeg) (wJ_sh D K _ _ (h12)) rfl dX4_load_50 ?_
        refine lv_iload hx hb dX4_load_53 (lv_at hl 4 rfl) ?_
        obtain ⟨h13, hk⟩ := hk
        refine va_iald hx hb hK hP (20 + 2 * (p1).toNatClampNeg) 0 (wJ_sn D K _ _ (h12)) rfl h13 dX4_load_55 ?_
        refine lv_iconst (v := (0 : Int32)) hx hb dX4_load_56 (by decide) ?_
        refine gs_X4_84 hx hb hts hown hZ hS dX4_load_57 ?_
        refine lv_bipush (v := (6 : Int32)) hx hb dX4_load_60 (by decide) ?_
        refine va_ti (v := .int (jTM.getD ((6 : Int32)).toNatClampNeg 0)) hx hb (hZ.1 3 _ rfl).2 hS (by unfold vp_in; decide) rfl dX4_load_62 ?_
        refine jci0 (jrunS (As := [.int ((s_numbers (j_s J (p1).toNatClampNeg)) (x5).toNatClampNeg), .int (0 : Int32), .int (jTM.getD ((6 : Int32)).toNatClampNeg 0)]) (rest := []) hx hb hml hown hts hK hZ hA hP hD hS hl.1 mf_X4_within kl_X4_50 ⟨rfl, rfl, Nat.le_of_ble_eq_true rfl, Nat.le_of_ble_eq_true rfl⟩ ⟨Nat.zero_le _, Nat.zero_le _⟩ [] rfl rfl (hX4_within l D K G ((s_numbers (j_s J (p1).toNatClampNeg)) (x5).toNatClampNeg) (0 : Int32) (jTM.getD ((6 : Int32)).toNatClampNeg 0) _) rfl rfl (Nat.le_of_ble_eq_true rfl) dX4_load_63) hA hP hD hS [] rfl (fun H locs hP hS => ?_)
        refine lv_if_ne (tgt := 72) hx hb dX4_load_66 (by decide) (fun c14 => ?_) (fun c14 => ?_)
        · have hV := hV.trans (if_neg c14)
          have hk := hk.2 c14
          refine lv_aload_n hx hb dX4_load_72 rfl (lv_at hl 0 rfl) ?_
          refine gf_X4_10 (v := .ref (a 1)) hx hb hts hown hK hZ hP (0) rfl rfl dX4_load_73 ?_
          refine lv_iload hx hb dX4_load_76 (lv_at hl 4 rfl) ?_
          refine lv_bipush (v := (6 : Int32)) hx hb dX4_load_78 (by decide) ?_
          refine lv_aload_n hx hb dX4_load_80 rfl (lv_at hl 2 rfl) ?_
          refine gf_X4_226 (v := .ref (a (20 + 2 * (p1).toNatClampNeg))) hx hb hts hown hK hZ hP (19 + 2 * (p1).toNatClampNeg) (wJ_sh D K _ _ (h12)) rfl dX4_load_81 ?_
          refine lv_iload hx hb dX4_load_84 (lv_at hl 4 rfl) ?_
          obtain ⟨h15, hk⟩ := hk
          refine va_iald hx hb hK hP (20 + 2 * (p1).toNatClampNeg) 0 (wJ_sn D K _ _ (h12)) rfl h15 dX4_load_86 ?_
          obtain ⟨h16, hk⟩ := hk
          refine jcv (jrunV (As := [.int x5, .int (6 : Int32), .int ((s_numbers (j_s J (p1).toNatClampNeg)) (x5).toNatClampNeg)]) (rest := []) hx hb hml hown hts hK hZ hA hP hD hS hl.1 mf_X0_put kl_X4_103 ⟨rfl, rfl, Nat.le_of_ble_eq_true rfl, Nat.le_of_ble_eq_true rfl⟩ ⟨Nat.zero_le _, Nat.zero_le _⟩ [1, 2, 3, 4, 5] rfl (js43 K a J) rfl rfl rfl (hX0_put l D K G (fun k => a (1 + k)) (j_E J) x5 (6 : Int32) ((s_numbers (j_s J (p1).toNatClampNeg)) (x5).toNatClampNeg) h16 _) rfl rfl (Nat.le_of_ble_eq_true rfl) dX4_load_87) hA hP hD hS [1, 2, 3, 4, 5] (js43 K a J) (jh55 K a J (vX0_put (j_E J) x5 (6 : Int32) ((s_numbers (j_s J (p1).toNatClampNeg)) (x5).toNatClampNeg))) (fun H locs hP hD hS => ?_)
          have hP := jeP (jp56 K a J (vX0_put (j_E J) x5 (6 : Int32) ((s_numbers (j_s J (p1).toNatClampNeg)) (x5).toNatClampNeg))) hP
          have hD := jeD (jp56 K a J (vX0_put (j_E J) x5 (6 : Int32) ((s_numbers (j_s J (p1).toNatClampNeg)) (x5).toNatClampNeg))) hD
          exact hc90 (j_s_E J (vX0_put (j_E J) x5 (6 : Int32) ((s_numbers (j_s J (p1).toNatClampNeg)) (x5).toNatClampNeg))) x4 x5 _ _ _ hV hk hP hD hS (lv_sub hl [0, 1, 2, 3, 4] rfl)
        · have hV := hV.trans (if_pos c14)
          have hk := hk.1 c14
          refine lv_iload hx hb dX4_load_69 (lv_at hl 4 rfl) ?_
          exact hend _ _ _ _ _ (by rw [hV]; exact hP) (by rw [hV]; exact hD) hS (by rw [hV]) rfl dX4_load_71
  have hV := vX4_load.eq_1 J0 p1
  rw [kX4_load] at hk
  refine lv_aload_n hx hb dX4_load_0 rfl (lv_at hl 0 rfl) ?_
  refine lv_iload_n hx hb dX4_load_1 rfl (lv_at hl 1 rfl) ?_
  obtain ⟨h17, hk⟩ := hk
  refine jci0 (jrunV (As := [.int p1]) (rest := []) hx hb hml hown hts hK hZ hA hP hD hS hl.1 mf_X4_lackOf kl_X4_215 ⟨rfl, rfl, Nat.le_of_ble_eq_true rfl, Nat.le_of_ble_eq_true rfl⟩ ⟨Nat.zero_le _, Nat.zero_le _⟩ [0, 1, 2, 3, 4, 5, 6, 7, 8, 9, 10, 11, 12, 13, 14, 15, 16, 17, 18, 19, 20, 21, 22, 23, 24, 25, 26, 27, 28, 29] rfl (js45 K a J0) rfl rfl rfl (hX4_lackOf l D K G a J0 p1 h17 _) rfl rfl (Nat.le_of_ble_eq_true rfl) dX4_load_2) hA hP hD hS [0, 1, 2, 3, 4, 5, 6, 7, 8, 9, 10, 11, 12, 13, 14, 15, 16, 17, 18, 19, 20, 21, 22, 23, 24, 25, 26, 27, 28, 29] (js45 K a J0) (fun H locs hP hS => ?_)
  refine lv_istore_n (lv' := [(2, .int (vX4_lackOf J0 p1)), (0, .ref (a 0)), (1, .int p1)]) hx hb dX4_load_5 rfl hl (by decide) rfl (fun ls hl => ?_)
  refine lv_iload_n hx hb dX4_load_6 rfl (lv_at hl 0 rfl) ?_
  refine lv_if_lt (tgt := 16) hx hb dX4_load_7 (by decide) (fun c18 => ?_) (fun c18 => ?_)
  · have hV := hV.trans (if_pos c18)
    have hk := hk.1 c18
    refine lv_aload_n hx hb dX4_load_16 rfl (lv_at hl 1 rfl) ?_
    refine gf_X4_31 (v := .ref (a 18)) hx hb hts hown hK hZ hP (0) rfl rfl dX4_load_17 ?_
    refine lv_iload_n hx hb dX4_load_20 rfl (lv_at hl 2 rfl) ?_
    obtain ⟨h19, hk⟩ := hk
    refine j_aald hx hb hK hP h19 dX4_load_21 ?_
    refine lv_astore_n (lv' := [(3, .ref (a (19 + 2 * (p1).toNatClampNeg))), (2, .int (vX4_lackOf J0 p1)), (0, .ref (a 0)), (1, .int p1)]) hx hb dX4_load_22 rfl hl (by decide) rfl (fun ls hl => ?_)
    refine lv_aload_n hx hb dX4_load_23 rfl (lv_at hl 0 rfl) ?_
    refine gf_X4_212 (v := .int (s_size (j_s J0 (p1).toNatClampNeg))) hx hb hts hown hK hZ hP (19 + 2 * (p1).toNatClampNeg) (wJ_sh D K _ _ ((jlt4 h19))) rfl dX4_load_24 ?_
    refine lv_aload_n hx hb dX4_load_27 rfl (lv_at hl 2 rfl) ?_
    refine gf_X4_10 (v := .ref (a 1)) hx hb hts hown hK hZ hP (0) rfl rfl dX4_load_28 ?_
    refine gf_X4_87 (v := .int (e_things (j_E J0))) hx hb hts hown hK hZ hP (1) rfl rfl dX4_load_31 ?_
    refine mmin_X4_235 hx hb (hml.trans hl.1.symm) hts hown (Nat.le_of_ble_eq_true rfl) (Nat.le_of_ble_eq_true rfl) (Nat.zero_le _) (Nat.zero_le _) dX4_load_34 ?_
    refine lv_istore (lv' := [(4, .int (jmin (s_size (j_s J0 (p1).toNatClampNeg)) (e_things (j_E J0)))), (3, .ref (a (19 + 2 * (p1).toNatClampNeg))), (2, .int (vX4_lackOf J0 p1)), (0, .ref (a 0)), (1, .int p1)]) hx hb dX4_load_37 hl (by decide) rfl (fun ls hl => ?_)
    refine lv_iconst (v := (0 : Int32)) hx hb dX4_load_39 (by decide) ?_
    refine lv_istore (lv' := [(5, .int (0 : Int32)), (4, .int (jmin (s_size (j_s J0 (p1).toNatClampNeg)) (e_things (j_E J0)))), (3, .ref (a (19 + 2 * (p1).toNatClampNeg))), (2, .int (vX4_lackOf J0 p1)), (0, .ref (a 0)), (1, .int p1)]) hx hb dX4_load_40 hl (by decide) rfl (fun ls hl => ?_)
    exact hc42 1024 J0 (jmin (s_size (j_s J0 (p1).toNatClampNeg)) (e_things (j_E J0))) (0 : Int32) _ _ _ hV hk hP hD hS (lv_sub hl [4, 5, 2, 1, 0] rfl)
  · have hV := hV.trans (if_neg c18)
    have hk := hk.2 c18
    refine lv_aload_n hx hb dX4_load_10 rfl (lv_at hl 1 rfl) ?_
    refine lv_iload_n hx hb dX4_load_11 rfl (lv_at hl 0 rfl) ?_
    obtain ⟨h20, hk⟩ := hk
    refine jci (jrunV (As := [.int (vX4_lackOf J0 p1)]) (rest := []) hx hb hml hown hts hK hZ hA hP hD hS hl.1 mf_X4_tell kl_X4_60 ⟨rfl, rfl, Nat.le_of_ble_eq_true rfl, Nat.le_of_ble_eq_true rfl⟩ ⟨Nat.zero_le _, Nat.zero_le _⟩ [0, 1, 2, 3, 4, 5, 6, 7, 8, 9, 10, 11, 12, 13, 14, 15, 16, 17, 18, 19, 20, 21, 22, 23, 24, 25, 26, 27, 28, 29] rfl (js45 K a J0) rfl rfl rfl (hX4_tell l D K G a J0 (vX4_lackOf J0 p1) h20 _) rfl rfl (Nat.le_of_ble_eq_true rfl) dX4_load_12) hA hP hD hS [0, 1, 2, 3, 4, 5, 6, 7, 8, 9, 10, 11, 12, 13, 14, 15, 16, 17, 18, 19, 20, 21, 22, 23, 24, 25, 26, 27, 28, 29] (js45 K a J0) (jh52 K a J0 ((vX4_tell J0 (vX4_lackOf J0 p1)).2)) (fun H locs hP hD hS => ?_)
    have hP := jeP (jp53 K a J0 ((vX4_tell J0 (vX4_lackOf J0 p1)).2)) hP
    have hD := jeD (jp53 K a J0 ((vX4_tell J0 (vX4_lackOf J0 p1)).2)) hD
    exact hend _ _ _ _ _ (by rw [hV]; exact hP) (by rw [hV]; exact hD) hS (by rw [hV]) rfl dX4_load_15
theorem dX4_month_0 : decode cX4_month 0 = .ok (.iload_n 1, 1) := by decide +kernel
theorem dX4_month_1 : decode cX4_month 1 = .ok (.iconst 1, 1) := by decide +kernel
theorem dX4_month_2 : decode cX4_month 2 = .ok (.bipush 20, 2) := by decide +kernel
theorem dX4_month_4 : decode cX4_month 4 = .ok (.invokestatic 50, 3) := by decide +kernel
theorem dX4_month_7 : decode cX4_month 7 = .ok (.ifCond .ne 9, 3) := by decide +kernel
theorem dX4_month_10 : decode cX4_month 10 = .ok (.aload_n 0, 1) := by decide +kernel
theorem dX4_month_11 : decode cX4_month 11 = .ok (.iconst 0, 1) := by decide +kernel
theorem dX4_month_12 : decode cX4_month 12 = .ok (.invokevirtual 60, 3) := by decide +kernel
theorem dX4_month_15 : decode cX4_month 15 = .ok (.ireturn, 1) := by decide +kernel
theorem dX4_month_16 : decode cX4_month 16 = .ok (.aload_n 0, 1) := by decide +kernel
theorem dX4_month_17 : decode cX4_month 17 = .ok (.getfield 10, 3) := by decide +kernel
theorem dX4_month_20 : decode cX4_month 20 = .ok (.getfield 110, 3) := by decide +kernel
theorem dX4_month_23 : decode cX4_month 23 = .ok (.iload_n 1, 1) := by decide +kernel
theorem dX4_month_24 : decode cX4_month 24 = .ok (.iadd, 1) := by decide +kernel
theorem dX4_month_25 : decode cX4_month 25 = .ok (.ldc 113, 2) := by decide +kernel
theorem dX4_month_27 : decode cX4_month 27 = .ok (.if_icmp .le 9, 3) := by decide +kernel
theorem dX4_month_30 : decode cX4_month 30 = .ok (.aload_n 0, 1) := by decide +kernel
theorem dX4_month_31 : decode cX4_month 31 = .ok (.iconst 4, 1) := by decide +kernel
theorem dX4_month_32 : decode cX4_month 32 = .ok (.invokevirtual 60, 3) := by decide +kernel
theorem dX4_month_35 : decode cX4_month 35 = .ok (.ireturn, 1) := by decide +kernel
theorem dX4_month_36 : decode cX4_month 36 = .ok (.iconst 0, 1) := by decide +kernel
theorem dX4_month_37 : decode cX4_month 37 = .ok (.istore_n 2, 1) := by decide +kernel
theorem dX4_month_38 : decode cX4_month 38 = .ok (.iload_n 2, 1) := by decide +kernel
theorem dX4_month_39 : decode cX4_month 39 = .ok (.iload_n 1, 1) := by decide +kernel
theorem dX4_month_40 : decode cX4_month 40 = .ok (.if_icmp .ge 63, 3) := by decide +kernel
theorem dX4_month_43 : decode cX4_month 43 = .ok (.aload_n 0, 1) := by decide +kernel
theorem dX4_month_44 : decode cX4_month 44 = .ok (.getfield 10, 3) := by decide +kernel
theorem dX4_month_47 : decode cX4_month 47 = .ok (.invokevirtual 169, 3) := by decide +kernel
theorem dX4_month_50 : decode cX4_month 50 = .ok (.bipush 8, 2) := by decide +kernel
theorem dX4_month_52 : decode cX4_month 52 = .ok (.irem, 1) := by decide +kernel
theorem dX4_month_53 : decode cX4_month 53 = .ok (.istore_n 3, 1) := by decide +kernel
theorem dX4_month_54 : decode cX4_month 54 = .ok (.aload_n 0, 1) := by decide +kernel
theorem dX4_month_55 : decode cX4_month 55 = .ok (.getfield 10, 3) := by decide +kernel
theorem dX4_month_58 : decode cX4_month 58 = .ok (.invokevirtual 169, 3) := by decide +kernel
theorem dX4_month_61 : decode cX4_month 61 = .ok (.bipush 10, 2) := by decide +kernel
theorem dX4_month_63 : decode cX4_month 63 = .ok (.irem, 1) := by decide +kernel
theorem dX4_month_64 : decode cX4_month 64 = .ok (.istore 4, 2) := by decide +kernel
theorem dX4_month_66 : decode cX4_month 66 = .ok (.aload_n 0, 1) := by decide +kernel
theorem dX4_month_67 : decode cX4_month 67 = .ok (.getfield 10, 3) := by decide +kernel
theorem dX4_month_70 : decode cX4_month 70 = .ok (.getfield 74, 3) := by decide +kernel
theorem dX4_month_73 : decode cX4_month 73 = .ok (.aload_n 0, 1) := by decide +kernel
theorem dX4_month_74 : decode cX4_month 74 = .ok (.getfield 10, 3) := by decide +kernel
theorem dX4_month_77 : decode cX4_month 77 = .ok (.getfield 110, 3) := by decide +kernel
theorem dX4_month_80 : decode cX4_month 80 = .ok (.bipush 6, 2) := by decide +kernel
theorem dX4_month_82 : decode cX4_month 82 = .ok (.irem, 1) := by decide +kernel
theorem dX4_month_83 : decode cX4_month 83 = .ok (.iload_n 3, 1) := by decide +kernel
theorem dX4_month_84 : decode cX4_month 84 = .ok (.iload 4, 2) := by decide +kernel
theorem dX4_month_86 : decode cX4_month 86 = .ok (.invokestatic 77, 3) := by decide +kernel
theorem dX4_month_89 : decode cX4_month 89 = .ok (.iastore, 1) := by decide +kernel
theorem dX4_month_90 : decode cX4_month 90 = .ok (.aload_n 0, 1) := by decide +kernel
theorem dX4_month_91 : decode cX4_month 91 = .ok (.getfield 10, 3) := by decide +kernel
theorem dX4_month_94 : decode cX4_month 94 = .ok (.invokevirtual 139, 3) := by decide +kernel
theorem dX4_month_97 : decode cX4_month 97 = .ok (.iinc 2 1, 3) := by decide +kernel
theorem dX4_month_100 : decode cX4_month 100 = .ok (.goto (-62), 3) := by decide +kernel
theorem dX4_month_103 : decode cX4_month 103 = .ok (.aload_n 0, 1) := by decide +kernel
theorem dX4_month_104 : decode cX4_month 104 = .ok (.getfield 10, 3) := by decide +kernel
theorem dX4_month_107 : decode cX4_month 107 = .ok (.invokevirtual 118, 3) := by decide +kernel
theorem dX4_month_110 : decode cX4_month 110 = .ok (.ireturn, 1) := by decide +kernel
def rX4_month : Room := { frames := 5, cells := 0, slots := 0, locals := 108 }
def vX4_month_c97 (p1 : Int32) (k : JS → Int32 → Int32 × JS) (J : JS) (x2 : Int32) : Int32 × JS := (k J (x2 + (1 : Int32)))
def kX4_month_c97 (p1 : Int32) (q : JS → Int32 → Prop) (J : JS) (x2 : Int32) : Prop := (q J (x2 + (1 : Int32)))
def vX4_month_c90 (p1 : Int32) (k : JS → Int32 → Int32 × JS) (J : JS) (x2 : Int32) : Int32 × JS := (vX4_month_c97 p1 k (j_s_E J (vX0_passDay (j_E J))) x2)
def kX4_month_c90 (p1 : Int32) (q : JS → Int32 → Prop) (J : JS) (x2 : Int32) : Prop := (kX0_passDay (j_E J)) ∧ (kX4_month_c97 p1 q (j_s_E J (vX0_passDay (j_E J))) x2)
def vX4_month_c61 (p1 : Int32) (k : JS → Int32 → Int32 × JS) (J : JS) (x2 : Int32) (x3 : Int32) (y0 : Int32) : Int32 × JS := (vX4_month_c90 p1 k (j_s_E J (e_s_list (j_E J) (upd (e_list (j_E J)) ((jrem (e_day (j_E J)) (6 : Int32))).toNatClampNeg (vX4_blowOf x3 (jrem y0 (10 : Int32)))))) x2)
def kX4_month_c61 (p1 : Int32) (q : JS → Int32 → Prop) (J : JS) (x2 : Int32) (x3 : Int32) (y0 : Int32) : Prop := (vp_in (jrem (e_day (j_E J)) (6 : Int32)) 6) ∧ (kX4_month_c90 p1 q (j_s_E J (e_s_list (j_E J) (upd (e_list (j_E J)) ((jrem (e_day (j_E J)) (6 : Int32))).toNatClampNeg (vX4_blowOf x3 (jrem y0 (10 : Int32)))))) x2)
def vX4_month_c50 (p1 : Int32) (k : JS → Int32 → Int32 × JS) (J : JS) (x2 : Int32) (y0 : Int32) : Int32 × JS := (vX4_month_c61 p1 k (j_s_E J ((vX0_draw (j_E J)).2)) x2 (jrem y0 (8 : Int32)) ((vX0_draw (j_E J)).1))
def kX4_month_c50 (p1 : Int32) (q : JS → Int32 → Prop) (J : JS) (x2 : Int32) (y0 : Int32) : Prop := (kX4_month_c61 p1 q (j_s_E J ((vX0_draw (j_E J)).2)) x2 (jrem y0 (8 : Int32)) ((vX0_draw (j_E J)).1))
def vX4_month_c38 (p1 : Int32) : Nat → JS → Int32 → Int32 × JS
  | 0, J, x2 => (0, J)
  | n + 1, J, x2 => if (p1 ≤ x2) then ((vX0_awarded (j_E J)), J) else (vX4_month_c50 p1 (fun J x2 => vX4_month_c38 p1 n J x2) (j_s_E J ((vX0_draw (j_E J)).2)) x2 ((vX0_draw (j_E J)).1))
def kX4_month_c38 (p1 : Int32) : Nat → JS → Int32 → Prop
  | 0, _, _ => False
  | n + 1, J, x2 => ((p1 ≤ x2) → ((kX0_awarded (j_E J)) ∧ True)) ∧ (¬ (p1 ≤ x2) → ((kX4_month_c50 p1 (fun J x2 => kX4_month_c38 p1 n J x2) (j_s_E J ((vX0_draw (j_E J)).2)) x2 ((vX0_draw (j_E J)).1))))
def vX4_month (J0 : JS) (p1 : Int32) : Int32 × JS := if ((vX4_within p1 (1 : Int32) (20 : Int32)) = 0) then (((vX4_tell J0 (0 : Int32)).1), ((vX4_tell J0 (0 : Int32)).2)) else if (((e_day (j_E J0)) + p1) ≤ (99999 : Int32)) then (vX4_month_c38 p1 1024 J0 (0 : Int32)) else (((vX4_tell J0 (4 : Int32)).1), ((vX4_tell J0 (4 : Int32)).2))
def kX4_month (J0 : JS) (p1 : Int32) : Prop := (((vX4_within p1 (1 : Int32) (20 : Int32)) = 0) → ((kX4_tell J0 (0 : Int32)) ∧ True)) ∧ (¬ ((vX4_within p1 (1 : Int32) (20 : Int32)) = 0) → (((((e_day (j_E J0)) + p1) ≤ (99999 : Int32)) → ((kX4_month_c38 p1 1024 J0 (0 : Int32)))) ∧ (¬ (((e_day (j_E J0)) + p1) ≤ (99999 : Int32)) → ((kX4_tell J0 (4 : Int32)) ∧ True))))
set_option maxHeartbeats 4000000 in
set_option maxRecDepth 100000 in
theorem hX4_month (l : Launch) (D : va_G) (K : JK) (G : JG) (a : Nat → Nat) (J0 : JS) (p1 : Int32) (hk : kX4_month J0 p1) (sz : Nat) : Met l yX4_month (.code yX4_month cX4_month 5 (some .int) :: jGW) rX4_month (jPre D (jT K) G [.ref (a 0), .int p1] (wJ K a J0) sz) (jQi D (jT K) ((vX4_month J0 p1).1) (wJ K a ((vX4_month J0 p1).2)) (va_A (wJ K a J0) sz)) 0 0 (va_A (wJ K a J0) sz) := by
  refine jEi (by decide) (Nat.le_of_ble_eq_true rfl) (fun p e s m below meth c A Q ls hat hP hD hS hl hend => ?_)
  obtain ⟨hx, hb, hml, hown, hts, hK, hZ, hA⟩ := hat
  have hl : lv_has ls 5 [(0, .ref (a 0)), (1, .int p1)] := hl
  have hc38 : ∀ (n : Nat) (J : JS) (x2 : Int32) (H : Heap) (locs : List Loc) (ls : Array Slot), (vX4_month J0 p1) = vX4_month_c38 p1 n J x2 → kX4_month_c38 p1 n J x2 → va_P D vwCl (wJ K a J) H → va_D A (wJ K a J) → va_S A s.heap H locs → lv_has ls 5 [(0, .ref (a 0)), (1, .int p1), (2, .int x2)] → W p l e rX4_month s m ([.ref (a 0), .int p1] : List Value).toArray below meth c H locs 0 0 Q (F0 m 38 ls []) := by
    intro n
    induction n with
    | zero =>
      intro J x2 H locs ls hV hk hP hD hS hl
      exact False.elim hk
    | succ n ih =>
      have hc97 : ∀ (J : JS) (x2 : Int32) (H : Heap) (locs : List Loc) (ls : Array Slot), (vX4_month J0 p1) = vX4_month_c97 p1 (fun J x2 => vX4_month_c38 p1 n J x2) J x2 → kX4_month_c97 p1 (fun J x2 => kX4_month_c38 p1 n J x2) J x2 → va_P D vwCl (wJ K a J) H → va_D A (wJ K a J) → va_S A s.heap H locs → lv_has ls 5 [(0, .ref (a 0)), (1, .int p1), (2, .int x2)] → W p l e rX4_month s m ([.ref (a 0), .int p1] : List Value).toArray below meth c H locs 0 0 Q (F0 m 97 ls []) := by
        intro J x2 H locs ls hV hk hP hD hS hl
        rw [vX4_month_c97] at hV
        rw [kX4_month_c97] at hk
        refine lv_iinc (v := (x2 + (1 : Int32))) (lv' := [(2, .int (x2 + (1 : Int32))), (0, .ref (a 0)), (1, .int p1)]) hx hb dX4_month_97 hl (k := 2) rfl rfl (by decide) rfl (fun ls hl => ?_)
        refine lv_goto (tgt := 38) hx hb dX4_month_100 (by decide) ?_
        exact ih J (x2 + (1 : Int32)) _ _ _ hV hk hP hD hS (lv_sub hl [1, 2, 0] rfl)
      have hc90 : ∀ (J : JS) (x2 : Int32) (H : Heap) (locs : List Loc) (ls : Array Slot), (vX4_month J0 p1) = vX4_month_c90 p1 (fun J x2 => vX4_month_c38 p1 n J x2) J x2 → kX4_month_c90 p1 (fun J x2 => kX4_month_c38 p1 n J x2) J x2 → va_P D vwCl (wJ K a J) H → va_D A (wJ K a J) → va_S A s.heap H locs → lv_has ls 5 [(0, .ref (a 0)), (1, .int p1), (2, .int x2)] → W p l e rX4_month s m ([.ref (a 0), .int p1] : List Value).toArray below meth c H locs 0 0 Q (F0 m 90 ls []) := by
        intro J x2 H locs ls hV hk hP hD hS hl
        rw [vX4_month_c90] at hV
        rw [kX4_month_c90] at hk
        refine lv_aload_n hx hb dX4_month_90 rfl (lv_at hl 0 rfl) ?_
        refine gf_X4_10 (v := .ref (a 1)) hx hb hts hown hK hZ hP (0) rfl rfl dX4_month_91 ?_
        obtain ⟨h9, hk⟩ := hk
        refine jcv (jrunV (As := []) (rest := []) hx hb hml hown hts hK hZ hA hP hD hS hl.1 mf_X0_passDay kl_X4_139 ⟨rfl, rfl, Nat.le_of_ble_eq_true rfl, Nat.le_of_ble_eq_true rfl⟩ ⟨Nat.zero_le _, Nat.zero_le _⟩ [1, 2, 3, 4, 5] rfl (js43 K a J) rfl rfl rfl (hX0_passDay l D K G (fun k => a (1 + k)) (j_E J) h9 _) rfl rfl (Nat.le_of_ble_eq_true rfl) dX4_month_94) hA hP hD hS [1, 2, 3, 4, 5] (js43 K a J) (jh55 K a J (vX0_passDay (j_E J))) (fun H locs hP hD hS => ?_)
        have hP := jeP (jp56 K a J (vX0_passDay (j_E J))) hP
        have hD := jeD (jp56 K a J (vX0_passDay (j_E J))) hD
        exact hc97 (j_s_E J (vX0_passDay (j_E J))) x2 _ _ _ hV hk hP hD hS (lv_sub hl [0, 1, 2] rfl)
      have hc61 : ∀ (J : JS) (x2 : Int32) (x3 : Int32) (y0 : Int32) (H : Heap) (locs : List Loc) (ls : Array Slot), (vX4_month J0 p1) = vX4_month_c61 p1 (fun J x2 => vX4_month_c38 p1 n J x2) J x2 x3 y0 → kX4_month_c61 p1 (fun J x2 => kX4_month_c38 p1 n J x2) J x2 x3 y0 → va_P D vwCl (wJ K a J) H → va_D A (wJ K a J) → va_S A s.heap H locs → lv_has ls 5 [(0, .ref (a 0)), (1, .int p1), (2, .int x2), (3, .int x3)] → W p l e rX4_month s m ([.ref (a 0), .int p1] : List Value).toArray below meth c H locs 0 0 Q (F0 m 61 ls [.int y0]) := by
        intro J x2 x3 y0 H locs ls hV hk hP hD hS hl
        rw [vX4_month_c61] at hV
        rw [kX4_month_c61] at hk
        refine lv_bipush (v := (10 : Int32)) hx hb dX4_month_61 (by decide) ?_
        refine j_irem hx hb dX4_month_63 (by decide) ?_
        refine lv_istore (lv' := [(4, .int (jrem y0 (10 : Int32))), (0, .ref (a 0)), (1, .int p1), (2, .int x2), (3, .int x3)]) hx hb dX4_month_64 hl (by decide) rfl (fun ls hl => ?_)
        refine lv_aload_n hx hb dX4_month_66 rfl (lv_at hl 1 rfl) ?_
        refine gf_X4_10 (v := .ref (a 1)) hx hb hts hown hK hZ hP (0) rfl rfl dX4_month_67 ?_
        refine gf_X4_74 (v := .ref (a 3)) hx hb hts hown hK hZ hP (1) rfl rfl dX4_month_70 ?_
        refine lv_aload_n hx hb dX4_month_73 rfl (lv_at hl 1 rfl) ?_
        refine gf_X4_10 (v := .ref (a 1)) hx hb hts hown hK hZ hP (0) rfl rfl dX4_month_74 ?_
        refine gf_X4_110 (v := .int (e_day (j_E J))) hx hb hts hown hK hZ hP (1) rfl rfl dX4_month_77 ?_
        refine lv_bipush (v := (6 : Int32)) hx hb dX4_month_80 (by decide) ?_
        refine j_irem hx hb dX4_month_82 (by decide) ?_
        refine lv_iload_n hx hb dX4_month_83 rfl (lv_at hl 4 rfl) ?_
        refine lv_iload hx hb dX4_month_84 (lv_at hl 0 rfl) ?_
        refine jci0 (jrunS (As := [.int x3, .int (jrem y0 (10 : Int32))]) (rest := [.int (jrem (e_day (j_E J)) (6 : Int32)), .ref (a 3)]) hx hb hml hown hts hK hZ hA hP hD hS hl.1 mf_X4_blowOf kl_X4_77 ⟨rfl, rfl, Nat.le_of_ble_eq_true rfl, Nat.le_of_ble_eq_true rfl⟩ ⟨Nat.zero_le _, Nat.zero_le _⟩ [] rfl rfl (hX4_blowOf l D K G x3 (jrem y0 (10 : Int32)) _) rfl rfl (Nat.le_of_ble_eq_true rfl) dX4_month_86) hA hP hD hS [] rfl (fun H locs hP hS => ?_)
        obtain ⟨h10, hk⟩ := hk
        refine va_iast hx hb hK hP hD hS (3) 0 rfl rfl h10 dX4_month_89 (fun H locs hP hD hS => ?_)
        have hP := jeP (ja54 K a J (upd (e_list (j_E J)) ((jrem (e_day (j_E J)) (6 : Int32))).toNatClampNeg (vX4_blowOf x3 (jrem y0 (10 : Int32))))) hP
        have hD := jeD (ja54 K a J (upd (e_list (j_E J)) ((jrem (e_day (j_E J)) (6 : Int32))).toNatClampNeg (vX4_blowOf x3 (jrem y0 (10 : Int32))))) hD
        exact hc90 (j_s_E J (e_s_list (j_E J) (upd (e_list (j_E J)) ((jrem (e_day (j_E J)) (6 : Int32))).toNatClampNeg (vX4_blowOf x3 (jrem y0 (10 : Int32)))))) x2 _ _ _ hV hk hP hD hS (lv_sub hl [1, 2, 3] rfl)
      have hc50 : ∀ (J : JS) (x2 : Int32) (y0 : Int32) (H : Heap) (locs : List Loc) (ls : Array Slot), (vX4_month J0 p1) = vX4_month_c50 p1 (fun J x2 => vX4_month_c38 p1 n J x2) J x2 y0 → kX4_month_c50 p1 (fun J x2 => kX4_month_c38 p1 n J x2) J x2 y0 → va_P D vwCl (wJ K a J) H → va_D A (wJ K a J) → va_S A s.heap H locs → lv_has ls 5 [(0, .ref (a 0)), (1, .int p1), (2, .int x2)] → W p l e rX4_month s m ([.ref (a 0), .int p1] : List Value).toArray below meth c H locs 0 0 Q (F0 m 50 ls [.int y0]) := by
        intro J x2 y0 H locs ls hV hk hP hD hS hl
        rw [vX4_month_c50] at hV
        rw [kX4_month_c50] at hk
        refine lv_bipush (v := (8 : Int32)) hx hb dX4_month_50 (by decide) ?_
        refine j_irem hx hb dX4_month_52 (by decide) ?_
        refine lv_istore_n (lv' := [(3, .int (jrem y0 (8 : Int32))), (0, .ref (a 0)), (1, .int p1), (2, .int x2)]) hx hb dX4_month_53 rfl hl (by decide) rfl (fun ls hl => ?_)
        refine lv_aload_n hx hb dX4_month_54 rfl (lv_at hl 1 rfl) ?_
        refine gf_X4_10 (v := .ref (a 1)) hx hb hts hown hK hZ hP (0) rfl rfl dX4_month_55 ?_
        refine jci (jrunV (As := []) (rest := []) hx hb hml hown hts hK hZ hA hP hD hS hl.1 mf_X0_draw kl_X4_169 ⟨rfl, rfl, Nat.le_of_ble_eq_true rfl, Nat.le_of_ble_eq_true rfl⟩ ⟨Nat.zero_le _, Nat.zero_le _⟩ [1, 2, 3, 4, 5] rfl (js43 K a J) rfl rfl rfl (hX0_draw l D K G (fun k => a (1 + k)) (j_E J) _) rfl rfl (Nat.le_of_ble_eq_true rfl) dX4_month_58) hA hP hD hS [1, 2, 3, 4, 5] (js43 K a J) (jh55 K a J ((vX0_draw (j_E J)).2)) (fun H locs hP hD hS => ?_)
        have hP := jeP (jp56 K a J ((vX0_draw (j_E J)).2)) hP
        have hD := jeD (jp56 K a J ((vX0_draw (j_E J)).2)) hD
        exact hc61 (j_s_E J ((vX0_draw (j_E J)).2)) x2 (jrem y0 (8 : Int32)) ((vX0_draw (j_E J)).1) _ _ _ hV hk hP hD hS (lv_sub hl [1, 2, 3, 0] rfl)
      intro J x2 H locs ls hV hk hP hD hS hl
      rw [vX4_month_c38] at hV
      rw [kX4_month_c38] at hk
      refine lv_iload_n hx hb dX4_month_38 rfl (lv_at hl 2 rfl) ?_
      refine lv_iload_n hx hb dX4_month_39 rfl (lv_at hl 1 rfl) ?_
      refine lv_icmp_ge (tgt := 103) hx hb dX4_month_40 (by decide) (fun c11 => ?_) (fun c11 => ?_)
      · have hV := hV.trans (if_pos c11)
        have hk := hk.1 c11
        refine lv_aload_n hx hb dX4_month_103 rfl (lv_at hl 0 rfl) ?_
        refine gf_X4_10 (v := .ref (a 1)) hx hb hts hown hK hZ hP (0) rfl rfl dX4_month_104 ?_
        obtain ⟨h12, hk⟩ := hk
        refine jci0 (jrunV (As := []) (rest := []) hx hb hml hown hts hK hZ hA hP hD hS hl.1 mf_X0_awarded kl_X4_118 ⟨rfl, rfl, Nat.le_of_ble_eq_true rfl, Nat.le_of_ble_eq_true rfl⟩ ⟨Nat.zero_le _, Nat.zero_le _⟩ [1, 2, 3, 4, 5] rfl (js43 K a J) rfl rfl rfl (hX0_awarded l D K G (fun k => a (1 + k)) (j_E J) h12 _) rfl rfl (Nat.le_of_ble_eq_true rfl) dX4_month_107) hA hP hD hS [1, 2, 3, 4, 5] (js43 K a J) (fun H locs hP hS => ?_)
        exact hend _ _ _ _ _ (by rw [hV]; exact hP) (by rw [hV]; exact hD) hS (by rw [hV]) rfl dX4_month_110
      · have hV := hV.trans (if_neg c11)
        have hk := hk.2 c11
        refine lv_aload_n hx hb dX4_month_43 rfl (lv_at hl 0 rfl) ?_
        refine gf_X4_10 (v := .ref (a 1)) hx hb hts hown hK hZ hP (0) rfl rfl dX4_month_44 ?_
        refine jci (jrunV (As := []) (rest := []) hx hb hml hown hts hK hZ hA hP hD hS hl.1 mf_X0_draw kl_X4_169 ⟨rfl, rfl, Nat.le_of_ble_eq_true rfl, Nat.le_of_ble_eq_true rfl⟩ ⟨Nat.zero_le _, Nat.zero_le _⟩ [1, 2, 3, 4, 5] rfl (js43 K a J) rfl rfl rfl (hX0_draw l D K G (fun k => a (1 + k)) (j_E J) _) rfl rfl (Nat.le_of_ble_eq_true rfl) dX4_month_47) hA hP hD hS [1, 2, 3, 4, 5] (js43 K a J) (jh55 K a J ((vX0_draw (j_E J)).2)) (fun H locs hP hD hS => ?_)
        have hP := jeP (jp56 K a J ((vX0_draw (j_E J)).2)) hP
        have hD := jeD (jp56 K a J ((vX0_draw (j_E J)).2)) hD
        exact hc50 (j_s_E J ((vX0_draw (j_E J)).2)) x2 ((vX0_draw (j_E J)).1) _ _ _ hV hk hP hD hS (lv_sub hl [0, 1, 2] rfl)
  have hV := vX4_month.eq_1 J0 p1
  rw [kX4_month] at hk
  refine lv_iload_n hx hb dX4_month_0 rfl (lv_at hl 1 rfl) ?_
  refine lv_iconst (v := (1 : Int32)) hx hb dX4_month_1 (by decide) ?_
  refine lv_bipush (v := (20 : Int32)) hx hb dX4_month_2 (by decide) ?_
  refine jci0 (jrunS (As := [.int p1, .int (1 : Int32), .int (20 : Int32)]) (rest := []) hx hb hml hown hts hK hZ hA hP hD hS hl.1 mf_X4_within kl_X4_50 ⟨rfl, rfl, Nat.le_of_ble_eq_true rfl, Nat.le_of_ble_eq_true rfl⟩ ⟨Nat.zero_le _, Nat.zero_le _⟩ [] rfl rfl (hX4_within l D K G p1 (1 : Int32) (20 : Int32) _) rfl rfl (Nat.le_of_ble_eq_true rfl) dX4_month_4) hA hP hD hS [] rfl (fun H locs hP hS => ?_)
  refine lv_if_ne (tgt := 16) hx hb dX4_month_7 (by decide) (fun c13 => ?_) (fun c13 => ?_)
  · have hV := hV.trans (if_neg c13)
    have hk := hk.2 c13
    refine lv_aload_n hx hb dX4_month_16 rfl (lv_at hl 0 rfl) ?_
    refine gf_X4_10 (v := .ref (a 1)) hx hb hts hown hK hZ hP (0) rfl rfl dX4_month_17 ?_
    refine gf_X4_110 (v := .int (e_day (j_E J0))) hx hb hts hown hK hZ hP (1) rfl rfl dX4_month_20 ?_
    refine lv_iload_n hx hb dX4_month_23 rfl (lv_at hl 1 rfl) ?_
    refine lv_iadd hx hb dX4_month_24 ?_
    refine lv_ldc (v := (99999 : Int32)) hx hb hown (hts _ kc_X4_113) dX4_month_25 ?_
    refine lv_icmp_le (tgt := 36) hx hb dX4_month_27 (by decide) (fun c14 => ?_) (fun c14 => ?_)
    · have hV := hV.trans (if_pos c14)
      have hk := hk.1 c14
      refine lv_iconst (v := (0 : Int32)) hx hb dX4_month_36 (by decide) ?_
      refine lv_istore_n (lv' := [(2, .int (0 : Int32)), (0, .ref (a 0)), (1, .int p1)]) hx hb dX4_month_37 rfl hl (by decide) rfl (fun ls hl => ?_)
      exact hc38 1024 J0 (0 : Int32) _ _ _ hV hk hP hD hS (lv_sub hl [1, 2, 0] rfl)
    · have hV := hV.trans (if_neg c14)
      have hk := hk.2 c14
      refine lv_aload_n hx hb dX4_month_30 rfl (lv_at hl 0 rfl) ?_
      refine lv_iconst (v := (4 : Int32)) hx hb dX4_month_31 (by decide) ?_
      obtain ⟨h15, hk⟩ := hk
      refine jci (jrunV (As := [.int (4 : Int32)]) (rest := []) hx hb hml hown hts hK hZ hA hP hD hS hl.1 mf_X4_tell kl_X4_60 ⟨rfl, rfl, Nat.le_of_ble_eq_true rfl, Nat.le_of_ble_eq_true rfl⟩ ⟨Nat.zero_le _, Nat.zero_le _⟩ [0, 1, 2, 3, 4, 5, 6, 7, 8, 9, 10, 11, 12, 13, 14, 15, 16, 17, 18, 19, 20, 21, 22, 23, 24, 25, 26, 27, 28, 29] rfl (js45 K a J0) rfl rfl rfl (hX4_tell l D K G a J0 (4 : Int32) h15 _) rfl rfl (Nat.le_of_ble_eq_true rfl) dX4_month_32) hA hP hD hS [0, 1, 2, 3, 4, 5, 6, 7, 8, 9, 10, 11, 12, 13, 14, 15, 16, 17, 18, 19, 20, 21, 22, 23, 24, 25, 26, 27, 28, 29] (js45 K a J0) (jh52 K a J0 ((vX4_tell J0 (4 : Int32)).2)) (fun H locs hP hD hS => ?_)
      have hP := jeP (jp53 K a J0 ((vX4_tell J0 (4 : Int32)).2)) hP
      have hD := jeD (jp53 K a J0 ((vX4_tell J0 (4 : Int32)).2)) hD
      exact hend _ _ _ _ _ (by rw [hV]; exact hP) (by rw [hV]; exact hD) hS (by rw [hV]) rfl dX4_month_35
  · have hV := hV.trans (if_pos c13)
    have hk := hk.1 c13
    refine lv_aload_n hx hb dX4_month_10 rfl (lv_at hl 0 rfl) ?_
    refine lv_iconst (v := (0 : Int32)) hx hb dX4_month_11 (by decide) ?_
    obtain ⟨h16, hk⟩ := hk
    refine jci (jrunV (As := [.int (0 : Int32)]) (rest := []) hx hb hml hown hts hK hZ hA hP hD hS hl.1 mf_X4_tell kl_X4_60 ⟨rfl, rfl, Nat.le_of_ble_eq_true rfl, Nat.le_of_ble_eq_true rfl⟩ ⟨Nat.zero_le _, Nat.zero_le _⟩ [0, 1, 2, 3, 4, 5, 6, 7, 8, 9, 10, 11, 12, 13, 14, 15, 16, 17, 18, 19, 20, 21, 22, 23, 24, 25, 26, 27, 28, 29] rfl (js45 K a J0) rfl rfl rfl (hX4_tell l D K G a J0 (0 : Int32) h16 _) rfl rfl (Nat.le_of_ble_eq_true rfl) dX4_month_12) hA hP hD hS [0, 1, 2, 3, 4, 5, 6, 7, 8, 9, 10, 11, 12, 13, 14, 15, 16, 17, 18, 19, 20, 21, 22, 23, 24, 25, 26, 27, 28, 29] (js45 K a J0) (jh52 K a J0 ((vX4_tell J0 (0 : Int32)).2)) (fun H locs hP hD hS => ?_)
    have hP := jeP (jp53 K a J0 ((vX4_tell J0 (0 : Int32)).2)) hP
    have hD := jeD (jp53 K a J0 ((vX4_tell J0 (0 : Int32)).2)) hD
    exact hend _ _ _ _ _ (by rw [hV]; exact hP) (by rw [hV]; exact hD) hS (by rw [hV]) rfl dX4_month_15
theorem dX4_now_0 : decode cX4_now 0 = .ok (.iload_n 1, 1) := by decide +kernel
theorem dX4_now_1 : decode cX4_now 1 = .ok (.tableswitch 137 0 7 #[47, 55, 63, 81, 91, 101, 111, 121], 47) := by decide +kernel
theorem dX4_now_48 : decode cX4_now 48 = .ok (.aload_n 0, 1) := by decide +kernel
theorem dX4_now_49 : decode cX4_now 49 = .ok (.getfield 10, 3) := by decide +kernel
theorem dX4_now_52 : decode cX4_now 52 = .ok (.getfield 110, 3) := by decide +kernel
theorem dX4_now_55 : decode cX4_now 55 = .ok (.ireturn, 1) := by decide +kernel
theorem dX4_now_56 : decode cX4_now 56 = .ok (.aload_n 0, 1) := by decide +kernel
theorem dX4_now_57 : decode cX4_now 57 = .ok (.getfield 10, 3) := by decide +kernel
theorem dX4_now_60 : decode cX4_now 60 = .ok (.invokevirtual 118, 3) := by decide +kernel
theorem dX4_now_63 : decode cX4_now 63 = .ok (.ireturn, 1) := by decide +kernel
theorem dX4_now_64 : decode cX4_now 64 = .ok (.aload_n 0, 1) := by decide +kernel
theorem dX4_now_65 : decode cX4_now 65 = .ok (.getfield 10, 3) := by decide +kernel
theorem dX4_now_68 : decode cX4_now 68 = .ok (.getfield 64, 3) := by decide +kernel
theorem dX4_now_71 : decode cX4_now 71 = .ok (.iconst 0, 1) := by decide +kernel
theorem dX4_now_72 : decode cX4_now 72 = .ok (.iaload, 1) := by decide +kernel
theorem dX4_now_73 : decode cX4_now 73 = .ok (.aload_n 0, 1) := by decide +kernel
theorem dX4_now_74 : decode cX4_now 74 = .ok (.getfield 10, 3) := by decide +kernel
theorem dX4_now_77 : decode cX4_now 77 = .ok (.invokevirtual 118, 3) := by decide +kernel
theorem dX4_now_80 : decode cX4_now 80 = .ok (.isub, 1) := by decide +kernel
theorem dX4_now_81 : decode cX4_now 81 = .ok (.ireturn, 1) := by decide +kernel
theorem dX4_now_82 : decode cX4_now 82 = .ok (.aload_n 0, 1) := by decide +kernel
theorem dX4_now_83 : decode cX4_now 83 = .ok (.getfield 10, 3) := by decide +kernel
theorem dX4_now_86 : decode cX4_now 86 = .ok (.bipush 6, 2) := by decide +kernel
theorem dX4_now_88 : decode cX4_now 88 = .ok (.invokevirtual 122, 3) := by decide +kernel
theorem dX4_now_91 : decode cX4_now 91 = .ok (.ireturn, 1) := by decide +kernel
theorem dX4_now_92 : decode cX4_now 92 = .ok (.aload_n 0, 1) := by decide +kernel
theorem dX4_now_93 : decode cX4_now 93 = .ok (.getfield 10, 3) := by decide +kernel
theorem dX4_now_96 : decode cX4_now 96 = .ok (.bipush 10, 2) := by decide +kernel
theorem dX4_now_98 : decode cX4_now 98 = .ok (.invokevirtual 125, 3) := by decide +kernel
theorem dX4_now_101 : decode cX4_now 101 = .ok (.ireturn, 1) := by decide +kernel
theorem dX4_now_102 : decode cX4_now 102 = .ok (.aload_n 0, 1) := by decide +kernel
theorem dX4_now_103 : decode cX4_now 103 = .ok (.getfield 10, 3) := by decide +kernel
theorem dX4_now_106 : decode cX4_now 106 = .ok (.bipush 11, 2) := by decide +kernel
theorem dX4_now_108 : decode cX4_now 108 = .ok (.invokevirtual 125, 3) := by decide +kernel
theorem dX4_now_111 : decode cX4_now 111 = .ok (.ireturn, 1) := by decide +kernel
theorem dX4_now_112 : decode cX4_now 112 = .ok (.aload_n 0, 1) := by decide +kernel
theorem dX4_now_113 : decode cX4_now 113 = .ok (.getfield 10, 3) := by decide +kernel
theorem dX4_now_116 : decode cX4_now 116 = .ok (.bipush 8, 2) := by decide +kernel
theorem dX4_now_118 : decode cX4_now 118 = .ok (.invokevirtual 122, 3) := by decide +kernel
theorem dX4_now_121 : decode cX4_now 121 = .ok (.ireturn, 1) := by decide +kernel
theorem dX4_now_122 : decode cX4_now 122 = .ok (.aload_n 0, 1) := by decide +kernel
theorem dX4_now_123 : decode cX4_now 123 = .ok (.getfield 10, 3) := by decide +kernel
theorem dX4_now_126 : decode cX4_now 126 = .ok (.invokevirtual 128, 3) := by decide +kernel
theorem dX4_now_129 : decode cX4_now 129 = .ok (.ifCond .eq 7, 3) := by decide +kernel
theorem dX4_now_132 : decode cX4_now 132 = .ok (.iconst 1, 1) := by decide +kernel
theorem dX4_now_133 : decode cX4_now 133 = .ok (.goto 4, 3) := by decide +kernel
theorem dX4_now_136 : decode cX4_now 136 = .ok (.iconst 0, 1) := by decide +kernel
theorem dX4_now_137 : decode cX4_now 137 = .ok (.ireturn, 1) := by decide +kernel
theorem dX4_now_138 : decode cX4_now 138 = .ok (.aload_n 0, 1) := by decide +kernel
theorem dX4_now_139 : decode cX4_now 139 = .ok (.iconst 0, 1) := by decide +kernel
theorem dX4_now_140 : decode cX4_now 140 = .ok (.invokevirtual 60, 3) := by decide +kernel
theorem dX4_now_143 : decode cX4_now 143 = .ok (.ireturn, 1) := by decide +kernel
def rX4_now : Room := { frames := 6, cells := 0, slots := 0, locals := 131 }
def vX4_now (J0 : JS) (p1 : Int32) : Int32 × JS := if (p1 = (0 : Int32)) then ((e_day (j_E J0)), J0) else if (p1 = (1 : Int32)) then ((vX0_awarded (j_E J0)), J0) else if (p1 = (2 : Int32)) then ((((e_home (j_E J0)) ((0 : Int32)).toNatClampNeg) - (vX0_awarded (j_E J0))), J0) else if (p1 = (3 : Int32)) then ((vX0_sum (j_E J0) (6 : Int32)), J0) else if (p1 = (4 : Int32)) then ((vX0_thingsWith (j_E J0) (10 : Int32)), J0) else if (p1 = (5 : Int32)) then ((vX0_thingsWith (j_E J0) (11 : Int32)), J0) else if (p1 = (6 : Int32)) then ((vX0_sum (j_E J0) (8 : Int32)), J0) else if (p1 = (7 : Int32)) then (if ((vX0_offersMeet (j_E J0)) = 0) then ((0 : Int32), J0) else ((1 : Int32), J0)) else (((vX4_tell J0 (0 : Int32)).1), ((vX4_tell J0 (0 : Int32)).2))
def kX4_now (J0 : JS) (p1 : Int32) : Prop := ((p1 = (0 : Int32)) → True) ∧ (¬ (p1 = (0 : Int32)) → (((p1 = (1 : Int32)) → ((kX0_awarded (j_E J0)) ∧ True)) ∧ (¬ (p1 = (1 : Int32)) → (((p1 = (2 : Int32)) → ((kX0_awarded (j_E J0)) ∧ True)) ∧ (¬ (p1 = (2 : Int32)) → (((p1 = (3 : Int32)) → ((kX0_sum (j_E J0) (6 : Int32)) ∧ True)) ∧ (¬ (p1 = (3 : Int32)) → (((p1 = (4 : Int32)) → ((kX0_thingsWith (j_E J0) (10 : Int32)) ∧ True)) ∧ (¬ (p1 = (4 : Int32)) → (((p1 = (5 : Int32)) → ((kX0_thingsWith (j_E J0) (11 : Int32)) ∧ True)) ∧ (¬ (p1 = (5 : Int32)) → (((p1 = (6 : Int32)) → ((kX0_sum (j_E J0) (8 : Int32)) ∧ True)) ∧ (¬ (p1 = (6 : Int32)) → (((p1 = (7 : Int32)) → True) ∧ (¬ (p1 = (7 : Int32)) → ((kX4_tell J0 (0 : Int32)) ∧ True))))))))))))))))
set_option maxHeartbeats 4000000 in
set_option maxRecDepth 100000 in
theorem hX4_now (l : Launch) (D : va_G) (K : JK) (G : JG) (a : Nat → Nat) (J0 : JS) (p1 : Int32) (hk : kX4_now J0 p1) (sz : Nat) : Met l yX4_now (.code yX4_now cX4_now 2 (some .int) :: jGW) rX4_now (jPre D (jT K) G [.ref (a 0), .int p1] (wJ K a J0) sz) (jQi D (jT K) ((vX4_now J0 p1).1) (wJ K a ((vX4_now J0 p1).2)) (va_A (wJ K a J0) sz)) 0 0 (va_A (wJ K a J0) sz) := by
  refine jEi (by decide) (Nat.le_of_ble_eq_true rfl) (fun p e s m below meth c A Q ls hat hP hD hS hl hend => ?_)
  obtain ⟨hx, hb, hml, hown, hts, hK, hZ, hA⟩ := hat
  have hl : lv_has ls 2 [(0, .ref (a 0)), (1, .int p1)] := hl
  have hV := vX4_now.eq_1 J0 p1
  rw [kX4_now] at hk
  refine lv_iload_n hx hb dX4_now_0 rfl (lv_at hl 1 rfl) ?_
  by_cases c17 : (p1 = (0 : Int32))
  · have hV := hV.trans (if_pos c17)
    have hk := hk.1 c17
    refine lv_tableIn (off := 47) (tgt := 48) hx hb dX4_now_1 (by rw [c17]; decide) (by rw [c17]; decide) (by rw [c17]; rfl) (by decide) ?_
    refine lv_aload_n hx hb dX4_now_48 rfl (lv_at hl 0 rfl) ?_
    refine gf_X4_10 (v := .ref (a 1)) hx hb hts hown hK hZ hP (0) rfl rfl dX4_now_49 ?_
    refine gf_X4_110 (v := .int (e_day (j_E J0))) hx hb hts hown hK hZ hP (1) rfl rfl dX4_now_52 ?_
    exact hend _ _ _ _ _ (by rw [hV]; exact hP) (by rw [hV]; exact hD) hS (by rw [hV]) rfl dX4_now_55
  · have hV := hV.trans (if_neg c17)
    have hk := hk.2 c17
    by_cases c18 : (p1 = (1 : Int32))
    · have hV := hV.trans (if_pos c18)
      have hk := hk.1 c18
      refine lv_tableIn (off := 55) (tgt := 56) hx hb dX4_now_1 (by rw [c18]; decide) (by rw [c18]; decide) (by rw [c18]; rfl) (by decide) ?_
      refine lv_aload_n hx hb dX4_now_56 rfl (lv_at hl 0 rfl) ?_
      refine gf_X4_10 (v := .ref (a 1)) hx hb hts hown hK hZ hP (0) rfl rfl dX4_now_57 ?_
      obtain ⟨h32, hk⟩ := hk
      refine jci0 (jrunV (As := []) (rest := []) hx hb hml hown hts hK hZ hA hP hD hS hl.1 mf_X0_awarded kl_X4_118 ⟨rfl, rfl, Nat.le_of_ble_eq_true rfl, Nat.le_of_ble_eq_true rfl⟩ ⟨Nat.zero_le _, Nat.zero_le _⟩ [1, 2, 3, 4, 5] rfl (js43 K a J0) rfl rfl rfl (hX0_awarded l D K G (fun k => a (1 + k)) (j_E J0) h32 _) rfl rfl (Nat.le_of_ble_eq_true rfl) dX4_now_60) hA hP hD hS [1, 2, 3, 4, 5] (js43 K a J0) (fun H locs hP hS => ?_)
      exact hend _ _ _ _ _ (by rw [hV]; exact hP) (by rw [hV]; exact hD) hS (by rw [hV]) rfl dX4_now_63
    · have hV := hV.trans (if_neg c18)
      have hk := hk.2 c18
      by_cases c19 : (p1 = (2 : Int32))
      · have hV := hV.trans (if_pos c19)
        have hk := hk.1 c19
        refine lv_tableIn (off := 63) (tgt := 64) hx hb dX4_now_1 (by rw [c19]; decide) (by rw [c19]; decide) (by rw [c19]; rfl) (by decide) ?_
        refine lv_aload_n hx hb dX4_now_64 rfl (lv_at hl 0 rfl) ?_
        refine gf_X4_10 (v := .ref (a 1)) hx hb hts hown hK hZ hP (0) rfl rfl dX4_now_65 ?_
        refine gf_X4_64 (v := .ref (a 2)) hx hb hts hown hK hZ hP (1) rfl rfl dX4_now_68 ?_
        refine lv_iconst (v := (0 : Int32)) hx hb dX4_now_71 (by decide) ?_
        refine va_iald hx hb hK hP (2) 0 rfl rfl (by unfold vp_in; decide) dX4_now_72 ?_
        refine lv_aload_n hx hb dX4_now_73 rfl (lv_at hl 0 rfl) ?_
        refine gf_X4_10 (v := .ref (a 1)) hx hb hts hown hK hZ hP (0) rfl rfl dX4_now_74 ?_
        obtain ⟨h31, hk⟩ := hk
        refine jci0 (jrunV (As := []) (rest := [.int ((e_home (j_E J0)) ((0 : Int32)).toNatClampNeg)]) hx hb hml hown hts hK hZ hA hP hD hS hl.1 mf_X0_awarded kl_X4_118 ⟨rfl, rfl, Nat.le_of_ble_eq_true rfl, Nat.le_of_ble_eq_true rfl⟩ ⟨Nat.zero_le _, Nat.zero_le _⟩ [1, 2, 3, 4, 5] rfl (js43 K a J0) rfl rfl rfl (hX0_awarded l D K G (fun k => a (1 + k)) (j_E J0) h31 _) rfl rfl (Nat.le_of_ble_eq_true rfl) dX4_now_77) hA hP hD hS [1, 2, 3, 4, 5] (js43 K a J0) (fun H locs hP hS => ?_)
        refine lv_isub hx hb dX4_now_80 ?_
        exact hend _ _ _ _ _ (by rw [hV]; exact hP) (by rw [hV]; exact hD) hS (by rw [hV]) rfl dX4_now_81
      · have hV := hV.trans (if_neg c19)
        have hk := hk.2 c19
        by_cases c20 : (p1 = (3 : Int32))
        · have hV := hV.trans (if_pos c20)
          have hk := hk.1 c20
          refine lv_tableIn (off := 81) (tgt := 82) hx hb dX4_now_1 (by rw [c20]; decide) (by rw [c20]; decide) (by rw [c20]; rfl) (by decide) ?_
          refine lv_aload_n hx hb dX4_now_82 rfl (lv_at hl 0 rfl) ?_
          refine gf_X4_10 (v := .ref (a 1)) hx hb hts hown hK hZ hP (0) rfl rfl dX4_now_83 ?_
          refine lv_bipush (v := (6 : Int32)) hx hb dX4_now_86 (by decide) ?_
          obtain ⟨h30, hk⟩ := hk
          refine jci0 (jrunV (As := [.int (6 : Int32)]) (rest := []) hx hb hml hown hts hK hZ hA hP hD hS hl.1 mf_X0_sum kl_X4_122 ⟨rfl, rfl, Nat.le_of_ble_eq_true rfl, Nat.le_of_ble_eq_true rfl⟩ ⟨Nat.zero_le _, Nat.zero_le _⟩ [1, 2, 3, 4, 5] rfl (js43 K a J0) rfl rfl rfl (hX0_sum l D K G (fun k => a (1 + k)) (j_E J0) (6 : Int32) h30 _) rfl rfl (Nat.le_of_ble_eq_true rfl) dX4_now_88) hA hP hD hS [1, 2, 3, 4, 5] (js43 K a J0) (fun H locs hP hS => ?_)
          exact hend _ _ _ _ _ (by rw [hV]; exact hP) (by rw [hV]; exact hD) hS (by rw [hV]) rfl dX4_now_91
        · have hV := hV.trans (if_neg c20)
          have hk := hk.2 c20
          by_cases c21 : (p1 = (4 : Int32))
          · have hV := hV.trans (if_pos c21)
            have hk := hk.1 c21
            refine lv_tableIn (off := 91) (tgt := 92) hx hb dX4_now_1 (by rw [c21]; decide) (by rw [c21]; decide) (by rw [c21]; rfl) (by decide) ?_
            refine lv_aload_n hx hb dX4_now_92 rfl (lv_at hl 0 rfl) ?_
            refine gf_X4_10 (v := .ref (a 1)) hx hb hts hown hK hZ hP (0) rfl rfl dX4_now_93 ?_
            refine lv_bipush (v := (10 : Int32)) hx hb dX4_now_96 (by decide) ?_
            obtain ⟨h29, hk⟩ := hk
            refine jci0 (jrunV (As := [.int (10 : Int32)]) (rest := []) hx hb hml hown hts hK hZ hA hP hD hS hl.1 mf_X0_thingsWith kl_X4_125 ⟨rfl, rfl, Nat.le_of_ble_eq_true rfl, Nat.le_of_ble_eq_true rfl⟩ ⟨Nat.zero_le _, Nat.zero_le _⟩ [1, 2, 3, 4, 5] rfl (js43 K a J0) rfl rfl rfl (hX0_thingsWith l D K G (fun k => a (1 + k)) (j_E J0) (10 : Int32) h29 _) rfl rfl (Nat.le_of_ble_eq_true rfl) dX4_now_98) hA hP hD hS [1, 2, 3, 4, 5] (js43 K a J0) (fun H locs hP hS => ?_)
            exact hend _ _ _ _ _ (by rw [hV]; exact hP) (by rw [hV]; exact hD) hS (by rw [hV]) rfl dX4_now_101
          · have hV := hV.trans (if_neg c21)
            have hk := hk.2 c21
            by_cases c22 : (p1 = (5 : Int32))
            · have hV := hV.trans (if_pos c22)
              have hk := hk.1 c22
              refine lv_tableIn (off := 101) (tgt := 102) hx hb dX4_now_1 (by rw [c22]; decide) (by rw [c22]; decide) (by rw [c22]; rfl) (by decide) ?_
              refine lv_aload_n hx hb dX4_now_102 rfl (lv_at hl 0 rfl) ?_
              refine gf_X4_10 (v := .ref (a 1)) hx hb hts hown hK hZ hP (0) rfl rfl dX4_now_103 ?_
              refine lv_bipush (v := (11 : Int32)) hx hb dX4_now_106 (by decide) ?_
              obtain ⟨h28, hk⟩ := hk
              refine jci0 (jrunV (As := [.int (11 : Int32)]) (rest := []) hx hb hml hown hts hK hZ hA hP hD hS hl.1 mf_X0_thingsWith kl_X4_125 ⟨rfl, rfl, Nat.le_of_ble_eq_true rfl, Nat.le_of_ble_eq_true rfl⟩ ⟨Nat.zero_le _, Nat.zero_le _⟩ [1, 2, 3, 4, 5] rfl (js43 K a J0) rfl rfl rfl (hX0_thingsWith l D K G (fun k => a (1 + k)) (j_E J0) (11 : Int32) h28 _) rfl rfl (Nat.le_of_ble_eq_true rfl) dX4_now_108) hA hP hD hS [1, 2, 3, 4, 5] (js43 K a J0) (fun H locs hP hS => ?_)
              exact hend _ _ _ _ _ (by rw [hV]; exact hP) (by rw [hV]; exact hD) hS (by rw [hV]) rfl dX4_now_111
            · have hV := hV.trans (if_neg c22)
              have hk := hk.2 c22
              by_cases c23 : (p1 = (6 : Int32))
              · have hV := hV.trans (if_pos c23)
                have hk := hk.1 c23
                refine lv_tableIn (off := 111) (tgt := 112) hx hb dX4_now_1 (by rw [c23]; decide) (by rw [c23]; decide) (by rw [c23]; rfl) (by decide) ?_
                refine lv_aload_n hx hb dX4_now_112 rfl (lv_at hl 0 rfl) ?_
                refine gf_X4_10 (v := .ref (a 1)) hx hb hts hown hK hZ hP (0) rfl rfl dX4_now_113 ?_
                refine lv_bipush (v := (8 : Int32)) hx hb dX4_now_116 (by decide) ?_
                obtain ⟨h27, hk⟩ := hk
                refine jci0 (jrunV (As := [.int (8 : Int32)]) (rest := []) hx hb hml hown hts hK hZ hA hP hD hS hl.1 mf_X0_sum kl_X4_122 ⟨rfl, rfl, Nat.le_of_ble_eq_true rfl, Nat.le_of_ble_eq_true rfl⟩ ⟨Nat.zero_le _, Nat.zero_le _⟩ [1, 2, 3, 4, 5] rfl (js43 K a J0) rfl rfl rfl (hX0_sum l D K G (fun k => a (1 + k)) (j_E J0) (8 : Int32) h27 _) rfl rfl (Nat.le_of_ble_eq_true rfl) dX4_now_118) hA hP hD hS [1, 2, 3, 4, 5] (js43 K a J0) (fun H locs hP hS => ?_)
                exact hend _ _ _ _ _ (by rw [hV]; exact hP) (by rw [hV]; exact hD) hS (by rw [hV]) rfl dX4_now_121
              · have hV := hV.trans (if_neg c23)
                have hk := hk.2 c23
                by_cases c24 : (p1 = (7 : Int32))
                · have hV := hV.trans (if_pos c24)
                  have hk := hk.1 c24
                  refine lv_tableIn (off := 121) (tgt := 122) hx hb dX4_now_1 (by rw [c24]; decide) (by rw [c24]; decide) (by rw [c24]; rfl) (by decide) ?_
                  refine lv_aload_n hx hb dX4_now_122 rfl (lv_at hl 0 rfl) ?_
                  refine gf_X4_10 (v := .ref (a 1)) hx hb hts hown hK hZ hP (0) rfl rfl dX4_now_123 ?_
                  refine jci0 (jrunV (As := []) (rest := []) hx hb hml hown hts hK hZ hA hP hD hS hl.1 mf_X0_offersMeet kl_X4_128 ⟨rfl, rfl, Nat.le_of_ble_eq_true rfl, Nat.le_of_ble_eq_true rfl⟩ ⟨Nat.zero_le _, Nat.zero_le _⟩ [1, 2, 3, 4, 5] rfl (js43 K a J0) rfl rfl rfl (hX0_offersMeet l D K G (fun k => a (1 + k)) (j_E J0) _) rfl rfl (Nat.le_of_ble_eq_true rfl) dX4_now_126) hA hP hD hS [1, 2, 3, 4, 5] (js43 K a J0) (fun H locs hP hS => ?_)
                  refine lv_if_eq (tgt := 136) hx hb dX4_now_129 (by decide) (fun c26 => ?_) (fun c26 => ?_)
                  · have hV := hV.trans (if_pos c26)
                    refine lv_iconst (v := (0 : Int32)) hx hb dX4_now_136 (by decide) ?_
                    exact hend _ _ _ _ _ (by rw [hV]; exact hP) (by rw [hV]; exact hD) hS (by rw [hV]) rfl dX4_now_137
                  · have hV := hV.trans (if_neg c26)
                    refine lv_iconst (v := (1 : Int32)) hx hb dX4_now_132 (by decide) ?_
                    refine lv_goto (tgt := 137) hx hb dX4_now_133 (by decide) ?_
                    exact hend _ _ _ _ _ (by rw [hV]; exact hP) (by rw [hV]; exact hD) hS (by rw [hV]) rfl dX4_now_137
                · have hV := hV.trans (if_neg c24)
                  have hk := hk.2 c24
                  refine lv_tableOut (tgt := 138) hx hb dX4_now_1 (by have n0 := jneL (z := 0) c17 (by decide); have n1 := jneL (z := 1) c18 (by decide); have n2 := jneL (z := 2) c19 (by decide); have n3 := jneL (z := 3) c20 (by decide); have n4 := jneL (z := 4) c21 (by decide); have n5 := jneL (z := 5) c22 (by decide); have n6 := jneL (z := 6) c23 (by decide); have n7 := jneL (z := 7) c24 (by decide); omega) (by decide) ?_
                  refine lv_aload_n hx hb dX4_now_138 rfl (lv_at hl 0 rfl) ?_
                  refine lv_iconst (v := (0 : Int32)) hx hb dX4_now_139 (by decide) ?_
                  obtain ⟨h25, hk⟩ := hk
                  refine jci (jrunV (As := [.int (0 : Int32)]) (rest := []) hx hb hml hown hts hK hZ hA hP hD hS hl.1 mf_X4_tell kl_X4_60 ⟨rfl, rfl, Nat.le_of_ble_eq_true rfl, Nat.le_of_ble_eq_true rfl⟩ ⟨Nat.zero_le _, Nat.zero_le _⟩ [0, 1, 2, 3, 4, 5, 6, 7, 8, 9, 10, 11, 12, 13, 14, 15, 16, 17, 18, 19, 20, 21, 22, 23, 24, 25, 26, 27, 28, 29] rfl (js45 K a J0) rfl rfl rfl (hX4_tell l D K G a J0 (0 : Int32) h25 _) rfl rfl (Nat.le_of_ble_eq_true rfl) dX4_now_140) hA hP hD hS [0, 1, 2, 3, 4, 5, 6, 7, 8, 9, 10, 11, 12, 13, 14, 15, 16, 17, 18, 19, 20, 21, 22, 23, 24, 25, 26, 27, 28, 29] (js45 K a J0) (jh52 K a J0 ((vX4_tell J0 (0 : Int32)).2)) (fun H locs hP hD hS => ?_)
                  have hP := jeP (jp53 K a J0 ((vX4_tell J0 (0 : Int32)).2)) hP
                  have hD := jeD (jp53 K a J0 ((vX4_tell J0 (0 : Int32)).2)) hD
                  exact hend _ _ _ _ _ (by rw [hV]; exact hP) (by rw [hV]; exact hD) hS (by rw [hV]) rfl dX4_now_143
theorem dX4_odds_0 : decode cX4_odds 0 = .ok (.aload_n 0, 1) := by decide +kernel
theorem dX4_odds_1 : decode cX4_odds 1 = .ok (.iload_n 1, 1) := by decide +kernel
theorem dX4_odds_2 : decode cX4_odds 2 = .ok (.invokevirtual 94, 3) := by decide +kernel
theorem dX4_odds_5 : decode cX4_odds 5 = .ok (.ifCond .eq 33, 3) := by decide +kernel
theorem dX4_odds_8 : decode cX4_odds 8 = .ok (.iload_n 2, 1) := by decide +kernel
theorem dX4_odds_9 : decode cX4_odds 9 = .ok (.iconst 0, 1) := by decide +kernel
theorem dX4_odds_10 : decode cX4_odds 10 = .ok (.bipush 99, 2) := by decide +kernel
theorem dX4_odds_12 : decode cX4_odds 12 = .ok (.invokestatic 50, 3) := by decide +kernel
theorem dX4_odds_15 : decode cX4_odds 15 = .ok (.ifCond .eq 23, 3) := by decide +kernel
theorem dX4_odds_18 : decode cX4_odds 18 = .ok (.iload_n 3, 1) := by decide +kernel
theorem dX4_odds_19 : decode cX4_odds 19 = .ok (.iconst 0, 1) := by decide +kernel
theorem dX4_odds_20 : decode cX4_odds 20 = .ok (.bipush 18, 2) := by decide +kernel
theorem dX4_odds_22 : decode cX4_odds 22 = .ok (.invokestatic 50, 3) := by decide +kernel
theorem dX4_odds_25 : decode cX4_odds 25 = .ok (.ifCond .eq 13, 3) := by decide +kernel
theorem dX4_odds_28 : decode cX4_odds 28 = .ok (.iload 4, 2) := by decide +kernel
theorem dX4_odds_30 : decode cX4_odds 30 = .ok (.iconst 0, 1) := by decide +kernel
theorem dX4_odds_31 : decode cX4_odds 31 = .ok (.iconst 1, 1) := by decide +kernel
theorem dX4_odds_32 : decode cX4_odds 32 = .ok (.invokestatic 50, 3) := by decide +kernel
theorem dX4_odds_35 : decode cX4_odds 35 = .ok (.ifCond .ne 10, 3) := by decide +kernel
theorem dX4_odds_38 : decode cX4_odds 38 = .ok (.aload_n 0, 1) := by decide +kernel
theorem dX4_odds_39 : decode cX4_odds 39 = .ok (.iconst 0, 1) := by decide +kernel
theorem dX4_odds_40 : decode cX4_odds 40 = .ok (.invokevirtual 60, 3) := by decide +kernel
theorem dX4_odds_43 : decode cX4_odds 43 = .ok (.i2l, 1) := by decide +kernel
theorem dX4_odds_44 : decode cX4_odds 44 = .ok (.lreturn, 1) := by decide +kernel
theorem dX4_odds_45 : decode cX4_odds 45 = .ok (.iconst 0, 1) := by decide +kernel
theorem dX4_odds_46 : decode cX4_odds 46 = .ok (.istore 5, 2) := by decide +kernel
theorem dX4_odds_48 : decode cX4_odds 48 = .ok (.iconst 0, 1) := by decide +kernel
theorem dX4_odds_49 : decode cX4_odds 49 = .ok (.istore 6, 2) := by decide +kernel
theorem dX4_odds_51 : decode cX4_odds 51 = .ok (.iload 6, 2) := by decide +kernel
theorem dX4_odds_53 : decode cX4_odds 53 = .ok (.bipush 10, 2) := by decide +kernel
theorem dX4_odds_55 : decode cX4_odds 55 = .ok (.if_icmp .ge 26, 3) := by decide +kernel
theorem dX4_odds_58 : decode cX4_odds 58 = .ok (.aload_n 0, 1) := by decide +kernel
theorem dX4_odds_59 : decode cX4_odds 59 = .ok (.getfield 10, 3) := by decide +kernel
theorem dX4_odds_62 : decode cX4_odds 62 = .ok (.iload_n 1, 1) := by decide +kernel
theorem dX4_odds_63 : decode cX4_odds 63 = .ok (.iload 6, 2) := by decide +kernel
theorem dX4_odds_65 : decode cX4_odds 65 = .ok (.invokevirtual 107, 3) := by decide +kernel
theorem dX4_odds_68 : decode cX4_odds 68 = .ok (.iload_n 2, 1) := by decide +kernel
theorem dX4_odds_69 : decode cX4_odds 69 = .ok (.if_icmp .gt 6, 3) := by decide +kernel
theorem dX4_odds_72 : decode cX4_odds 72 = .ok (.iinc 5 1, 3) := by decide +kernel
theorem dX4_odds_75 : decode cX4_odds 75 = .ok (.iinc 6 1, 3) := by decide +kernel
theorem dX4_odds_78 : decode cX4_odds 78 = .ok (.goto (-27), 3) := by decide +kernel
theorem dX4_odds_81 : decode cX4_odds 81 = .ok (.iload 5, 2) := by decide +kernel
theorem dX4_odds_83 : decode cX4_odds 83 = .ok (.bipush 10, 2) := by decide +kernel
theorem dX4_odds_85 : decode cX4_odds 85 = .ok (.invokestatic 172, 3) := by decide +kernel
theorem dX4_odds_88 : decode cX4_odds 88 = .ok (.istore 6, 2) := by decide +kernel
theorem dX4_odds_90 : decode cX4_odds 90 = .ok (.iload 4, 2) := by decide +kernel
theorem dX4_odds_92 : decode cX4_odds 92 = .ok (.ifCond .ne 8, 3) := by decide +kernel
theorem dX4_odds_95 : decode cX4_odds 95 = .ok (.iload 5, 2) := by decide +kernel
theorem dX4_odds_97 : decode cX4_odds 97 = .ok (.goto 5, 3) := by decide +kernel
theorem dX4_odds_100 : decode cX4_odds 100 = .ok (.bipush 10, 2) := by decide +kernel
theorem dX4_odds_102 : decode cX4_odds 102 = .ok (.istore 7, 2) := by decide +kernel
theorem dX4_odds_104 : decode cX4_odds 104 = .ok (.iload 6, 2) := by decide +kernel
theorem dX4_odds_106 : decode cX4_odds 106 = .ok (.ifCond .le 11, 3) := by decide +kernel
theorem dX4_odds_109 : decode cX4_odds 109 = .ok (.iload 7, 2) := by decide +kernel
theorem dX4_odds_111 : decode cX4_odds 111 = .ok (.iload 6, 2) := by decide +kernel
theorem dX4_odds_113 : decode cX4_odds 113 = .ok (.idiv, 1) := by decide +kernel
theorem dX4_odds_114 : decode cX4_odds 114 = .ok (.goto 5, 3) := by decide +kernel
theorem dX4_odds_117 : decode cX4_odds 117 = .ok (.iload 7, 2) := by decide +kernel
theorem dX4_odds_119 : decode cX4_odds 119 = .ok (.iload_n 3, 1) := by decide +kernel
theorem dX4_odds_120 : decode cX4_odds 120 = .ok (.invokestatic 175, 3) := by decide +kernel
theorem dX4_odds_123 : decode cX4_odds 123 = .ok (.lreturn, 1) := by decide +kernel
def rX4_odds : Room := { frames := 2, cells := 0, slots := 0, locals := 44 }
def vX4_odds_c119 (p1 : Int32) (p2 : Int32) (p3 : Int32) (p4 : Int32) (J : JS) (y0 : Int32) : Int64 × JS := ((vX4_power y0 p3), J)
def kX4_odds_c119 (p1 : Int32) (p2 : Int32) (p3 : Int32) (p4 : Int32) (J : JS) (y0 : Int32) : Prop := (kX4_power y0 p3) ∧ True
def vX4_odds_c102 (p1 : Int32) (p2 : Int32) (p3 : Int32) (p4 : Int32) (J : JS) (x6 : Int32) (y0 : Int32) : Int64 × JS := if (x6 ≤ 0) then (vX4_odds_c119 p1 p2 p3 p4 J y0) else (vX4_odds_c119 p1 p2 p3 p4 J (y0 / x6))
def kX4_odds_c102 (p1 : Int32) (p2 : Int32) (p3 : Int32) (p4 : Int32) (J : JS) (x6 : Int32) (y0 : Int32) : Prop := ((x6 ≤ 0) → ((kX4_odds_c119 p1 p2 p3 p4 J y0))) ∧ (¬ (x6 ≤ 0) → ((¬ x6 = 0) ∧ (kX4_odds_c119 p1 p2 p3 p4 J (y0 / x6))))
def vX4_odds_c75 (p1 : Int32) (p2 : Int32) (p3 : Int32) (p4 : Int32) (k : JS → Int32 → Int32 → Int64 × JS) (J : JS) (x5 : Int32) (x6 : Int32) : Int64 × JS := (k J x5 (x6 + (1 : Int32)))
def kX4_odds_c75 (p1 : Int32) (p2 : Int32) (p3 : Int32) (p4 : Int32) (q : JS → Int32 → Int32 → Prop) (J : JS) (x5 : Int32) (x6 : Int32) : Prop := (q J x5 (x6 + (1 : Int32)))
def vX4_odds_c51 (p1 : Int32) (p2 : Int32) (p3 : Int32) (p4 : Int32) : Nat → JS → Int32 → Int32 → Int64 × JS
  | 0, J, x5, x6 => (0, J)
  | n + 1, J, x5, x6 => if ((10 : Int32) ≤ x6) then (if (p4 = 0) then (vX4_odds_c102 p1 p2 p3 p4 J (vX4_commonDivisor x5 (10 : Int32)) x5) else (vX4_odds_c102 p1 p2 p3 p4 J (vX4_commonDivisor x5 (10 : Int32)) (10 : Int32))) else if (p2 < (vX0_hurt (j_E J) p1 x6)) then (vX4_odds_c75 p1 p2 p3 p4 (fun J x5 x6 => vX4_odds_c51 p1 p2 p3 p4 n J x5 x6) J x5 x6) else (vX4_odds_c75 p1 p2 p3 p4 (fun J x5 x6 => vX4_odds_c51 p1 p2 p3 p4 n J x5 x6) J (x5 + (1 : Int32)) x6)
def kX4_odds_c51 (p1 : Int32) (p2 : Int32) (p3 : Int32) (p4 : Int32) : Nat → JS → Int32 → Int32 → Prop
  | 0, _, _, _ => False
  | n + 1, J, x5, x6 => (((10 : Int32) ≤ x6) → ((kX4_commonDivisor x5 (10 : Int32)) ∧ ((p4 = 0) → ((kX4_odds_c102 p1 p2 p3 p4 J (vX4_commonDivisor x5 (10 : Int32)) x5))) ∧ (¬ (p4 = 0) → ((kX4_odds_c102 p1 p2 p3 p4 J (vX4_commonDivisor x5 (10 : Int32)) (10 : Int32)))))) ∧ (¬ ((10 : Int32) ≤ x6) → ((kX0_hurt (j_E J) p1 x6) ∧ ((p2 < (vX0_hurt (j_E J) p1 x6)) → ((kX4_odds_c75 p1 p2 p3 p4 (fun J x5 x6 => kX4_odds_c51 p1 p2 p3 p4 n J x5 x6) J x5 x6))) ∧ (¬ (p2 < (vX0_hurt (j_E J) p1 x6)) → ((kX4_odds_c75 p1 p2 p3 p4 (fun J x5 x6 => kX4_odds_c51 p1 p2 p3 p4 n J x5 x6) J (x5 + (1 : Int32)) x6)))))
def vX4_odds_c38 (p1 : Int32) (p2 : Int32) (p3 : Int32) (p4 : Int32) (J : JS) : Int64 × JS := (((((vX4_tell J (0 : Int32)).1)).toInt64), ((vX4_tell J (0 : Int32)).2))
def kX4_odds_c38 (p1 : Int32) (p2 : Int32) (p3 : Int32) (p4 : Int32) (J : JS) : Prop := (kX4_tell J (0 : Int32)) ∧ True
def vX4_odds (J0 : JS) (p1 : Int32) (p2 : Int32) (p3 : Int32) (p4 : Int32) : Int64 × JS := if ((vX4_isThing J0 p1) = 0) then (vX4_odds_c38 p1 p2 p3 p4 J0) else if ((vX4_within p2 (0 : Int32) (99 : Int32)) = 0) then (vX4_odds_c38 p1 p2 p3 p4 J0) else if ((vX4_within p3 (0 : Int32) (18 : Int32)) = 0) then (vX4_odds_c38 p1 p2 p3 p4 J0) else if ((vX4_within p4 (0 : Int32) (1 : Int32)) = 0) then (vX4_odds_c38 p1 p2 p3 p4 J0) else (vX4_odds_c51 p1 p2 p3 p4 1024 J0 (0 : Int32) (0 : Int32))
def kX4_odds (J0 : JS) (p1 : Int32) (p2 : Int32) (p3 : Int32) (p4 : Int32) : Prop := (kX4_isThing J0 p1) ∧ (((vX4_isThing J0 p1) = 0) → ((kX4_odds_c38 p1 p2 p3 p4 J0))) ∧ (¬ ((vX4_isThing J0 p1) = 0) → ((((vX4_within p2 (0 : Int32) (99 : Int32)) = 0) → ((kX4_odds_c38 p1 p2 p3 p4 J0))) ∧ (¬ ((vX4_within p2 (0 : Int32) (99 : Int32)) = 0) → ((((vX4_within p3 (0 : Int32) (18 : Int32)) = 0) → ((kX4_odds_c38 p1 p2 p3 p4 J0))) ∧ (¬ ((vX4_within p3 (0 : Int32) (18 : Int32)) = 0) → ((((vX4_within p4 (0 : Int32) (1 : Int32)) = 0) → ((kX4_odds_c38 p1 p2 p3 p4 J0))) ∧ (¬ ((vX4_within p4 (0 : Int32) (1 : Int32)) = 0) → ((kX4_odds_c51 p1 p2 p3 p4 1024 J0 (0 : Int32) (0 : Int32))))))))))
set_option maxHeartbeats 4000000 in
set_option maxRecDepth 100000 in
theorem hX4_odds (l : Launch) (D : va_G) (K : JK) (G : JG) (a : Nat → Nat) (J0 : JS) (p1 : Int32) (p2 : Int32) (p3 : Int32) (p4 : Int32) (hk : kX4_odds J0 p1 p2 p3 p4) (sz : Nat) : Met l yX4_odds (.code yX4_odds cX4_odds 8 (some .long) :: jGW) rX4_odds (jPre D (jT K) G [.ref (a 0), .int p1, .int p2, .int p3, .int p4] (wJ K a J0) sz) (jQl D (jT K) ((vX4_odds J0 p1 p2 p3 p4).1) (wJ K a ((vX4_odds J0 p1 p2 p3 p4).2)) (va_A (wJ K a J0) sz)) 0 0 (va_A (wJ K a J0) sz) := by
  refine jEl (by decide) (Nat.le_of_ble_eq_true rfl) (fun p e s m below meth c A Q ls hat hP hD hS hl hend => ?_)
  obtain ⟨hx, hb, hml, hown, hts, hK, hZ, hA⟩ := hat
  have hl : lv_has ls 8 [(0, .ref (a 0)), (1, .int p1), (2, .int p2), (3, .int p3), (4, .int p4)] := hl
  have hc119 : ∀ (J : JS) (y0 : Int32) (H : Heap) (locs : List Loc) (ls : Array Slot), (vX4_odds J0 p1 p2 p3 p4) = vX4_odds_c119 p1 p2 p3 p4 J y0 → kX4_odds_c119 p1 p2 p3 p4 J y0 → va_P D vwCl (wJ K a J) H → va_D A (wJ K a J) → va_S A s.heap H locs → lv_has ls 8 [(0, .ref (a 0)), (1, .int p1), (2, .int p2), (3, .int p3), (4, .int p4)] → W p l e rX4_odds s m ([.ref (a 0), .int p1, .int p2, .int p3, .int p4] : List Value).toArray below meth c H locs 0 0 Q (F0 m 119 ls [.int y0]) := by
    intro J y0 H locs ls hV hk hP hD hS hl
    rw [vX4_odds_c119] at hV
    rw [kX4_odds_c119] at hk
    refine lv_iload_n hx hb dX4_odds_119 rfl (lv_at hl 3 rfl) ?_
    obtain ⟨h15, hk⟩ := hk
    refine jcl0 (jrunS (As := [.int y0, .int p3]) (rest := []) hx hb hml hown hts hK hZ hA hP hD hS hl.1 mf_X4_power kl_X4_175 ⟨rfl, rfl, Nat.le_of_ble_eq_true rfl, Nat.le_of_ble_eq_true rfl⟩ ⟨Nat.zero_le _, Nat.zero_le _⟩ [] rfl rfl (hX4_power l D K G y0 p3 h15 _) rfl rfl (Nat.le_of_ble_eq_true rfl) dX4_odds_120) hA hP hD hS [] rfl (fun H locs hP hS => ?_)
    exact hend _ _ _ _ _ (by rw [hV]; exact hP) (by rw [hV]; exact hD) hS (by rw [hV]) dX4_odds_123
  have hc102 : ∀ (J : JS) (x6 : Int32) (y0 : Int32) (H : Heap) (locs : List Loc) (ls : Array Slot), (vX4_odds J0 p1 p2 p3 p4) = vX4_odds_c102 p1 p2 p3 p4 J x6 y0 → kX4_odds_c102 p1 p2 p3 p4 J x6 y0 → va_P D vwCl (wJ K a J) H → va_D A (wJ K a J) → va_S A s.heap H locs → lv_has ls 8 [(0, .ref (a 0)), (1, .int p1), (2, .int p2), (3, .int p3), (4, .int p4), (6, .int x6)] → W p l e rX4_odds s m ([.ref (a 0), .int p1, .int p2, .int p3, .int p4] : List Value).toArray below meth c H locs 0 0 Q (F0 m 102 ls [.int y0]) := by
    intro J x6 y0 H locs ls hV hk hP hD hS hl
    rw [vX4_odds_c102] at hV
    rw [kX4_odds_c102] at hk
    refine lv_istore (lv' := [(7, .int y0), (0, .ref (a 0)), (1, .int p1), (2, .int p2), (3, .int p3), (4, .int p4), (6, .int x6)]) hx hb dX4_odds_102 hl (by decide) rfl (fun ls hl => ?_)
    refine lv_iload hx hb dX4_odds_104 (lv_at hl 6 rfl) ?_
    refine lv_if_le (tgt := 117) hx hb dX4_odds_106 (by decide) (fun c16 => ?_) (fun c16 => ?_)
    · have hV := hV.trans (if_pos c16)
      have hk := hk.1 c16
      refine lv_iload hx hb dX4_odds_117 (lv_at hl 0 rfl) ?_
      exact hc119 J y0 _ _ _ hV hk hP hD hS (lv_sub hl [1, 2, 3, 4, 5] rfl)
    · have hV := hV.trans (if_neg c16)
      have hk := hk.2 c16
      refine lv_iload hx hb dX4_odds_109 (lv_at hl 0 rfl) ?_
      refine lv_iload hx hb dX4_odds_111 (lv_at hl 6 rfl) ?_
      obtain ⟨h17, hk⟩ := hk
      refine lv_idiv hx hb dX4_odds_113 h17 ?_
      refine lv_goto (tgt := 119) hx hb dX4_odds_114 (by decide) ?_
      exact hc119 J (y0 / x6) _ _ _ hV hk hP hD hS (lv_sub hl [1, 2, 3, 4, 5] rfl)
  have hc51 : ∀ (n : Nat) (J : JS) (x5 : Int32) (x6 : Int32) (H : Heap) (locs : List Loc) (ls : Array Slot), (vX4_odds J0 p1 p2 p3 p4) = vX4_odds_c51 p1 p2 p3 p4 n J x5 x6 → kX4_odds_c51 p1 p2 p3 p4 n J x5 x6 → va_P D vwCl (wJ K a J) H → va_D A (wJ K a J) → va_S A s.heap H locs → lv_has ls 8 [(0, .ref (a 0)), (1, .int p1), (2, .int p2), (3, .int p3), (4, .int p4), (5, .int x5), (6, .int x6)] → W p l e rX4_odds s m ([.ref (a 0), .int p1, .int p2, .int p3, .int p4] : List Value).toArray below meth c H locs 0 0 Q (F0 m 51 ls []) := by
    intro n
    induction n with
    | zero =>
      intro J x5 x6 H locs ls hV hk hP hD hS hl
      exact False.elim hk
    | succ n ih =>
      have hc75 : ∀ (J : JS) (x5 : Int32) (x6 : Int32) (H : Heap) (locs : List Loc) (ls : Array Slot), (vX4_odds J0 p1 p2 p3 p4) = vX4_odds_c75 p1 p2 p3 p4 (fun J x5 x6 => vX4_odds_c51 p1 p2 p3 p4 n J x5 x6) J x5 x6 → kX4_odds_c75 p1 p2 p3 p4 (fun J x5 x6 => kX4_odds_c51 p1 p2 p3 p4 n J x5 x6) J x5 x6 → va_P D vwCl (wJ K a J) H → va_D A (wJ K a J) → va_S A s.heap H locs → lv_has ls 8 [(0, .ref (a 0)), (1, .int p1), (2, .int p2), (3, .int p3), (4, .int p4), (5, .int x5), (6, .int x6)] → W p l e rX4_odds s m ([.ref (a 0), .int p1, .int p2, .int p3, .int p4] : List Value).toArray below meth c H locs 0 0 Q (F0 m 75 ls []) := by
        intro J x5 x6 H locs ls hV hk hP hD hS hl
        rw [vX4_odds_c75] at hV
        rw [kX4_odds_c75] at hk
        refine lv_iinc (v := (x6 + (1 : Int32))) (lv' := [(6, .int (x6 + (1 : Int32))), (0, .ref (a 0)), (1, .int p1), (2, .int p2), (3, .int p3), (4, .int p4), (5, .int x5)]) hx hb dX4_odds_75 hl (k := 6) rfl rfl (by decide) rfl (fun ls hl => ?_)
        refine lv_goto (tgt := 51) hx hb dX4_odds_78 (by decide) ?_
        exact ih J x5 (x6 + (1 : Int32)) _ _ _ hV hk hP hD hS (lv_sub hl [1, 2, 3, 4, 5, 6, 0] rfl)
      intro J x5 x6 H locs ls hV hk hP hD hS hl
      rw [vX4_odds_c51] at hV
      rw [kX4_odds_c51] at hk
      refine lv_iload hx hb dX4_odds_51 (lv_at hl 6 rfl) ?_
      refine lv_bipush (v := (10 : Int32)) hx hb dX4_odds_53 (by decide) ?_
      refine lv_icmp_ge (tgt := 81) hx hb dX4_odds_55 (by decide) (fun c18 => ?_) (fun c18 => ?_)
      · have hV := hV.trans (if_pos c18)
        have hk := hk.1 c18
        refine lv_iload hx hb dX4_odds_81 (lv_at hl 5 rfl) ?_
        refine lv_bipush (v := (10 : Int32)) hx hb dX4_odds_83 (by decide) ?_
        obtain ⟨h19, hk⟩ := hk
        refine jci0 (jrunS (As := [.int x5, .int (10 : Int32)]) (rest := []) hx hb hml hown hts hK hZ hA hP hD hS hl.1 mf_X4_commonDivisor kl_X4_172 ⟨rfl, rfl, Nat.le_of_ble_eq_true rfl, Nat.le_of_ble_eq_true rfl⟩ ⟨Nat.zero_le _, Nat.zero_le _⟩ [] rfl rfl (hX4_commonDivisor l D K G x5 (10 : Int32) h19 _) rfl rfl (Nat.le_of_ble_eq_true rfl) dX4_odds_85) hA hP hD hS [] rfl (fun H locs hP hS => ?_)
        refine lv_istore (lv' := [(6, .int (vX4_commonDivisor x5 (10 : Int32))), (0, .ref (a 0)), (1, .int p1), (2, .int p2), (3, .int p3), (4, .int p4), (5, .int x5)]) hx hb dX4_odds_88 hl (by decide) rfl (fun ls hl => ?_)
        refine lv_iload hx hb dX4_odds_90 (lv_at hl 5 rfl) ?_
        refine lv_if_ne (tgt := 100) hx hb dX4_odds_92 (by decide) (fun c20 => ?_) (fun c20 => ?_)
        · have hV := hV.trans (if_neg c20)
          have hk := hk.2 c20
          refine lv_bipush (v := (10 : Int32)) hx hb dX4_odds_100 (by decide) ?_
          exact hc102 J (vX4_commonDivisor x5 (10 : Int32)) (10 : Int32) _ _ _ hV hk hP hD hS (lv_sub hl [1, 2, 3, 4, 5, 0] rfl)
        · have hV := hV.trans (if_pos c20)
          have hk := hk.1 c20
          refine lv_iload hx hb dX4_odds_95 (lv_at hl 6 rfl) ?_
          refine lv_goto (tgt := 102) hx hb dX4_odds_97 (by decide) ?_
          exact hc102 J (vX4_commonDivisor x5 (10 : Int32)) x5 _ _ _ hV hk hP hD hS (lv_sub hl [1, 2, 3, 4, 5, 0] rfl)
      · have hV := hV.trans (if_neg c18)
        have hk := hk.2 c18
        refine lv_aload_n hx hb dX4_odds_58 rfl (lv_at hl 0 rfl) ?_
        refine gf_X4_10 (v := .ref (a 1)) hx hb hts hown hK hZ hP (0) rfl rfl dX4_odds_59 ?_
        refine lv_iload_n hx hb dX4_odds_62 rfl (lv_at hl 1 rfl) ?_
        refine lv_iload hx hb dX4_odds_63 (lv_at hl 6 rfl) ?_
        obtain ⟨h21, hk⟩ := hk
        refine jci0 (jrunV (As := [.int p1, .int x6]) (rest := []) hx hb hml hown hts hK hZ hA hP hD hS hl.1 mf_X0_hurt kl_X4_107 ⟨rfl, rfl, Nat.le_of_ble_eq_true rfl, Nat.le_of_ble_eq_true rfl⟩ ⟨Nat.zero_le _, Nat.zero_le _⟩ [1, 2, 3, 4, 5] rfl (js43 K a J) rfl rfl rfl (hX0_hurt l D K G (fun k => a (1 + k)) (j_E J) p1 x6 h21 _) rfl rfl (Nat.le_of_ble_eq_true rfl) dX4_odds_65) hA hP hD hS [1, 2, 3, 4, 5] (js43 K a J) (fun H locs hP hS => ?_)
        refine lv_iload_n hx hb dX4_odds_68 rfl (lv_at hl 2 rfl) ?_
        refine lv_icmp_gt (tgt := 75) hx hb dX4_odds_69 (by decide) (fun c22 => ?_) (fun c22 => ?_)
        · have hV := hV.trans (if_pos c22)
          have hk := hk.1 c22
          exact hc75 J x5 x6 _ _ _ hV hk hP hD hS (lv_sub hl [0, 1, 2, 3, 4, 5, 6] rfl)
        · have hV := hV.trans (if_neg c22)
          have hk := hk.2 c22
          refine lv_iinc (v := (x5 + (1 : Int32))) (lv' := [(5, .int (x5 + (1 : Int32))), (0, .ref (a 0)), (1, .int p1), (2, .int p2), (3, .int p3), (4, .int p4), (6, .int x6)]) hx hb dX4_odds_72 hl (k := 5) rfl rfl (by decide) rfl (fun ls hl => ?_)
          exact hc75 J (x5 + (1 : Int32)) x6 _ _ _ hV hk hP hD hS (lv_sub hl [1, 2, 3, 4, 5, 0, 6] rfl)
  have hc38 : ∀ (J : JS) (H : Heap) (locs : List Loc) (ls : Array Slot), (vX4_odds J0 p1 p2 p3 p4) = vX4_odds_c38 p1 p2 p3 p4 J → kX4_odds_c38 p1 p2 p3 p4 J → va_P D vwCl (wJ K a J) H → va_D A (wJ K a J) → va_S A s.heap H locs → lv_has ls 8 [(0, .ref (a 0)), (1, .int p1), (2, .int p2), (3, .int p3), (4, .int p4)] → W p l e rX4_odds s m ([.ref (a 0), .int p1, .int p2, .int p3, .int p4] : List Value).toArray below meth c H locs 0 0 Q (F0 m 38 ls []) := by
    intro J H locs ls hV hk hP hD hS hl
    rw [vX4_odds_c38] at hV
    rw [kX4_odds_c38] at hk
    refine lv_aload_n hx hb dX4_odds_38 rfl (lv_at hl 0 rfl) ?_
    refine lv_iconst (v := (0 : Int32)) hx hb dX4_odds_39 (by decide) ?_
    obtain ⟨h23, hk⟩ := hk
    refine jci (jrunV (As := [.int (0 : Int32)]) (rest := []) hx hb hml hown hts hK hZ hA hP hD hS hl.1 mf_X4_tell kl_X4_60 ⟨rfl, rfl, Nat.le_of_ble_eq_true rfl, Nat.le_of_ble_eq_true rfl⟩ ⟨Nat.zero_le _, Nat.zero_le _⟩ [0, 1, 2, 3, 4, 5, 6, 7, 8, 9, 10, 11, 12, 13, 14, 15, 16, 17, 18, 19, 20, 21, 22, 23, 24, 25, 26, 27, 28, 29] rfl (js45 K a J) rfl rfl rfl (hX4_tell l D K G a J (0 : Int32) h23 _) rfl rfl (Nat.le_of_ble_eq_true rfl) dX4_odds_40) hA hP hD hS [0, 1, 2, 3, 4, 5, 6, 7, 8, 9, 10, 11, 12, 13, 14, 15, 16, 17, 18, 19, 20, 21, 22, 23, 24, 25, 26, 27, 28, 29] (js45 K a J) (jh52 K a J ((vX4_tell J (0 : Int32)).2)) (fun H locs hP hD hS => ?_)
    have hP := jeP (jp53 K a J ((vX4_tell J (0 : Int32)).2)) hP
    have hD := jeD (jp53 K a J ((vX4_tell J (0 : Int32)).2)) hD
    refine lv_i2l hx hb dX4_odds_43 rfl ?_
    exact hend _ _ _ _ _ (by rw [hV]; exact hP) (by rw [hV]; exact hD) hS (by rw [hV]) dX4_odds_44
  have hV := vX4_odds.eq_1 J0 p1 p2 p3 p4
  rw [kX4_odds] at hk
  refine lv_aload_n hx hb dX4_odds_0 rfl (lv_at hl 0 rfl) ?_
  refine lv_iload_n hx hb dX4_odds_1 rfl (lv_at hl 1 rfl) ?_
  obtain ⟨h24, hk⟩ := hk
  refine jci0 (jrunV (As := [.int p1]) (rest := []) hx hb hml hown hts hK hZ hA hP hD hS hl.1 mf_X4_isThing kl_X4_94 ⟨rfl, rfl, Nat.le_of_ble_eq_true rfl, Nat.le_of_ble_eq_true rfl⟩ ⟨Nat.zero_le _, Nat.zero_le _⟩ [0, 1, 2, 3, 4, 5, 6, 7, 8, 9, 10, 11, 12, 13, 14, 15, 16, 17, 18, 19, 20, 21, 22, 23, 24, 25, 26, 27, 28, 29] rfl (js45 K a J0) rfl rfl rfl (hX4_isThing l D K G a J0 p1 h24 _) rfl rfl (Nat.le_of_ble_eq_true rfl) dX4_odds_2) hA hP hD hS [0, 1, 2, 3, 4, 5, 6, 7, 8, 9, 10, 11, 12, 13, 14, 15, 16, 17, 18, 19, 20, 21, 22, 23, 24, 25, 26, 27, 28, 29] (js45 K a J0) (fun H locs hP hS => ?_)
  refine lv_if_eq (tgt := 38) hx hb dX4_odds_5 (by decide) (fun c25 => ?_) (fun c25 => ?_)
  · have hV := hV.trans (if_pos c25)
    have hk := hk.1 c25
    exact hc38 J0 _ _ _ hV hk hP hD hS (lv_sub hl [0, 1, 2, 3, 4] rfl)
  · have hV := hV.trans (if_neg c25)
    have hk := hk.2 c25
    refine lv_iload_n hx hb dX4_odds_8 rfl (lv_at hl 2 rfl) ?_
    refine lv_iconst (v := (0 : Int32)) hx hb dX4_odds_9 (by decide) ?_
    refine lv_bipush (v := (99 : Int32)) hx hb dX4_odds_10 (by decide) ?_
    refine jci0 (jrunS (As := [.int p2, .int (0 : Int32), .int (99 : Int32)]) (rest := []) hx hb hml hown hts hK hZ hA hP hD hS hl.1 mf_X4_within kl_X4_50 ⟨rfl, rfl, Nat.le_of_ble_eq_true rfl, Nat.le_of_ble_eq_true rfl⟩ ⟨Nat.zero_le _, Nat.zero_le _⟩ [] rfl rfl (hX4_within l D K G p2 (0 : Int32) (99 : Int32) _) rfl rfl (Nat.le_of_ble_eq_true rfl) dX4_odds_12) hA hP hD hS [] rfl (fun H locs hP hS => ?_)
    refine lv_if_eq (tgt := 38) hx hb dX4_odds_15 (by decide) (fun c26 => ?_) (fun c26 => ?_)
    · have hV := hV.trans (if_pos c26)
      have hk := hk.1 c26
      exact hc38 J0 _ _ _ hV hk hP hD hS (lv_sub hl [0, 1, 2, 3, 4] rfl)
    · have hV := hV.trans (if_neg c26)
      have hk := hk.2 c26
      refine lv_iload_n hx hb dX4_odds_18 rfl (lv_at hl 3 rfl) ?_
      refine lv_iconst (v := (0 : Int32)) hx hb dX4_odds_19 (by decide) ?_
      refine lv_bipush (v := (18 : Int32)) hx hb dX4_odds_20 (by decide) ?_
      refine jci0 (jrunS (As := [.int p3, .int (0 : Int32), .int (18 : Int32)]) (rest := []) hx hb hml hown hts hK hZ hA hP hD hS hl.1 mf_X4_within kl_X4_50 ⟨rfl, rfl, Nat.le_of_ble_eq_true rfl, Nat.le_of_ble_eq_true rfl⟩ ⟨Nat.zero_le _, Nat.zero_le _⟩ [] rfl rfl (hX4_within l D K G p3 (0 : Int32) (18 : Int32) _) rfl rfl (Nat.le_of_ble_eq_true rfl) dX4_odds_22) hA hP hD hS [] rfl (fun H locs hP hS => ?_)
      refine lv_if_eq (tgt := 38) hx hb dX4_odds_25 (by decide) (fun c27 => ?_) (fun c27 => ?_)
      · have hV := hV.trans (if_pos c27)
        have hk := hk.1 c27
        exact hc38 J0 _ _ _ hV hk hP hD hS (lv_sub hl [0, 1, 2, 3, 4] rfl)
      · have hV := hV.trans (if_neg c27)
        have hk := hk.2 c27
        refine lv_iload hx hb dX4_odds_28 (lv_at hl 4 rfl) ?_
        refine lv_iconst (v := (0 : Int32)) hx hb dX4_odds_30 (by decide) ?_
        refine lv_iconst (v := (1 : Int32)) hx hb dX4_odds_31 (by decide) ?_
        refine jci0 (jrunS (As := [.int p4, .int (0 : Int32), .int (1 : Int32)]) (rest := []) hx hb hml hown hts hK hZ hA hP hD hS hl.1 mf_X4_within kl_X4_50 ⟨rfl, rfl, Nat.le_of_ble_eq_true rfl, Nat.le_of_ble_eq_true rfl⟩ ⟨Nat.zero_le _, Nat.zero_le _⟩ [] rfl rfl (hX4_within l D K G p4 (0 : Int32) (1 : Int32) _) rfl rfl (Nat.le_of_ble_eq_true rfl) dX4_odds_32) hA hP hD hS [] rfl (fun H locs hP hS => ?_)
        refine lv_if_ne (tgt := 45) hx hb dX4_odds_35 (by decide) (fun c28 => ?_) (fun c28 => ?_)
        · have hV := hV.trans (if_neg c28)
          have hk := hk.2 c28
          refine lv_iconst (v := (0 : Int32)) hx hb dX4_odds_45 (by decide) ?_
          refine lv_istore (lv' := [(5, .int (0 : Int32)), (0, .ref (a 0)), (1, .int p1), (2, .int p2), (3, .int p3), (4, .int p4)]) hx hb dX4_odds_46 hl (by decide) rfl (fun ls hl => ?_)
          refine lv_iconst (v := (0 : Int32)) hx hb dX4_odds_48 (by decide) ?_
          refine lv_istore (lv' := [(6, .int (0 : Int32)), (5, .int (0 : Int32)), (0, .ref (a 0)), (1, .int p1), (2, .int p2), (3, .int p3), (4, .int p4)]) hx hb dX4_odds_49 hl (by decide) rfl (fun ls hl => ?_)
          exact hc51 1024 J0 (0 : Int32) (0 : Int32) _ _ _ hV hk hP hD hS (lv_sub hl [2, 3, 4, 5, 6, 1, 0] rfl)
        · have hV := hV.trans (if_pos c28)
          have hk := hk.1 c28
          exact hc38 J0 _ _ _ hV hk hP hD hS (lv_sub hl [0, 1, 2, 3, 4] rfl)
theorem dX4_of_0 : decode cX4_of 0 = .ok (.aload_n 0, 1) := by decide +kernel
theorem dX4_of_1 : decode cX4_of 1 = .ok (.iload_n 1, 1) := by decide +kernel
theorem dX4_of_2 : decode cX4_of 2 = .ok (.invokevirtual 94, 3) := by decide +kernel
theorem dX4_of_5 : decode cX4_of 5 = .ok (.ifCond .eq 13, 3) := by decide +kernel
theorem dX4_of_8 : decode cX4_of 8 = .ok (.iload_n 2, 1) := by decide +kernel
theorem dX4_of_9 : decode cX4_of 9 = .ok (.iconst 0, 1) := by decide +kernel
theorem dX4_of_10 : decode cX4_of 10 = .ok (.bipush 11, 2) := by decide +kernel
theorem dX4_of_12 : decode cX4_of 12 = .ok (.invokestatic 50, 3) := by decide +kernel
theorem dX4_of_15 : decode cX4_of 15 = .ok (.ifCond .ne 9, 3) := by decide +kernel
theorem dX4_of_18 : decode cX4_of 18 = .ok (.aload_n 0, 1) := by decide +kernel
theorem dX4_of_19 : decode cX4_of 19 = .ok (.iconst 0, 1) := by decide +kernel
theorem dX4_of_20 : decode cX4_of 20 = .ok (.invokevirtual 60, 3) := by decide +kernel
theorem dX4_of_23 : decode cX4_of 23 = .ok (.ireturn, 1) := by decide +kernel
theorem dX4_of_24 : decode cX4_of 24 = .ok (.aload_n 0, 1) := by decide +kernel
theorem dX4_of_25 : decode cX4_of 25 = .ok (.getfield 10, 3) := by decide +kernel
theorem dX4_of_28 : decode cX4_of 28 = .ok (.iload_n 1, 1) := by decide +kernel
theorem dX4_of_29 : decode cX4_of 29 = .ok (.iload_n 2, 1) := by decide +kernel
theorem dX4_of_30 : decode cX4_of 30 = .ok (.invokevirtual 97, 3) := by decide +kernel
theorem dX4_of_33 : decode cX4_of 33 = .ok (.ireturn, 1) := by decide +kernel
def rX4_of : Room := { frames := 5, cells := 0, slots := 0, locals := 108 }
def vX4_of_c18 (p1 : Int32) (p2 : Int32) (J : JS) : Int32 × JS := (((vX4_tell J (0 : Int32)).1), ((vX4_tell J (0 : Int32)).2))
def kX4_of_c18 (p1 : Int32) (p2 : Int32) (J : JS) : Prop := (kX4_tell J (0 : Int32)) ∧ True
def vX4_of (J0 : JS) (p1 : Int32) (p2 : Int32) : Int32 × JS := if ((vX4_isThing J0 p1) = 0) then (vX4_of_c18 p1 p2 J0) else if ((vX4_within p2 (0 : Int32) (11 : Int32)) = 0) then (vX4_of_c18 p1 p2 J0) else ((vX0_told (j_E J0) p1 p2), J0)
def kX4_of (J0 : JS) (p1 : Int32) (p2 : Int32) : Prop := (kX4_isThing J0 p1) ∧ (((vX4_isThing J0 p1) = 0) → ((kX4_of_c18 p1 p2 J0))) ∧ (¬ ((vX4_isThing J0 p1) = 0) → ((((vX4_within p2 (0 : Int32) (11 : Int32)) = 0) → ((kX4_of_c18 p1 p2 J0))) ∧ (¬ ((vX4_within p2 (0 : Int32) (11 : Int32)) = 0) → ((kX0_told (j_E J0) p1 p2) ∧ True))))
set_option maxHeartbeats 4000000 in
set_option maxRecDepth 100000 in
theorem hX4_of (l : Launch) (D : va_G) (K : JK) (G : JG) (a : Nat → Nat) (J0 : JS) (p1 : Int32) (p2 : Int32) (hk : kX4_of J0 p1 p2) (sz : Nat) : Met l yX4_of (.code yX4_of cX4_of 3 (some .int) :: jGW) rX4_of (jPre D (jT K) G [.ref (a 0), .int p1, .int p2] (wJ K a J0) sz) (jQi D (jT K) ((vX4_of J0 p1 p2).1) (wJ K a ((vX4_of J0 p1 p2).2)) (va_A (wJ K a J0) sz)) 0 0 (va_A (wJ K a J0) sz) := by
  refine jEi (by decide) (Nat.le_of_ble_eq_true rfl) (fun p e s m below meth c A Q ls hat hP hD hS hl hend => ?_)
  obtain ⟨hx, hb, hml, hown, hts, hK, hZ, hA⟩ := hat
  have hl : lv_has ls 3 [(0, .ref (a 0)), (1, .int p1), (2, .int p2)] := hl
  have hc18 : ∀ (J : JS) (H : Heap) (locs : List Loc) (ls : Array Slot), (vX4_of J0 p1 p2) = vX4_of_c18 p1 p2 J → kX4_of_c18 p1 p2 J → va_P D vwCl (wJ K a J) H → va_D A (wJ K a J) → va_S A s.heap H locs → lv_has ls 3 [(0, .ref (a 0)), (1, .int p1), (2, .int p2)] → W p l e rX4_of s m ([.ref (a 0), .int p1, .int p2] : List Value).toArray below meth c H locs 0 0 Q (F0 m 18 ls []) := by
    intro J H locs ls hV hk hP hD hS hl
    rw [vX4_of_c18] at hV
    rw [kX4_of_c18] at hk
    refine lv_aload_n hx hb dX4_of_18 rfl (lv_at hl 0 rfl) ?_
    refine lv_iconst (v := (0 : Int32)) hx hb dX4_of_19 (by decide) ?_
    obtain ⟨h6, hk⟩ := hk
    refine jci (jrunV (As := [.int (0 : Int32)]) (rest := []) hx hb hml hown hts hK hZ hA hP hD hS hl.1 mf_X4_tell kl_X4_60 ⟨rfl, rfl, Nat.le_of_ble_eq_true rfl, Nat.le_of_ble_eq_true rfl⟩ ⟨Nat.zero_le _, Nat.zero_le _⟩ [0, 1, 2, 3, 4, 5, 6, 7, 8, 9, 10, 11, 12, 13, 14, 15, 16, 17, 18, 19, 20, 21, 22, 23, 24, 25, 26, 27, 28, 29] rfl (js45 K a J) rfl rfl rfl (hX4_tell l D K G a J (0 : Int32) h6 _) rfl rfl (Nat.le_of_ble_eq_true rfl) dX4_of_20) hA hP hD hS [0, 1, 2, 3, 4, 5, 6, 7, 8, 9, 10, 11, 12, 13, 14, 15, 16, 17, 18, 19, 20, 21, 22, 23, 24, 25, 26, 27, 28, 29] (js45 K a J) (jh52 K a J ((vX4_tell J (0 : Int32)).2)) (fun H locs hP hD hS => ?_)
    have hP := jeP (jp53 K a J ((vX4_tell J (0 : Int32)).2)) hP
    have hD := jeD (jp53 K a J ((vX4_tell J (0 : Int32)).2)) hD
    exact hend _ _ _ _ _ (by rw [hV]; exact hP) (by rw [hV]; exact hD) hS (by rw [hV]) rfl dX4_of_23
  have hV := vX4_of.eq_1 J0 p1 p2
  rw [kX4_of] at hk
  refine lv_aload_n hx hb dX4_of_0 rfl (lv_at hl 0 rfl) ?_
  refine lv_iload_n hx hb dX4_of_1 rfl (lv_at hl 1 rfl) ?_
  obtain ⟨h7, hk⟩ := hk
  refine jci0 (jrunV (As := [.int p1]) (rest := []) hx hb hml hown hts hK hZ hA hP hD hS hl.1 mf_X4_isThing kl_X4_94 ⟨rfl, rfl, Nat.le_of_ble_eq_true rfl, Nat.le_of_ble_eq_true rfl⟩ ⟨Nat.zero_le _, Nat.zero_le _⟩ [0, 1, 2, 3, 4, 5, 6, 7, 8, 9, 10, 11, 12, 13, 14, 15, 16, 17, 18, 19, 20, 21, 22, 23, 24, 25, 26, 27, 28, 29] rfl (js45 K a J0) rfl rfl rfl (hX4_isThing l D K G a J0 p1 h7 _) rfl rfl (Nat.le_of_ble_eq_true rfl) dX4_of_2) hA hP hD hS [0, 1, 2, 3, 4, 5, 6, 7, 8, 9, 10, 11, 12, 13, 14, 15, 16, 17, 18, 19, 20, 21, 22, 23, 24, 25, 26, 27, 28, 29] (js45 K a J0) (fun H locs hP hS => ?_)
  refine lv_if_eq (tgt := 18) hx hb dX4_of_5 (by decide) (fun c8 => ?_) (fun c8 => ?_)
  · have hV := hV.trans (if_pos c8)
    have hk := hk.1 c8
    exact hc18 J0 _ _ _ hV hk hP hD hS (lv_sub hl [0, 1, 2] rfl)
  · have hV := hV.trans (if_neg c8)
    have hk := hk.2 c8
    refine lv_iload_n hx hb dX4_of_8 rfl (lv_at hl 2 rfl) ?_
    refine lv_iconst (v := (0 : Int32)) hx hb dX4_of_9 (by decide) ?_
    refine lv_bipush (v := (11 : Int32)) hx hb dX4_of_10 (by decide) ?_
    refine jci0 (jrunS (As := [.int p2, .int (0 : Int32), .int (11 : Int32)]) (rest := []) hx hb hml hown hts hK hZ hA hP hD hS hl.1 mf_X4_within kl_X4_50 ⟨rfl, rfl, Nat.le_of_ble_eq_true rfl, Nat.le_of_ble_eq_true rfl⟩ ⟨Nat.zero_le _, Nat.zero_le _⟩ [] rfl rfl (hX4_within l D K G p2 (0 : Int32) (11 : Int32) _) rfl rfl (Nat.le_of_ble_eq_true rfl) dX4_of_12) hA hP hD hS [] rfl (fun H locs hP hS => ?_)
    refine lv_if_ne (tgt := 24) hx hb dX4_of_15 (by decide) (fun c9 => ?_) (fun c9 => ?_)
    · have hV := hV.trans (if_neg c9)
      have hk := hk.2 c9
      refine lv_aload_n hx hb dX4_of_24 rfl (lv_at hl 0 rfl) ?_
      refine gf_X4_10 (v := .ref (a 1)) hx hb hts hown hK hZ hP (0) rfl rfl dX4_of_25 ?_
      refine lv_iload_n hx hb dX4_of_28 rfl (lv_at hl 1 rfl) ?_
      refine lv_iload_n hx hb dX4_of_29 rfl (lv_at hl 2 rfl) ?_
      obtain ⟨h10, hk⟩ := hk
      refine jci0 (jrunV (As := [.int p1, .int p2]) (rest := []) hx hb hml hown hts hK hZ hA hP hD hS hl.1 mf_X0_told kl_X4_97 ⟨rfl, rfl, Nat.le_of_ble_eq_true rfl, Nat.le_of_ble_eq_true rfl⟩ ⟨Nat.zero_le _, Nat.zero_le _⟩ [1, 2, 3, 4, 5] rfl (js43 K a J0) rfl rfl rfl (hX0_told l D K G (fun k => a (1 + k)) (j_E J0) p1 p2 h10 _) rfl rfl (Nat.le_of_ble_eq_true rfl) dX4_of_30) hA hP hD hS [1, 2, 3, 4, 5] (js43 K a J0) (fun H locs hP hS => ?_)
      exact hend _ _ _ _ _ (by rw [hV]; exact hP) (by rw [hV]; exact hD) hS (by rw [hV]) rfl dX4_of_33
    · have hV := hV.trans (if_pos c9)
      have hk := hk.1 c9
      exact hc18 J0 _ _ _ hV hk hP hD hS (lv_sub hl [0, 1, 2] rfl)
theorem dX4_owing_0 : decode cX4_owing 0 = .ok (.aload_n 0, 1) := by decide +kernel
theorem dX4_owing_1 : decode cX4_owing 1 = .ok (.iload_n 1, 1) := by decide +kernel
theorem dX4_owing_2 : decode cX4_owing 2 = .ok (.invokevirtual 94, 3) := by decide +kernel
theorem dX4_owing_5 : decode cX4_owing 5 = .ok (.ifCond .eq 14, 3) := by decide +kernel
theorem dX4_owing_8 : decode cX4_owing 8 = .ok (.iload_n 2, 1) := by decide +kernel
theorem dX4_owing_9 : decode cX4_owing 9 = .ok (.iconst 0, 1) := by decide +kernel
theorem dX4_owing_10 : decode cX4_owing 10 = .ok (.sipush 999, 3) := by decide +kernel
theorem dX4_owing_13 : decode cX4_owing 13 = .ok (.invokestatic 50, 3) := by decide +kernel
theorem dX4_owing_16 : decode cX4_owing 16 = .ok (.ifCond .ne 9, 3) := by decide +kernel
theorem dX4_owing_19 : decode cX4_owing 19 = .ok (.aload_n 0, 1) := by decide +kernel
theorem dX4_owing_20 : decode cX4_owing 20 = .ok (.iconst 0, 1) := by decide +kernel
theorem dX4_owing_21 : decode cX4_owing 21 = .ok (.invokevirtual 60, 3) := by decide +kernel
theorem dX4_owing_24 : decode cX4_owing 24 = .ok (.ireturn, 1) := by decide +kernel
theorem dX4_owing_25 : decode cX4_owing 25 = .ok (.aload_n 0, 1) := by decide +kernel
theorem dX4_owing_26 : decode cX4_owing 26 = .ok (.getfield 19, 3) := by decide +kernel
theorem dX4_owing_29 : decode cX4_owing 29 = .ok (.aload_n 0, 1) := by decide +kernel
theorem dX4_owing_30 : decode cX4_owing 30 = .ok (.getfield 10, 3) := by decide +kernel
theorem dX4_owing_33 : decode cX4_owing 33 = .ok (.invokevirtual 132, 3) := by decide +kernel
theorem dX4_owing_36 : decode cX4_owing 36 = .ok (.iconst 0, 1) := by decide +kernel
theorem dX4_owing_37 : decode cX4_owing 37 = .ok (.istore_n 3, 1) := by decide +kernel
theorem dX4_owing_38 : decode cX4_owing 38 = .ok (.iload_n 3, 1) := by decide +kernel
theorem dX4_owing_39 : decode cX4_owing 39 = .ok (.sipush 200, 3) := by decide +kernel
theorem dX4_owing_42 : decode cX4_owing 42 = .ok (.if_icmp .gt 30, 3) := by decide +kernel
theorem dX4_owing_45 : decode cX4_owing 45 = .ok (.aload_n 0, 1) := by decide +kernel
theorem dX4_owing_46 : decode cX4_owing 46 = .ok (.getfield 19, 3) := by decide +kernel
theorem dX4_owing_49 : decode cX4_owing 49 = .ok (.iload_n 1, 1) := by decide +kernel
theorem dX4_owing_50 : decode cX4_owing 50 = .ok (.invokevirtual 142, 3) := by decide +kernel
theorem dX4_owing_53 : decode cX4_owing 53 = .ok (.iload_n 2, 1) := by decide +kernel
theorem dX4_owing_54 : decode cX4_owing 54 = .ok (.if_icmp .lt 5, 3) := by decide +kernel
theorem dX4_owing_57 : decode cX4_owing 57 = .ok (.iload_n 3, 1) := by decide +kernel
theorem dX4_owing_58 : decode cX4_owing 58 = .ok (.ireturn, 1) := by decide +kernel
theorem dX4_owing_59 : decode cX4_owing 59 = .ok (.aload_n 0, 1) := by decide +kernel
theorem dX4_owing_60 : decode cX4_owing 60 = .ok (.getfield 19, 3) := by decide +kernel
theorem dX4_owing_63 : decode cX4_owing 63 = .ok (.invokevirtual 139, 3) := by decide +kernel
theorem dX4_owing_66 : decode cX4_owing 66 = .ok (.iinc 3 1, 3) := by decide +kernel
theorem dX4_owing_69 : decode cX4_owing 69 = .ok (.goto (-31), 3) := by decide +kernel
theorem dX4_owing_72 : decode cX4_owing 72 = .ok (.aload_n 0, 1) := by decide +kernel
theorem dX4_owing_73 : decode cX4_owing 73 = .ok (.iconst 3, 1) := by decide +kernel
theorem dX4_owing_74 : decode cX4_owing 74 = .ok (.invokevirtual 60, 3) := by decide +kernel
theorem dX4_owing_77 : decode cX4_owing 77 = .ok (.ireturn, 1) := by decide +kernel
def rX4_owing : Room := { frames := 4, cells := 0, slots := 0, locals := 86 }
def vX4_owing_c66 (p1 : Int32) (p2 : Int32) (k : JS → Int32 → Int32 × JS) (J : JS) (x3 : Int32) : Int32 × JS := (k J (x3 + (1 : Int32)))
def kX4_owing_c66 (p1 : Int32) (p2 : Int32) (q : JS → Int32 → Prop) (J : JS) (x3 : Int32) : Prop := (q J (x3 + (1 : Int32)))
def vX4_owing_c38 (p1 : Int32) (p2 : Int32) : Nat → JS → Int32 → Int32 × JS
  | 0, J, x3 => (0, J)
  | n + 1, J, x3 => if ((200 : Int32) < x3) then (((vX4_tell J (3 : Int32)).1), ((vX4_tell J (3 : Int32)).2)) else if ((vX0_award (j_T J) p1) < p2) then (vX4_owing_c66 p1 p2 (fun J x3 => vX4_owing_c38 p1 p2 n J x3) (j_s_T J (vX0_passDay (j_T J))) x3) else (x3, J)
def kX4_owing_c38 (p1 : Int32) (p2 : Int32) : Nat → JS → Int32 → Prop
  | 0, _, _ => False
  | n + 1, J, x3 => (((200 : Int32) < x3) → ((kX4_tell J (3 : Int32)) ∧ True)) ∧ (¬ ((200 : Int32) < x3) → ((kX0_award (j_T J) p1) ∧ (((vX0_award (j_T J) p1) < p2) → ((kX0_passDay (j_T J)) ∧ (kX4_owing_c66 p1 p2 (fun J x3 => kX4_owing_c38 p1 p2 n J x3) (j_s_T J (vX0_passDay (j_T J))) x3))) ∧ (¬ ((vX0_award (j_T J) p1) < p2) → True)))
def vX4_owing_c36 (p1 : Int32) (p2 : Int32) (J : JS) : Int32 × JS := (vX4_owing_c38 p1 p2 1024 J (0 : Int32))
def kX4_owing_c36 (p1 : Int32) (p2 : Int32) (J : JS) : Prop := (kX4_owing_c38 p1 p2 1024 J (0 : Int32))
def vX4_owing_c19 (p1 : Int32) (p2 : Int32) (J : JS) : Int32 × JS := (((vX4_tell J (0 : Int32)).1), ((vX4_tell J (0 : Int32)).2))
def kX4_owing_c19 (p1 : Int32) (p2 : Int32) (J : JS) : Prop := (kX4_tell J (0 : Int32)) ∧ True
def vX4_owing (J0 : JS) (p1 : Int32) (p2 : Int32) : Int32 × JS := if ((vX4_isThing J0 p1) = 0) then (vX4_owing_c19 p1 p2 J0) else if ((vX4_within p2 (0 : Int32) (999 : Int32)) = 0) then (vX4_owing_c19 p1 p2 J0) else (vX4_owing_c36 p1 p2 (j_s_T J0 (vX0_become (j_T J0) (j_E J0))))
def kX4_owing (J0 : JS) (p1 : Int32) (p2 : Int32) : Prop := (kX4_isThing J0 p1) ∧ (((vX4_isThing J0 p1) = 0) → ((kX4_owing_c19 p1 p2 J0))) ∧ (¬ ((vX4_isThing J0 p1) = 0) → ((((vX4_within p2 (0 : Int32) (999 : Int32)) = 0) → ((kX4_owing_c19 p1 p2 J0))) ∧ (¬ ((vX4_within p2 (0 : Int32) (999 : Int32)) = 0) → ((kX0_become (j_T J0) (j_E J0)) ∧ (kX4_owing_c36 p1 p2 (j_s_T J0 (vX0_become (j_T J0) (j_E J0))))))))
set_option maxHeartbeats 4000000 in
set_option maxRecDepth 100000 in
theorem hX4_owing (l : Launch) (D : va_G) (K : JK) (G : JG) (a : Nat → Nat) (J0 : JS) (p1 : Int32) (p2 : Int32) (hk : kX4_owing J0 p1 p2) (sz : Nat) : Met l yX4_owing (.code yX4_owing cX4_owing 4 (some .int) :: jGW) rX4_owing (jPre D (jT K) G [.ref (a 0), .int p1, .int p2] (wJ K a J0) sz) (jQi D (jT K) ((vX4_owing J0 p1 p2).1) (wJ K a ((vX4_owing J0 p1 p2).2)) (va_A (wJ K a J0) sz)) 0 0 (va_A (wJ K a J0) sz) := by
  refine jEi (by decide) (Nat.le_of_ble_eq_true rfl) (fun p e s m below meth c A Q ls hat hP hD hS hl hend => ?_)
  obtain ⟨hx, hb, hml, hown, hts, hK, hZ, hA⟩ := hat
  have hl : lv_has ls 4 [(0, .ref (a 0)), (1, .int p1), (2, .int p2)] := hl
  have hc38 : ∀ (n : Nat) (J : JS) (x3 : Int32) (H : Heap) (locs : List Loc) (ls : Array Slot), (vX4_owing J0 p1 p2) = vX4_owing_c38 p1 p2 n J x3 → kX4_owing_c38 p1 p2 n J x3 → va_P D vwCl (wJ K a J) H → va_D A (wJ K a J) → va_S A s.heap H locs → lv_has ls 4 [(0, .ref (a 0)), (1, .int p1), (2, .int p2), (3, .int x3)] → W p l e rX4_owing s m ([.ref (a 0), .int p1, .int p2] : List Value).toArray below meth c H locs 0 0 Q (F0 m 38 ls []) := by
    intro n
    induction n with
    | zero =>
      intro J x3 H locs ls hV hk hP hD hS hl
      exact False.elim hk
    | succ n ih =>
      have hc66 : ∀ (J : JS) (x3 : Int32) (H : Heap) (locs : List Loc) (ls : Array Slot), (vX4_owing J0 p1 p2) = vX4_owing_c66 p1 p2 (fun J x3 => vX4_owing_c38 p1 p2 n J x3) J x3 → kX4_owing_c66 p1 p2 (fun J x3 => kX4_owing_c38 p1 p2 n J x3) J x3 → va_P D vwCl (wJ K a J) H → va_D A (wJ K a J) → va_S A s.heap H locs → lv_has ls 4 [(0, .ref (a 0)), (1, .int p1), (2, .int p2), (3, .int x3)] → W p l e rX4_owing s m ([.ref (a 0), .int p1, .int p2] : List Value).toArray below meth c H locs 0 0 Q (F0 m 66 ls []) := by
        intro J x3 H locs ls hV hk hP hD hS hl
        rw [vX4_owing_c66] at hV
        rw [kX4_owing_c66] at hk
        refine lv_iinc (v := (x3 + (1 : Int32))) (lv' := [(3, .int (x3 + (1 : Int32))), (0, .ref (a 0)), (1, .int p1), (2, .int p2)]) hx hb dX4_owing_66 hl (k := 3) rfl rfl (by decide) rfl (fun ls hl => ?_)
        refine lv_goto (tgt := 38) hx hb dX4_owing_69 (by decide) ?_
        exact ih J (x3 + (1 : Int32)) _ _ _ hV hk hP hD hS (lv_sub hl [1, 2, 3, 0] rfl)
      intro J x3 H locs ls hV hk hP hD hS hl
      rw [vX4_owing_c38] at hV
      rw [kX4_owing_c38] at hk
      refine lv_iload_n hx hb dX4_owing_38 rfl (lv_at hl 3 rfl) ?_
      refine lv_sipush (v := (200 : Int32)) hx hb dX4_owing_39 (by decide) ?_
      refine lv_icmp_gt (tgt := 72) hx hb dX4_owing_42 (by decide) (fun c11 => ?_) (fun c11 => ?_)
      · have hV := hV.trans (if_pos c11)
        have hk := hk.1 c11
        refine lv_aload_n hx hb dX4_owing_72 rfl (lv_at hl 0 rfl) ?_
        refine lv_iconst (v := (3 : Int32)) hx hb dX4_owing_73 (by decide) ?_
        obtain ⟨h12, hk⟩ := hk
        refine jci (jrunV (As := [.int (3 : Int32)]) (rest := []) hx hb hml hown hts hK hZ hA hP hD hS hl.1 mf_X4_tell kl_X4_60 ⟨rfl, rfl, Nat.le_of_ble_eq_true rfl, Nat.le_of_ble_eq_true rfl⟩ ⟨Nat.zero_le _, Nat.zero_le _⟩ [0, 1, 2, 3, 4, 5, 6, 7, 8, 9, 10, 11, 12, 13, 14, 15, 16, 17, 18, 19, 20, 21, 22, 23, 24, 25, 26, 27, 28, 29] rfl (js45 K a J) rfl rfl rfl (hX4_tell l D K G a J (3 : Int32) h12 _) rfl rfl (Nat.le_of_ble_eq_true rfl) dX4_owing_74) hA hP hD hS [0, 1, 2, 3, 4, 5, 6, 7, 8, 9, 10, 11, 12, 13, 14, 15, 16, 17, 18, 19, 20, 21, 22, 23, 24, 25, 26, 27, 28, 29] (js45 K a J) (jh52 K a J ((vX4_tell J (3 : Int32)).2)) (fun H locs hP hD hS => ?_)
        have hP := jeP (jp53 K a J ((vX4_tell J (3 : Int32)).2)) hP
        have hD := jeD (jp53 K a J ((vX4_tell J (3 : Int32)).2)) hD
        exact hend _ _ _ _ _ (by rw [hV]; exact hP) (by rw [hV]; exact hD) hS (by rw [hV]) rfl dX4_owing_77
      · have hV := hV.trans (if_neg c11)
        have hk := hk.2 c11
        refine lv_aload_n hx hb dX4_owing_45 rfl (lv_at hl 0 rfl) ?_
        refine gf_X4_19 (v := .ref (a 11)) hx hb hts hown hK hZ hP (0) rfl rfl dX4_owing_46 ?_
        refine lv_iload_n hx hb dX4_owing_49 rfl (lv_at hl 1 rfl) ?_
        obtain ⟨h13, hk⟩ := hk
        refine jci0 (jrunV (As := [.int p1]) (rest := []) hx hb hml hown hts hK hZ hA hP hD hS hl.1 mf_X0_award kl_X4_142 ⟨rfl, rfl, Nat.le_of_ble_eq_true rfl, Nat.le_of_ble_eq_true rfl⟩ ⟨Nat.zero_le _, Nat.zero_le _⟩ [11, 12, 13, 14, 15] rfl (js49 K a J) rfl rfl rfl (hX0_award l D K G (fun k => a (11 + k)) (j_T J) p1 h13 _) rfl rfl (Nat.le_of_ble_eq_true rfl) dX4_owing_50) hA hP hD hS [11, 12, 13, 14, 15] (js49 K a J) (fun H locs hP hS => ?_)
        refine lv_iload_n hx hb dX4_owing_53 rfl (lv_at hl 2 rfl) ?_
        refine lv_icmp_lt (tgt := 59) hx hb dX4_owing_54 (by decide) (fun c14 => ?_) (fun c14 => ?_)
        · have hV := hV.trans (if_pos c14)
          have hk := hk.1 c14
          refine lv_aload_n hx hb dX4_owing_59 rfl (lv_at hl 0 rfl) ?_
          refine gf_X4_19 (v := .ref (a 11)) hx hb hts hown hK hZ hP (0) rfl rfl dX4_owing_60 ?_
          obtain ⟨h15, hk⟩ := hk
          refine jcv (jrunV (As := []) (rest := []) hx hb hml hown hts hK hZ hA hP hD hS hl.1 mf_X0_passDay kl_X4_139 ⟨rfl, rfl, Nat.le_of_ble_eq_true rfl, Nat.le_of_ble_eq_true rfl⟩ ⟨Nat.zero_le _, Nat.zero_le _⟩ [11, 12, 13, 14, 15] rfl (js49 K a J) rfl rfl rfl (hX0_passDay l D K G (fun k => a (11 + k)) (j_T J) h15 _) rfl rfl (Nat.le_of_ble_eq_true rfl) dX4_owing_63) hA hP hD hS [11, 12, 13, 14, 15] (js49 K a J) (jh50 K a J (vX0_passDay (j_T J))) (fun H locs hP hD hS => ?_)
          have hP := jeP (jp51 K a J (vX0_passDay (j_T J))) hP
          have hD := jeD (jp51 K a J (vX0_passDay (j_T J))) hD
          exact hc66 (j_s_T J (vX0_passDay (j_T J))) x3 _ _ _ hV hk hP hD hS (lv_sub hl [0, 1, 2, 3] rfl)
        · have hV := hV.trans (if_neg c14)
          have hk := hk.2 c14
          refine lv_iload_n hx hb dX4_owing_57 rfl (lv_at hl 3 rfl) ?_
          exact hend _ _ _ _ _ (by rw [hV]; exact hP) (by rw [hV]; exact hD) hS (by rw [hV]) rfl dX4_owing_58
  have hc36 : ∀ (J : JS) (H : Heap) (locs : List Loc) (ls : Array Slot), (vX4_owing J0 p1 p2) = vX4_owing_c36 p1 p2 J → kX4_owing_c36 p1 p2 J → va_P D vwCl (wJ K a J) H → va_D A (wJ K a J) → va_S A s.heap H locs → lv_has ls 4 [(0, .ref (a 0)), (1, .int p1), (2, .int p2)] → W p l e rX4_owing s m ([.ref (a 0), .int p1, .int p2] : List Value).toArray below meth c H locs 0 0 Q (F0 m 36 ls []) := by
    intro J H locs ls hV hk hP hD hS hl
    rw [vX4_owing_c36] at hV
    rw [kX4_owing_c36] at hk
    refine lv_iconst (v := (0 : Int32)) hx hb dX4_owing_36 (by decide) ?_
    refine lv_istore_n (lv' := [(3, .int (0 : Int32)), (0, .ref (a 0)), (1, .int p1), (2, .int p2)]) hx hb dX4_owing_37 rfl hl (by decide) rfl (fun ls hl => ?_)
    exact hc38 1024 J (0 : Int32) _ _ _ hV hk hP hD hS (lv_sub hl [1, 2, 3, 0] rfl)
  have hc19 : ∀ (J : JS) (H : Heap) (locs : List Loc) (ls : Array Slot), (vX4_owing J0 p1 p2) = vX4_owing_c19 p1 p2 J → kX4_owing_c19 p1 p2 J → va_P D vwCl (wJ K a J) H → va_D A (wJ K a J) → va_S A s.heap H locs → lv_has ls 4 [(0, .ref (a 0)), (1, .int p1), (2, .int p2)] → W p l e rX4_owing s m ([.ref (a 0), .int p1, .int p2] : List Value).toArray below meth c H locs 0 0 Q (F0 m 19 ls []) := by
    intro J H locs ls hV hk hP hD hS hl
    rw [vX4_owing_c19] at hV
    rw [kX4_owing_c19] at hk
    refine lv_aload_n hx hb dX4_owing_19 rfl (lv_at hl 0 rfl) ?_
    refine lv_iconst (v := (0 : Int32)) hx hb dX4_owing_20 (by decide) ?_
    obtain ⟨h16, hk⟩ := hk
    refine jci (jrunV (As := [.int (0 : Int32)]) (rest := []) hx hb hml hown hts hK hZ hA hP hD hS hl.1 mf_X4_tell kl_X4_60 ⟨rfl, rfl, Nat.le_of_ble_eq_true rfl, Nat.le_of_ble_eq_true rfl⟩ ⟨Nat.zero_le _, Nat.zero_le _⟩ [0, 1, 2, 3, 4, 5, 6, 7, 8, 9, 10, 11, 12, 13, 14, 15, 16, 17, 18, 19, 20, 21, 22, 23, 24, 25, 26, 27, 28, 29] rfl (js45 K a J) rfl rfl rfl (hX4_tell l D K G a J (0 : Int32) h16 _) rfl rfl (Nat.le_of_ble_eq_true rfl) dX4_owing_21) hA hP hD hS [0, 1, 2, 3, 4, 5, 6, 7, 8, 9, 10, 11, 12, 13, 14, 15, 16, 17, 18, 19, 20, 21, 22, 23, 24, 25, 26, 27, 28, 29] (js45 K a J) (jh52 K a J ((vX4_tell J (0 : Int32)).2)) (fun H locs hP hD hS => ?_)
    have hP := jeP (jp53 K a J ((vX4_tell J (0 : Int32)).2)) hP
    have hD := jeD (jp53 K a J ((vX4_tell J (0 : Int32)).2)) hD
    exact hend _ _ _ _ _ (by rw [hV]; exact hP) (by rw [hV]; exact hD) hS (by rw [hV]) rfl dX4_owing_24
  have hV := vX4_owing.eq_1 J0 p1 p2
  rw [kX4_owing] at hk
  refine lv_aload_n hx hb dX4_owing_0 rfl (lv_at hl 0 rfl) ?_
  refine lv_iload_n hx hb dX4_owing_1 rfl (lv_at hl 1 rfl) ?_
  obtain ⟨h17, hk⟩ := hk
  refine jci0 (jrunV (As := [.int p1]) (rest := []) hx hb hml hown hts hK hZ hA hP hD hS hl.1 mf_X4_isThing kl_X4_94 ⟨rfl, rfl, Nat.le_of_ble_eq_true rfl, Nat.le_of_ble_eq_true rfl⟩ ⟨Nat.zero_le _, Nat.zero_le _⟩ [0, 1, 2, 3, 4, 5, 6, 7, 8, 9, 10, 11, 12, 13, 14, 15, 16, 17, 18, 19, 20, 21, 22, 23, 24, 25, 26, 27, 28, 29] rfl (js45 K a J0) rfl rfl rfl (hX4_isThing l D K G a J0 p1 h17 _) rfl rfl (Nat.le_of_ble_eq_true rfl) dX4_owing_2) hA hP hD hS [0, 1, 2, 3, 4, 5, 6, 7, 8, 9, 10, 11, 12, 13, 14, 15, 16, 17, 18, 19, 20, 21, 22, 23, 24, 25, 26, 27, 28, 29] (js45 K a J0) (fun H locs hP hS => ?_)
  refine lv_if_eq (tgt := 19) hx hb dX4_owing_5 (by decide) (fun c18 => ?_) (fun c18 => ?_)
  · have hV := hV.trans (if_pos c18)
    have hk := hk.1 c18
    exact hc19 J0 _ _ _ hV hk hP hD hS (lv_sub hl [0, 1, 2] rfl)
  · have hV := hV.trans (if_neg c18)
    have hk := hk.2 c18
    refine lv_iload_n hx hb dX4_owing_8 rfl (lv_at hl 2 rfl) ?_
    refine lv_iconst (v := (0 : Int32)) hx hb dX4_owing_9 (by decide) ?_
    refine lv_sipush (v := (999 : Int32)) hx hb dX4_owing_10 (by decide) ?_
    refine jci0 (jrunS (As := [.int p2, .int (0 : Int32), .int (999 : Int32)]) (rest := []) hx hb hml hown hts hK hZ hA hP hD hS hl.1 mf_X4_within kl_X4_50 ⟨rfl, rfl, Nat.le_of_ble_eq_true rfl, Nat.le_of_ble_eq_true rfl⟩ ⟨Nat.zero_le _, Nat.zero_le _⟩ [] rfl rfl (hX4_within l D K G p2 (0 : Int32) (999 : Int32) _) rfl rfl (Nat.le_of_ble_eq_true rfl) dX4_owing_13) hA hP hD hS [] rfl (fun H locs hP hS => ?_)
    refine lv_if_ne (tgt := 25) hx hb dX4_owing_16 (by decide) (fun c19 => ?_) (fun c19 => ?_)
    · have hV := hV.trans (if_neg c19)
      have hk := hk.2 c19
      refine lv_aload_n hx hb dX4_owing_25 rfl (lv_at hl 0 rfl) ?_
      refine gf_X4_19 (v := .ref (a 11)) hx hb hts hown hK hZ hP (0) rfl rfl dX4_owing_26 ?_
      refine lv_aload_n hx hb dX4_owing_29 rfl (lv_at hl 0 rfl) ?_
      refine gf_X4_10 (v := .ref (a 1)) hx hb hts hown hK hZ hP (0) rfl rfl dX4_owing_30 ?_
      obtain ⟨h20, hk⟩ := hk
      refine jcv (jrunV (As := [.ref (a 1)]) (rest := []) hx hb hml hown hts hK hZ hA hP hD hS hl.1 mf_X0_become kl_X4_132 ⟨rfl, rfl, Nat.le_of_ble_eq_true rfl, Nat.le_of_ble_eq_true rfl⟩ ⟨Nat.zero_le _, Nat.zero_le _⟩ [11, 12, 13, 14, 15, 1, 2, 3, 4, 5] rfl (js46 K a J0) rfl rfl rfl (hX0_become l D K G (fun k => a (11 + k)) (fun k => a (1 + k)) (j_T J0) (j_E J0) h20 _) rfl rfl (Nat.le_of_ble_eq_true rfl) dX4_owing_33) hA hP hD hS [11, 12, 13, 14, 15, 1, 2, 3, 4, 5] (js46 K a J0) (jh47 K a J0 (vX0_become (j_T J0) (j_E J0))) (fun H locs hP hD hS => ?_)
      have hP := jeP (jp48 K a J0 (vX0_become (j_T J0) (j_E J0))) hP
      have hD := jeD (jp48 K a J0 (vX0_become (j_T J0) (j_E J0))) hD
      exact hc36 (j_s_T J0 (vX0_become (j_T J0) (j_E J0))) _ _ _ hV hk hP hD hS (lv_sub hl [0, 1, 2] rfl)
    · have hV := hV.trans (if_pos c19)
      have hk := hk.1 c19
      exact hc19 J0 _ _ _ hV hk hP hD hS (lv_sub hl [0, 1, 2] rfl)
theorem ja68 (K : JK) (a : Nat → Nat) (J : JS) (f : FA) : (wJ K a J).set 12 ((a 12), .inl (K.1, 7, .inl f)) = (wJ K a (j_s_T J (e_s_home (j_T J) f))) := rfl
theorem dX4_peopleFor_0 : decode cX4_peopleFor 0 = .ok (.iload_n 1, 1) := by decide +kernel
theorem dX4_peopleFor_1 : decode cX4_peopleFor 1 = .ok (.iconst 0, 1) := by decide +kernel
theorem dX4_peopleFor_2 : decode cX4_peopleFor 2 = .ok (.bipush 60, 2) := by decide +kernel
theorem dX4_peopleFor_4 : decode cX4_peopleFor 4 = .ok (.invokestatic 50, 3) := by decide +kernel
theorem dX4_peopleFor_7 : decode cX4_peopleFor 7 = .ok (.ifCond .ne 9, 3) := by decide +kernel
theorem dX4_peopleFor_10 : decode cX4_peopleFor 10 = .ok (.aload_n 0, 1) := by decide +kernel
theorem dX4_peopleFor_11 : decode cX4_peopleFor 11 = .ok (.iconst 0, 1) := by decide +kernel
theorem dX4_peopleFor_12 : decode cX4_peopleFor 12 = .ok (.invokevirtual 60, 3) := by decide +kernel
theorem dX4_peopleFor_15 : decode cX4_peopleFor 15 = .ok (.ireturn, 1) := by decide +kernel
theorem dX4_peopleFor_16 : decode cX4_peopleFor 16 = .ok (.getstatic 54, 3) := by decide +kernel
theorem dX4_peopleFor_19 : decode cX4_peopleFor 19 = .ok (.iconst 1, 1) := by decide +kernel
theorem dX4_peopleFor_20 : decode cX4_peopleFor 20 = .ok (.iaload, 1) := by decide +kernel
theorem dX4_peopleFor_21 : decode cX4_peopleFor 21 = .ok (.istore_n 2, 1) := by decide +kernel
theorem dX4_peopleFor_22 : decode cX4_peopleFor 22 = .ok (.getstatic 57, 3) := by decide +kernel
theorem dX4_peopleFor_25 : decode cX4_peopleFor 25 = .ok (.iconst 0, 1) := by decide +kernel
theorem dX4_peopleFor_26 : decode cX4_peopleFor 26 = .ok (.iaload, 1) := by decide +kernel
theorem dX4_peopleFor_27 : decode cX4_peopleFor 27 = .ok (.iconst 1, 1) := by decide +kernel
theorem dX4_peopleFor_28 : decode cX4_peopleFor 28 = .ok (.iadd, 1) := by decide +kernel
theorem dX4_peopleFor_29 : decode cX4_peopleFor 29 = .ok (.istore_n 3, 1) := by decide +kernel
theorem dX4_peopleFor_30 : decode cX4_peopleFor 30 = .ok (.getstatic 54, 3) := by decide +kernel
theorem dX4_peopleFor_33 : decode cX4_peopleFor 33 = .ok (.iconst 1, 1) := by decide +kernel
theorem dX4_peopleFor_34 : decode cX4_peopleFor 34 = .ok (.iaload, 1) := by decide +kernel
theorem dX4_peopleFor_35 : decode cX4_peopleFor 35 = .ok (.istore 4, 2) := by decide +kernel
theorem dX4_peopleFor_37 : decode cX4_peopleFor 37 = .ok (.iload 4, 2) := by decide +kernel
theorem dX4_peopleFor_39 : decode cX4_peopleFor 39 = .ok (.getstatic 57, 3) := by decide +kernel
theorem dX4_peopleFor_42 : decode cX4_peopleFor 42 = .ok (.iconst 1, 1) := by decide +kernel
theorem dX4_peopleFor_43 : decode cX4_peopleFor 43 = .ok (.iaload, 1) := by decide +kernel
theorem dX4_peopleFor_44 : decode cX4_peopleFor 44 = .ok (.if_icmp .gt 50, 3) := by decide +kernel
theorem dX4_peopleFor_47 : decode cX4_peopleFor 47 = .ok (.aload_n 0, 1) := by decide +kernel
theorem dX4_peopleFor_48 : decode cX4_peopleFor 48 = .ok (.getfield 19, 3) := by decide +kernel
theorem dX4_peopleFor_51 : decode cX4_peopleFor 51 = .ok (.aload_n 0, 1) := by decide +kernel
theorem dX4_peopleFor_52 : decode cX4_peopleFor 52 = .ok (.getfield 10, 3) := by decide +kernel
theorem dX4_peopleFor_55 : decode cX4_peopleFor 55 = .ok (.invokevirtual 132, 3) := by decide +kernel
theorem dX4_peopleFor_58 : decode cX4_peopleFor 58 = .ok (.aload_n 0, 1) := by decide +kernel
theorem dX4_peopleFor_59 : decode cX4_peopleFor 59 = .ok (.getfield 19, 3) := by decide +kernel
theorem dX4_peopleFor_62 : decode cX4_peopleFor 62 = .ok (.getfield 64, 3) := by decide +kernel
theorem dX4_peopleFor_65 : decode cX4_peopleFor 65 = .ok (.iconst 1, 1) := by decide +kernel
theorem dX4_peopleFor_66 : decode cX4_peopleFor 66 = .ok (.iload 4, 2) := by decide +kernel
theorem dX4_peopleFor_68 : decode cX4_peopleFor 68 = .ok (.iastore, 1) := by decide +kernel
theorem dX4_peopleFor_69 : decode cX4_peopleFor 69 = .ok (.aload_n 0, 1) := by decide +kernel
theorem dX4_peopleFor_70 : decode cX4_peopleFor 70 = .ok (.iload_n 1, 1) := by decide +kernel
theorem dX4_peopleFor_71 : decode cX4_peopleFor 71 = .ok (.invokevirtual 136, 3) := by decide +kernel
theorem dX4_peopleFor_74 : decode cX4_peopleFor 74 = .ok (.istore 5, 2) := by decide +kernel
theorem dX4_peopleFor_76 : decode cX4_peopleFor 76 = .ok (.iload 5, 2) := by decide +kernel
theorem dX4_peopleFor_78 : decode cX4_peopleFor 78 = .ok (.iload_n 3, 1) := by decide +kernel
theorem dX4_peopleFor_79 : decode cX4_peopleFor 79 = .ok (.if_icmp .ge 9, 3) := by decide +kernel
theorem dX4_peopleFor_82 : decode cX4_peopleFor 82 = .ok (.iload 5, 2) := by decide +kernel
theorem dX4_peopleFor_84 : decode cX4_peopleFor 84 = .ok (.istore_n 3, 1) := by decide +kernel
theorem dX4_peopleFor_85 : decode cX4_peopleFor 85 = .ok (.iload 4, 2) := by decide +kernel
theorem dX4_peopleFor_87 : decode cX4_peopleFor 87 = .ok (.istore_n 2, 1) := by decide +kernel
theorem dX4_peopleFor_88 : decode cX4_peopleFor 88 = .ok (.iinc 4 1, 3) := by decide +kernel
theorem dX4_peopleFor_91 : decode cX4_peopleFor 91 = .ok (.goto (-54), 3) := by decide +kernel
theorem dX4_peopleFor_94 : decode cX4_peopleFor 94 = .ok (.iload_n 2, 1) := by decide +kernel
theorem dX4_peopleFor_95 : decode cX4_peopleFor 95 = .ok (.ireturn, 1) := by decide +kernel
def rX4_peopleFor : Room := { frames := 6, cells := 0, slots := 0, locals := 129 }
def vX4_peopleFor_c88 (p1 : Int32) (k : JS → Int32 → Int32 → Int32 → Int32 × JS) (J : JS) (x2 : Int32) (x3 : Int32) (x4 : Int32) : Int32 × JS := (k J x2 x3 (x4 + (1 : Int32)))
def kX4_peopleFor_c88 (p1 : Int32) (q : JS → Int32 → Int32 → Int32 → Prop) (J : JS) (x2 : Int32) (x3 : Int32) (x4 : Int32) : Prop := (q J x2 x3 (x4 + (1 : Int32)))
def vX4_peopleFor_c74 (p1 : Int32) (k : JS → Int32 → Int32 → Int32 → Int32 × JS) (J : JS) (x2 : Int32) (x3 : Int32) (x4 : Int32) (y0 : Int32) : Int32 × JS := if (x3 ≤ y0) then (vX4_peopleFor_c88 p1 k J x2 x3 x4) else (vX4_peopleFor_c88 p1 k J x4 y0 x4)
def kX4_peopleFor_c74 (p1 : Int32) (q : JS → Int32 → Int32 → Int32 → Prop) (J : JS) (x2 : Int32) (x3 : Int32) (x4 : Int32) (y0 : Int32) : Prop := ((x3 ≤ y0) → ((kX4_peopleFor_c88 p1 q J x2 x3 x4))) ∧ (¬ (x3 ≤ y0) → ((kX4_peopleFor_c88 p1 q J x4 y0 x4)))
def vX4_peopleFor_c69 (p1 : Int32) (k : JS → Int32 → Int32 → Int32 → Int32 × JS) (J : JS) (x2 : Int32) (x3 : Int32) (x4 : Int32) : Int32 × JS := (vX4_peopleFor_c74 p1 k ((vX4_awardedBehind J p1).2) x2 x3 x4 ((vX4_awardedBehind J p1).1))
def kX4_peopleFor_c69 (p1 : Int32) (q : JS → Int32 → Int32 → Int32 → Prop) (J : JS) (x2 : Int32) (x3 : Int32) (x4 : Int32) : Prop := (kX4_awardedBehind J p1) ∧ (kX4_peopleFor_c74 p1 q ((vX4_awardedBehind J p1).2) x2 x3 x4 ((vX4_awardedBehind J p1).1))
def vX4_peopleFor_c58 (p1 : Int32) (k : JS → Int32 → Int32 → Int32 → Int32 × JS) (J : JS) (x2 : Int32) (x3 : Int32) (x4 : Int32) : Int32 × JS := (vX4_peopleFor_c69 p1 k (j_s_T J (e_s_home (j_T J) (upd (e_home (j_T J)) ((1 : Int32)).toNatClampNeg x4))) x2 x3 x4)
def kX4_peopleFor_c58 (p1 : Int32) (q : JS → Int32 → Int32 → Int32 → Prop) (J : JS) (x2 : Int32) (x3 : Int32) (x4 : Int32) : Prop := (kX4_peopleFor_c69 p1 q (j_s_T J (e_s_home (j_T J) (upd (e_home (j_T J)) ((1 : Int32)).toNatClampNeg x4))) x2 x3 x4)
def vX4_peopleFor_c37 (p1 : Int32) : Nat → JS → Int32 → Int32 → Int32 → Int32 × JS
  | 0, J, x2, x3, x4 => (0, J)
  | n + 1, J, x2, x3, x4 => if ((jHM.getD ((1 : Int32)).toNatClampNeg 0) < x4) then (x2, J) else (vX4_peopleFor_c58 p1 (fun J x2 x3 x4 => vX4_peopleFor_c37 p1 n J x2 x3 x4) (j_s_T J (vX0_become (j_T J) (j_E J))) x2 x3 x4)
def kX4_peopleFor_c37 (p1 : Int32) : Nat → JS → Int32 → Int32 → Int32 → Prop
  | 0, _, _, _, _ => False
  | n + 1, J, x2, x3, x4 => (((jHM.getD ((1 : Int32)).toNatClampNeg 0) < x4) → True) ∧ (¬ ((jHM.getD ((1 : Int32)).toNatClampNeg 0) < x4) → ((kX0_become (j_T J) (j_E J)) ∧ (kX4_peopleFor_c58 p1 (fun J x2 x3 x4 => kX4_peopleFor_c37 p1 n J x2 x3 x4) (j_s_T J (vX0_become (j_T J) (j_E J))) x2 x3 x4)))
def vX4_peopleFor (J0 : JS) (p1 : Int32) : Int32 × JS := if ((vX4_within p1 (0 : Int32) (60 : Int32)) = 0) then (((vX4_tell J0 (0 : Int32)).1), ((vX4_tell J0 (0 : Int32)).2)) else (vX4_peopleFor_c37 p1 1024 J0 (jHL.getD ((1 : Int32)).toNatClampNeg 0) ((jHM.getD ((0 : Int32)).toNatClampNeg 0) + (1 : Int32)) (jHL.getD ((1 : Int32)).toNatClampNeg 0))
def kX4_peopleFor (J0 : JS) (p1 : Int32) : Prop := (((vX4_within p1 (0 : Int32) (60 : Int32)) = 0) → ((kX4_tell J0 (0 : Int32)) ∧ True)) ∧ (¬ ((vX4_within p1 (0 : Int32) (60 : Int32)) = 0) → ((kX4_peopleFor_c37 p1 1024 J0 (jHL.getD ((1 : Int32)).toNatClampNeg 0) ((jHM.getD ((0 : Int32)).toNatClampNeg 0) + (1 : Int32)) (jHL.getD ((1 : Int32)).toNatClampNeg 0))))
set_option maxHeartbeats 4000000 in
set_option maxRecDepth 100000 in
theorem hX4_peopleFor (l : Launch) (D : va_G) (K : JK) (G : JG) (a : Nat → Nat) (J0 : JS) (p1 : Int32) (hk : kX4_peopleFor J0 p1) (sz : Nat) : Met l yX4_peopleFor (.code yX4_peopleFor cX4_peopleFor 6 (some .int) :: jGW) rX4_peopleFor (jPre D (jT K) G [.ref (a 0), .int p1] (wJ K a J0) sz) (jQi D (jT K) ((vX4_peopleFor J0 p1).1) (wJ K a ((vX4_peopleFor J0 p1).2)) (va_A (wJ K a J0) sz)) 0 0 (va_A (wJ K a J0) sz) := by
  refine jEi (by decide) (Nat.le_of_ble_eq_true rfl) (fun p e s m below meth c A Q ls hat hP hD hS hl hend => ?_)
  obtain ⟨hx, hb, hml, hown, hts, hK, hZ, hA⟩ := hat
  have hl : lv_has ls 6 [(0, .ref (a 0)), (1, .int p1)] := hl
  have hc37 : ∀ (n : Nat) (J : JS) (x2 : Int32) (x3 : Int32) (x4 : Int32) (H : Heap) (locs : List Loc) (ls : Array Slot), (vX4_peopleFor J0 p1) = vX4_peopleFor_c37 p1 n J x2 x3 x4 → kX4_peopleFor_c37 p1 n J x2 x3 x4 → va_P D vwCl (wJ K a J) H → va_D A (wJ K a J) → va_S A s.heap H locs → lv_has ls 6 [(0, .ref (a 0)), (1, .int p1), (2, .int x2), (3, .int x3), (4, .int x4)] → W p l e rX4_peopleFor s m ([.ref (a 0), .int p1] : List Value).toArray below meth c H locs 0 0 Q (F0 m 37 ls []) := by
    intro n
    induction n with
    | zero =>
      intro J x2 x3 x4 H locs ls hV hk hP hD hS hl
      exact False.elim hk
    | succ n ih =>
      have hc88 : ∀ (J : JS) (x2 : Int32) (x3 : Int32) (x4 : Int32) (H : Heap) (locs : List Loc) (ls : Array Slot), (vX4_peopleFor J0 p1) = vX4_peopleFor_c88 p1 (fun J x2 x3 x4 => vX4_peopleFor_c37 p1 n J x2 x3 x4) J x2 x3 x4 → kX4_peopleFor_c88 p1 (fun J x2 x3 x4 => kX4_peopleFor_c37 p1 n J x2 x3 x4) J x2 x3 x4 → va_P D vwCl (wJ K a J) H → va_D A (wJ K a J) → va_S A s.heap H locs → lv_has ls 6 [(0, .ref (a 0)), (1, .int p1), (2, .int x2), (3, .int x3), (4, .int x4)] → W p l e rX4_peopleFor s m ([.ref (a 0), .int p1] : List Value).toArray below meth c H locs 0 0 Q (F0 m 88 ls []) := by
        intro J x2 x3 x4 H locs ls hV hk hP hD hS hl
        rw [vX4_peopleFor_c88] at hV
        rw [kX4_peopleFor_c88] at hk
        refine lv_iinc (v := (x4 + (1 : Int32))) (lv' := [(4, .int (x4 + (1 : Int32))), (0, .ref (a 0)), (1, .int p1), (2, .int x2), (3, .int x3)]) hx hb dX4_peopleFor_88 hl (k := 4) rfl rfl (by decide) rfl (fun ls hl => ?_)
        refine lv_goto (tgt := 37) hx hb dX4_peopleFor_91 (by decide) ?_
        exact ih J x2 x3 (x4 + (1 : Int32)) _ _ _ hV hk hP hD hS (lv_sub hl [1, 2, 3, 4, 0] rfl)
      have hc74 : ∀ (J : JS) (x2 : Int32) (x3 : Int32) (x4 : Int32) (y0 : Int32) (H : Heap) (locs : List Loc) (ls : Array Slot), (vX4_peopleFor J0 p1) = vX4_peopleFor_c74 p1 (fun J x2 x3 x4 => vX4_peopleFor_c37 p1 n J x2 x3 x4) J x2 x3 x4 y0 → kX4_peopleFor_c74 p1 (fun J x2 x3 x4 => kX4_peopleFor_c37 p1 n J x2 x3 x4) J x2 x3 x4 y0 → va_P D vwCl (wJ K a J) H → va_D A (wJ K a J) → va_S A s.heap H locs → lv_has ls 6 [(0, .ref (a 0)), (1, .int p1), (2, .int x2), (3, .int x3), (4, .int x4)] → W p l e rX4_peopleFor s m ([.ref (a 0), .int p1] : List Value).toArray below meth c H locs 0 0 Q (F0 m 74 ls [.int y0]) := by
        intro J x2 x3 x4 y0 H locs ls hV hk hP hD hS hl
        rw [vX4_peopleFor_c74] at hV
        rw [kX4_peopleFor_c74] at hk
        refine lv_istore (lv' := [(5, .int y0), (0, .ref (a 0)), (1, .int p1), (2, .int x2), (3, .int x3), (4, .int x4)]) hx hb dX4_peopleFor_74 hl (by decide) rfl (fun ls hl => ?_)
        refine lv_iload hx hb dX4_peopleFor_76 (lv_at hl 0 rfl) ?_
        refine lv_iload_n hx hb dX4_peopleFor_78 rfl (lv_at hl 4 rfl) ?_
        refine lv_icmp_ge (tgt := 88) hx hb dX4_peopleFor_79 (by decide) (fun c7 => ?_) (fun c7 => ?_)
        · have hV := hV.trans (if_pos c7)
          have hk := hk.1 c7
          exact hc88 J x2 x3 x4 _ _ _ hV hk hP hD hS (lv_sub hl [1, 2, 3, 4, 5] rfl)
        · have hV := hV.trans (if_neg c7)
          have hk := hk.2 c7
          refine lv_iload hx hb dX4_peopleFor_82 (lv_at hl 0 rfl) ?_
          refine lv_istore_n (lv' := [(3, .int y0), (5, .int y0), (0, .ref (a 0)), (1, .int p1), (2, .int x2), (4, .int x4)]) hx hb dX4_peopleFor_84 rfl hl (by decide) rfl (fun ls hl => ?_)
          refine lv_iload hx hb dX4_peopleFor_85 (lv_at hl 5 rfl) ?_
          refine lv_istore_n (lv' := [(2, .int x4), (3, .int y0), (5, .int y0), (0, .ref (a 0)), (1, .int p1), (4, .int x4)]) hx hb dX4_peopleFor_87 rfl hl (by decide) rfl (fun ls hl => ?_)
          exact hc88 J x4 y0 x4 _ _ _ hV hk hP hD hS (lv_sub hl [3, 4, 0, 1, 5] rfl)
      have hc69 : ∀ (J : JS) (x2 : Int32) (x3 : Int32) (x4 : Int32) (H : Heap) (locs : List Loc) (ls : Array Slot), (vX4_peopleFor J0 p1) = vX4_peopleFor_c69 p1 (fun J x2 x3 x4 => vX4_peopleFor_c37 p1 n J x2 x3 x4) J x2 x3 x4 → kX4_peopleFor_c69 p1 (fun J x2 x3 x4 => kX4_peopleFor_c37 p1 n J x2 x3 x4) J x2 x3 x4 → va_P D vwCl (wJ K a J) H → va_D A (wJ K a J) → va_S A s.heap H locs → lv_has ls 6 [(0, .ref (a 0)), (1, .int p1), (2, .int x2), (3, .int x3), (4, .int x4)] → W p l e rX4_peopleFor s m ([.ref (a 0), .int p1] : List Value).toArray below meth c H locs 0 0 Q (F0 m 69 ls []) := by
        intro J x2 x3 x4 H locs ls hV hk hP hD hS hl
        rw [vX4_peopleFor_c69] at hV
        rw [kX4_peopleFor_c69] at hk
        refine lv_aload_n hx hb dX4_peopleFor_69 rfl (lv_at hl 0 rfl) ?_
        refine lv_iload_n hx hb dX4_peopleFor_70 rfl (lv_at hl 1 rfl) ?_
        obtain ⟨h8, hk⟩ := hk
        refine jci (jrunV (As := [.int p1]) (rest := []) hx hb hml hown hts hK hZ hA hP hD hS hl.1 mf_X4_awardedBehind kl_X4_136 ⟨rfl, rfl, Nat.le_of_ble_eq_true rfl, Nat.le_of_ble_eq_true rfl⟩ ⟨Nat.zero_le _, Nat.zero_le _⟩ [0, 1, 2, 3, 4, 5, 6, 7, 8, 9, 10, 11, 12, 13, 14, 15, 16, 17, 18, 19, 20, 21, 22, 23, 24, 25, 26, 27, 28, 29] rfl (js45 K a J) rfl rfl rfl (hX4_awardedBehind l D K G a J p1 h8 _) rfl rfl (Nat.le_of_ble_eq_true rfl) dX4_peopleFor_71) hA hP hD hS [0, 1, 2, 3, 4, 5, 6, 7, 8, 9, 10, 11, 12, 13, 14, 15, 16, 17, 18, 19, 20, 21, 22, 23, 24, 25, 26, 27, 28, 29] (js45 K a J) (jh52 K a J ((vX4_awardedBehind J p1).2)) (fun H locs hP hD hS => ?_)
        have hP := jeP (jp53 K a J ((vX4_awardedBehind J p1).2)) hP
        have hD := jeD (jp53 K a J ((vX4_awardedBehind J p1).2)) hD
        exact hc74 ((vX4_awardedBehind J p1).2) x2 x3 x4 ((vX4_awardedBehind J p1).1) _ _ _ hV hk hP hD hS (lv_sub hl [0, 1, 2, 3, 4] rfl)
      have hc58 : ∀ (J : JS) (x2 : Int32) (x3 : Int32) (x4 : Int32) (H : Heap) (locs : List Loc) (ls : Array Slot), (vX4_peopleFor J0 p1) = vX4_peopleFor_c58 p1 (fun J x2 x3 x4 => vX4_peopleFor_c37 p1 n J x2 x3 x4) J x2 x3 x4 → kX4_peopleFor_c58 p1 (fun J x2 x3 x4 => kX4_peopleFor_c37 p1 n J x2 x3 x4) J x2 x3 x4 → va_P D vwCl (wJ K a J) H → va_D A (wJ K a J) → va_S A s.heap H locs → lv_has ls 6 [(0, .ref (a 0)), (1, .int p1), (2, .int x2), (3, .int x3), (4, .int x4)] → W p l e rX4_peopleFor s m ([.ref (a 0), .int p1] : List Value).toArray below meth c H locs 0 0 Q (F0 m 58 ls []) := by
        intro J x2 x3 x4 H locs ls hV hk hP hD hS hl
        rw [vX4_peopleFor_c58] at hV
        rw [kX4_peopleFor_c58] at hk
        refine lv_aload_n hx hb dX4_peopleFor_58 rfl (lv_at hl 0 rfl) ?_
        refine gf_X4_19 (v := .ref (a 11)) hx hb hts hown hK hZ hP (0) rfl rfl dX4_peopleFor_59 ?_
        refine gf_X4_64 (v := .ref (a 12)) hx hb hts hown hK hZ hP (11) rfl rfl dX4_peopleFor_62 ?_
        refine lv_iconst (v := (1 : Int32)) hx hb dX4_peopleFor_65 (by decide) ?_
        refine lv_iload hx hb dX4_peopleFor_66 (lv_at hl 4 rfl) ?_
        refine va_iast hx hb hK hP hD hS (12) 0 rfl rfl (by unfold vp_in; decide) dX4_peopleFor_68 (fun H locs hP hD hS => ?_)
        have hP := jeP (ja68 K a J (upd (e_home (j_T J)) ((1 : Int32)).toNatClampNeg x4)) hP
        have hD := jeD (ja68 K a J (upd (e_home (j_T J)) ((1 : Int32)).toNatClampNeg x4)) hD
        exact hc69 (j_s_T J (e_s_home (j_T J) (upd (e_home (j_T J)) ((1 : Int32)).toNatClampNeg x4))) x2 x3 x4 _ _ _ hV hk hP hD hS (lv_sub hl [0, 1, 2, 3, 4] rfl)
      intro J x2 x3 x4 H locs ls hV hk hP hD hS hl
      rw [vX4_peopleFor_c37] at hV
      rw [kX4_peopleFor_c37] at hk
      refine lv_iload hx hb dX4_peopleFor_37 (lv_at hl 4 rfl) ?_
      refine gs_X4_57 hx hb hts hown hZ hS dX4_peopleFor_39 ?_
      refine lv_iconst (v := (1 : Int32)) hx hb dX4_peopleFor_42 (by decide) ?_
      refine va_ti (v := .int (jHM.getD ((1 : Int32)).toNatClampNeg 0)) hx hb (hZ.1 2 _ rfl).2 hS (by unfold vp_in; decide) rfl dX4_peopleFor_43 ?_
      refine lv_icmp_gt (tgt := 94) hx hb dX4_peopleFor_44 (by decide) (fun c9 => ?_) (fun c9 => ?_)
      · have hV := hV.trans (if_pos c9)
        have hk := hk.1 c9
        refine lv_iload_n hx hb dX4_peopleFor_94 rfl (lv_at hl 2 rfl) ?_
        exact hend _ _ _ _ _ (by rw [hV]; exact hP) (by rw [hV]; exact hD) hS (by rw [hV]) rfl dX4_peopleFor_95
      · have hV := hV.trans (if_neg c9)
        have hk := hk.2 c9
        refine lv_aload_n hx hb dX4_peopleFor_47 rfl (lv_at hl 0 rfl) ?_
        refine gf_X4_19 (v := .ref (a 11)) hx hb hts hown hK hZ hP (0) rfl rfl dX4_peopleFor_48 ?_
        refine lv_aload_n hx hb dX4_peopleFor_51 rfl (lv_at hl 0 rfl) ?_
        refine gf_X4_10 (v := .ref (a 1)) hx hb hts hown hK hZ hP (0) rfl rfl dX4_peopleFor_52 ?_
        obtain ⟨h10, hk⟩ := hk
        refine jcv (jrunV (As := [.ref (a 1)]) (rest := []) hx hb hml hown hts hK hZ hA hP hD hS hl.1 mf_X0_become kl_X4_132 ⟨rfl, rfl, Nat.le_of_ble_eq_true rfl, Nat.le_of_ble_eq_true rfl⟩ ⟨Nat.zero_le _, Nat.zero_le _⟩ [11, 12, 13, 14, 15, 1, 2, 3, 4, 5] rfl (js46 K a J) rfl rfl rfl (hX0_become l D K G (fun k => a (11 + k)) (fun k => a (1 + k)) (j_T J) (j_E J) h10 _) rfl rfl (Nat.le_of_ble_eq_true rfl) dX4_peopleFor_55) hA hP hD hS [11, 12, 13, 14, 15, 1, 2, 3, 4, 5] (js46 K a J) (jh47 K a J (vX0_become (j_T J) (j_E J))) (fun H locs hP hD hS => ?_)
        have hP := jeP (jp48 K a J (vX0_become (j_T J) (j_E J))) hP
        have hD := jeD (jp48 K a J (vX0_become (j_T J) (j_E J))) hD
        exact hc58 (j_s_T J (vX0_become (j_T J) (j_E J))) x2 x3 x4 _ _ _ hV hk hP hD hS (lv_sub hl [0, 1, 2, 3, 4] rfl)
  have hV := vX4_peopleFor.eq_1 J0 p1
  rw [kX4_peopleFor] at hk
  refine lv_iload_n hx hb dX4_peopleFor_0 rfl (lv_at hl 1 rfl) ?_
  refine lv_iconst (v := (0 : Int32)) hx hb dX4_peopleFor_1 (by decide) ?_
  refine lv_bipush (v := (60 : Int32)) hx hb dX4_peopleFor_2 (by decide) ?_
  refine jci0 (jrunS (As := [.int p1, .int (0 : Int32), .int (60 : Int32)]) (rest := []) hx hb hml hown hts hK hZ hA hP hD hS hl.1 mf_X4_within kl_X4_50 ⟨rfl, rfl, Nat.le_of_ble_eq_true rfl, Nat.le_of_ble_eq_true rfl⟩ ⟨Nat.zero_le _, Nat.zero_le _⟩ [] rfl rfl (hX4_within l D K G p1 (0 : Int32) (60 : Int32) _) rfl rfl (Nat.le_of_ble_eq_true rfl) dX4_peopleFor_4) hA hP hD hS [] rfl (fun H locs hP hS => ?_)
  refine lv_if_ne (tgt := 16) hx hb dX4_peopleFor_7 (by decide) (fun c11 => ?_) (fun c11 => ?_)
  · have hV := hV.trans (if_neg c11)
    have hk := hk.2 c11
    refine gs_X4_54 hx hb hts hown hZ hS dX4_peopleFor_16 ?_
    refine lv_iconst (v := (1 : Int32)) hx hb dX4_peopleFor_19 (by decide) ?_
    refine va_ti (v := .int (jHL.getD ((1 : Int32)).toNatClampNeg 0)) hx hb (hZ.1 1 _ rfl).2 hS (by unfold vp_in; decide) rfl dX4_peopleFor_20 ?_
    refine lv_istore_n (lv' := [(2, .int (jHL.getD ((1 : Int32)).toNatClampNeg 0)), (0, .ref (a 0)), (1, .int p1)]) hx hb dX4_peopleFor_21 rfl hl (by decide) rfl (fun ls hl => ?_)
    refine gs_X4_57 hx hb hts hown hZ hS dX4_peopleFor_22 ?_
    refine lv_iconst (v := (0 : Int32)) hx hb dX4_peopleFor_25 (by decide) ?_
    refine va_ti (v := .int (jHM.getD ((0 : Int32)).toNatClampNeg 0)) hx hb (hZ.1 2 _ rfl).2 hS (by unfold vp_in; decide) rfl dX4_peopleFor_26 ?_
    refine lv_iconst (v := (1 : Int32)) hx hb dX4_peopleFor_27 (by decide) ?_
    refine lv_iadd hx hb dX4_peopleFor_28 ?_
    refine lv_istore_n (lv' := [(3, .int ((jHM.getD ((0 : Int32)).toNatClampNeg 0) + (1 : Int32))), (2, .int (jHL.getD ((1 : Int32)).toNatClampNeg 0)), (0, .ref (a 0)), (1, .int p1)]) hx hb dX4_peopleFor_29 rfl hl (by decide) rfl (fun ls hl => ?_)
    refine gs_X4_54 hx hb hts hown hZ hS dX4_peopleFor_30 ?_
    refine lv_iconst (v := (1 : Int32)) hx hb dX4_peopleFor_33 (by decide) ?_
    refine va_ti (v := .int (jHL.getD ((1 : Int32)).toNatClampNeg 0)) hx hb (hZ.1 1 _ rfl).2 hS (by unfold vp_in; decide) rfl dX4_peopleFor_34 ?_
    refine lv_istore (lv' := [(4, .int (jHL.getD ((1 : Int32)).toNatClampNeg 0)), (3, .int ((jHM.getD ((0 : Int32)).toNatClampNeg 0) + (1 : Int32))), (2, .int (jHL.getD ((1 : Int32)).toNatClampNeg 0)), (0, .ref (a 0)), (1, .int p1)]) hx hb dX4_peopleFor_35 hl (by decide) rfl (fun ls hl => ?_)
    exact hc37 1024 J0 (jHL.getD ((1 : Int32)).toNatClampNeg 0) ((jHM.getD ((0 : Int32)).toNatClampNeg 0) + (1 : Int32)) (jHL.getD ((1 : Int32)).toNatClampNeg 0) _ _ _ hV hk hP hD hS (lv_sub hl [3, 4, 2, 1, 0] rfl)
  · have hV := hV.trans (if_pos c11)
    have hk := hk.1 c11
    refine lv_aload_n hx hb dX4_peopleFor_10 rfl (lv_at hl 0 rfl) ?_
    refine lv_iconst (v := (0 : Int32)) hx hb dX4_peopleFor_11 (by decide) ?_
    obtain ⟨h12, hk⟩ := hk
    refine jci (jrunV (As := [.int (0 : Int32)]) (rest := []) hx hb hml hown hts hK hZ hA hP hD hS hl.1 mf_X4_tell kl_X4_60 ⟨rfl, rfl, Nat.le_of_ble_eq_true rfl, Nat.le_of_ble_eq_true rfl⟩ ⟨Nat.zero_le _, Nat.zero_le _⟩ [0, 1, 2, 3, 4, 5, 6, 7, 8, 9, 10, 11, 12, 13, 14, 15, 16, 17, 18, 19, 20, 21, 22, 23, 24, 25, 26, 27, 28, 29] rfl (js45 K a J0) rfl rfl rfl (hX4_tell l D K G a J0 (0 : Int32) h12 _) rfl rfl (Nat.le_of_ble_eq_true rfl) dX4_peopleFor_12) hA hP hD hS [0, 1, 2, 3, 4, 5, 6, 7, 8, 9, 10, 11, 12, 13, 14, 15, 16, 17, 18, 19, 20, 21, 22, 23, 24, 25, 26, 27, 28, 29] (js45 K a J0) (jh52 K a J0 ((vX4_tell J0 (0 : Int32)).2)) (fun H locs hP hD hS => ?_)
    have hP := jeP (jp53 K a J0 ((vX4_tell J0 (0 : Int32)).2)) hP
    have hD := jeD (jp53 K a J0 ((vX4_tell J0 (0 : Int32)).2)) hD
    exact hend _ _ _ _ _ (by rw [hV]; exact hP) (by rw [hV]; exact hD) hS (by rw [hV]) rfl dX4_peopleFor_15
theorem jf69 (K : JK) (a : Nat → Nat) (J : JS) (v : Int32) : (wJ K a J).set 1 ((a 1), .inr (0, ([.ref ((fun k => a (1 + k)) 1), .ref ((fun k => a (1 + k)) 2), .ref ((fun k => a (1 + k)) 3), .ref ((fun k => a (1 + k)) 4), .int (e_things (j_E J)), .int (e_day (j_E J)), .int (e_z (j_E J))] : List Value).set 6 (.int v))) = (wJ K a (j_s_E J (e_s_z (j_E J) v))) := rfl
theorem dX4_seed_0 : decode cX4_seed 0 = .ok (.aload_n 0, 1) := by decide +kernel
theorem dX4_seed_1 : decode cX4_seed 1 = .ok (.getfield 10, 3) := by decide +kernel
theorem dX4_seed_4 : decode cX4_seed 4 = .ok (.getfield 179, 3) := by decide +kernel
theorem dX4_seed_7 : decode cX4_seed 7 = .ok (.istore_n 2, 1) := by decide +kernel
theorem dX4_seed_8 : decode cX4_seed 8 = .ok (.aload_n 0, 1) := by decide +kernel
theorem dX4_seed_9 : decode cX4_seed 9 = .ok (.getfield 10, 3) := by decide +kernel
theorem dX4_seed_12 : decode cX4_seed 12 = .ok (.iload_n 1, 1) := by decide +kernel
theorem dX4_seed_13 : decode cX4_seed 13 = .ok (.putfield 179, 3) := by decide +kernel
theorem dX4_seed_16 : decode cX4_seed 16 = .ok (.iload_n 2, 1) := by decide +kernel
theorem dX4_seed_17 : decode cX4_seed 17 = .ok (.ireturn, 1) := by decide +kernel
def rX4_seed : Room := { frames := 0, cells := 0, slots := 0, locals := 0 }
def vX4_seed (J0 : JS) (p1 : Int32) : Int32 × JS := ((e_z (j_E J0)), (j_s_E J0 (e_s_z (j_E J0) p1)))
set_option maxHeartbeats 4000000 in
set_option maxRecDepth 100000 in
theorem hX4_seed (l : Launch) (D : va_G) (K : JK) (G : JG) (a : Nat → Nat) (J0 : JS) (p1 : Int32) (sz : Nat) : Met l yX4_seed (.code yX4_seed cX4_seed 3 (some .int) :: jGW) rX4_seed (jPre D (jT K) G [.ref (a 0), .int p1] (wJ K a J0) sz) (jQi D (jT K) ((vX4_seed J0 p1).1) (wJ K a ((vX4_seed J0 p1).2)) (va_A (wJ K a J0) sz)) 0 0 (va_A (wJ K a J0) sz) := by
  refine jEi (by decide) (Nat.le_of_ble_eq_true rfl) (fun p e s m below meth c A Q ls hat hP hD hS hl hend => ?_)
  obtain ⟨hx, hb, hml, hown, hts, hK, hZ, hA⟩ := hat
  have hl : lv_has ls 3 [(0, .ref (a 0)), (1, .int p1)] := hl
  have hV := vX4_seed.eq_1 J0 p1
  refine lv_aload_n hx hb dX4_seed_0 rfl (lv_at hl 0 rfl) ?_
  refine gf_X4_10 (v := .ref (a 1)) hx hb hts hown hK hZ hP (0) rfl rfl dX4_seed_1 ?_
  refine gf_X4_179 (v := .int (e_z (j_E J0))) hx hb hts hown hK hZ hP (1) rfl rfl dX4_seed_4 ?_
  refine lv_istore_n (lv' := [(2, .int (e_z (j_E J0))), (0, .ref (a 0)), (1, .int p1)]) hx hb dX4_seed_7 rfl hl (by decide) rfl (fun ls hl => ?_)
  refine lv_aload_n hx hb dX4_seed_8 rfl (lv_at hl 1 rfl) ?_
  refine gf_X4_10 (v := .ref (a 1)) hx hb hts hown hK hZ hP (0) rfl rfl dX4_seed_9 ?_
  refine lv_iload_n hx hb dX4_seed_12 rfl (lv_at hl 2 rfl) ?_
  refine pf_X4_179 (v := .int p1) hx hb hts hown hK hZ hP hD hS (1) rfl rfl rfl (Nat.le_of_ble_eq_true rfl) dX4_seed_13 (fun H locs hP hD hS => ?_)
  have hP := jeP (jf69 K a J0 p1) hP
  have hD := jeD (jf69 K a J0 p1) hD
  refine lv_iload_n hx hb dX4_seed_16 rfl (lv_at hl 0 rfl) ?_
  exact hend _ _ _ _ _ (by rw [hV]; exact hP) (by rw [hV]; exact hD) hS (by rw [hV]) rfl dX4_seed_17
theorem ja70 (K : JK) (a : Nat → Nat) (J : JS) (f : FA) : (wJ K a J).set 2 ((a 2), .inl (K.1, 7, .inl f)) = (wJ K a (j_s_E J (e_s_home (j_E J) f))) := rfl
theorem dX4_set_0 : decode cX4_set 0 = .ok (.iload_n 1, 1) := by decide +kernel
theorem dX4_set_1 : decode cX4_set 1 = .ok (.iconst 0, 1) := by decide +kernel
theorem dX4_set_2 : decode cX4_set 2 = .ok (.bipush 6, 2) := by decide +kernel
theorem dX4_set_4 : decode cX4_set 4 = .ok (.invokestatic 50, 3) := by decide +kernel
theorem dX4_set_7 : decode cX4_set 7 = .ok (.ifCond .eq 20, 3) := by decide +kernel
theorem dX4_set_10 : decode cX4_set 10 = .ok (.iload_n 2, 1) := by decide +kernel
theorem dX4_set_11 : decode cX4_set 11 = .ok (.getstatic 54, 3) := by decide +kernel
theorem dX4_set_14 : decode cX4_set 14 = .ok (.iload_n 1, 1) := by decide +kernel
theorem dX4_set_15 : decode cX4_set 15 = .ok (.iaload, 1) := by decide +kernel
theorem dX4_set_16 : decode cX4_set 16 = .ok (.getstatic 57, 3) := by decide +kernel
theorem dX4_set_19 : decode cX4_set 19 = .ok (.iload_n 1, 1) := by decide +kernel
theorem dX4_set_20 : decode cX4_set 20 = .ok (.iaload, 1) := by decide +kernel
theorem dX4_set_21 : decode cX4_set 21 = .ok (.invokestatic 50, 3) := by decide +kernel
theorem dX4_set_24 : decode cX4_set 24 = .ok (.ifCond .ne 9, 3) := by decide +kernel
theorem dX4_set_27 : decode cX4_set 27 = .ok (.aload_n 0, 1) := by decide +kernel
theorem dX4_set_28 : decode cX4_set 28 = .ok (.iconst 0, 1) := by decide +kernel
theorem dX4_set_29 : decode cX4_set 29 = .ok (.invokevirtual 60, 3) := by decide +kernel
theorem dX4_set_32 : decode cX4_set 32 = .ok (.ireturn, 1) := by decide +kernel
theorem dX4_set_33 : decode cX4_set 33 = .ok (.aload_n 0, 1) := by decide +kernel
theorem dX4_set_34 : decode cX4_set 34 = .ok (.getfield 10, 3) := by decide +kernel
theorem dX4_set_37 : decode cX4_set 37 = .ok (.getfield 64, 3) := by decide +kernel
theorem dX4_set_40 : decode cX4_set 40 = .ok (.iload_n 1, 1) := by decide +kernel
theorem dX4_set_41 : decode cX4_set 41 = .ok (.iaload, 1) := by decide +kernel
theorem dX4_set_42 : decode cX4_set 42 = .ok (.istore_n 3, 1) := by decide +kernel
theorem dX4_set_43 : decode cX4_set 43 = .ok (.aload_n 0, 1) := by decide +kernel
theorem dX4_set_44 : decode cX4_set 44 = .ok (.getfield 10, 3) := by decide +kernel
theorem dX4_set_47 : decode cX4_set 47 = .ok (.getfield 64, 3) := by decide +kernel
theorem dX4_set_50 : decode cX4_set 50 = .ok (.iload_n 1, 1) := by decide +kernel
theorem dX4_set_51 : decode cX4_set 51 = .ok (.iload_n 2, 1) := by decide +kernel
theorem dX4_set_52 : decode cX4_set 52 = .ok (.iastore, 1) := by decide +kernel
theorem dX4_set_53 : decode cX4_set 53 = .ok (.iload_n 3, 1) := by decide +kernel
theorem dX4_set_54 : decode cX4_set 54 = .ok (.ireturn, 1) := by decide +kernel
def rX4_set : Room := { frames := 2, cells := 0, slots := 0, locals := 43 }
def vX4_set_c27 (p1 : Int32) (p2 : Int32) (J : JS) : Int32 × JS := (((vX4_tell J (0 : Int32)).1), ((vX4_tell J (0 : Int32)).2))
def kX4_set_c27 (p1 : Int32) (p2 : Int32) (J : JS) : Prop := (kX4_tell J (0 : Int32)) ∧ True
def vX4_set (J0 : JS) (p1 : Int32) (p2 : Int32) : Int32 × JS := if ((vX4_within p1 (0 : Int32) (6 : Int32)) = 0) then (vX4_set_c27 p1 p2 J0) else if ((vX4_within p2 (jHL.getD (p1).toNatClampNeg 0) (jHM.getD (p1).toNatClampNeg 0)) = 0) then (vX4_set_c27 p1 p2 J0) else (((e_home (j_E J0)) (p1).toNatClampNeg), (j_s_E J0 (e_s_home (j_E J0) (upd (e_home (j_E J0)) (p1).toNatClampNeg p2))))
def kX4_set (J0 : JS) (p1 : Int32) (p2 : Int32) : Prop := (((vX4_within p1 (0 : Int32) (6 : Int32)) = 0) → ((kX4_set_c27 p1 p2 J0))) ∧ (¬ ((vX4_within p1 (0 : Int32) (6 : Int32)) = 0) → ((vp_in p1 7) ∧ (vp_in p1 7) ∧ (((vX4_within p2 (jHL.getD (p1).toNatClampNeg 0) (jHM.getD (p1).toNatClampNeg 0)) = 0) → ((kX4_set_c27 p1 p2 J0))) ∧ (¬ ((vX4_within p2 (jHL.getD (p1).toNatClampNeg 0) (jHM.getD (p1).toNatClampNeg 0)) = 0) → ((vp_in p1 7) ∧ (vp_in p1 7) ∧ True))))
set_option maxHeartbeats 4000000 in
set_option maxRecDepth 100000 in
theorem hX4_set (l : Launch) (D : va_G) (K : JK) (G : JG) (a : Nat → Nat) (J0 : JS) (p1 : Int32) (p2 : Int32) (hk : kX4_set J0 p1 p2) (sz : Nat) : Met l yX4_set (.code yX4_set cX4_set 4 (some .int) :: jGW) rX4_set (jPre D (jT K) G [.ref (a 0), .int p1, .int p2] (wJ K a J0) sz) (jQi D (jT K) ((vX4_set J0 p1 p2).1) (wJ K a ((vX4_set J0 p1 p2).2)) (va_A (wJ K a J0) sz)) 0 0 (va_A (wJ K a J0) sz) := by
  refine jEi (by decide) (Nat.le_of_ble_eq_true rfl) (fun p e s m below meth c A Q ls hat hP hD hS hl hend => ?_)
  obtain ⟨hx, hb, hml, hown, hts, hK, hZ, hA⟩ := hat
  have hl : lv_has ls 4 [(0, .ref (a 0)), (1, .int p1), (2, .int p2)] := hl
  have hc27 : ∀ (J : JS) (H : Heap) (locs : List Loc) (ls : Array Slot), (vX4_set J0 p1 p2) = vX4_set_c27 p1 p2 J → kX4_set_c27 p1 p2 J → va_P D vwCl (wJ K a J) H → va_D A (wJ K a J) → va_S A s.heap H locs → lv_has ls 4 [(0, .ref (a 0)), (1, .int p1), (2, .int p2)] → W p l e rX4_set s m ([.ref (a 0), .int p1, .int p2] : List Value).toArray below meth c H locs 0 0 Q (F0 m 27 ls []) := by
    intro J H locs ls hV hk hP hD hS hl
    rw [vX4_set_c27] at hV
    rw [kX4_set_c27] at hk
    refine lv_aload_n hx hb dX4_set_27 rfl (lv_at hl 0 rfl) ?_
    refine lv_iconst (v := (0 : Int32)) hx hb dX4_set_28 (by decide) ?_
    obtain ⟨h8, hk⟩ := hk
    refine jci (jrunV (As := [.int (0 : Int32)]) (rest := []) hx hb hml hown hts hK hZ hA hP hD hS hl.1 mf_X4_tell kl_X4_60 ⟨rfl, rfl, Nat.le_of_ble_eq_true rfl, Nat.le_of_ble_eq_true rfl⟩ ⟨Nat.zero_le _, Nat.zero_le _⟩ [0, 1, 2, 3, 4, 5, 6, 7, 8, 9, 10, 11, 12, 13, 14, 15, 16, 17, 18, 19, 20, 21, 22, 23, 24, 25, 26, 27, 28, 29] rfl (js45 K a J) rfl rfl rfl (hX4_tell l D K G a J (0 : Int32) h8 _) rfl rfl (Nat.le_of_ble_eq_true rfl) dX4_set_29) hA hP hD hS [0, 1, 2, 3, 4, 5, 6, 7, 8, 9, 10, 11, 12, 13, 14, 15, 16, 17, 18, 19, 20, 21, 22, 23, 24, 25, 26, 27, 28, 29] (js45 K a J) (jh52 K a J ((vX4_tell J (0 : Int32)).2)) (fun H locs hP hD hS => ?_)
    have hP := jeP (jp53 K a J ((vX4_tell J (0 : Int32)).2)) hP
    have hD := jeD (jp53 K a J ((vX4_tell J (0 : Int32)).2)) hD
    exact hend _ _ _ _ _ (by rw [hV]; exact hP) (by rw [hV]; exact hD) hS (by rw [hV]) rfl dX4_set_32
  have hV := vX4_set.eq_1 J0 p1 p2
  rw [kX4_set] at hk
  refine lv_iload_n hx hb dX4_set_0 rfl (lv_at hl 1 rfl) ?_
  refine lv_iconst (v := (0 : Int32)) hx hb dX4_set_1 (by decide) ?_
  refine lv_bipush (v := (6 : Int32)) hx hb dX4_set_2 (by decide) ?_
  refine jci0 (jrunS (As := [.int p1, .int (0 : Int32), .int (6 : Int32)]) (rest := []) hx hb hml hown hts hK hZ hA hP hD hS hl.1 mf_X4_within kl_X4_50 ⟨rfl, rfl, Nat.le_of_ble_eq_true rfl, Nat.le_of_ble_eq_true rfl⟩ ⟨Nat.zero_le _, Nat.zero_le _⟩ [] rfl rfl (hX4_within l D K G p1 (0 : Int32) (6 : Int32) _) rfl rfl (Nat.le_of_ble_eq_true rfl) dX4_set_4) hA hP hD hS [] rfl (fun H locs hP hS => ?_)
  refine lv_if_eq (tgt := 27) hx hb dX4_set_7 (by decide) (fun c9 => ?_) (fun c9 => ?_)
  · have hV := hV.trans (if_pos c9)
    have hk := hk.1 c9
    exact hc27 J0 _ _ _ hV hk hP hD hS (lv_sub hl [0, 1, 2] rfl)
  · have hV := hV.trans (if_neg c9)
    have hk := hk.2 c9
    refine lv_iload_n hx hb dX4_set_10 rfl (lv_at hl 2 rfl) ?_
    refine gs_X4_54 hx hb hts hown hZ hS dX4_set_11 ?_
    refine lv_iload_n hx hb dX4_set_14 rfl (lv_at hl 1 rfl) ?_
    obtain ⟨h10, hk⟩ := hk
    refine va_ti (v := .int (jHL.getD (p1).toNatClampNeg 0)) hx hb (hZ.1 1 _ rfl).2 hS h10 rfl dX4_set_15 ?_
    refine gs_X4_57 hx hb hts hown hZ hS dX4_set_16 ?_
    refine lv_iload_n hx hb dX4_set_19 rfl (lv_at hl 1 rfl) ?_
    obtain ⟨h11, hk⟩ := hk
    refine va_ti (v := .int (jHM.getD (p1).toNatClampNeg 0)) hx hb (hZ.1 2 _ rfl).2 hS h11 rfl dX4_set_20 ?_
    refine jci0 (jrunS (As := [.int p2, .int (jHL.getD (p1).toNatClampNeg 0), .int (jHM.getD (p1).toNatClampNeg 0)]) (rest := []) hx hb hml hown hts hK hZ hA hP hD hS hl.1 mf_X4_within kl_X4_50 ⟨rfl, rfl, Nat.le_of_ble_eq_true rfl, Nat.le_of_ble_eq_true rfl⟩ ⟨Nat.zero_le _, Nat.zero_le _⟩ [] rfl rfl (hX4_within l D K G p2 (jHL.getD (p1).toNatClampNeg 0) (jHM.getD (p1).toNatClampNeg 0) _) rfl rfl (Nat.le_of_ble_eq_true rfl) dX4_set_21) hA hP hD hS [] rfl (fun H locs hP hS => ?_)
    refine lv_if_ne (tgt := 33) hx hb dX4_set_24 (by decide) (fun c12 => ?_) (fun c12 => ?_)
    · have hV := hV.trans (if_neg c12)
      have hk := hk.2 c12
      refine lv_aload_n hx hb dX4_set_33 rfl (lv_at hl 0 rfl) ?_
      refine gf_X4_10 (v := .ref (a 1)) hx hb hts hown hK hZ hP (0) rfl rfl dX4_set_34 ?_
      refine gf_X4_64 (v := .ref (a 2)) hx hb hts hown hK hZ hP (1) rfl rfl dX4_set_37 ?_
      refine lv_iload_n hx hb dX4_set_40 rfl (lv_at hl 1 rfl) ?_
      obtain ⟨h13, hk⟩ := hk
      refine va_iald hx hb hK hP (2) 0 rfl rfl h13 dX4_set_41 ?_
      refine lv_istore_n (lv' := [(3, .int ((e_home (j_E J0)) (p1).toNatClampNeg)), (0, .ref (a 0)), (1, .int p1), (2, .int p2)]) hx hb dX4_set_42 rfl hl (by decide) rfl (fun ls hl => ?_)
      refine lv_aload_n hx hb dX4_set_43 rfl (lv_at hl 1 rfl) ?_
      refine gf_X4_10 (v := .ref (a 1)) hx hb hts hown hK hZ hP (0) rfl rfl dX4_set_44 ?_
      refine gf_X4_64 (v := .ref (a 2)) hx hb hts hown hK hZ hP (1) rfl rfl dX4_set_47 ?_
      refine lv_iload_n hx hb dX4_set_50 rfl (lv_at hl 2 rfl) ?_
      refine lv_iload_n hx hb dX4_set_51 rfl (lv_at hl 3 rfl) ?_
      obtain ⟨h14, hk⟩ := hk
      refine va_iast hx hb hK hP hD hS (2) 0 rfl rfl h14 dX4_set_52 (fun H locs hP hD hS => ?_)
      have hP := jeP (ja70 K a J0 (upd (e_home (j_E J0)) (p1).toNatClampNeg p2)) hP
      have hD := jeD (ja70 K a J0 (upd (e_home (j_E J0)) (p1).toNatClampNeg p2)) hD
      refine lv_iload_n hx hb dX4_set_53 rfl (lv_at hl 0 rfl) ?_
      exact hend _ _ _ _ _ (by rw [hV]; exact hP) (by rw [hV]; exact hD) hS (by rw [hV]) rfl dX4_set_54
    · have hV := hV.trans (if_pos c12)
      have hk := hk.1 c12
      exact hc27 J0 _ _ _ hV hk hP hD hS (lv_sub hl [0, 1, 2] rfl)
theorem dX4_sheet_0 : decode cX4_sheet 0 = .ok (.iload_n 2, 1) := by decide +kernel
theorem dX4_sheet_1 : decode cX4_sheet 1 = .ok (.ifCond .eq 21, 3) := by decide +kernel
theorem dX4_sheet_4 : decode cX4_sheet 4 = .ok (.iload_n 2, 1) := by decide +kernel
theorem dX4_sheet_5 : decode cX4_sheet 5 = .ok (.bipush 8, 2) := by decide +kernel
theorem dX4_sheet_7 : decode cX4_sheet 7 = .ok (.if_icmp .eq 15, 3) := by decide +kernel
theorem dX4_sheet_10 : decode cX4_sheet 10 = .ok (.iload_n 2, 1) := by decide +kernel
theorem dX4_sheet_11 : decode cX4_sheet 11 = .ok (.bipush 16, 2) := by decide +kernel
theorem dX4_sheet_13 : decode cX4_sheet 13 = .ok (.if_icmp .eq 9, 3) := by decide +kernel
theorem dX4_sheet_16 : decode cX4_sheet 16 = .ok (.iload_n 2, 1) := by decide +kernel
theorem dX4_sheet_17 : decode cX4_sheet 17 = .ok (.bipush 32, 2) := by decide +kernel
theorem dX4_sheet_19 : decode cX4_sheet 19 = .ok (.if_icmp .ne 7, 3) := by decide +kernel
theorem dX4_sheet_22 : decode cX4_sheet 22 = .ok (.iconst 1, 1) := by decide +kernel
theorem dX4_sheet_23 : decode cX4_sheet 23 = .ok (.goto 4, 3) := by decide +kernel
theorem dX4_sheet_26 : decode cX4_sheet 26 = .ok (.iconst 0, 1) := by decide +kernel
theorem dX4_sheet_27 : decode cX4_sheet 27 = .ok (.istore 4, 2) := by decide +kernel
theorem dX4_sheet_29 : decode cX4_sheet 29 = .ok (.iload_n 1, 1) := by decide +kernel
theorem dX4_sheet_30 : decode cX4_sheet 30 = .ok (.invokestatic 205, 3) := by decide +kernel
theorem dX4_sheet_33 : decode cX4_sheet 33 = .ok (.ifCond .eq 8, 3) := by decide +kernel
theorem dX4_sheet_36 : decode cX4_sheet 36 = .ok (.iload 4, 2) := by decide +kernel
theorem dX4_sheet_38 : decode cX4_sheet 38 = .ok (.ifCond .ne 9, 3) := by decide +kernel
theorem dX4_sheet_41 : decode cX4_sheet 41 = .ok (.aload_n 0, 1) := by decide +kernel
theorem dX4_sheet_42 : decode cX4_sheet 42 = .ok (.iconst 0, 1) := by decide +kernel
theorem dX4_sheet_43 : decode cX4_sheet 43 = .ok (.invokevirtual 60, 3) := by decide +kernel
theorem dX4_sheet_46 : decode cX4_sheet 46 = .ok (.ireturn, 1) := by decide +kernel
theorem dX4_sheet_47 : decode cX4_sheet 47 = .ok (.iload_n 3, 1) := by decide +kernel
theorem dX4_sheet_48 : decode cX4_sheet 48 = .ok (.ifCond .ge 10, 3) := by decide +kernel
theorem dX4_sheet_51 : decode cX4_sheet 51 = .ok (.aload_n 0, 1) := by decide +kernel
theorem dX4_sheet_52 : decode cX4_sheet 52 = .ok (.bipush 6, 2) := by decide +kernel
theorem dX4_sheet_54 : decode cX4_sheet 54 = .ok (.invokevirtual 60, 3) := by decide +kernel
theorem dX4_sheet_57 : decode cX4_sheet 57 = .ok (.ireturn, 1) := by decide +kernel
theorem dX4_sheet_58 : decode cX4_sheet 58 = .ok (.iload_n 3, 1) := by decide +kernel
theorem dX4_sheet_59 : decode cX4_sheet 59 = .ok (.bipush 40, 2) := by decide +kernel
theorem dX4_sheet_61 : decode cX4_sheet 61 = .ok (.if_icmp .le 9, 3) := by decide +kernel
theorem dX4_sheet_64 : decode cX4_sheet 64 = .ok (.aload_n 0, 1) := by decide +kernel
theorem dX4_sheet_65 : decode cX4_sheet 65 = .ok (.iconst 0, 1) := by decide +kernel
theorem dX4_sheet_66 : decode cX4_sheet 66 = .ok (.invokevirtual 60, 3) := by decide +kernel
theorem dX4_sheet_69 : decode cX4_sheet 69 = .ok (.ireturn, 1) := by decide +kernel
theorem dX4_sheet_70 : decode cX4_sheet 70 = .ok (.aload_n 0, 1) := by decide +kernel
theorem dX4_sheet_71 : decode cX4_sheet 71 = .ok (.getfield 31, 3) := by decide +kernel
theorem dX4_sheet_74 : decode cX4_sheet 74 = .ok (.iload_n 1, 1) := by decide +kernel
theorem dX4_sheet_75 : decode cX4_sheet 75 = .ok (.aaload, 1) := by decide +kernel
theorem dX4_sheet_76 : decode cX4_sheet 76 = .ok (.iload_n 2, 1) := by decide +kernel
theorem dX4_sheet_77 : decode cX4_sheet 77 = .ok (.iload_n 2, 1) := by decide +kernel
theorem dX4_sheet_78 : decode cX4_sheet 78 = .ok (.ifCond .ne 7, 3) := by decide +kernel
theorem dX4_sheet_81 : decode cX4_sheet 81 = .ok (.iconst 0, 1) := by decide +kernel
theorem dX4_sheet_82 : decode cX4_sheet 82 = .ok (.goto 4, 3) := by decide +kernel
theorem dX4_sheet_85 : decode cX4_sheet 85 = .ok (.iload_n 3, 1) := by decide +kernel
theorem dX4_sheet_86 : decode cX4_sheet 86 = .ok (.invokevirtual 208, 3) := by decide +kernel
theorem dX4_sheet_89 : decode cX4_sheet 89 = .ok (.aload_n 0, 1) := by decide +kernel
theorem dX4_sheet_90 : decode cX4_sheet 90 = .ok (.getfield 31, 3) := by decide +kernel
theorem dX4_sheet_93 : decode cX4_sheet 93 = .ok (.iload_n 1, 1) := by decide +kernel
theorem dX4_sheet_94 : decode cX4_sheet 94 = .ok (.aaload, 1) := by decide +kernel
theorem dX4_sheet_95 : decode cX4_sheet 95 = .ok (.getfield 212, 3) := by decide +kernel
theorem dX4_sheet_98 : decode cX4_sheet 98 = .ok (.ireturn, 1) := by decide +kernel
def rX4_sheet : Room := { frames := 2, cells := 0, slots := 0, locals := 45 }
def vX4_sheet_c89 (p1 : Int32) (p2 : Int32) (p3 : Int32) (J : JS) : Int32 × JS := ((s_size (j_s J (p1).toNatClampNeg)), J)
def kX4_sheet_c89 (p1 : Int32) (p2 : Int32) (p3 : Int32) (J : JS) : Prop := (vp_in p1 4) ∧ True
def vX4_sheet_c86 (p1 : Int32) (p2 : Int32) (p3 : Int32) (J : JS) (y0 : Int32) (y1 : Int32) : Int32 × JS := (vX4_sheet_c89 p1 p2 p3 (j_s_s J (p1).toNatClampNeg (vX2_begin (j_s J (p1).toNatClampNeg) y1 y0)))
def kX4_sheet_c86 (p1 : Int32) (p2 : Int32) (p3 : Int32) (J : JS) (y0 : Int32) (y1 : Int32) : Prop := ((p1).toNatClampNeg < 4) ∧ (kX2_begin (j_s J (p1).toNatClampNeg) y1 y0) ∧ (kX4_sheet_c89 p1 p2 p3 (j_s_s J (p1).toNatClampNeg (vX2_begin (j_s J (p1).toNatClampNeg) y1 y0)))
def vX4_sheet_c41 (p1 : Int32) (p2 : Int32) (p3 : Int32) (J : JS) : Int32 × JS := (((vX4_tell J (0 : Int32)).1), ((vX4_tell J (0 : Int32)).2))
def kX4_sheet_c41 (p1 : Int32) (p2 : Int32) (p3 : Int32) (J : JS) : Prop := (kX4_tell J (0 : Int32)) ∧ True
def vX4_sheet_c27 (p1 : Int32) (p2 : Int32) (p3 : Int32) (J : JS) (y0 : Int32) : Int32 × JS := if ((vX4_isSheet p1) = 0) then (vX4_sheet_c41 p1 p2 p3 J) else if (y0 = 0) then (vX4_sheet_c41 p1 p2 p3 J) else if (0 ≤ p3) then (if (p3 ≤ (40 : Int32)) then (if (p2 = 0) then (vX4_sheet_c86 p1 p2 p3 J (0 : Int32) p2) else (vX4_sheet_c86 p1 p2 p3 J p3 p2)) else (((vX4_tell J (0 : Int32)).1), ((vX4_tell J (0 : Int32)).2))) else (((vX4_tell J (6 : Int32)).1), ((vX4_tell J (6 : Int32)).2))
def kX4_sheet_c27 (p1 : Int32) (p2 : Int32) (p3 : Int32) (J : JS) (y0 : Int32) : Prop := (kX4_isSheet p1) ∧ (((vX4_isSheet p1) = 0) → ((kX4_sheet_c41 p1 p2 p3 J))) ∧ (¬ ((vX4_isSheet p1) = 0) → (((y0 = 0) → ((kX4_sheet_c41 p1 p2 p3 J))) ∧ (¬ (y0 = 0) → (((0 ≤ p3) → (((p3 ≤ (40 : Int32)) → ((vp_in p1 4) ∧ ((p2 = 0) → ((kX4_sheet_c86 p1 p2 p3 J (0 : Int32) p2))) ∧ (¬ (p2 = 0) → ((kX4_sheet_c86 p1 p2 p3 J p3 p2))))) ∧ (¬ (p3 ≤ (40 : Int32)) → ((kX4_tell J (0 : Int32)) ∧ True)))) ∧ (¬ (0 ≤ p3) → ((kX4_tell J (6 : Int32)) ∧ True))))))
def vX4_sheet_c22 (p1 : Int32) (p2 : Int32) (p3 : Int32) (J : JS) : Int32 × JS := (vX4_sheet_c27 p1 p2 p3 J (1 : Int32))
def kX4_sheet_c22 (p1 : Int32) (p2 : Int32) (p3 : Int32) (J : JS) : Prop := (kX4_sheet_c27 p1 p2 p3 J (1 : Int32))
def vX4_sheet (J0 : JS) (p1 : Int32) (p2 : Int32) (p3 : Int32) : Int32 × JS := if (p2 = 0) then (vX4_sheet_c22 p1 p2 p3 J0) else if (p2 = (8 : Int32)) then (vX4_sheet_c22 p1 p2 p3 J0) else if (p2 = (16 : Int32)) then (vX4_sheet_c22 p1 p2 p3 J0) else if (p2 = (32 : Int32)) then (vX4_sheet_c22 p1 p2 p3 J0) else (vX4_sheet_c27 p1 p2 p3 J0 (0 : Int32))
def kX4_sheet (J0 : JS) (p1 : Int32) (p2 : Int32) (p3 : Int32) : Prop := ((p2 = 0) → ((kX4_sheet_c22 p1 p2 p3 J0))) ∧ (¬ (p2 = 0) → (((p2 = (8 : Int32)) → ((kX4_sheet_c22 p1 p2 p3 J0))) ∧ (¬ (p2 = (8 : Int32)) → (((p2 = (16 : Int32)) → ((kX4_sheet_c22 p1 p2 p3 J0))) ∧ (¬ (p2 = (16 : Int32)) → (((p2 = (32 : Int32)) → ((kX4_sheet_c22 p1 p2 p3 J0))) ∧ (¬ (p2 = (32 : Int32)) → ((kX4_sheet_c27 p1 p2 p3 J0 (0 : Int32))))))))))
set_option maxHeartbeats 4000000 in
set_option maxRecDepth 100000 in
theorem hX4_sheet (l : Launch) (D : va_G) (K : JK) (G : JG) (a : Nat → Nat) (J0 : JS) (p1 : Int32) (p2 : Int32) (p3 : Int32) (hk : kX4_sheet J0 p1 p2 p3) (sz : Nat) : Met l yX4_sheet (.code yX4_sheet cX4_sheet 5 (some .int) :: jGW) rX4_sheet (jPre D (jT K) G [.ref (a 0), .int p1, .int p2, .int p3] (wJ K a J0) sz) (jQi D (jT K) ((vX4_sheet J0 p1 p2 p3).1) (wJ K a ((vX4_sheet J0 p1 p2 p3).2)) (va_A (wJ K a J0) sz)) 0 0 (va_A (wJ K a J0) sz) := by
  refine jEi (by decide) (Nat.le_of_ble_eq_true rfl) (fun p e s m below meth c A Q ls hat hP hD hS hl hend => ?_)
  obtain ⟨hx, hb, hml, hown, hts, hK, hZ, hA⟩ := hat
  have hl : lv_has ls 5 [(0, .ref (a 0)), (1, .int p1), (2, .int p2), (3, .int p3)] := hl
  have hc89 : ∀ (J : JS) (H : Heap) (locs : List Loc) (ls : Array Slot), (vX4_sheet J0 p1 p2 p3) = vX4_sheet_c89 p1 p2 p3 J → kX4_sheet_c89 p1 p2 p3 J → va_P D vwCl (wJ K a J) H → va_D A (wJ K a J) → va_S A s.heap H locs → lv_has ls 5 [(0, .ref (a 0)), (1, .int p1), (2, .int p2), (3, .int p3)] → W p l e rX4_sheet s m ([.ref (a 0), .int p1, .int p2, .int p3] : List Value).toArray below meth c H locs 0 0 Q (F0 m 89 ls []) := by
    intro J H locs ls hV hk hP hD hS hl
    rw [vX4_sheet_c89] at hV
    rw [kX4_sheet_c89] at hk
    refine lv_aload_n hx hb dX4_sheet_89 rfl (lv_at hl 0 rfl) ?_
    refine gf_X4_31 (v := .ref (a 18)) hx hb hts hown hK hZ hP (0) rfl rfl dX4_sheet_90 ?_
    refine lv_iload_n hx hb dX4_sheet_93 rfl (lv_at hl 1 rfl) ?_
    obtain ⟨h18, hk⟩ := hk
    refine j_aald hx hb hK hP h18 dX4_sheet_94 ?_
    refine gf_X4_212 (v := .int (s_size (j_s J (p1).toNatClampNeg))) hx hb hts hown hK hZ hP (19 + 2 * (p1).toNatClampNeg) (wJ_sh D K _ _ ((jlt4 h18))) rfl dX4_sheet_95 ?_
    exact hend _ _ _ _ _ (by rw [hV]; exact hP) (by rw [hV]; exact hD) hS (by rw [hV]) rfl dX4_sheet_98
  have hc86 : ∀ (J : JS) (y0 : Int32) (y1 : Int32) (H : Heap) (locs : List Loc) (ls : Array Slot), (vX4_sheet J0 p1 p2 p3) = vX4_sheet_c86 p1 p2 p3 J y0 y1 → kX4_sheet_c86 p1 p2 p3 J y0 y1 → va_P D vwCl (wJ K a J) H → va_D A (wJ K a J) → va_S A s.heap H locs → lv_has ls 5 [(0, .ref (a 0)), (1, .int p1), (2, .int p2), (3, .int p3)] → W p l e rX4_sheet s m ([.ref (a 0), .int p1, .int p2, .int p3] : List Value).toArray below meth c H locs 0 0 Q (F0 m 86 ls [.int y0, .int y1, .ref (a (19 + 2 * (p1).toNatClampNeg))]) := by
    intro J y0 y1 H locs ls hV hk hP hD hS hl
    rw [vX4_sheet_c86] at hV
    rw [kX4_sheet_c86] at hk
    obtain ⟨h19, hk⟩ := hk
    obtain ⟨h20, hk⟩ := hk
    refine jcv (jrunV (As := [.int y1, .int y0]) (rest := []) hx hb hml hown hts hK hZ hA hP hD hS hl.1 mf_X2_begin kl_X4_208 ⟨rfl, rfl, Nat.le_of_ble_eq_true rfl, Nat.le_of_ble_eq_true rfl⟩ ⟨Nat.zero_le _, Nat.zero_le _⟩ [19 + 2 * (p1).toNatClampNeg, 20 + 2 * (p1).toNatClampNeg] (jnd2 _) (wJ_sC D K _ _ (h19)) rfl rfl rfl (hX2_begin l D K G (fun k => a (19 + 2 * (p1).toNatClampNeg + k)) (j_s J (p1).toNatClampNeg) y1 y0 h20 _) rfl rfl (Nat.le_of_ble_eq_true rfl) dX4_sheet_86) hA hP hD hS [19 + 2 * (p1).toNatClampNeg, 20 + 2 * (p1).toNatClampNeg] (wJ_sC D K _ _ (h19)) rfl (fun H locs hP hD hS => ?_)
    have hP := jeP (wJ_sP D K _ _ _ (h19)) hP
    have hD := jeD (wJ_sP D K _ _ _ (h19)) hD
    exact hc89 (j_s_s J (p1).toNatClampNeg (vX2_begin (j_s J (p1).toNatClampNeg) y1 y0)) _ _ _ hV hk hP hD hS (lv_sub hl [0, 1, 2, 3] rfl)
  have hc41 : ∀ (J : JS) (H : Heap) (locs : List Loc) (ls : Array Slot), (vX4_sheet J0 p1 p2 p3) = vX4_sheet_c41 p1 p2 p3 J → kX4_sheet_c41 p1 p2 p3 J → va_P D vwCl (wJ K a J) H → va_D A (wJ K a J) → va_S A s.heap H locs → lv_has ls 5 [(0, .ref (a 0)), (1, .int p1), (2, .int p2), (3, .int p3)] → W p l e rX4_sheet s m ([.ref (a 0), .int p1, .int p2, .int p3] : List Value).toArray below meth c H locs 0 0 Q (F0 m 41 ls []) := by
    intro J H locs ls hV hk hP hD hS hl
    rw [vX4_sheet_c41] at hV
    rw [kX4_sheet_c41] at hk
    refine lv_aload_n hx hb dX4_sheet_41 rfl (lv_at hl 0 rfl) ?_
    refine lv_iconst (v := (0 : Int32)) hx hb dX4_sheet_42 (by decide) ?_
    obtain ⟨h21, hk⟩ := hk
    refine jci (jrunV (As := [.int (0 : Int32)]) (rest := []) hx hb hml hown hts hK hZ hA hP hD hS hl.1 mf_X4_tell kl_X4_60 ⟨rfl, rfl, Nat.le_of_ble_eq_true rfl, Nat.le_of_ble_eq_true rfl⟩ ⟨Nat.zero_le _, Nat.zero_le _⟩ [0, 1, 2, 3, 4, 5, 6, 7, 8, 9, 10, 11, 12, 13, 14, 15, 16, 17, 18, 19, 20, 21, 22, 23, 24, 25, 26, 27, 28, 29] rfl (js45 K a J) rfl rfl rfl (hX4_tell l D K G a J (0 : Int32) h21 _) rfl rfl (Nat.le_of_ble_eq_true rfl) dX4_sheet_43) hA hP hD hS [0, 1, 2, 3, 4, 5, 6, 7, 8, 9, 10, 11, 12, 13, 14, 15, 16, 17, 18, 19, 20, 21, 22, 23, 24, 25, 26, 27, 28, 29] (js45 K a J) (jh52 K a J ((vX4_tell J (0 : Int32)).2)) (fun H locs hP hD hS => ?_)
    have hP := jeP (jp53 K a J ((vX4_tell J (0 : Int32)).2)) hP
    have hD := jeD (jp53 K a J ((vX4_tell J (0 : Int32)).2)) hD
    exact hend _ _ _ _ _ (by rw [hV]; exact hP) (by rw [hV]; exact hD) hS (by rw [hV]) rfl dX4_sheet_46
  have hc27 : ∀ (J : JS) (y0 : Int32) (H : Heap) (locs : List Loc) (ls : Array Slot), (vX4_sheet J0 p1 p2 p3) = vX4_sheet_c27 p1 p2 p3 J y0 → kX4_sheet_c27 p1 p2 p3 J y0 → va_P D vwCl (wJ K a J) H → va_D A (wJ K a J) → va_S A s.heap H locs → lv_has ls 5 [(0, .ref (a 0)), (1, .int p1), (2, .int p2), (3, .int p3)] → W p l e rX4_sheet s m ([.ref (a 0), .int p1, .int p2, .int p3] : List Value).toArray below meth c H locs 0 0 Q (F0 m 27 ls [.int y0]) := by
    intro J y0 H locs ls hV hk hP hD hS hl
    rw [vX4_sheet_c27] at hV
    rw [kX4_sheet_c27] at hk
    refine lv_istore (lv' := [(4, .int y0), (0, .ref (a 0)), (1, .int p1), (2, .int p2), (3, .int p3)]) hx hb dX4_sheet_27 hl (by decide) rfl (fun ls hl => ?_)
    refine lv_iload_n hx hb dX4_sheet_29 rfl (lv_at hl 2 rfl) ?_
    obtain ⟨h22, hk⟩ := hk
    refine jci0 (jrunS (As := [.int p1]) (rest := []) hx hb hml hown hts hK hZ hA hP hD hS hl.1 mf_X4_isSheet kl_X4_205 ⟨rfl, rfl, Nat.le_of_ble_eq_true rfl, Nat.le_of_ble_eq_true rfl⟩ ⟨Nat.zero_le _, Nat.zero_le _⟩ [] rfl rfl (hX4_isSheet l D K G p1 h22 _) rfl rfl (Nat.le_of_ble_eq_true rfl) dX4_sheet_30) hA hP hD hS [] rfl (fun H locs hP hS => ?_)
    refine lv_if_eq (tgt := 41) hx hb dX4_sheet_33 (by decide) (fun c23 => ?_) (fun c23 => ?_)
    · have hV := hV.trans (if_pos c23)
      have hk := hk.1 c23
      exact hc41 J _ _ _ hV hk hP hD hS (lv_sub hl [1, 2, 3, 4] rfl)
    · have hV := hV.trans (if_neg c23)
      have hk := hk.2 c23
      refine lv_iload hx hb dX4_sheet_36 (lv_at hl 0 rfl) ?_
      refine lv_if_ne (tgt := 47) hx hb dX4_sheet_38 (by decide) (fun c24 => ?_) (fun c24 => ?_)
      · have hV := hV.trans (if_neg c24)
        have hk := hk.2 c24
        refine lv_iload_n hx hb dX4_sheet_47 rfl (lv_at hl 4 rfl) ?_
        refine lv_if_ge (tgt := 58) hx hb dX4_sheet_48 (by decide) (fun c25 => ?_) (fun c25 => ?_)
        · have hV := hV.trans (if_pos c25)
          have hk := hk.1 c25
          refine lv_iload_n hx hb dX4_sheet_58 rfl (lv_at hl 4 rfl) ?_
          refine lv_bipush (v := (40 : Int32)) hx hb dX4_sheet_59 (by decide) ?_
          refine lv_icmp_le (tgt := 70) hx hb dX4_sheet_61 (by decide) (fun c26 => ?_) (fun c26 => ?_)
          · have hV := hV.trans (if_pos c26)
            have hk := hk.1 c26
            refine lv_aload_n hx hb dX4_sheet_70 rfl (lv_at hl 1 rfl) ?_
            refine gf_X4_31 (v := .ref (a 18)) hx hb hts hown hK hZ hP (0) rfl rfl dX4_sheet_71 ?_
            refine lv_iload_n hx hb dX4_sheet_74 rfl (lv_at hl 2 rfl) ?_
            obtain ⟨h27, hk⟩ := hk
            refine j_aald hx hb hK hP h27 dX4_sheet_75 ?_
            refine lv_iload_n hx hb dX4_sheet_76 rfl (lv_at hl 3 rfl) ?_
            refine lv_iload_n hx hb dX4_sheet_77 rfl (lv_at hl 3 rfl) ?_
            refine lv_if_ne (tgt := 85) hx hb dX4_sheet_78 (by decide) (fun c28 => ?_) (fun c28 => ?_)
            · have hV := hV.trans (if_neg c28)
              have hk := hk.2 c28
              refine lv_iload_n hx hb dX4_sheet_85 rfl (lv_at hl 4 rfl) ?_
              exact hc86 J p3 p2 _ _ _ hV hk hP hD hS (lv_sub hl [1, 2, 3, 4] rfl)
            · have hV := hV.trans (if_pos c28)
              have hk := hk.1 c28
              refine lv_iconst (v := (0 : Int32)) hx hb dX4_sheet_81 (by decide) ?_
              refine lv_goto (tgt := 86) hx hb dX4_sheet_82 (by decide) ?_
              exact hc86 J (0 : Int32) p2 _ _ _ hV hk hP hD hS (lv_sub hl [1, 2, 3, 4] rfl)
          · have hV := hV.trans (if_neg c26)
            have hk := hk.2 c26
            refine lv_aload_n hx hb dX4_sheet_64 rfl (lv_at hl 1 rfl) ?_
            refine lv_iconst (v := (0 : Int32)) hx hb dX4_sheet_65 (by decide) ?_
            obtain ⟨h29, hk⟩ := hk
            refine jci (jrunV (As := [.int (0 : Int32)]) (rest := []) hx hb hml hown hts hK hZ hA hP hD hS hl.1 mf_X4_tell kl_X4_60 ⟨rfl, rfl, Nat.le_of_ble_eq_true rfl, Nat.le_of_ble_eq_true rfl⟩ ⟨Nat.zero_le _, Nat.zero_le _⟩ [0, 1, 2, 3, 4, 5, 6, 7, 8, 9, 10, 11, 12, 13, 14, 15, 16, 17, 18, 19, 20, 21, 22, 23, 24, 25, 26, 27, 28, 29] rfl (js45 K a J) rfl rfl rfl (hX4_tell l D K G a J (0 : Int32) h29 _) rfl rfl (Nat.le_of_ble_eq_true rfl) dX4_sheet_66) hA hP hD hS [0, 1, 2, 3, 4, 5, 6, 7, 8, 9, 10, 11, 12, 13, 14, 15, 16, 17, 18, 19, 20, 21, 22, 23, 24, 25, 26, 27, 28, 29] (js45 K a J) (jh52 K a J ((vX4_tell J (0 : Int32)).2)) (fun H locs hP hD hS => ?_)
            have hP := jeP (jp53 K a J ((vX4_tell J (0 : Int32)).2)) hP
            have hD := jeD (jp53 K a J ((vX4_tell J (0 : Int32)).2)) hD
            exact hend _ _ _ _ _ (by rw [hV]; exact hP) (by rw [hV]; exact hD) hS (by rw [hV]) rfl dX4_sheet_69
        · have hV := hV.trans (if_neg c25)
          have hk := hk.2 c25
          refine lv_aload_n hx hb dX4_sheet_51 rfl (lv_at hl 1 rfl) ?_
          refine lv_bipush (v := (6 : Int32)) hx hb dX4_sheet_52 (by decide) ?_
          obtain ⟨h30, hk⟩ := hk
          refine jci (jrunV (As := [.int (6 : Int32)]) (rest := []) hx hb hml hown hts hK hZ hA hP hD hS hl.1 mf_X4_tell kl_X4_60 ⟨rfl, rfl, Nat.le_of_ble_eq_true rfl, Nat.le_of_ble_eq_true rfl⟩ ⟨Nat.zero_le _, Nat.zero_le _⟩ [0, 1, 2, 3, 4, 5, 6, 7, 8, 9, 10, 11, 12, 13, 14, 15, 16, 17, 18, 19, 20, 21, 22, 23, 24, 25, 26, 27, 28, 29] rfl (js45 K a J) rfl rfl rfl (hX4_tell l D K G a J (6 : Int32) h30 _) rfl rfl (Nat.le_of_ble_eq_true rfl) dX4_sheet_54) hA hP hD hS [0, 1, 2, 3, 4, 5, 6, 7, 8, 9, 10, 11, 12, 13, 14, 15, 16, 17, 18, 19, 20, 21, 22, 23, 24, 25, 26, 27, 28, 29] (js45 K a J) (jh52 K a J ((vX4_tell J (6 : Int32)).2)) (fun H locs hP hD hS => ?_)
          have hP := jeP (jp53 K a J ((vX4_tell J (6 : Int32)).2)) hP
          have hD := jeD (jp53 K a J ((vX4_tell J (6 : Int32)).2)) hD
          exact hend _ _ _ _ _ (by rw [hV]; exact hP) (by rw [hV]; exact hD) hS (by rw [hV]) rfl dX4_sheet_57
      · have hV := hV.trans (if_pos c24)
        have hk := hk.1 c24
        exact hc41 J _ _ _ hV hk hP hD hS (lv_sub hl [1, 2, 3, 4] rfl)
  have hc22 : ∀ (J : JS) (H : Heap) (locs : List Loc) (ls : Array Slot), (vX4_sheet J0 p1 p2 p3) = vX4_sheet_c22 p1 p2 p3 J → kX4_sheet_c22 p1 p2 p3 J → va_P D vwCl (wJ K a J) H → va_D A (wJ K a J) → va_S A s.heap H locs → lv_has ls 5 [(0, .ref (a 0)), (1, .int p1), (2, .int p2), (3, .int p3)] → W p l e rX4_sheet s m ([.ref (a 0), .int p1, .int p2, .int p3] : List Value).toArray below meth c H locs 0 0 Q (F0 m 22 ls []) := by
    intro J H locs ls hV hk hP hD hS hl
    rw [vX4_sheet_c22] at hV
    rw [kX4_sheet_c22] at hk
    refine lv_iconst (v := (1 : Int32)) hx hb dX4_sheet_22 (by decide) ?_
    refine lv_goto (tgt := 27) hx hb dX4_sheet_23 (by decide) ?_
    exact hc27 J (1 : Int32) _ _ _ hV hk hP hD hS (lv_sub hl [0, 1, 2, 3] rfl)
  have hV := vX4_sheet.eq_1 J0 p1 p2 p3
  rw [kX4_sheet] at hk
  refine lv_iload_n hx hb dX4_sheet_0 rfl (lv_at hl 2 rfl) ?_
  refine lv_if_eq (tgt := 22) hx hb dX4_sheet_1 (by decide) (fun c31 => ?_) (fun c31 => ?_)
  · have hV := hV.trans (if_pos c31)
    have hk := hk.1 c31
    exact hc22 J0 _ _ _ hV hk hP hD hS (lv_sub hl [0, 1, 2, 3] rfl)
  · have hV := hV.trans (if_neg c31)
    have hk := hk.2 c31
    refine lv_iload_n hx hb dX4_sheet_4 rfl (lv_at hl 2 rfl) ?_
    refine lv_bipush (v := (8 : Int32)) hx hb dX4_sheet_5 (by decide) ?_
    refine lv_icmp_eq (tgt := 22) hx hb dX4_sheet_7 (by decide) (fun c32 => ?_) (fun c32 => ?_)
    · have hV := hV.trans (if_pos c32)
      have hk := hk.1 c32
      exact hc22 J0 _ _ _ hV hk hP hD hS (lv_sub hl [0, 1, 2, 3] rfl)
    · have hV := hV.trans (if_neg c32)
      have hk := hk.2 c32
      refine lv_iload_n hx hb dX4_sheet_10 rfl (lv_at hl 2 rfl) ?_
      refine lv_bipush (v := (16 : Int32)) hx hb dX4_sheet_11 (by decide) ?_
      refine lv_icmp_eq (tgt := 22) hx hb dX4_sheet_13 (by decide) (fun c33 => ?_) (fun c33 => ?_)
      · have hV := hV.trans (if_pos c33)
        have hk := hk.1 c33
        exact hc22 J0 _ _ _ hV hk hP hD hS (lv_sub hl [0, 1, 2, 3] rfl)
      · have hV := hV.trans (if_neg c33)
        have hk := hk.2 c33
        refine lv_iload_n hx hb dX4_sheet_16 rfl (lv_at hl 2 rfl) ?_
        refine lv_bipush (v := (32 : Int32)) hx hb dX4_sheet_17 (by decide) ?_
        refine lv_icmp_ne (tgt := 26) hx hb dX4_sheet_19 (by decide) (fun c34 => ?_) (fun c34 => ?_)
        · have hV := hV.trans (if_neg c34)
          have hk := hk.2 c34
          refine lv_iconst (v := (0 : Int32)) hx hb dX4_sheet_26 (by decide) ?_
          exact hc27 J0 (0 : Int32) _ _ _ hV hk hP hD hS (lv_sub hl [0, 1, 2, 3] rfl)
        · have hV := hV.trans (if_pos c34)
          have hk := hk.1 c34
          exact hc22 J0 _ _ _ hV hk hP hD hS (lv_sub hl [0, 1, 2, 3] rfl)
theorem dX4_status_0 : decode cX4_status 0 = .ok (.iload_n 1, 1) := by decide +kernel
theorem dX4_status_1 : decode cX4_status 1 = .ok (.iconst (-1), 1) := by decide +kernel
theorem dX4_status_2 : decode cX4_status 2 = .ok (.if_icmp .ne 30, 3) := by decide +kernel
theorem dX4_status_5 : decode cX4_status 5 = .ok (.iconst 0, 1) := by decide +kernel
theorem dX4_status_6 : decode cX4_status 6 = .ok (.istore_n 2, 1) := by decide +kernel
theorem dX4_status_7 : decode cX4_status 7 = .ok (.iconst 0, 1) := by decide +kernel
theorem dX4_status_8 : decode cX4_status 8 = .ok (.istore_n 3, 1) := by decide +kernel
theorem dX4_status_9 : decode cX4_status 9 = .ok (.iload_n 3, 1) := by decide +kernel
theorem dX4_status_10 : decode cX4_status 10 = .ok (.bipush 7, 2) := by decide +kernel
theorem dX4_status_12 : decode cX4_status 12 = .ok (.if_icmp .ge 18, 3) := by decide +kernel
theorem dX4_status_15 : decode cX4_status 15 = .ok (.iload_n 2, 1) := by decide +kernel
theorem dX4_status_16 : decode cX4_status 16 = .ok (.aload_n 0, 1) := by decide +kernel
theorem dX4_status_17 : decode cX4_status 17 = .ok (.getfield 35, 3) := by decide +kernel
theorem dX4_status_20 : decode cX4_status 20 = .ok (.iload_n 3, 1) := by decide +kernel
theorem dX4_status_21 : decode cX4_status 21 = .ok (.iaload, 1) := by decide +kernel
theorem dX4_status_22 : decode cX4_status 22 = .ok (.iadd, 1) := by decide +kernel
theorem dX4_status_23 : decode cX4_status 23 = .ok (.istore_n 2, 1) := by decide +kernel
theorem dX4_status_24 : decode cX4_status 24 = .ok (.iinc 3 1, 3) := by decide +kernel
theorem dX4_status_27 : decode cX4_status 27 = .ok (.goto (-18), 3) := by decide +kernel
theorem dX4_status_30 : decode cX4_status 30 = .ok (.iload_n 2, 1) := by decide +kernel
theorem dX4_status_31 : decode cX4_status 31 = .ok (.ireturn, 1) := by decide +kernel
theorem dX4_status_32 : decode cX4_status 32 = .ok (.iload_n 1, 1) := by decide +kernel
theorem dX4_status_33 : decode cX4_status 33 = .ok (.iconst 0, 1) := by decide +kernel
theorem dX4_status_34 : decode cX4_status 34 = .ok (.bipush 6, 2) := by decide +kernel
theorem dX4_status_36 : decode cX4_status 36 = .ok (.invokestatic 50, 3) := by decide +kernel
theorem dX4_status_39 : decode cX4_status 39 = .ok (.ifCond .eq 12, 3) := by decide +kernel
theorem dX4_status_42 : decode cX4_status 42 = .ok (.aload_n 0, 1) := by decide +kernel
theorem dX4_status_43 : decode cX4_status 43 = .ok (.getfield 35, 3) := by decide +kernel
theorem dX4_status_46 : decode cX4_status 46 = .ok (.iload_n 1, 1) := by decide +kernel
theorem dX4_status_47 : decode cX4_status 47 = .ok (.iaload, 1) := by decide +kernel
theorem dX4_status_48 : decode cX4_status 48 = .ok (.goto 8, 3) := by decide +kernel
theorem dX4_status_51 : decode cX4_status 51 = .ok (.aload_n 0, 1) := by decide +kernel
theorem dX4_status_52 : decode cX4_status 52 = .ok (.iconst 0, 1) := by decide +kernel
theorem dX4_status_53 : decode cX4_status 53 = .ok (.invokevirtual 60, 3) := by decide +kernel
theorem dX4_status_56 : decode cX4_status 56 = .ok (.ireturn, 1) := by decide +kernel
def rX4_status : Room := { frames := 2, cells := 0, slots := 0, locals := 43 }
def vX4_status_c9 (p1 : Int32) : Nat → JS → Int32 → Int32 → Int32 × JS
  | 0, J, x2, x3 => (0, J)
  | n + 1, J, x2, x3 => if ((7 : Int32) ≤ x3) then (x2, J) else (vX4_status_c9 p1 n J (x2 + ((j_found J) (x3).toNatClampNeg)) (x3 + (1 : Int32)))
def kX4_status_c9 (p1 : Int32) : Nat → JS → Int32 → Int32 → Prop
  | 0, _, _, _ => False
  | n + 1, J, x2, x3 => (((7 : Int32) ≤ x3) → True) ∧ (¬ ((7 : Int32) ≤ x3) → ((vp_in x3 7) ∧ (kX4_status_c9 p1 n J (x2 + ((j_found J) (x3).toNatClampNeg)) (x3 + (1 : Int32)))))
def vX4_status (J0 : JS) (p1 : Int32) : Int32 × JS := if (p1 = (-1 : Int32)) then (vX4_status_c9 p1 1024 J0 (0 : Int32) (0 : Int32)) else if ((vX4_within p1 (0 : Int32) (6 : Int32)) = 0) then (((vX4_tell J0 (0 : Int32)).1), ((vX4_tell J0 (0 : Int32)).2)) else (((j_found J0) (p1).toNatClampNeg), J0)
def kX4_status (J0 : JS) (p1 : Int32) : Prop := ((p1 = (-1 : Int32)) → ((kX4_status_c9 p1 1024 J0 (0 : Int32) (0 : Int32)))) ∧ (¬ (p1 = (-1 : Int32)) → ((((vX4_within p1 (0 : Int32) (6 : Int32)) = 0) → ((kX4_tell J0 (0 : Int32)) ∧ True)) ∧ (¬ ((vX4_within p1 (0 : Int32) (6 : Int32)) = 0) → ((vp_in p1 7) ∧ True))))
set_option maxHeartbeats 4000000 in
set_option maxRecDepth 100000 in
theorem hX4_status (l : Launch) (D : va_G) (K : JK) (G : JG) (a : Nat → Nat) (J0 : JS) (p1 : Int32) (hk : kX4_status J0 p1) (sz : Nat) : Met l yX4_status (.code yX4_status cX4_status 4 (some .int) :: jGW) rX4_status (jPre D (jT K) G [.ref (a 0), .int p1] (wJ K a J0) sz) (jQi D (jT K) ((vX4_status J0 p1).1) (wJ K a ((vX4_status J0 p1).2)) (va_A (wJ K a J0) sz)) 0 0 (va_A (wJ K a J0) sz) := by
  refine jEi (by decide) (Nat.le_of_ble_eq_true rfl) (fun p e s m below meth c A Q ls hat hP hD hS hl hend => ?_)
  obtain ⟨hx, hb, hml, hown, hts, hK, hZ, hA⟩ := hat
  have hl : lv_has ls 4 [(0, .ref (a 0)), (1, .int p1)] := hl
  have hc9 : ∀ (n : Nat) (J : JS) (x2 : Int32) (x3 : Int32) (H : Heap) (locs : List Loc) (ls : Array Slot), (vX4_status J0 p1) = vX4_status_c9 p1 n J x2 x3 → kX4_status_c9 p1 n J x2 x3 → va_P D vwCl (wJ K a J) H → va_D A (wJ K a J) → va_S A s.heap H locs → lv_has ls 4 [(0, .ref (a 0)), (1, .int p1), (2, .int x2), (3, .int x3)] → W p l e rX4_status s m ([.ref (a 0), .int p1] : List Value).toArray below meth c H locs 0 0 Q (F0 m 9 ls []) := by
    intro n
    induction n with
    | zero =>
      intro J x2 x3 H locs ls hV hk hP hD hS hl
      exact False.elim hk
    | succ n ih =>
      intro J x2 x3 H locs ls hV hk hP hD hS hl
      rw [vX4_status_c9] at hV
      rw [kX4_status_c9] at hk
      refine lv_iload_n hx hb dX4_status_9 rfl (lv_at hl 3 rfl) ?_
      refine lv_bipush (v := (7 : Int32)) hx hb dX4_status_10 (by decide) ?_
      refine lv_icmp_ge (tgt := 30) hx hb dX4_status_12 (by decide) (fun c7 => ?_) (fun c7 => ?_)
      · have hV := hV.trans (if_pos c7)
        have hk := hk.1 c7
        refine lv_iload_n hx hb dX4_status_30 rfl (lv_at hl 2 rfl) ?_
        exact hend _ _ _ _ _ (by rw [hV]; exact hP) (by rw [hV]; exact hD) hS (by rw [hV]) rfl dX4_status_31
      · have hV := hV.trans (if_neg c7)
        have hk := hk.2 c7
        refine lv_iload_n hx hb dX4_status_15 rfl (lv_at hl 2 rfl) ?_
        refine lv_aload_n hx hb dX4_status_16 rfl (lv_at hl 0 rfl) ?_
        refine gf_X4_35 (v := .ref (a 27)) hx hb hts hown hK hZ hP (0) rfl rfl dX4_status_17 ?_
        refine lv_iload_n hx hb dX4_status_20 rfl (lv_at hl 3 rfl) ?_
        obtain ⟨h8, hk⟩ := hk
        refine va_iald hx hb hK hP (27) 0 rfl rfl h8 dX4_status_21 ?_
        refine lv_iadd hx hb dX4_status_22 ?_
        refine lv_istore_n (lv' := [(2, .int (x2 + ((j_found J) (x3).toNatClampNeg))), (0, .ref (a 0)), (1, .int p1), (3, .int x3)]) hx hb dX4_status_23 rfl hl (by decide) rfl (fun ls hl => ?_)
        refine lv_iinc (v := (x3 + (1 : Int32))) (lv' := [(3, .int (x3 + (1 : Int32))), (2, .int (x2 + ((j_found J) (x3).toNatClampNeg))), (0, .ref (a 0)), (1, .int p1)]) hx hb dX4_status_24 hl (k := 3) rfl rfl (by decide) rfl (fun ls hl => ?_)
        refine lv_goto (tgt := 9) hx hb dX4_status_27 (by decide) ?_
        exact ih J (x2 + ((j_found J) (x3).toNatClampNeg)) (x3 + (1 : Int32)) _ _ _ hV hk hP hD hS (lv_sub hl [2, 3, 1, 0] rfl)
  have hV := vX4_status.eq_1 J0 p1
  rw [kX4_status] at hk
  refine lv_iload_n hx hb dX4_status_0 rfl (lv_at hl 1 rfl) ?_
  refine lv_iconst (v := (-1 : Int32)) hx hb dX4_status_1 (by decide) ?_
  refine lv_icmp_ne (tgt := 32) hx hb dX4_status_2 (by decide) (fun c9 => ?_) (fun c9 => ?_)
  · have hV := hV.trans (if_neg c9)
    have hk := hk.2 c9
    refine lv_iload_n hx hb dX4_status_32 rfl (lv_at hl 1 rfl) ?_
    refine lv_iconst (v := (0 : Int32)) hx hb dX4_status_33 (by decide) ?_
    refine lv_bipush (v := (6 : Int32)) hx hb dX4_status_34 (by decide) ?_
    refine jci0 (jrunS (As := [.int p1, .int (0 : Int32), .int (6 : Int32)]) (rest := []) hx hb hml hown hts hK hZ hA hP hD hS hl.1 mf_X4_within kl_X4_50 ⟨rfl, rfl, Nat.le_of_ble_eq_true rfl, Nat.le_of_ble_eq_true rfl⟩ ⟨Nat.zero_le _, Nat.zero_le _⟩ [] rfl rfl (hX4_within l D K G p1 (0 : Int32) (6 : Int32) _) rfl rfl (Nat.le_of_ble_eq_true rfl) dX4_status_36) hA hP hD hS [] rfl (fun H locs hP hS => ?_)
    refine lv_if_eq (tgt := 51) hx hb dX4_status_39 (by decide) (fun c10 => ?_) (fun c10 => ?_)
    · have hV := hV.trans (if_pos c10)
      have hk := hk.1 c10
      refine lv_aload_n hx hb dX4_status_51 rfl (lv_at hl 0 rfl) ?_
      refine lv_iconst (v := (0 : Int32)) hx hb dX4_status_52 (by decide) ?_
      obtain ⟨h11, hk⟩ := hk
      refine jci (jrunV (As := [.int (0 : Int32)]) (rest := []) hx hb hml hown hts hK hZ hA hP hD hS hl.1 mf_X4_tell kl_X4_60 ⟨rfl, rfl, Nat.le_of_ble_eq_true rfl, Nat.le_of_ble_eq_true rfl⟩ ⟨Nat.zero_le _, Nat.zero_le _⟩ [0, 1, 2, 3, 4, 5, 6, 7, 8, 9, 10, 11, 12, 13, 14, 15, 16, 17, 18, 19, 20, 21, 22, 23, 24, 25, 26, 27, 28, 29] rfl (js45 K a J0) rfl rfl rfl (hX4_tell l D K G a J0 (0 : Int32) h11 _) rfl rfl (Nat.le_of_ble_eq_true rfl) dX4_status_53) hA hP hD hS [0, 1, 2, 3, 4, 5, 6, 7, 8, 9, 10, 11, 12, 13, 14, 15, 16, 17, 18, 19, 20, 21, 22, 23, 24, 25, 26, 27, 28, 29] (js45 K a J0) (jh52 K a J0 ((vX4_tell J0 (0 : Int32)).2)) (fun H locs hP hD hS => ?_)
      have hP := jeP (jp53 K a J0 ((vX4_tell J0 (0 : Int32)).2)) hP
      have hD := jeD (jp53 K a J0 ((vX4_tell J0 (0 : Int32)).2)) hD
      exact hend _ _ _ _ _ (by rw [hV]; exact hP) (by rw [hV]; exact hD) hS (by rw [hV]) rfl dX4_status_56
    · have hV := hV.trans (if_neg c10)
      have hk := hk.2 c10
      refine lv_aload_n hx hb dX4_status_42 rfl (lv_at hl 0 rfl) ?_
      refine gf_X4_35 (v := .ref (a 27)) hx hb hts hown hK hZ hP (0) rfl rfl dX4_status_43 ?_
      refine lv_iload_n hx hb dX4_status_46 rfl (lv_at hl 1 rfl) ?_
      obtain ⟨h12, hk⟩ := hk
      refine va_iald hx hb hK hP (27) 0 rfl rfl h12 dX4_status_47 ?_
      refine lv_goto (tgt := 56) hx hb dX4_status_48 (by decide) ?_
      exact hend _ _ _ _ _ (by rw [hV]; exact hP) (by rw [hV]; exact hD) hS (by rw [hV]) rfl dX4_status_56
  · have hV := hV.trans (if_pos c9)
    have hk := hk.1 c9
    refine lv_iconst (v := (0 : Int32)) hx hb dX4_status_5 (by decide) ?_
    refine lv_istore_n (lv' := [(2, .int (0 : Int32)), (0, .ref (a 0)), (1, .int p1)]) hx hb dX4_status_6 rfl hl (by decide) rfl (fun ls hl => ?_)
    refine lv_iconst (v := (0 : Int32)) hx hb dX4_status_7 (by decide) ?_
    refine lv_istore_n (lv' := [(3, .int (0 : Int32)), (2, .int (0 : Int32)), (0, .ref (a 0)), (1, .int p1)]) hx hb dX4_status_8 rfl hl (by decide) rfl (fun ls hl => ?_)
    exact hc9 1024 J0 (0 : Int32) (0 : Int32) _ _ _ hV hk hP hD hS (lv_sub hl [2, 3, 1, 0] rfl)
theorem dX4_tear_0 : decode cX4_tear 0 = .ok (.aload_n 0, 1) := by decide +kernel
theorem dX4_tear_1 : decode cX4_tear 1 = .ok (.getfield 45, 3) := by decide +kernel
theorem dX4_tear_4 : decode cX4_tear 4 = .ok (.ifCond .eq 7, 3) := by decide +kernel
theorem dX4_tear_7 : decode cX4_tear 7 = .ok (.iconst 1, 1) := by decide +kernel
theorem dX4_tear_8 : decode cX4_tear 8 = .ok (.goto 4, 3) := by decide +kernel
theorem dX4_tear_11 : decode cX4_tear 11 = .ok (.iconst 0, 1) := by decide +kernel
theorem dX4_tear_12 : decode cX4_tear 12 = .ok (.istore_n 1, 1) := by decide +kernel
theorem dX4_tear_13 : decode cX4_tear 13 = .ok (.aload_n 0, 1) := by decide +kernel
theorem dX4_tear_14 : decode cX4_tear 14 = .ok (.iconst 0, 1) := by decide +kernel
theorem dX4_tear_15 : decode cX4_tear 15 = .ok (.putfield 45, 3) := by decide +kernel
theorem dX4_tear_18 : decode cX4_tear 18 = .ok (.iload_n 1, 1) := by decide +kernel
theorem dX4_tear_19 : decode cX4_tear 19 = .ok (.ireturn, 1) := by decide +kernel
def rX4_tear : Room := { frames := 0, cells := 0, slots := 0, locals := 0 }
def vX4_tear_c12 (J : JS) (y0 : Int32) : Int32 × JS := (y0, (j_s_imageKept J (0 : Int32)))
def vX4_tear (J0 : JS) : Int32 × JS := if ((j_imageKept J0) = 0) then (vX4_tear_c12 J0 (0 : Int32)) else (vX4_tear_c12 J0 (1 : Int32))
set_option maxHeartbeats 4000000 in
set_option maxRecDepth 100000 in
theorem hX4_tear (l : Launch) (D : va_G) (K : JK) (G : JG) (a : Nat → Nat) (J0 : JS) (sz : Nat) : Met l yX4_tear (.code yX4_tear cX4_tear 2 (some .int) :: jGW) rX4_tear (jPre D (jT K) G [.ref (a 0)] (wJ K a J0) sz) (jQi D (jT K) ((vX4_tear J0).1) (wJ K a ((vX4_tear J0).2)) (va_A (wJ K a J0) sz)) 0 0 (va_A (wJ K a J0) sz) := by
  refine jEi (by decide) (Nat.le_of_ble_eq_true rfl) (fun p e s m below meth c A Q ls hat hP hD hS hl hend => ?_)
  obtain ⟨hx, hb, hml, hown, hts, hK, hZ, hA⟩ := hat
  have hl : lv_has ls 2 [(0, .ref (a 0))] := hl
  have hc12 : ∀ (J : JS) (y0 : Int32) (H : Heap) (locs : List Loc) (ls : Array Slot), (vX4_tear J0) = vX4_tear_c12 J y0 → va_P D vwCl (wJ K a J) H → va_D A (wJ K a J) → va_S A s.heap H locs → lv_has ls 2 [(0, .ref (a 0))] → W p l e rX4_tear s m ([.ref (a 0)] : List Value).toArray below meth c H locs 0 0 Q (F0 m 12 ls [.int y0]) := by
    intro J y0 H locs ls hV hP hD hS hl
    rw [vX4_tear_c12] at hV
    refine lv_istore_n (lv' := [(1, .int y0), (0, .ref (a 0))]) hx hb dX4_tear_12 rfl hl (by decide) rfl (fun ls hl => ?_)
    refine lv_aload_n hx hb dX4_tear_13 rfl (lv_at hl 1 rfl) ?_
    refine lv_iconst (v := (0 : Int32)) hx hb dX4_tear_14 (by decide) ?_
    refine pf_X4_45 (v := .int (0 : Int32)) hx hb hts hown hK hZ hP hD hS (0) rfl rfl rfl (Nat.le_of_ble_eq_true rfl) dX4_tear_15 (fun H locs hP hD hS => ?_)
    have hP := jeP (jf67 K a J (0 : Int32)) hP
    have hD := jeD (jf67 K a J (0 : Int32)) hD
    refine lv_iload_n hx hb dX4_tear_18 rfl (lv_at hl 0 rfl) ?_
    exact hend _ _ _ _ _ (by rw [hV]; exact hP) (by rw [hV]; exact hD) hS (by rw [hV]) rfl dX4_tear_19
  have hV := vX4_tear.eq_1 J0
  refine lv_aload_n hx hb dX4_tear_0 rfl (lv_at hl 0 rfl) ?_
  refine gf_X4_45 (v := .int (j_imageKept J0)) hx hb hts hown hK hZ hP (0) rfl rfl dX4_tear_1 ?_
  refine lv_if_eq (tgt := 11) hx hb dX4_tear_4 (by decide) (fun c2 => ?_) (fun c2 => ?_)
  · have hV := hV.trans (if_pos c2)
    refine lv_iconst (v := (0 : Int32)) hx hb dX4_tear_11 (by decide) ?_
    exact hc12 J0 (0 : Int32) _ _ _ hV hP hD hS (lv_sub hl [0] rfl)
  · have hV := hV.trans (if_neg c2)
    refine lv_iconst (v := (1 : Int32)) hx hb dX4_tear_7 (by decide) ?_
    refine lv_goto (tgt := 12) hx hb dX4_tear_8 (by decide) ?_
    exact hc12 J0 (1 : Int32) _ _ _ hV hP hD hS (lv_sub hl [0] rfl)
theorem js71 (K : JK) (a : Nat → Nat) (J : JS) : [16, 17, 11, 12, 13, 14, 15].map (fun i => (wJ K a J)[i]?) = (wT K (fun k => a (16 + k)) (j_tape J) ++ wE K (fun k => a (11 + k)) (j_T J)).map some := rfl
theorem jh72 (K : JK) (a : Nat → Nat) (J : JS) (Z0 : TS) (Z1 : ES) : (wT K (fun k => a (16 + k)) Z0 ++ wE K (fun k => a (11 + k)) Z1).map Prod.fst = (wT K (fun k => a (16 + k)) (j_tape J) ++ wE K (fun k => a (11 + k)) (j_T J)).map Prod.fst := rfl
theorem jp73 (K : JK) (a : Nat → Nat) (J : JS) (Z0 : TS) (Z1 : ES) : jput (wJ K a J) [16, 17, 11, 12, 13, 14, 15] (wT K (fun k => a (16 + k)) Z0 ++ wE K (fun k => a (11 + k)) Z1) = (wJ K a (j_s_T (j_s_tape J Z0) Z1)) := rfl
theorem js74 (K : JK) (a : Nat → Nat) (J : JS) : [1, 2, 3, 4, 5, 11, 12, 13, 14, 15].map (fun i => (wJ K a J)[i]?) = (wE K (fun k => a (1 + k)) (j_E J) ++ wE K (fun k => a (11 + k)) (j_T J)).map some := rfl
theorem jh75 (K : JK) (a : Nat → Nat) (J : JS) (Z0 : ES) : (wE K (fun k => a (1 + k)) Z0 ++ wE K (fun k => a (11 + k)) (j_T J)).map Prod.fst = (wE K (fun k => a (1 + k)) (j_E J) ++ wE K (fun k => a (11 + k)) (j_T J)).map Prod.fst := rfl
theorem jp76 (K : JK) (a : Nat → Nat) (J : JS) (Z0 : ES) : jput (wJ K a J) [1, 2, 3, 4, 5, 11, 12, 13, 14, 15] (wE K (fun k => a (1 + k)) Z0 ++ wE K (fun k => a (11 + k)) (j_T J)) = (wJ K a (j_s_E J Z0)) := rfl
theorem jf77 (K : JK) (a : Nat → Nat) (J : JS) (v : Int32) : (wJ K a J).set 16 ((a 16), .inr (2, ([.ref ((fun k => a (16 + k)) 1), .int (t_length (j_tape J)), .int (t_sort (j_tape J)), .int (t_begin (j_tape J)), .int (t_end (j_tape J)), .int (t_number (j_tape J)), .int (t_taken (j_tape J))] : List Value).set 1 (.int v))) = (wJ K a (j_s_tape J (t_s_length (j_tape J) v))) := rfl
theorem dX4_text_0 : decode cX4_text 0 = .ok (.aload_n 0, 1) := by decide +kernel
theorem dX4_text_1 : decode cX4_text 1 = .ok (.getfield 19, 3) := by decide +kernel
theorem dX4_text_4 : decode cX4_text 4 = .ok (.aload_n 0, 1) := by decide +kernel
theorem dX4_text_5 : decode cX4_text 5 = .ok (.getfield 10, 3) := by decide +kernel
theorem dX4_text_8 : decode cX4_text 8 = .ok (.invokevirtual 132, 3) := by decide +kernel
theorem dX4_text_11 : decode cX4_text 11 = .ok (.aload_n 0, 1) := by decide +kernel
theorem dX4_text_12 : decode cX4_text 12 = .ok (.getfield 25, 3) := by decide +kernel
theorem dX4_text_15 : decode cX4_text 15 = .ok (.aload_n 0, 1) := by decide +kernel
theorem dX4_text_16 : decode cX4_text 16 = .ok (.getfield 19, 3) := by decide +kernel
theorem dX4_text_19 : decode cX4_text 19 = .ok (.invokevirtual 189, 3) := by decide +kernel
theorem dX4_text_22 : decode cX4_text 22 = .ok (.istore_n 1, 1) := by decide +kernel
theorem dX4_text_23 : decode cX4_text 23 = .ok (.iload_n 1, 1) := by decide +kernel
theorem dX4_text_24 : decode cX4_text 24 = .ok (.ifCond .lt 14, 3) := by decide +kernel
theorem dX4_text_27 : decode cX4_text 27 = .ok (.aload_n 0, 1) := by decide +kernel
theorem dX4_text_28 : decode cX4_text 28 = .ok (.getfield 10, 3) := by decide +kernel
theorem dX4_text_31 : decode cX4_text 31 = .ok (.aload_n 0, 1) := by decide +kernel
theorem dX4_text_32 : decode cX4_text 32 = .ok (.getfield 19, 3) := by decide +kernel
theorem dX4_text_35 : decode cX4_text 35 = .ok (.invokevirtual 132, 3) := by decide +kernel
theorem dX4_text_38 : decode cX4_text 38 = .ok (.aload_n 0, 1) := by decide +kernel
theorem dX4_text_39 : decode cX4_text 39 = .ok (.getfield 25, 3) := by decide +kernel
theorem dX4_text_42 : decode cX4_text 42 = .ok (.iconst 0, 1) := by decide +kernel
theorem dX4_text_43 : decode cX4_text 43 = .ok (.putfield 182, 3) := by decide +kernel
theorem dX4_text_46 : decode cX4_text 46 = .ok (.iload_n 1, 1) := by decide +kernel
theorem dX4_text_47 : decode cX4_text 47 = .ok (.ireturn, 1) := by decide +kernel
def rX4_text : Room := { frames := 9, cells := 0, slots := 0, locals := 196 }
def vX4_text_c38 (J : JS) (x1 : Int32) : Int32 × JS := (x1, (j_s_tape J (t_s_length (j_tape J) (0 : Int32))))
def vX4_text_c22 (J : JS) (y0 : Int32) : Int32 × JS := if (y0 < 0) then (vX4_text_c38 J y0) else (vX4_text_c38 (j_s_E J (vX0_become (j_E J) (j_T J))) y0)
def kX4_text_c22 (J : JS) (y0 : Int32) : Prop := ((y0 < 0) → True) ∧ (¬ (y0 < 0) → ((kX0_become (j_E J) (j_T J)) ∧ True))
def vX4_text_c11 (J : JS) : Int32 × JS := (vX4_text_c22 (j_s_T (j_s_tape J ((vX3_readItems (j_tape J) (j_T J)).2.1)) ((vX3_readItems (j_tape J) (j_T J)).2.2)) ((vX3_readItems (j_tape J) (j_T J)).1))
def kX4_text_c11 (J : JS) : Prop := (kX3_readItems (j_tape J) (j_T J)) ∧ (kX4_text_c22 (j_s_T (j_s_tape J ((vX3_readItems (j_tape J) (j_T J)).2.1)) ((vX3_readItems (j_tape J) (j_T J)).2.2)) ((vX3_readItems (j_tape J) (j_T J)).1))
def vX4_text (J0 : JS) : Int32 × JS := (vX4_text_c11 (j_s_T J0 (vX0_become (j_T J0) (j_E J0))))
def kX4_text (J0 : JS) : Prop := (kX0_become (j_T J0) (j_E J0)) ∧ (kX4_text_c11 (j_s_T J0 (vX0_become (j_T J0) (j_E J0))))
set_option maxHeartbeats 4000000 in
set_option maxRecDepth 100000 in
theorem hX4_text (l : Launch) (D : va_G) (K : JK) (G : JG) (a : Nat → Nat) (J0 : JS) (hk : kX4_text J0) (sz : Nat) : Met l yX4_text (.code yX4_text cX4_text 2 (some .int) :: jGW) rX4_text (jPre D (jT K) G [.ref (a 0)] (wJ K a J0) sz) (jQi D (jT K) ((vX4_text J0).1) (wJ K a ((vX4_text J0).2)) (va_A (wJ K a J0) sz)) 0 0 (va_A (wJ K a J0) sz) := by
  refine jEi (by decide) (Nat.le_of_ble_eq_true rfl) (fun p e s m below meth c A Q ls hat hP hD hS hl hend => ?_)
  obtain ⟨hx, hb, hml, hown, hts, hK, hZ, hA⟩ := hat
  have hl : lv_has ls 2 [(0, .ref (a 0))] := hl
  have hc38 : ∀ (J : JS) (x1 : Int32) (H : Heap) (locs : List Loc) (ls : Array Slot), (vX4_text J0) = vX4_text_c38 J x1 → va_P D vwCl (wJ K a J) H → va_D A (wJ K a J) → va_S A s.heap H locs → lv_has ls 2 [(0, .ref (a 0)), (1, .int x1)] → W p l e rX4_text s m ([.ref (a 0)] : List Value).toArray below meth c H locs 0 0 Q (F0 m 38 ls []) := by
    intro J x1 H locs ls hV hP hD hS hl
    rw [vX4_text_c38] at hV
    refine lv_aload_n hx hb dX4_text_38 rfl (lv_at hl 0 rfl) ?_
    refine gf_X4_25 (v := .ref (a 16)) hx hb hts hown hK hZ hP (0) rfl rfl dX4_text_39 ?_
    refine lv_iconst (v := (0 : Int32)) hx hb dX4_text_42 (by decide) ?_
    refine pf_X4_182 (v := .int (0 : Int32)) hx hb hts hown hK hZ hP hD hS (16) rfl rfl rfl (Nat.le_of_ble_eq_true rfl) dX4_text_43 (fun H locs hP hD hS => ?_)
    have hP := jeP (jf77 K a J (0 : Int32)) hP
    have hD := jeD (jf77 K a J (0 : Int32)) hD
    refine lv_iload_n hx hb dX4_text_46 rfl (lv_at hl 1 rfl) ?_
    exact hend _ _ _ _ _ (by rw [hV]; exact hP) (by rw [hV]; exact hD) hS (by rw [hV]) rfl dX4_text_47
  have hc22 : ∀ (J : JS) (y0 : Int32) (H : Heap) (locs : List Loc) (ls : Array Slot), (vX4_text J0) = vX4_text_c22 J y0 → kX4_text_c22 J y0 → va_P D vwCl (wJ K a J) H → va_D A (wJ K a J) → va_S A s.heap H locs → lv_has ls 2 [(0, .ref (a 0))] → W p l e rX4_text s m ([.ref (a 0)] : List Value).toArray below meth c H locs 0 0 Q (F0 m 22 ls [.int y0]) := by
    intro J y0 H locs ls hV hk hP hD hS hl
    rw [vX4_text_c22] at hV
    rw [kX4_text_c22] at hk
    refine lv_istore_n (lv' := [(1, .int y0), (0, .ref (a 0))]) hx hb dX4_text_22 rfl hl (by decide) rfl (fun ls hl => ?_)
    refine lv_iload_n hx hb dX4_text_23 rfl (lv_at hl 0 rfl) ?_
    refine lv_if_lt (tgt := 38) hx hb dX4_text_24 (by decide) (fun c5 => ?_) (fun c5 => ?_)
    · have hV := hV.trans (if_pos c5)
      have hk := hk.1 c5
      exact hc38 J y0 _ _ _ hV hP hD hS (lv_sub hl [1, 0] rfl)
    · have hV := hV.trans (if_neg c5)
      have hk := hk.2 c5
      refine lv_aload_n hx hb dX4_text_27 rfl (lv_at hl 1 rfl) ?_
      refine gf_X4_10 (v := .ref (a 1)) hx hb hts hown hK hZ hP (0) rfl rfl dX4_text_28 ?_
      refine lv_aload_n hx hb dX4_text_31 rfl (lv_at hl 1 rfl) ?_
      refine gf_X4_19 (v := .ref (a 11)) hx hb hts hown hK hZ hP (0) rfl rfl dX4_text_32 ?_
      obtain ⟨h6, hk⟩ := hk
      refine jcv (jrunV (As := [.ref (a 11)]) (rest := []) hx hb hml hown hts hK hZ hA hP hD hS hl.1 mf_X0_become kl_X4_132 ⟨rfl, rfl, Nat.le_of_ble_eq_true rfl, Nat.le_of_ble_eq_true rfl⟩ ⟨Nat.zero_le _, Nat.zero_le _⟩ [1, 2, 3, 4, 5, 11, 12, 13, 14, 15] rfl (js74 K a J) rfl rfl rfl (hX0_become l D K G (fun k => a (1 + k)) (fun k => a (11 + k)) (j_E J) (j_T J) h6 _) rfl rfl (Nat.le_of_ble_eq_true rfl) dX4_text_35) hA hP hD hS [1, 2, 3, 4, 5, 11, 12, 13, 14, 15] (js74 K a J) (jh75 K a J (vX0_become (j_E J) (j_T J))) (fun H locs hP hD hS => ?_)
      have hP := jeP (jp76 K a J (vX0_become (j_E J) (j_T J))) hP
      have hD := jeD (jp76 K a J (vX0_become (j_E J) (j_T J))) hD
      exact hc38 (j_s_E J (vX0_become (j_E J) (j_T J))) y0 _ _ _ hV hP hD hS (lv_sub hl [1, 0] rfl)
  have hc11 : ∀ (J : JS) (H : Heap) (locs : List Loc) (ls : Array Slot), (vX4_text J0) = vX4_text_c11 J → kX4_text_c11 J → va_P D vwCl (wJ K a J) H → va_D A (wJ K a J) → va_S A s.heap H locs → lv_has ls 2 [(0, .ref (a 0))] → W p l e rX4_text s m ([.ref (a 0)] : List Value).toArray below meth c H locs 0 0 Q (F0 m 11 ls []) := by
    intro J H locs ls hV hk hP hD hS hl
    rw [vX4_text_c11] at hV
    rw [kX4_text_c11] at hk
    refine lv_aload_n hx hb dX4_text_11 rfl (lv_at hl 0 rfl) ?_
    refine gf_X4_25 (v := .ref (a 16)) hx hb hts hown hK hZ hP (0) rfl rfl dX4_text_12 ?_
    refine lv_aload_n hx hb dX4_text_15 rfl (lv_at hl 0 rfl) ?_
    refine gf_X4_19 (v := .ref (a 11)) hx hb hts hown hK hZ hP (0) rfl rfl dX4_text_16 ?_
    obtain ⟨h7, hk⟩ := hk
    refine jci (jrunV (As := [.ref (a 11)]) (rest := []) hx hb hml hown hts hK hZ hA hP hD hS hl.1 mf_X3_readItems kl_X4_189 ⟨rfl, rfl, Nat.le_of_ble_eq_true rfl, Nat.le_of_ble_eq_true rfl⟩ ⟨Nat.zero_le _, Nat.zero_le _⟩ [16, 17, 11, 12, 13, 14, 15] rfl (js71 K a J) rfl rfl rfl (hX3_readItems l D K G (fun k => a (16 + k)) (fun k => a (11 + k)) (j_tape J) (j_T J) h7 _) rfl rfl (Nat.le_of_ble_eq_true rfl) dX4_text_19) hA hP hD hS [16, 17, 11, 12, 13, 14, 15] (js71 K a J) (jh72 K a J ((vX3_readItems (j_tape J) (j_T J)).2.1) ((vX3_readItems (j_tape J) (j_T J)).2.2)) (fun H locs hP hD hS => ?_)
    have hP := jeP (jp73 K a J ((vX3_readItems (j_tape J) (j_T J)).2.1) ((vX3_readItems (j_tape J) (j_T J)).2.2)) hP
    have hD := jeD (jp73 K a J ((vX3_readItems (j_tape J) (j_T J)).2.1) ((vX3_readItems (j_tape J) (j_T J)).2.2)) hD
    exact hc22 (j_s_T (j_s_tape J ((vX3_readItems (j_tape J) (j_T J)).2.1)) ((vX3_readItems (j_tape J) (j_T J)).2.2)) ((vX3_readItems (j_tape J) (j_T J)).1) _ _ _ hV hk hP hD hS (lv_sub hl [0] rfl)
  have hV := vX4_text.eq_1 J0
  rw [kX4_text] at hk
  refine lv_aload_n hx hb dX4_text_0 rfl (lv_at hl 0 rfl) ?_
  refine gf_X4_19 (v := .ref (a 11)) hx hb hts hown hK hZ hP (0) rfl rfl dX4_text_1 ?_
  refine lv_aload_n hx hb dX4_text_4 rfl (lv_at hl 0 rfl) ?_
  refine gf_X4_10 (v := .ref (a 1)) hx hb hts hown hK hZ hP (0) rfl rfl dX4_text_5 ?_
  obtain ⟨h8, hk⟩ := hk
  refine jcv (jrunV (As := [.ref (a 1)]) (rest := []) hx hb hml hown hts hK hZ hA hP hD hS hl.1 mf_X0_become kl_X4_132 ⟨rfl, rfl, Nat.le_of_ble_eq_true rfl, Nat.le_of_ble_eq_true rfl⟩ ⟨Nat.zero_le _, Nat.zero_le _⟩ [11, 12, 13, 14, 15, 1, 2, 3, 4, 5] rfl (js46 K a J0) rfl rfl rfl (hX0_become l D K G (fun k => a (11 + k)) (fun k => a (1 + k)) (j_T J0) (j_E J0) h8 _) rfl rfl (Nat.le_of_ble_eq_true rfl) dX4_text_8) hA hP hD hS [11, 12, 13, 14, 15, 1, 2, 3, 4, 5] (js46 K a J0) (jh47 K a J0 (vX0_become (j_T J0) (j_E J0))) (fun H locs hP hD hS => ?_)
  have hP := jeP (jp48 K a J0 (vX0_become (j_T J0) (j_E J0))) hP
  have hD := jeD (jp48 K a J0 (vX0_become (j_T J0) (j_E J0))) hD
  exact hc11 (j_s_T J0 (vX0_become (j_T J0) (j_E J0))) _ _ _ hV hk hP hD hS (lv_sub hl [0] rfl)
theorem dX4_thing_0 : decode cX4_thing 0 = .ok (.iload_n 1, 1) := by decide +kernel
theorem dX4_thing_1 : decode cX4_thing 1 = .ok (.invokestatic 81, 3) := by decide +kernel
theorem dX4_thing_4 : decode cX4_thing 4 = .ok (.ifCond .eq 16, 3) := by decide +kernel
theorem dX4_thing_7 : decode cX4_thing 7 = .ok (.iload_n 2, 1) := by decide +kernel
theorem dX4_thing_8 : decode cX4_thing 8 = .ok (.iconst 0, 1) := by decide +kernel
theorem dX4_thing_9 : decode cX4_thing 9 = .ok (.getstatic 84, 3) := by decide +kernel
theorem dX4_thing_12 : decode cX4_thing 12 = .ok (.iconst 1, 1) := by decide +kernel
theorem dX4_thing_13 : decode cX4_thing 13 = .ok (.iaload, 1) := by decide +kernel
theorem dX4_thing_14 : decode cX4_thing 14 = .ok (.invokestatic 50, 3) := by decide +kernel
theorem dX4_thing_17 : decode cX4_thing 17 = .ok (.ifCond .ne 9, 3) := by decide +kernel
theorem dX4_thing_20 : decode cX4_thing 20 = .ok (.aload_n 0, 1) := by decide +kernel
theorem dX4_thing_21 : decode cX4_thing 21 = .ok (.iconst 0, 1) := by decide +kernel
theorem dX4_thing_22 : decode cX4_thing 22 = .ok (.invokevirtual 60, 3) := by decide +kernel
theorem dX4_thing_25 : decode cX4_thing 25 = .ok (.ireturn, 1) := by decide +kernel
theorem dX4_thing_26 : decode cX4_thing 26 = .ok (.aload_n 0, 1) := by decide +kernel
theorem dX4_thing_27 : decode cX4_thing 27 = .ok (.getfield 10, 3) := by decide +kernel
theorem dX4_thing_30 : decode cX4_thing 30 = .ok (.getfield 87, 3) := by decide +kernel
theorem dX4_thing_33 : decode cX4_thing 33 = .ok (.bipush 8, 2) := by decide +kernel
theorem dX4_thing_35 : decode cX4_thing 35 = .ok (.if_icmp .lt 9, 3) := by decide +kernel
theorem dX4_thing_38 : decode cX4_thing 38 = .ok (.aload_n 0, 1) := by decide +kernel
theorem dX4_thing_39 : decode cX4_thing 39 = .ok (.iconst 1, 1) := by decide +kernel
theorem dX4_thing_40 : decode cX4_thing 40 = .ok (.invokevirtual 60, 3) := by decide +kernel
theorem dX4_thing_43 : decode cX4_thing 43 = .ok (.ireturn, 1) := by decide +kernel
theorem dX4_thing_44 : decode cX4_thing 44 = .ok (.aload_n 0, 1) := by decide +kernel
theorem dX4_thing_45 : decode cX4_thing 45 = .ok (.getfield 10, 3) := by decide +kernel
theorem dX4_thing_48 : decode cX4_thing 48 = .ok (.iload_n 1, 1) := by decide +kernel
theorem dX4_thing_49 : decode cX4_thing 49 = .ok (.iload_n 2, 1) := by decide +kernel
theorem dX4_thing_50 : decode cX4_thing 50 = .ok (.invokevirtual 91, 3) := by decide +kernel
theorem dX4_thing_53 : decode cX4_thing 53 = .ok (.ireturn, 1) := by decide +kernel
def rX4_thing : Room := { frames := 2, cells := 0, slots := 0, locals := 46 }
def vX4_thing_c20 (p1 : Int32) (p2 : Int32) (J : JS) : Int32 × JS := (((vX4_tell J (0 : Int32)).1), ((vX4_tell J (0 : Int32)).2))
def kX4_thing_c20 (p1 : Int32) (p2 : Int32) (J : JS) : Prop := (kX4_tell J (0 : Int32)) ∧ True
def vX4_thing (J0 : JS) (p1 : Int32) (p2 : Int32) : Int32 × JS := if ((vX4_isKind p1) = 0) then (vX4_thing_c20 p1 p2 J0) else if ((vX4_within p2 (0 : Int32) (jTM.getD ((1 : Int32)).toNatClampNeg 0)) = 0) then (vX4_thing_c20 p1 p2 J0) else if ((e_things (j_E J0)) < (8 : Int32)) then (((vX0_add (j_E J0) p1 p2).1), (j_s_E J0 ((vX0_add (j_E J0) p1 p2).2))) else (((vX4_tell J0 (1 : Int32)).1), ((vX4_tell J0 (1 : Int32)).2))
def kX4_thing (J0 : JS) (p1 : Int32) (p2 : Int32) : Prop := (kX4_isKind p1) ∧ (((vX4_isKind p1) = 0) → ((kX4_thing_c20 p1 p2 J0))) ∧ (¬ ((vX4_isKind p1) = 0) → ((((vX4_within p2 (0 : Int32) (jTM.getD ((1 : Int32)).toNatClampNeg 0)) = 0) → ((kX4_thing_c20 p1 p2 J0))) ∧ (¬ ((vX4_within p2 (0 : Int32) (jTM.getD ((1 : Int32)).toNatClampNeg 0)) = 0) → ((((e_things (j_E J0)) < (8 : Int32)) → ((kX0_add (j_E J0) p1 p2) ∧ True)) ∧ (¬ ((e_things (j_E J0)) < (8 : Int32)) → ((kX4_tell J0 (1 : Int32)) ∧ True))))))
set_option maxHeartbeats 4000000 in
set_option maxRecDepth 100000 in
theorem hX4_thing (l : Launch) (D : va_G) (K : JK) (G : JG) (a : Nat → Nat) (J0 : JS) (p1 : Int32) (p2 : Int32) (hk : kX4_thing J0 p1 p2) (sz : Nat) : Met l yX4_thing (.code yX4_thing cX4_thing 3 (some .int) :: jGW) rX4_thing (jPre D (jT K) G [.ref (a 0), .int p1, .int p2] (wJ K a J0) sz) (jQi D (jT K) ((vX4_thing J0 p1 p2).1) (wJ K a ((vX4_thing J0 p1 p2).2)) (va_A (wJ K a J0) sz)) 0 0 (va_A (wJ K a J0) sz) := by
  refine jEi (by decide) (Nat.le_of_ble_eq_true rfl) (fun p e s m below meth c A Q ls hat hP hD hS hl hend => ?_)
  obtain ⟨hx, hb, hml, hown, hts, hK, hZ, hA⟩ := hat
  have hl : lv_has ls 3 [(0, .ref (a 0)), (1, .int p1), (2, .int p2)] := hl
  have hc20 : ∀ (J : JS) (H : Heap) (locs : List Loc) (ls : Array Slot), (vX4_thing J0 p1 p2) = vX4_thing_c20 p1 p2 J → kX4_thing_c20 p1 p2 J → va_P D vwCl (wJ K a J) H → va_D A (wJ K a J) → va_S A s.heap H locs → lv_has ls 3 [(0, .ref (a 0)), (1, .int p1), (2, .int p2)] → W p l e rX4_thing s m ([.ref (a 0), .int p1, .int p2] : List Value).toArray below meth c H locs 0 0 Q (F0 m 20 ls []) := by
    intro J H locs ls hV hk hP hD hS hl
    rw [vX4_thing_c20] at hV
    rw [kX4_thing_c20] at hk
    refine lv_aload_n hx hb dX4_thing_20 rfl (lv_at hl 0 rfl) ?_
    refine lv_iconst (v := (0 : Int32)) hx hb dX4_thing_21 (by decide) ?_
    obtain ⟨h8, hk⟩ := hk
    refine jci (jrunV (As := [.int (0 : Int32)]) (rest := []) hx hb hml hown hts hK hZ hA hP hD hS hl.1 mf_X4_tell kl_X4_60 ⟨rfl, rfl, Nat.le_of_ble_eq_true rfl, Nat.le_of_ble_eq_true rfl⟩ ⟨Nat.zero_le _, Nat.zero_le _⟩ [0, 1, 2, 3, 4, 5, 6, 7, 8, 9, 10, 11, 12, 13, 14, 15, 16, 17, 18, 19, 20, 21, 22, 23, 24, 25, 26, 27, 28, 29] rfl (js45 K a J) rfl rfl rfl (hX4_tell l D K G a J (0 : Int32) h8 _) rfl rfl (Nat.le_of_ble_eq_true rfl) dX4_thing_22) hA hP hD hS [0, 1, 2, 3, 4, 5, 6, 7, 8, 9, 10, 11, 12, 13, 14, 15, 16, 17, 18, 19, 20, 21, 22, 23, 24, 25, 26, 27, 28, 29] (js45 K a J) (jh52 K a J ((vX4_tell J (0 : Int32)).2)) (fun H locs hP hD hS => ?_)
    have hP := jeP (jp53 K a J ((vX4_tell J (0 : Int32)).2)) hP
    have hD := jeD (jp53 K a J ((vX4_tell J (0 : Int32)).2)) hD
    exact hend _ _ _ _ _ (by rw [hV]; exact hP) (by rw [hV]; exact hD) hS (by rw [hV]) rfl dX4_thing_25
  have hV := vX4_thing.eq_1 J0 p1 p2
  rw [kX4_thing] at hk
  refine lv_iload_n hx hb dX4_thing_0 rfl (lv_at hl 1 rfl) ?_
  obtain ⟨h9, hk⟩ := hk
  refine jci0 (jrunS (As := [.int p1]) (rest := []) hx hb hml hown hts hK hZ hA hP hD hS hl.1 mf_X4_isKind kl_X4_81 ⟨rfl, rfl, Nat.le_of_ble_eq_true rfl, Nat.le_of_ble_eq_true rfl⟩ ⟨Nat.zero_le _, Nat.zero_le _⟩ [] rfl rfl (hX4_isKind l D K G p1 h9 _) rfl rfl (Nat.le_of_ble_eq_true rfl) dX4_thing_1) hA hP hD hS [] rfl (fun H locs hP hS => ?_)
  refine lv_if_eq (tgt := 20) hx hb dX4_thing_4 (by decide) (fun c10 => ?_) (fun c10 => ?_)
  · have hV := hV.trans (if_pos c10)
    have hk := hk.1 c10
    exact hc20 J0 _ _ _ hV hk hP hD hS (lv_sub hl [0, 1, 2] rfl)
  · have hV := hV.trans (if_neg c10)
    have hk := hk.2 c10
    refine lv_iload_n hx hb dX4_thing_7 rfl (lv_at hl 2 rfl) ?_
    refine lv_iconst (v := (0 : Int32)) hx hb dX4_thing_8 (by decide) ?_
    refine gs_X4_84 hx hb hts hown hZ hS dX4_thing_9 ?_
    refine lv_iconst (v := (1 : Int32)) hx hb dX4_thing_12 (by decide) ?_
    refine va_ti (v := .int (jTM.getD ((1 : Int32)).toNatClampNeg 0)) hx hb (hZ.1 3 _ rfl).2 hS (by unfold vp_in; decide) rfl dX4_thing_13 ?_
    refine jci0 (jrunS (As := [.int p2, .int (0 : Int32), .int (jTM.getD ((1 : Int32)).toNatClampNeg 0)]) (rest := []) hx hb hml hown hts hK hZ hA hP hD hS hl.1 mf_X4_within kl_X4_50 ⟨rfl, rfl, Nat.le_of_ble_eq_true rfl, Nat.le_of_ble_eq_true rfl⟩ ⟨Nat.zero_le _, Nat.zero_le _⟩ [] rfl rfl (hX4_within l D K G p2 (0 : Int32) (jTM.getD ((1 : Int32)).toNatClampNeg 0) _) rfl rfl (Nat.le_of_ble_eq_true rfl) dX4_thing_14) hA hP hD hS [] rfl (fun H locs hP hS => ?_)
    refine lv_if_ne (tgt := 26) hx hb dX4_thing_17 (by decide) (fun c11 => ?_) (fun c11 => ?_)
    · have hV := hV.trans (if_neg c11)
      have hk := hk.2 c11
      refine lv_aload_n hx hb dX4_thing_26 rfl (lv_at hl 0 rfl) ?_
      refine gf_X4_10 (v := .ref (a 1)) hx hb hts hown hK hZ hP (0) rfl rfl dX4_thing_27 ?_
      refine gf_X4_87 (v := .int (e_things (j_E J0))) hx hb hts hown hK hZ hP (1) rfl rfl dX4_thing_30 ?_
      refine lv_bipush (v := (8 : Int32)) hx hb dX4_thing_33 (by decide) ?_
      refine lv_icmp_lt (tgt := 44) hx hb dX4_thing_35 (by decide) (fun c12 => ?_) (fun c12 => ?_)
      · have hV := hV.trans (if_pos c12)
        have hk := hk.1 c12
        refine lv_aload_n hx hb dX4_thing_44 rfl (lv_at hl 0 rfl) ?_
        refine gf_X4_10 (v := .ref (a 1)) hx hb hts hown hK hZ hP (0) rfl rfl dX4_thing_45 ?_
        refine lv_iload_n hx hb dX4_thing_48 rfl (lv_at hl 1 rfl) ?_
        refine lv_iload_n hx hb dX4_thing_49 rfl (lv_at hl 2 rfl) ?_
        obtain ⟨h13, hk⟩ := hk
        refine jci (jrunV (As := [.int p1, .int p2]) (rest := []) hx hb hml hown hts hK hZ hA hP hD hS hl.1 mf_X0_add kl_X4_91 ⟨rfl, rfl, Nat.le_of_ble_eq_true rfl, Nat.le_of_ble_eq_true rfl⟩ ⟨Nat.zero_le _, Nat.zero_le _⟩ [1, 2, 3, 4, 5] rfl (js43 K a J0) rfl rfl rfl (hX0_add l D K G (fun k => a (1 + k)) (j_E J0) p1 p2 h13 _) rfl rfl (Nat.le_of_ble_eq_true rfl) dX4_thing_50) hA hP hD hS [1, 2, 3, 4, 5] (js43 K a J0) (jh55 K a J0 ((vX0_add (j_E J0) p1 p2).2)) (fun H locs hP hD hS => ?_)
        have hP := jeP (jp56 K a J0 ((vX0_add (j_E J0) p1 p2).2)) hP
        have hD := jeD (jp56 K a J0 ((vX0_add (j_E J0) p1 p2).2)) hD
        exact hend _ _ _ _ _ (by rw [hV]; exact hP) (by rw [hV]; exact hD) hS (by rw [hV]) rfl dX4_thing_53
      · have hV := hV.trans (if_neg c12)
        have hk := hk.2 c12
        refine lv_aload_n hx hb dX4_thing_38 rfl (lv_at hl 0 rfl) ?_
        refine lv_iconst (v := (1 : Int32)) hx hb dX4_thing_39 (by decide) ?_
        obtain ⟨h14, hk⟩ := hk
        refine jci (jrunV (As := [.int (1 : Int32)]) (rest := []) hx hb hml hown hts hK hZ hA hP hD hS hl.1 mf_X4_tell kl_X4_60 ⟨rfl, rfl, Nat.le_of_ble_eq_true rfl, Nat.le_of_ble_eq_true rfl⟩ ⟨Nat.zero_le _, Nat.zero_le _⟩ [0, 1, 2, 3, 4, 5, 6, 7, 8, 9, 10, 11, 12, 13, 14, 15, 16, 17, 18, 19, 20, 21, 22, 23, 24, 25, 26, 27, 28, 29] rfl (js45 K a J0) rfl rfl rfl (hX4_tell l D K G a J0 (1 : Int32) h14 _) rfl rfl (Nat.le_of_ble_eq_true rfl) dX4_thing_40) hA hP hD hS [0, 1, 2, 3, 4, 5, 6, 7, 8, 9, 10, 11, 12, 13, 14, 15, 16, 17, 18, 19, 20, 21, 22, 23, 24, 25, 26, 27, 28, 29] (js45 K a J0) (jh52 K a J0 ((vX4_tell J0 (1 : Int32)).2)) (fun H locs hP hD hS => ?_)
        have hP := jeP (jp53 K a J0 ((vX4_tell J0 (1 : Int32)).2)) hP
        have hD := jeD (jp53 K a J0 ((vX4_tell J0 (1 : Int32)).2)) hD
        exact hend _ _ _ _ _ (by rw [hV]; exact hP) (by rw [hV]; exact hD) hS (by rw [hV]) rfl dX4_thing_43
    · have hV := hV.trans (if_pos c11)
      have hk := hk.1 c11
      exact hc20 J0 _ _ _ hV hk hP hD hS (lv_sub hl [0, 1, 2] rfl)
theorem js78 (K : JK) (a : Nat → Nat) (J : JS) : [1, 2, 3, 4, 5, 6, 7, 8, 9, 10].map (fun i => (wJ K a J)[i]?) = (wE K (fun k => a (1 + k)) (j_E J) ++ wE K (fun k => a (6 + k)) (j_K J)).map some := rfl
theorem jh79 (K : JK) (a : Nat → Nat) (J : JS) (Z0 : ES) : (wE K (fun k => a (1 + k)) Z0 ++ wE K (fun k => a (6 + k)) (j_K J)).map Prod.fst = (wE K (fun k => a (1 + k)) (j_E J) ++ wE K (fun k => a (6 + k)) (j_K J)).map Prod.fst := rfl
theorem jp80 (K : JK) (a : Nat → Nat) (J : JS) (Z0 : ES) : jput (wJ K a J) [1, 2, 3, 4, 5, 6, 7, 8, 9, 10] (wE K (fun k => a (1 + k)) Z0 ++ wE K (fun k => a (6 + k)) (j_K J)) = (wJ K a (j_s_E J Z0)) := rfl
theorem dX4_undo_0 : decode cX4_undo 0 = .ok (.aload_n 0, 1) := by decide +kernel
theorem dX4_undo_1 : decode cX4_undo 1 = .ok (.getfield 45, 3) := by decide +kernel
theorem dX4_undo_4 : decode cX4_undo 4 = .ok (.ifCond .ne 9, 3) := by decide +kernel
theorem dX4_undo_7 : decode cX4_undo 7 = .ok (.aload_n 0, 1) := by decide +kernel
theorem dX4_undo_8 : decode cX4_undo 8 = .ok (.iconst 3, 1) := by decide +kernel
theorem dX4_undo_9 : decode cX4_undo 9 = .ok (.invokevirtual 60, 3) := by decide +kernel
theorem dX4_undo_12 : decode cX4_undo 12 = .ok (.ireturn, 1) := by decide +kernel
theorem dX4_undo_13 : decode cX4_undo 13 = .ok (.aload_n 0, 1) := by decide +kernel
theorem dX4_undo_14 : decode cX4_undo 14 = .ok (.getfield 10, 3) := by decide +kernel
theorem dX4_undo_17 : decode cX4_undo 17 = .ok (.aload_n 0, 1) := by decide +kernel
theorem dX4_undo_18 : decode cX4_undo 18 = .ok (.getfield 16, 3) := by decide +kernel
theorem dX4_undo_21 : decode cX4_undo 21 = .ok (.invokevirtual 132, 3) := by decide +kernel
theorem dX4_undo_24 : decode cX4_undo 24 = .ok (.aload_n 0, 1) := by decide +kernel
theorem dX4_undo_25 : decode cX4_undo 25 = .ok (.getfield 10, 3) := by decide +kernel
theorem dX4_undo_28 : decode cX4_undo 28 = .ok (.getfield 110, 3) := by decide +kernel
theorem dX4_undo_31 : decode cX4_undo 31 = .ok (.ireturn, 1) := by decide +kernel
def rX4_undo : Room := { frames := 2, cells := 0, slots := 0, locals := 43 }
def vX4_undo_c24 (J : JS) : Int32 × JS := ((e_day (j_E J)), J)
def vX4_undo (J0 : JS) : Int32 × JS := if ((j_imageKept J0) = 0) then (((vX4_tell J0 (3 : Int32)).1), ((vX4_tell J0 (3 : Int32)).2)) else (vX4_undo_c24 (j_s_E J0 (vX0_become (j_E J0) (j_K J0))))
def kX4_undo (J0 : JS) : Prop := (((j_imageKept J0) = 0) → ((kX4_tell J0 (3 : Int32)) ∧ True)) ∧ (¬ ((j_imageKept J0) = 0) → ((kX0_become (j_E J0) (j_K J0)) ∧ True))
set_option maxHeartbeats 4000000 in
set_option maxRecDepth 100000 in
theorem hX4_undo (l : Launch) (D : va_G) (K : JK) (G : JG) (a : Nat → Nat) (J0 : JS) (hk : kX4_undo J0) (sz : Nat) : Met l yX4_undo (.code yX4_undo cX4_undo 1 (some .int) :: jGW) rX4_undo (jPre D (jT K) G [.ref (a 0)] (wJ K a J0) sz) (jQi D (jT K) ((vX4_undo J0).1) (wJ K a ((vX4_undo J0).2)) (va_A (wJ K a J0) sz)) 0 0 (va_A (wJ K a J0) sz) := by
  refine jEi (by decide) (Nat.le_of_ble_eq_true rfl) (fun p e s m below meth c A Q ls hat hP hD hS hl hend => ?_)
  obtain ⟨hx, hb, hml, hown, hts, hK, hZ, hA⟩ := hat
  have hl : lv_has ls 1 [(0, .ref (a 0))] := hl
  have hc24 : ∀ (J : JS) (H : Heap) (locs : List Loc) (ls : Array Slot), (vX4_undo J0) = vX4_undo_c24 J → va_P D vwCl (wJ K a J) H → va_D A (wJ K a J) → va_S A s.heap H locs → lv_has ls 1 [(0, .ref (a 0))] → W p l e rX4_undo s m ([.ref (a 0)] : List Value).toArray below meth c H locs 0 0 Q (F0 m 24 ls []) := by
    intro J H locs ls hV hP hD hS hl
    rw [vX4_undo_c24] at hV
    refine lv_aload_n hx hb dX4_undo_24 rfl (lv_at hl 0 rfl) ?_
    refine gf_X4_10 (v := .ref (a 1)) hx hb hts hown hK hZ hP (0) rfl rfl dX4_undo_25 ?_
    refine gf_X4_110 (v := .int (e_day (j_E J))) hx hb hts hown hK hZ hP (1) rfl rfl dX4_undo_28 ?_
    exact hend _ _ _ _ _ (by rw [hV]; exact hP) (by rw [hV]; exact hD) hS (by rw [hV]) rfl dX4_undo_31
  have hV := vX4_undo.eq_1 J0
  rw [kX4_undo] at hk
  refine lv_aload_n hx hb dX4_undo_0 rfl (lv_at hl 0 rfl) ?_
  refine gf_X4_45 (v := .int (j_imageKept J0)) hx hb hts hown hK hZ hP (0) rfl rfl dX4_undo_1 ?_
  refine lv_if_ne (tgt := 13) hx hb dX4_undo_4 (by decide) (fun c4 => ?_) (fun c4 => ?_)
  · have hV := hV.trans (if_neg c4)
    have hk := hk.2 c4
    refine lv_aload_n hx hb dX4_undo_13 rfl (lv_at hl 0 rfl) ?_
    refine gf_X4_10 (v := .ref (a 1)) hx hb hts hown hK hZ hP (0) rfl rfl dX4_undo_14 ?_
    refine lv_aload_n hx hb dX4_undo_17 rfl (lv_at hl 0 rfl) ?_
    refine gf_X4_16 (v := .ref (a 6)) hx hb hts hown hK hZ hP (0) rfl rfl dX4_undo_18 ?_
    obtain ⟨h5, hk⟩ := hk
    refine jcv (jrunV (As := [.ref (a 6)]) (rest := []) hx hb hml hown hts hK hZ hA hP hD hS hl.1 mf_X0_become kl_X4_132 ⟨rfl, rfl, Nat.le_of_ble_eq_true rfl, Nat.le_of_ble_eq_true rfl⟩ ⟨Nat.zero_le _, Nat.zero_le _⟩ [1, 2, 3, 4, 5, 6, 7, 8, 9, 10] rfl (js78 K a J0) rfl rfl rfl (hX0_become l D K G (fun k => a (1 + k)) (fun k => a (6 + k)) (j_E J0) (j_K J0) h5 _) rfl rfl (Nat.le_of_ble_eq_true rfl) dX4_undo_21) hA hP hD hS [1, 2, 3, 4, 5, 6, 7, 8, 9, 10] (js78 K a J0) (jh79 K a J0 (vX0_become (j_E J0) (j_K J0))) (fun H locs hP hD hS => ?_)
    have hP := jeP (jp80 K a J0 (vX0_become (j_E J0) (j_K J0))) hP
    have hD := jeD (jp80 K a J0 (vX0_become (j_E J0) (j_K J0))) hD
    exact hc24 (j_s_E J0 (vX0_become (j_E J0) (j_K J0))) _ _ _ hV hP hD hS (lv_sub hl [0] rfl)
  · have hV := hV.trans (if_pos c4)
    have hk := hk.1 c4
    refine lv_aload_n hx hb dX4_undo_7 rfl (lv_at hl 0 rfl) ?_
    refine lv_iconst (v := (3 : Int32)) hx hb dX4_undo_8 (by decide) ?_
    obtain ⟨h6, hk⟩ := hk
    refine jci (jrunV (As := [.int (3 : Int32)]) (rest := []) hx hb hml hown hts hK hZ hA hP hD hS hl.1 mf_X4_tell kl_X4_60 ⟨rfl, rfl, Nat.le_of_ble_eq_true rfl, Nat.le_of_ble_eq_true rfl⟩ ⟨Nat.zero_le _, Nat.zero_le _⟩ [0, 1, 2, 3, 4, 5, 6, 7, 8, 9, 10, 11, 12, 13, 14, 15, 16, 17, 18, 19, 20, 21, 22, 23, 24, 25, 26, 27, 28, 29] rfl (js45 K a J0) rfl rfl rfl (hX4_tell l D K G a J0 (3 : Int32) h6 _) rfl rfl (Nat.le_of_ble_eq_true rfl) dX4_undo_9) hA hP hD hS [0, 1, 2, 3, 4, 5, 6, 7, 8, 9, 10, 11, 12, 13, 14, 15, 16, 17, 18, 19, 20, 21, 22, 23, 24, 25, 26, 27, 28, 29] (js45 K a J0) (jh52 K a J0 ((vX4_tell J0 (3 : Int32)).2)) (fun H locs hP hD hS => ?_)
    have hP := jeP (jp53 K a J0 ((vX4_tell J0 (3 : Int32)).2)) hP
    have hD := jeD (jp53 K a J0 ((vX4_tell J0 (3 : Int32)).2)) hD
    exact hend _ _ _ _ _ (by rw [hV]; exact hP) (by rw [hV]; exact hD) hS (by rw [hV]) rfl dX4_undo_12
theorem dX4_wipe_0 : decode cX4_wipe 0 = .ok (.aload_n 0, 1) := by decide +kernel
theorem dX4_wipe_1 : decode cX4_wipe 1 = .ok (.getfield 25, 3) := by decide +kernel
theorem dX4_wipe_4 : decode cX4_wipe 4 = .ok (.getfield 182, 3) := by decide +kernel
theorem dX4_wipe_7 : decode cX4_wipe 7 = .ok (.istore_n 1, 1) := by decide +kernel
theorem dX4_wipe_8 : decode cX4_wipe 8 = .ok (.aload_n 0, 1) := by decide +kernel
theorem dX4_wipe_9 : decode cX4_wipe 9 = .ok (.getfield 25, 3) := by decide +kernel
theorem dX4_wipe_12 : decode cX4_wipe 12 = .ok (.iconst 0, 1) := by decide +kernel
theorem dX4_wipe_13 : decode cX4_wipe 13 = .ok (.putfield 182, 3) := by decide +kernel
theorem dX4_wipe_16 : decode cX4_wipe 16 = .ok (.iload_n 1, 1) := by decide +kernel
theorem dX4_wipe_17 : decode cX4_wipe 17 = .ok (.ireturn, 1) := by decide +kernel
def rX4_wipe : Room := { frames := 0, cells := 0, slots := 0, locals := 0 }
def vX4_wipe (J0 : JS) : Int32 × JS := ((t_length (j_tape J0)), (j_s_tape J0 (t_s_length (j_tape J0) (0 : Int32))))
set_option maxHeartbeats 4000000 in
set_option maxRecDepth 100000 in
theorem hX4_wipe (l : Launch) (D : va_G) (K : JK) (G : JG) (a : Nat → Nat) (J0 : JS) (sz : Nat) : Met l yX4_wipe (.code yX4_wipe cX4_wipe 2 (some .int) :: jGW) rX4_wipe (jPre D (jT K) G [.ref (a 0)] (wJ K a J0) sz) (jQi D (jT K) ((vX4_wipe J0).1) (wJ K a ((vX4_wipe J0).2)) (va_A (wJ K a J0) sz)) 0 0 (va_A (wJ K a J0) sz) := by
  refine jEi (by decide) (Nat.le_of_ble_eq_true rfl) (fun p e s m below meth c A Q ls hat hP hD hS hl hend => ?_)
  obtain ⟨hx, hb, hml, hown, hts, hK, hZ, hA⟩ := hat
  have hl : lv_has ls 2 [(0, .ref (a 0))] := hl
  have hV := vX4_wipe.eq_1 J0
  refine lv_aload_n hx hb dX4_wipe_0 rfl (lv_at hl 0 rfl) ?_
  refine gf_X4_25 (v := .ref (a 16)) hx hb hts hown hK hZ hP (0) rfl rfl dX4_wipe_1 ?_
  refine gf_X4_182 (v := .int (t_length (j_tape J0))) hx hb hts hown hK hZ hP (16) rfl rfl dX4_wipe_4 ?_
  refine lv_istore_n (lv' := [(1, .int (t_length (j_tape J0))), (0, .ref (a 0))]) hx hb dX4_wipe_7 rfl hl (by decide) rfl (fun ls hl => ?_)
  refine lv_aload_n hx hb dX4_wipe_8 rfl (lv_at hl 1 rfl) ?_
  refine gf_X4_25 (v := .ref (a 16)) hx hb hts hown hK hZ hP (0) rfl rfl dX4_wipe_9 ?_
  refine lv_iconst (v := (0 : Int32)) hx hb dX4_wipe_12 (by decide) ?_
  refine pf_X4_182 (v := .int (0 : Int32)) hx hb hts hown hK hZ hP hD hS (16) rfl rfl rfl (Nat.le_of_ble_eq_true rfl) dX4_wipe_13 (fun H locs hP hD hS => ?_)
  have hP := jeP (jf77 K a J0 (0 : Int32)) hP
  have hD := jeD (jf77 K a J0 (0 : Int32)) hD
  refine lv_iload_n hx hb dX4_wipe_16 rfl (lv_at hl 0 rfl) ?_
  exact hend _ _ _ _ _ (by rw [hV]; exact hP) (by rw [hV]; exact hD) hS (by rw [hV]) rfl dX4_wipe_17
theorem dX4_worthless_0 : decode cX4_worthless 0 = .ok (.aload_n 0, 1) := by decide +kernel
theorem dX4_worthless_1 : decode cX4_worthless 1 = .ok (.iload_n 1, 1) := by decide +kernel
theorem dX4_worthless_2 : decode cX4_worthless 2 = .ok (.invokevirtual 94, 3) := by decide +kernel
theorem dX4_worthless_5 : decode cX4_worthless 5 = .ok (.ifCond .eq 14, 3) := by decide +kernel
theorem dX4_worthless_8 : decode cX4_worthless 8 = .ok (.iload_n 2, 1) := by decide +kernel
theorem dX4_worthless_9 : decode cX4_worthless 9 = .ok (.iconst 0, 1) := by decide +kernel
theorem dX4_worthless_10 : decode cX4_worthless 10 = .ok (.sipush 999, 3) := by decide +kernel
theorem dX4_worthless_13 : decode cX4_worthless 13 = .ok (.invokestatic 50, 3) := by decide +kernel
theorem dX4_worthless_16 : decode cX4_worthless 16 = .ok (.ifCond .ne 9, 3) := by decide +kernel
theorem dX4_worthless_19 : decode cX4_worthless 19 = .ok (.aload_n 0, 1) := by decide +kernel
theorem dX4_worthless_20 : decode cX4_worthless 20 = .ok (.iconst 0, 1) := by decide +kernel
theorem dX4_worthless_21 : decode cX4_worthless 21 = .ok (.invokevirtual 60, 3) := by decide +kernel
theorem dX4_worthless_24 : decode cX4_worthless 24 = .ok (.ireturn, 1) := by decide +kernel
theorem dX4_worthless_25 : decode cX4_worthless 25 = .ok (.aload_n 0, 1) := by decide +kernel
theorem dX4_worthless_26 : decode cX4_worthless 26 = .ok (.getfield 19, 3) := by decide +kernel
theorem dX4_worthless_29 : decode cX4_worthless 29 = .ok (.aload_n 0, 1) := by decide +kernel
theorem dX4_worthless_30 : decode cX4_worthless 30 = .ok (.getfield 10, 3) := by decide +kernel
theorem dX4_worthless_33 : decode cX4_worthless 33 = .ok (.invokevirtual 132, 3) := by decide +kernel
theorem dX4_worthless_36 : decode cX4_worthless 36 = .ok (.iconst 0, 1) := by decide +kernel
theorem dX4_worthless_37 : decode cX4_worthless 37 = .ok (.istore_n 3, 1) := by decide +kernel
theorem dX4_worthless_38 : decode cX4_worthless 38 = .ok (.iload_n 3, 1) := by decide +kernel
theorem dX4_worthless_39 : decode cX4_worthless 39 = .ok (.sipush 200, 3) := by decide +kernel
theorem dX4_worthless_42 : decode cX4_worthless 42 = .ok (.if_icmp .gt 32, 3) := by decide +kernel
theorem dX4_worthless_45 : decode cX4_worthless 45 = .ok (.aload_n 0, 1) := by decide +kernel
theorem dX4_worthless_46 : decode cX4_worthless 46 = .ok (.getfield 19, 3) := by decide +kernel
theorem dX4_worthless_49 : decode cX4_worthless 49 = .ok (.iload_n 1, 1) := by decide +kernel
theorem dX4_worthless_50 : decode cX4_worthless 50 = .ok (.bipush 8, 2) := by decide +kernel
theorem dX4_worthless_52 : decode cX4_worthless 52 = .ok (.invokevirtual 97, 3) := by decide +kernel
theorem dX4_worthless_55 : decode cX4_worthless 55 = .ok (.iload_n 2, 1) := by decide +kernel
theorem dX4_worthless_56 : decode cX4_worthless 56 = .ok (.if_icmp .gt 5, 3) := by decide +kernel
theorem dX4_worthless_59 : decode cX4_worthless 59 = .ok (.iload_n 3, 1) := by decide +kernel
theorem dX4_worthless_60 : decode cX4_worthless 60 = .ok (.ireturn, 1) := by decide +kernel
theorem dX4_worthless_61 : decode cX4_worthless 61 = .ok (.aload_n 0, 1) := by decide +kernel
theorem dX4_worthless_62 : decode cX4_worthless 62 = .ok (.getfield 19, 3) := by decide +kernel
theorem dX4_worthless_65 : decode cX4_worthless 65 = .ok (.invokevirtual 139, 3) := by decide +kernel
theorem dX4_worthless_68 : decode cX4_worthless 68 = .ok (.iinc 3 1, 3) := by decide +kernel
theorem dX4_worthless_71 : decode cX4_worthless 71 = .ok (.goto (-33), 3) := by decide +kernel
theorem dX4_worthless_74 : decode cX4_worthless 74 = .ok (.aload_n 0, 1) := by decide +kernel
theorem dX4_worthless_75 : decode cX4_worthless 75 = .ok (.iconst 3, 1) := by decide +kernel
theorem dX4_worthless_76 : decode cX4_worthless 76 = .ok (.invokevirtual 60, 3) := by decide +kernel
theorem dX4_worthless_79 : decode cX4_worthless 79 = .ok (.ireturn, 1) := by decide +kernel
def rX4_worthless : Room := { frames := 5, cells := 0, slots := 0, locals := 108 }
def vX4_worthless_c68 (p1 : Int32) (p2 : Int32) (k : JS → Int32 → Int32 × JS) (J : JS) (x3 : Int32) : Int32 × JS := (k J (x3 + (1 : Int32)))
def kX4_worthless_c68 (p1 : Int32) (p2 : Int32) (q : JS → Int32 → Prop) (J : JS) (x3 : Int32) : Prop := (q J (x3 + (1 : Int32)))
def vX4_worthless_c38 (p1 : Int32) (p2 : Int32) : Nat → JS → Int32 → Int32 × JS
  | 0, J, x3 => (0, J)
  | n + 1, J, x3 => if ((200 : Int32) < x3) then (((vX4_tell J (3 : Int32)).1), ((vX4_tell J (3 : Int32)).2)) else if (p2 < (vX0_told (j_T J) p1 (8 : Int32))) then (vX4_worthless_c68 p1 p2 (fun J x3 => vX4_worthless_c38 p1 p2 n J x3) (j_s_T J (vX0_passDay (j_T J))) x3) else (x3, J)
def kX4_worthless_c38 (p1 : Int32) (p2 : Int32) : Nat → JS → Int32 → Prop
  | 0, _, _ => False
  | n + 1, J, x3 => (((200 : Int32) < x3) → ((kX4_tell J (3 : Int32)) ∧ True)) ∧ (¬ ((200 : Int32) < x3) → ((kX0_told (j_T J) p1 (8 : Int32)) ∧ ((p2 < (vX0_told (j_T J) p1 (8 : Int32))) → ((kX0_passDay (j_T J)) ∧ (kX4_worthless_c68 p1 p2 (fun J x3 => kX4_worthless_c38 p1 p2 n J x3) (j_s_T J (vX0_passDay (j_T J))) x3))) ∧ (¬ (p2 < (vX0_told (j_T J) p1 (8 : Int32))) → True)))
def vX4_worthless_c36 (p1 : Int32) (p2 : Int32) (J : JS) : Int32 × JS := (vX4_worthless_c38 p1 p2 1024 J (0 : Int32))
def kX4_worthless_c36 (p1 : Int32) (p2 : Int32) (J : JS) : Prop := (kX4_worthless_c38 p1 p2 1024 J (0 : Int32))
def vX4_worthless_c19 (p1 : Int32) (p2 : Int32) (J : JS) : Int32 × JS := (((vX4_tell J (0 : Int32)).1), ((vX4_tell J (0 : Int32)).2))
def kX4_worthless_c19 (p1 : Int32) (p2 : Int32) (J : JS) : Prop := (kX4_tell J (0 : Int32)) ∧ True
def vX4_worthless (J0 : JS) (p1 : Int32) (p2 : Int32) : Int32 × JS := if ((vX4_isThing J0 p1) = 0) then (vX4_worthless_c19 p1 p2 J0) else if ((vX4_within p2 (0 : Int32) (999 : Int32)) = 0) then (vX4_worthless_c19 p1 p2 J0) else (vX4_worthless_c36 p1 p2 (j_s_T J0 (vX0_become (j_T J0) (j_E J0))))
def kX4_worthless (J0 : JS) (p1 : Int32) (p2 : Int32) : Prop := (kX4_isThing J0 p1) ∧ (((vX4_isThing J0 p1) = 0) → ((kX4_worthless_c19 p1 p2 J0))) ∧ (¬ ((vX4_isThing J0 p1) = 0) → ((((vX4_within p2 (0 : Int32) (999 : Int32)) = 0) → ((kX4_worthless_c19 p1 p2 J0))) ∧ (¬ ((vX4_within p2 (0 : Int32) (999 : Int32)) = 0) → ((kX0_become (j_T J0) (j_E J0)) ∧ (kX4_worthless_c36 p1 p2 (j_s_T J0 (vX0_become (j_T J0) (j_E J0))))))))
set_option maxHeartbeats 4000000 in
set_option maxRecDepth 100000 in
theorem hX4_worthless (l : Launch) (D : va_G) (K : JK) (G : JG) (a : Nat → Nat) (J0 : JS) (p1 : Int32) (p2 : Int32) (hk : kX4_worthless J0 p1 p2) (sz : Nat) : Met l yX4_worthless (.code yX4_worthless cX4_worthless 4 (some .int) :: jGW) rX4_worthless (jPre D (jT K) G [.ref (a 0), .int p1, .int p2] (wJ K a J0) sz) (jQi D (jT K) ((vX4_worthless J0 p1 p2).1) (wJ K a ((vX4_worthless J0 p1 p2).2)) (va_A (wJ K a J0) sz)) 0 0 (va_A (wJ K a J0) sz) := by
  refine jEi (by decide) (Nat.le_of_ble_eq_true rfl) (fun p e s m below meth c A Q ls hat hP hD hS hl hend => ?_)
  obtain ⟨hx, hb, hml, hown, hts, hK, hZ, hA⟩ := hat
  have hl : lv_has ls 4 [(0, .ref (a 0)), (1, .int p1), (2, .int p2)] := hl
  have hc38 : ∀ (n : Nat) (J : JS) (x3 : Int32) (H : Heap) (locs : List Loc) (ls : Array Slot), (vX4_worthless J0 p1 p2) = vX4_worthless_c38 p1 p2 n J x3 → kX4_worthless_c38 p1 p2 n J x3 → va_P D vwCl (wJ K a J) H → va_D A (wJ K a J) → va_S A s.heap H locs → lv_has ls 4 [(0, .ref (a 0)), (1, .int p1), (2, .int p2), (3, .int x3)] → W p l e rX4_worthless s m ([.ref (a 0), .int p1, .int p2] : List Value).toArray below meth c H locs 0 0 Q (F0 m 38 ls []) := by
    intro n
    induction n with
    | zero =>
      intro J x3 H locs ls hV hk hP hD hS hl
      exact False.elim hk
    | succ n ih =>
      have hc68 : ∀ (J : JS) (x3 : Int32) (H : Heap) (locs : List Loc) (ls : Array Slot), (vX4_worthless J0 p1 p2) = vX4_worthless_c68 p1 p2 (fun J x3 => vX4_worthless_c38 p1 p2 n J x3) J x3 → kX4_worthless_c68 p1 p2 (fun J x3 => kX4_worthless_c38 p1 p2 n J x3) J x3 → va_P D vwCl (wJ K a J) H → va_D A (wJ K a J) → va_S A s.heap H locs → lv_has ls 4 [(0, .ref (a 0)), (1, .int p1), (2, .int p2), (3, .int x3)] → W p l e rX4_worthless s m ([.ref (a 0), .int p1, .int p2] : List Value).toArray below meth c H locs 0 0 Q (F0 m 68 ls []) := by
        intro J x3 H locs ls hV hk hP hD hS hl
        rw [vX4_worthless_c68] at hV
        rw [kX4_worthless_c68] at hk
        refine lv_iinc (v := (x3 + (1 : Int32))) (lv' := [(3, .int (x3 + (1 : Int32))), (0, .ref (a 0)), (1, .int p1), (2, .int p2)]) hx hb dX4_worthless_68 hl (k := 3) rfl rfl (by decide) rfl (fun ls hl => ?_)
        refine lv_goto (tgt := 38) hx hb dX4_worthless_71 (by decide) ?_
        exact ih J (x3 + (1 : Int32)) _ _ _ hV hk hP hD hS (lv_sub hl [1, 2, 3, 0] rfl)
      intro J x3 H locs ls hV hk hP hD hS hl
      rw [vX4_worthless_c38] at hV
      rw [kX4_worthless_c38] at hk
      refine lv_iload_n hx hb dX4_worthless_38 rfl (lv_at hl 3 rfl) ?_
      refine lv_sipush (v := (200 : Int32)) hx hb dX4_worthless_39 (by decide) ?_
      refine lv_icmp_gt (tgt := 74) hx hb dX4_worthless_42 (by decide) (fun c11 => ?_) (fun c11 => ?_)
      · have hV := hV.trans (if_pos c11)
        have hk := hk.1 c11
        refine lv_aload_n hx hb dX4_worthless_74 rfl (lv_at hl 0 rfl) ?_
        refine lv_iconst (v := (3 : Int32)) hx hb dX4_worthless_75 (by decide) ?_
        obtain ⟨h12, hk⟩ := hk
        refine jci (jrunV (As := [.int (3 : Int32)]) (rest := []) hx hb hml hown hts hK hZ hA hP hD hS hl.1 mf_X4_tell kl_X4_60 ⟨rfl, rfl, Nat.le_of_ble_eq_true rfl, Nat.le_of_ble_eq_true rfl⟩ ⟨Nat.zero_le _, Nat.zero_le _⟩ [0, 1, 2, 3, 4, 5, 6, 7, 8, 9, 10, 11, 12, 13, 14, 15, 16, 17, 18, 19, 20, 21, 22, 23, 24, 25, 26, 27, 28, 29] rfl (js45 K a J) rfl rfl rfl (hX4_tell l D K G a J (3 : Int32) h12 _) rfl rfl (Nat.le_of_ble_eq_true rfl) dX4_worthless_76) hA hP hD hS [0, 1, 2, 3, 4, 5, 6, 7, 8, 9, 10, 11, 12, 13, 14, 15, 16, 17, 18, 19, 20, 21, 22, 23, 24, 25, 26, 27, 28, 29] (js45 K a J) (jh52 K a J ((vX4_tell J (3 : Int32)).2)) (fun H locs hP hD hS => ?_)
        have hP := jeP (jp53 K a J ((vX4_tell J (3 : Int32)).2)) hP
        have hD := jeD (jp53 K a J ((vX4_tell J (3 : Int32)).2)) hD
        exact hend _ _ _ _ _ (by rw [hV]; exact hP) (by rw [hV]; exact hD) hS (by rw [hV]) rfl dX4_worthless_79
      · have hV := hV.trans (if_neg c11)
        have hk := hk.2 c11
        refine lv_aload_n hx hb dX4_worthless_45 rfl (lv_at hl 0 rfl) ?_
        refine gf_X4_19 (v := .ref (a 11)) hx hb hts hown hK hZ hP (0) rfl rfl dX4_worthless_46 ?_
        refine lv_iload_n hx hb dX4_worthless_49 rfl (lv_at hl 1 rfl) ?_
        refine lv_bipush (v := (8 : Int32)) hx hb dX4_worthless_50 (by decide) ?_
        obtain ⟨h13, hk⟩ := hk
        refine jci0 (jrunV (As := [.int p1, .int (8 : Int32)]) (rest := []) hx hb hml hown hts hK hZ hA hP hD hS hl.1 mf_X0_told kl_X4_97 ⟨rfl, rfl, Nat.le_of_ble_eq_true rfl, Nat.le_of_ble_eq_true rfl⟩ ⟨Nat.zero_le _, Nat.zero_le _⟩ [11, 12, 13, 14, 15] rfl (js49 K a J) rfl rfl rfl (hX0_told l D K G (fun k => a (11 + k)) (j_T J) p1 (8 : Int32) h13 _) rfl rfl (Nat.le_of_ble_eq_true rfl) dX4_worthless_52) hA hP hD hS [11, 12, 13, 14, 15] (js49 K a J) (fun H locs hP hS => ?_)
        refine lv_iload_n hx hb dX4_worthless_55 rfl (lv_at hl 2 rfl) ?_
        refine lv_icmp_gt (tgt := 61) hx hb dX4_worthless_56 (by decide) (fun c14 => ?_) (fun c14 => ?_)
        · have hV := hV.trans (if_pos c14)
          have hk := hk.1 c14
          refine lv_aload_n hx hb dX4_worthless_61 rfl (lv_at hl 0 rfl) ?_
          refine gf_X4_19 (v := .ref (a 11)) hx hb hts hown hK hZ hP (0) rfl rfl dX4_worthless_62 ?_
          obtain ⟨h15, hk⟩ := hk
          refine jcv (jrunV (As := []) (rest := []) hx hb hml hown hts hK hZ hA hP hD hS hl.1 mf_X0_passDay kl_X4_139 ⟨rfl, rfl, Nat.le_of_ble_eq_true rfl, Nat.le_of_ble_eq_true rfl⟩ ⟨Nat.zero_le _, Nat.zero_le _⟩ [11, 12, 13, 14, 15] rfl (js49 K a J) rfl rfl rfl (hX0_passDay l D K G (fun k => a (11 + k)) (j_T J) h15 _) rfl rfl (Nat.le_of_ble_eq_true rfl) dX4_worthless_65) hA hP hD hS [11, 12, 13, 14, 15] (js49 K a J) (jh50 K a J (vX0_passDay (j_T J))) (fun H locs hP hD hS => ?_)
          have hP := jeP (jp51 K a J (vX0_passDay (j_T J))) hP
          have hD := jeD (jp51 K a J (vX0_passDay (j_T J))) hD
          exact hc68 (j_s_T J (vX0_passDay (j_T J))) x3 _ _ _ hV hk hP hD hS (lv_sub hl [0, 1, 2, 3] rfl)
        · have hV := hV.trans (if_neg c14)
          have hk := hk.2 c14
          refine lv_iload_n hx hb dX4_worthless_59 rfl (lv_at hl 3 rfl) ?_
          exact hend _ _ _ _ _ (by rw [hV]; exact hP) (by rw [hV]; exact hD) hS (by rw [hV]) rfl dX4_worthless_60
  have hc36 : ∀ (J : JS) (H : Heap) (locs : List Loc) (ls : Array Slot), (vX4_worthless J0 p1 p2) = vX4_worthless_c36 p1 p2 J → kX4_worthless_c36 p1 p2 J → va_P D vwCl (wJ K a J) H → va_D A (wJ K a J) → va_S A s.heap H locs → lv_has ls 4 [(0, .ref (a 0)), (1, .int p1), (2, .int p2)] → W p l e rX4_worthless s m ([.ref (a 0), .int p1, .int p2] : List Value).toArray below meth c H locs 0 0 Q (F0 m 36 ls []) := by
    intro J H locs ls hV hk hP hD hS hl
    rw [vX4_worthless_c36] at hV
    rw [kX4_worthless_c36] at hk
    refine lv_iconst (v := (0 : Int32)) hx hb dX4_worthless_36 (by decide) ?_
    refine lv_istore_n (lv' := [(3, .int (0 : Int32)), (0, .ref (a 0)), (1, .int p1), (2, .int p2)]) hx hb dX4_worthless_37 rfl hl (by decide) rfl (fun ls hl => ?_)
    exact hc38 1024 J (0 : Int32) _ _ _ hV hk hP hD hS (lv_sub hl [1, 2, 3, 0] rfl)
  have hc19 : ∀ (J : JS) (H : Heap) (locs : List Loc) (ls : Array Slot), (vX4_worthless J0 p1 p2) = vX4_worthless_c19 p1 p2 J → kX4_worthless_c19 p1 p2 J → va_P D vwCl (wJ K a J) H → va_D A (wJ K a J) → va_S A s.heap H locs → lv_has ls 4 [(0, .ref (a 0)), (1, .int p1), (2, .int p2)] → W p l e rX4_worthless s m ([.ref (a 0), .int p1, .int p2] : List Value).toArray below meth c H locs 0 0 Q (F0 m 19 ls []) := by
    intro J H locs ls hV hk hP hD hS hl
    rw [vX4_worthless_c19] at hV
    rw [kX4_worthless_c19] at hk
    refine lv_aload_n hx hb dX4_worthless_19 rfl (lv_at hl 0 rfl) ?_
    refine lv_iconst (v := (0 : Int32)) hx hb dX4_worthless_20 (by decide) ?_
    obtain ⟨h16, hk⟩ := hk
    refine jci (jrunV (As := [.int (0 : Int32)]) (rest := []) hx hb hml hown hts hK hZ hA hP hD hS hl.1 mf_X4_tell kl_X4_60 ⟨rfl, rfl, Nat.le_of_ble_eq_true rfl, Nat.le_of_ble_eq_true rfl⟩ ⟨Nat.zero_le _, Nat.zero_le _⟩ [0, 1, 2, 3, 4, 5, 6, 7, 8, 9, 10, 11, 12, 13, 14, 15, 16, 17, 18, 19, 20, 21, 22, 23, 24, 25, 26, 27, 28, 29] rfl (js45 K a J) rfl rfl rfl (hX4_tell l D K G a J (0 : Int32) h16 _) rfl rfl (Nat.le_of_ble_eq_true rfl) dX4_worthless_21) hA hP hD hS [0, 1, 2, 3, 4, 5, 6, 7, 8, 9, 10, 11, 12, 13, 14, 15, 16, 17, 18, 19, 20, 21, 22, 23, 24, 25, 26, 27, 28, 29] (js45 K a J) (jh52 K a J ((vX4_tell J (0 : Int32)).2)) (fun H locs hP hD hS => ?_)
    have hP := jeP (jp53 K a J ((vX4_tell J (0 : Int32)).2)) hP
    have hD := jeD (jp53 K a J ((vX4_tell J (0 : Int32)).2)) hD
    exact hend _ _ _ _ _ (by rw [hV]; exact hP) (by rw [hV]; exact hD) hS (by rw [hV]) rfl dX4_worthless_24
  have hV := vX4_worthless.eq_1 J0 p1 p2
  rw [kX4_worthless] at hk
  refine lv_aload_n hx hb dX4_worthless_0 rfl (lv_at hl 0 rfl) ?_
  refine lv_iload_n hx hb dX4_worthless_1 rfl (lv_at hl 1 rfl) ?_
  obtain ⟨h17, hk⟩ := hk
  refine jci0 (jrunV (As := [.int p1]) (rest := []) hx hb hml hown hts hK hZ hA hP hD hS hl.1 mf_X4_isThing kl_X4_94 ⟨rfl, rfl, Nat.le_of_ble_eq_true rfl, Nat.le_of_ble_eq_true rfl⟩ ⟨Nat.zero_le _, Nat.zero_le _⟩ [0, 1, 2, 3, 4, 5, 6, 7, 8, 9, 10, 11, 12, 13, 14, 15, 16, 17, 18, 19, 20, 21, 22, 23, 24, 25, 26, 27, 28, 29] rfl (js45 K a J0) rfl rfl rfl (hX4_isThing l D K G a J0 p1 h17 _) rfl rfl (Nat.le_of_ble_eq_true rfl) dX4_worthless_2) hA hP hD hS [0, 1, 2, 3, 4, 5, 6, 7, 8, 9, 10, 11, 12, 13, 14, 15, 16, 17, 18, 19, 20, 21, 22, 23, 24, 25, 26, 27, 28, 29] (js45 K a J0) (fun H locs hP hS => ?_)
  refine lv_if_eq (tgt := 19) hx hb dX4_worthless_5 (by decide) (fun c18 => ?_) (fun c18 => ?_)
  · have hV := hV.trans (if_pos c18)
    have hk := hk.1 c18
    exact hc19 J0 _ _ _ hV hk hP hD hS (lv_sub hl [0, 1, 2] rfl)
  · have hV := hV.trans (if_neg c18)
    have hk := hk.2 c18
    refine lv_iload_n hx hb dX4_worthless_8 rfl (lv_at hl 2 rfl) ?_
    refine lv_iconst (v := (0 : Int32)) hx hb dX4_worthless_9 (by decide) ?_
    refine lv_sipush (v := (999 : Int32)) hx hb dX4_worthless_10 (by decide) ?_
    refine jci0 (jrunS (As := [.int p2, .int (0 : Int32), .int (999 : Int32)]) (rest := []) hx hb hml hown hts hK hZ hA hP hD hS hl.1 mf_X4_within kl_X4_50 ⟨rfl, rfl, Nat.le_of_ble_eq_true rfl, Nat.le_of_ble_eq_true rfl⟩ ⟨Nat.zero_le _, Nat.zero_le _⟩ [] rfl rfl (hX4_within l D K G p2 (0 : Int32) (999 : Int32) _) rfl rfl (Nat.le_of_ble_eq_true rfl) dX4_worthless_13) hA hP hD hS [] rfl (fun H locs hP hS => ?_)
    refine lv_if_ne (tgt := 25) hx hb dX4_worthless_16 (by decide) (fun c19 => ?_) (fun c19 => ?_)
    · have hV := hV.trans (if_neg c19)
      have hk := hk.2 c19
      refine lv_aload_n hx hb dX4_worthless_25 rfl (lv_at hl 0 rfl) ?_
      refine gf_X4_19 (v := .ref (a 11)) hx hb hts hown hK hZ hP (0) rfl rfl dX4_worthless_26 ?_
      refine lv_aload_n hx hb dX4_worthless_29 rfl (lv_at hl 0 rfl) ?_
      refine gf_X4_10 (v := .ref (a 1)) hx hb hts hown hK hZ hP (0) rfl rfl dX4_worthless_30 ?_
      obtain ⟨h20, hk⟩ := hk
      refine jcv (jrunV (As := [.ref (a 1)]) (rest := []) hx hb hml hown hts hK hZ hA hP hD hS hl.1 mf_X0_become kl_X4_132 ⟨rfl, rfl, Nat.le_of_ble_eq_true rfl, Nat.le_of_ble_eq_true rfl⟩ ⟨Nat.zero_le _, Nat.zero_le _⟩ [11, 12, 13, 14, 15, 1, 2, 3, 4, 5] rfl (js46 K a J0) rfl rfl rfl (hX0_become l D K G (fun k => a (11 + k)) (fun k => a (1 + k)) (j_T J0) (j_E J0) h20 _) rfl rfl (Nat.le_of_ble_eq_true rfl) dX4_worthless_33) hA hP hD hS [11, 12, 13, 14, 15, 1, 2, 3, 4, 5] (js46 K a J0) (jh47 K a J0 (vX0_become (j_T J0) (j_E J0))) (fun H locs hP hD hS => ?_)
      have hP := jeP (jp48 K a J0 (vX0_become (j_T J0) (j_E J0))) hP
      have hD := jeD (jp48 K a J0 (vX0_become (j_T J0) (j_E J0))) hD
      exact hc36 (j_s_T J0 (vX0_become (j_T J0) (j_E J0))) _ _ _ hV hk hP hD hS (lv_sub hl [0, 1, 2] rfl)
    · have hV := hV.trans (if_pos c19)
      have hk := hk.1 c19
      exact hc19 J0 _ _ _ hV hk hP hD hS (lv_sub hl [0, 1, 2] rfl)
theorem dX4_write_0 : decode cX4_write 0 = .ok (.aload_n 0, 1) := by decide +kernel
theorem dX4_write_1 : decode cX4_write 1 = .ok (.iload_n 1, 1) := by decide +kernel
theorem dX4_write_2 : decode cX4_write 2 = .ok (.invokevirtual 215, 3) := by decide +kernel
theorem dX4_write_5 : decode cX4_write 5 = .ok (.istore 4, 2) := by decide +kernel
theorem dX4_write_7 : decode cX4_write 7 = .ok (.iload 4, 2) := by decide +kernel
theorem dX4_write_9 : decode cX4_write 9 = .ok (.ifCond .lt 10, 3) := by decide +kernel
theorem dX4_write_12 : decode cX4_write 12 = .ok (.aload_n 0, 1) := by decide +kernel
theorem dX4_write_13 : decode cX4_write 13 = .ok (.iload 4, 2) := by decide +kernel
theorem dX4_write_15 : decode cX4_write 15 = .ok (.invokevirtual 60, 3) := by decide +kernel
theorem dX4_write_18 : decode cX4_write 18 = .ok (.ireturn, 1) := by decide +kernel
theorem dX4_write_19 : decode cX4_write 19 = .ok (.iload_n 2, 1) := by decide +kernel
theorem dX4_write_20 : decode cX4_write 20 = .ok (.iconst 0, 1) := by decide +kernel
theorem dX4_write_21 : decode cX4_write 21 = .ok (.aload_n 0, 1) := by decide +kernel
theorem dX4_write_22 : decode cX4_write 22 = .ok (.getfield 31, 3) := by decide +kernel
theorem dX4_write_25 : decode cX4_write 25 = .ok (.iload_n 1, 1) := by decide +kernel
theorem dX4_write_26 : decode cX4_write 26 = .ok (.aaload, 1) := by decide +kernel
theorem dX4_write_27 : decode cX4_write 27 = .ok (.getfield 212, 3) := by decide +kernel
theorem dX4_write_30 : decode cX4_write 30 = .ok (.iconst 1, 1) := by decide +kernel
theorem dX4_write_31 : decode cX4_write 31 = .ok (.isub, 1) := by decide +kernel
theorem dX4_write_32 : decode cX4_write 32 = .ok (.invokestatic 50, 3) := by decide +kernel
theorem dX4_write_35 : decode cX4_write 35 = .ok (.ifCond .ne 9, 3) := by decide +kernel
theorem dX4_write_38 : decode cX4_write 38 = .ok (.aload_n 0, 1) := by decide +kernel
theorem dX4_write_39 : decode cX4_write 39 = .ok (.iconst 0, 1) := by decide +kernel
theorem dX4_write_40 : decode cX4_write 40 = .ok (.invokevirtual 60, 3) := by decide +kernel
theorem dX4_write_43 : decode cX4_write 43 = .ok (.ireturn, 1) := by decide +kernel
theorem dX4_write_44 : decode cX4_write 44 = .ok (.aload_n 0, 1) := by decide +kernel
theorem dX4_write_45 : decode cX4_write 45 = .ok (.getfield 31, 3) := by decide +kernel
theorem dX4_write_48 : decode cX4_write 48 = .ok (.iload_n 1, 1) := by decide +kernel
theorem dX4_write_49 : decode cX4_write 49 = .ok (.aaload, 1) := by decide +kernel
theorem dX4_write_50 : decode cX4_write 50 = .ok (.iload_n 2, 1) := by decide +kernel
theorem dX4_write_51 : decode cX4_write 51 = .ok (.iload_n 3, 1) := by decide +kernel
theorem dX4_write_52 : decode cX4_write 52 = .ok (.invokevirtual 218, 3) := by decide +kernel
theorem dX4_write_55 : decode cX4_write 55 = .ok (.iconst 1, 1) := by decide +kernel
theorem dX4_write_56 : decode cX4_write 56 = .ok (.ireturn, 1) := by decide +kernel
def rX4_write : Room := { frames := 3, cells := 0, slots := 0, locals := 63 }
def vX4_write (J0 : JS) (p1 : Int32) (p2 : Int32) (p3 : Int32) : Int32 × JS := if ((vX4_lackOf J0 p1) < 0) then (if ((vX4_within p2 (0 : Int32) ((s_size (j_s J0 (p1).toNatClampNeg)) - (1 : Int32))) = 0) then (((vX4_tell J0 (0 : Int32)).1), ((vX4_tell J0 (0 : Int32)).2)) else ((1 : Int32), (j_s_s J0 (p1).toNatClampNeg (vX2_put (j_s J0 (p1).toNatClampNeg) p2 p3)))) else (((vX4_tell J0 (vX4_lackOf J0 p1)).1), ((vX4_tell J0 (vX4_lackOf J0 p1)).2))
def kX4_write (J0 : JS) (p1 : Int32) (p2 : Int32) (p3 : Int32) : Prop := (kX4_lackOf J0 p1) ∧ (((vX4_lackOf J0 p1) < 0) → ((vp_in p1 4) ∧ (((vX4_within p2 (0 : Int32) ((s_size (j_s J0 (p1).toNatClampNeg)) - (1 : Int32))) = 0) → ((kX4_tell J0 (0 : Int32)) ∧ True)) ∧ (¬ ((vX4_within p2 (0 : Int32) ((s_size (j_s J0 (p1).toNatClampNeg)) - (1 : Int32))) = 0) → ((vp_in p1 4) ∧ (kX2_put (j_s J0 (p1).toNatClampNeg) p2 p3) ∧ True)))) ∧ (¬ ((vX4_lackOf J0 p1) < 0) → ((kX4_tell J0 (vX4_lackOf J0 p1)) ∧ True))
set_option maxHeartbeats 4000000 in
set_option maxRecDepth 100000 in
theorem hX4_write (l : Launch) (D : va_G) (K : JK) (G : JG) (a : Nat → Nat) (J0 : JS) (p1 : Int32) (p2 : Int32) (p3 : Int32) (hk : kX4_write J0 p1 p2 p3) (sz : Nat) : Met l yX4_write (.code yX4_write cX4_write 5 (some .int) :: jGW) rX4_write (jPre D (jT K) G [.ref (a 0), .int p1, .int p2, .int p3] (wJ K a J0) sz) (jQi D (jT K) ((vX4_write J0 p1 p2 p3).1) (wJ K a ((vX4_write J0 p1 p2 p3).2)) (va_A (wJ K a J0) sz)) 0 0 (va_A (wJ K a J0) sz) := by
  refine jEi (by decide) (Nat.le_of_ble_eq_true rfl) (fun p e s m below meth c A Q ls hat hP hD hS hl hend => ?_)
  obtain ⟨hx, hb, hml, hown, hts, hK, hZ, hA⟩ := hat
  have hl : lv_has ls 5 [(0, .ref (a 0)), (1, .int p1), (2, .int p2), (3, .int p3)] := hl
  have hV := vX4_write.eq_1 J0 p1 p2 p3
  rw [kX4_write] at hk
  refine lv_aload_n hx hb dX4_write_0 rfl (lv_at hl 0 rfl) ?_
  refine lv_iload_n hx hb dX4_write_1 rfl (lv_at hl 1 rfl) ?_
  obtain ⟨h9, hk⟩ := hk
  refine jci0 (jrunV (As := [.int p1]) (rest := []) hx hb hml hown hts hK hZ hA hP hD hS hl.1 mf_X4_lackOf kl_X4_215 ⟨rfl, rfl, Nat.le_of_ble_eq_true rfl, Nat.le_of_ble_eq_true rfl⟩ ⟨Nat.zero_le _, Nat.zero_le _⟩ [0, 1, 2, 3, 4, 5, 6, 7, 8, 9, 10, 11, 12, 13, 14, 15, 16, 17, 18, 19, 20, 21, 22, 23, 24, 25, 26, 27, 28, 29] rfl (js45 K a J0) rfl rfl rfl (hX4_lackOf l D K G a J0 p1 h9 _) rfl rfl (Nat.le_of_ble_eq_true rfl) dX4_write_2) hA hP hD hS [0, 1, 2, 3, 4, 5, 6, 7, 8, 9, 10, 11, 12, 13, 14, 15, 16, 17, 18, 19, 20, 21, 22, 23, 24, 25, 26, 27, 28, 29] (js45 K a J0) (fun H locs hP hS => ?_)
  refine lv_istore (lv' := [(4, .int (vX4_lackOf J0 p1)), (0, .ref (a 0)), (1, .int p1), (2, .int p2), (3, .int p3)]) hx hb dX4_write_5 hl (by decide) rfl (fun ls hl => ?_)
  refine lv_iload hx hb dX4_write_7 (lv_at hl 0 rfl) ?_
  refine lv_if_lt (tgt := 19) hx hb dX4_write_9 (by decide) (fun c10 => ?_) (fun c10 => ?_)
  · have hV := hV.trans (if_pos c10)
    have hk := hk.1 c10
    refine lv_iload_n hx hb dX4_write_19 rfl (lv_at hl 3 rfl) ?_
    refine lv_iconst (v := (0 : Int32)) hx hb dX4_write_20 (by decide) ?_
    refine lv_aload_n hx hb dX4_write_21 rfl (lv_at hl 1 rfl) ?_
    refine gf_X4_31 (v := .ref (a 18)) hx hb hts hown hK hZ hP (0) rfl rfl dX4_write_22 ?_
    refine lv_iload_n hx hb dX4_write_25 rfl (lv_at hl 2 rfl) ?_
    obtain ⟨h11, hk⟩ := hk
    refine j_aald hx hb hK hP h11 dX4_write_26 ?_
    refine gf_X4_212 (v := .int (s_size (j_s J0 (p1).toNatClampNeg))) hx hb hts hown hK hZ hP (19 + 2 * (p1).toNatClampNeg) (wJ_sh D K _ _ ((jlt4 h11))) rfl dX4_write_27 ?_
    refine lv_iconst (v := (1 : Int32)) hx hb dX4_write_30 (by decide) ?_
    refine lv_isub hx hb dX4_write_31 ?_
    refine jci0 (jrunS (As := [.int p2, .int (0 : Int32), .int ((s_size (j_s J0 (p1).toNatClampNeg)) - (1 : Int32))]) (rest := []) hx hb hml hown hts hK hZ hA hP hD hS hl.1 mf_X4_within kl_X4_50 ⟨rfl, rfl, Nat.le_of_ble_eq_true rfl, Nat.le_of_ble_eq_true rfl⟩ ⟨Nat.zero_le _, Nat.zero_le _⟩ [] rfl rfl (hX4_within l D K G p2 (0 : Int32) ((s_size (j_s J0 (p1).toNatClampNeg)) - (1 : Int32)) _) rfl rfl (Nat.le_of_ble_eq_true rfl) dX4_write_32) hA hP hD hS [] rfl (fun H locs hP hS => ?_)
    refine lv_if_ne (tgt := 44) hx hb dX4_write_35 (by decide) (fun c12 => ?_) (fun c12 => ?_)
    · have hV := hV.trans (if_neg c12)
      have hk := hk.2 c12
      refine lv_aload_n hx hb dX4_write_44 rfl (lv_at hl 1 rfl) ?_
      refine gf_X4_31 (v := .ref (a 18)) hx hb hts hown hK hZ hP (0) rfl rfl dX4_write_45 ?_
      refine lv_iload_n hx hb dX4_write_48 rfl (lv_at hl 2 rfl) ?_
      obtain ⟨h13, hk⟩ := hk
      refine j_aald hx hb hK hP h13 dX4_write_49 ?_
      refine lv_iload_n hx hb dX4_write_50 rfl (lv_at hl 3 rfl) ?_
      refine lv_iload_n hx hb dX4_write_51 rfl (lv_at hl 4 rfl) ?_
      obtain ⟨h14, hk⟩ := hk
      refine jcv (jrunV (As := [.int p2, .int p3]) (rest := []) hx hb hml hown hts hK hZ hA hP hD hS hl.1 mf_X2_put kl_X4_218 ⟨rfl, rfl, Nat.le_of_ble_eq_true rfl, Nat.le_of_ble_eq_true rfl⟩ ⟨Nat.zero_le _, Nat.zero_le _⟩ [19 + 2 * (p1).toNatClampNeg, 20 + 2 * (p1).toNatClampNeg] (jnd2 _) (wJ_sC D K _ _ ((jlt4 h13))) rfl rfl rfl (hX2_put l D K G (fun k => a (19 + 2 * (p1).toNatClampNeg + k)) (j_s J0 (p1).toNatClampNeg) p2 p3 h14 _) rfl rfl (Nat.le_of_ble_eq_true rfl) dX4_write_52) hA hP hD hS [19 + 2 * (p1).toNatClampNeg, 20 + 2 * (p1).toNatClampNeg] (wJ_sC D K _ _ ((jlt4 h13))) rfl (fun H locs hP hD hS => ?_)
      have hP := jeP (wJ_sP D K _ _ _ ((jlt4 h13))) hP
      have hD := jeD (wJ_sP D K _ _ _ ((jlt4 h13))) hD
      refine lv_iconst (v := (1 : Int32)) hx hb dX4_write_55 (by decide) ?_
      exact hend _ _ _ _ _ (by rw [hV]; exact hP) (by rw [hV]; exact hD) hS (by rw [hV]) rfl dX4_write_56
    · have hV := hV.trans (if_pos c12)
      have hk := hk.1 c12
      refine lv_aload_n hx hb dX4_write_38 rfl (lv_at hl 1 rfl) ?_
      refine lv_iconst (v := (0 : Int32)) hx hb dX4_write_39 (by decide) ?_
      obtain ⟨h15, hk⟩ := hk
      refine jci (jrunV (As := [.int (0 : Int32)]) (rest := []) hx hb hml hown hts hK hZ hA hP hD hS hl.1 mf_X4_tell kl_X4_60 ⟨rfl, rfl, Nat.le_of_ble_eq_true rfl, Nat.le_of_ble_eq_true rfl⟩ ⟨Nat.zero_le _, Nat.zero_le _⟩ [0, 1, 2, 3, 4, 5, 6, 7, 8, 9, 10, 11, 12, 13, 14, 15, 16, 17, 18, 19, 20, 21, 22, 23, 24, 25, 26, 27, 28, 29] rfl (js45 K a J0) rfl rfl rfl (hX4_tell l D K G a J0 (0 : Int32) h15 _) rfl rfl (Nat.le_of_ble_eq_true rfl) dX4_write_40) hA hP hD hS [0, 1, 2, 3, 4, 5, 6, 7, 8, 9, 10, 11, 12, 13, 14, 15, 16, 17, 18, 19, 20, 21, 22, 23, 24, 25, 26, 27, 28, 29] (js45 K a J0) (jh52 K a J0 ((vX4_tell J0 (0 : Int32)).2)) (fun H locs hP hD hS => ?_)
      have hP := jeP (jp53 K a J0 ((vX4_tell J0 (0 : Int32)).2)) hP
      have hD := jeD (jp53 K a J0 ((vX4_tell J0 (0 : Int32)).2)) hD
      exact hend _ _ _ _ _ (by rw [hV]; exact hP) (by rw [hV]; exact hD) hS (by rw [hV]) rfl dX4_write_43
  · have hV := hV.trans (if_neg c10)
    have hk := hk.2 c10
    refine lv_aload_n hx hb dX4_write_12 rfl (lv_at hl 1 rfl) ?_
    refine lv_iload hx hb dX4_write_13 (lv_at hl 0 rfl) ?_
    obtain ⟨h16, hk⟩ := hk
    refine jci (jrunV (As := [.int (vX4_lackOf J0 p1)]) (rest := []) hx hb hml hown hts hK hZ hA hP hD hS hl.1 mf_X4_tell kl_X4_60 ⟨rfl, rfl, Nat.le_of_ble_eq_true rfl, Nat.le_of_ble_eq_true rfl⟩ ⟨Nat.zero_le _, Nat.zero_le _⟩ [0, 1, 2, 3, 4, 5, 6, 7, 8, 9, 10, 11, 12, 13, 14, 15, 16, 17, 18, 19, 20, 21, 22, 23, 24, 25, 26, 27, 28, 29] rfl (js45 K a J0) rfl rfl rfl (hX4_tell l D K G a J0 (vX4_lackOf J0 p1) h16 _) rfl rfl (Nat.le_of_ble_eq_true rfl) dX4_write_15) hA hP hD hS [0, 1, 2, 3, 4, 5, 6, 7, 8, 9, 10, 11, 12, 13, 14, 15, 16, 17, 18, 19, 20, 21, 22, 23, 24, 25, 26, 27, 28, 29] (js45 K a J0) (jh52 K a J0 ((vX4_tell J0 (vX4_lackOf J0 p1)).2)) (fun H locs hP hD hS => ?_)
    have hP := jeP (jp53 K a J0 ((vX4_tell J0 (vX4_lackOf J0 p1)).2)) hP
    have hD := jeD (jp53 K a J0 ((vX4_tell J0 (vX4_lackOf J0 p1)).2)) hD
    exact hend _ _ _ _ _ (by rw [hV]; exact hP) (by rw [hV]; exact hD) hS (by rw [hV]) rfl dX4_write_18
