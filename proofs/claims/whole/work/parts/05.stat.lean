theorem dJ6_bitCount_0f7a4_0 : decode cJ6_bitCount_0f7a4 0 = .ok (.iload_n 0, 1) := by decide +kernel
theorem dJ6_bitCount_0f7a4_1 : decode cJ6_bitCount_0f7a4 1 = .ok (.iload_n 0, 1) := by decide +kernel
theorem dJ6_bitCount_0f7a4_2 : decode cJ6_bitCount_0f7a4 2 = .ok (.iconst 1, 1) := by decide +kernel
theorem dJ6_bitCount_0f7a4_3 : decode cJ6_bitCount_0f7a4 3 = .ok (.iushr, 1) := by decide +kernel
theorem dJ6_bitCount_0f7a4_4 : decode cJ6_bitCount_0f7a4 4 = .ok (.ldc_w 265, 3) := by decide +kernel
theorem dJ6_bitCount_0f7a4_7 : decode cJ6_bitCount_0f7a4 7 = .ok (.iand, 1) := by decide +kernel
theorem dJ6_bitCount_0f7a4_8 : decode cJ6_bitCount_0f7a4 8 = .ok (.isub, 1) := by decide +kernel
theorem dJ6_bitCount_0f7a4_9 : decode cJ6_bitCount_0f7a4 9 = .ok (.istore_n 0, 1) := by decide +kernel
theorem dJ6_bitCount_0f7a4_10 : decode cJ6_bitCount_0f7a4 10 = .ok (.iload_n 0, 1) := by decide +kernel
theorem dJ6_bitCount_0f7a4_11 : decode cJ6_bitCount_0f7a4 11 = .ok (.ldc_w 266, 3) := by decide +kernel
theorem dJ6_bitCount_0f7a4_14 : decode cJ6_bitCount_0f7a4 14 = .ok (.iand, 1) := by decide +kernel
theorem dJ6_bitCount_0f7a4_15 : decode cJ6_bitCount_0f7a4 15 = .ok (.iload_n 0, 1) := by decide +kernel
theorem dJ6_bitCount_0f7a4_16 : decode cJ6_bitCount_0f7a4 16 = .ok (.iconst 2, 1) := by decide +kernel
theorem dJ6_bitCount_0f7a4_17 : decode cJ6_bitCount_0f7a4 17 = .ok (.iushr, 1) := by decide +kernel
theorem dJ6_bitCount_0f7a4_18 : decode cJ6_bitCount_0f7a4 18 = .ok (.ldc_w 266, 3) := by decide +kernel
theorem dJ6_bitCount_0f7a4_21 : decode cJ6_bitCount_0f7a4 21 = .ok (.iand, 1) := by decide +kernel
theorem dJ6_bitCount_0f7a4_22 : decode cJ6_bitCount_0f7a4 22 = .ok (.iadd, 1) := by decide +kernel
theorem dJ6_bitCount_0f7a4_23 : decode cJ6_bitCount_0f7a4 23 = .ok (.istore_n 0, 1) := by decide +kernel
theorem dJ6_bitCount_0f7a4_24 : decode cJ6_bitCount_0f7a4 24 = .ok (.iload_n 0, 1) := by decide +kernel
theorem dJ6_bitCount_0f7a4_25 : decode cJ6_bitCount_0f7a4 25 = .ok (.iload_n 0, 1) := by decide +kernel
theorem dJ6_bitCount_0f7a4_26 : decode cJ6_bitCount_0f7a4 26 = .ok (.iconst 4, 1) := by decide +kernel
theorem dJ6_bitCount_0f7a4_27 : decode cJ6_bitCount_0f7a4 27 = .ok (.iushr, 1) := by decide +kernel
theorem dJ6_bitCount_0f7a4_28 : decode cJ6_bitCount_0f7a4 28 = .ok (.iadd, 1) := by decide +kernel
theorem dJ6_bitCount_0f7a4_29 : decode cJ6_bitCount_0f7a4 29 = .ok (.ldc_w 267, 3) := by decide +kernel
theorem dJ6_bitCount_0f7a4_32 : decode cJ6_bitCount_0f7a4 32 = .ok (.iand, 1) := by decide +kernel
theorem dJ6_bitCount_0f7a4_33 : decode cJ6_bitCount_0f7a4 33 = .ok (.istore_n 0, 1) := by decide +kernel
theorem dJ6_bitCount_0f7a4_34 : decode cJ6_bitCount_0f7a4 34 = .ok (.iload_n 0, 1) := by decide +kernel
theorem dJ6_bitCount_0f7a4_35 : decode cJ6_bitCount_0f7a4 35 = .ok (.iload_n 0, 1) := by decide +kernel
theorem dJ6_bitCount_0f7a4_36 : decode cJ6_bitCount_0f7a4 36 = .ok (.bipush 8, 2) := by decide +kernel
theorem dJ6_bitCount_0f7a4_38 : decode cJ6_bitCount_0f7a4 38 = .ok (.iushr, 1) := by decide +kernel
theorem dJ6_bitCount_0f7a4_39 : decode cJ6_bitCount_0f7a4 39 = .ok (.iadd, 1) := by decide +kernel
theorem dJ6_bitCount_0f7a4_40 : decode cJ6_bitCount_0f7a4 40 = .ok (.istore_n 0, 1) := by decide +kernel
theorem dJ6_bitCount_0f7a4_41 : decode cJ6_bitCount_0f7a4 41 = .ok (.iload_n 0, 1) := by decide +kernel
theorem dJ6_bitCount_0f7a4_42 : decode cJ6_bitCount_0f7a4 42 = .ok (.iload_n 0, 1) := by decide +kernel
theorem dJ6_bitCount_0f7a4_43 : decode cJ6_bitCount_0f7a4 43 = .ok (.bipush 16, 2) := by decide +kernel
theorem dJ6_bitCount_0f7a4_45 : decode cJ6_bitCount_0f7a4 45 = .ok (.iushr, 1) := by decide +kernel
theorem dJ6_bitCount_0f7a4_46 : decode cJ6_bitCount_0f7a4 46 = .ok (.iadd, 1) := by decide +kernel
theorem dJ6_bitCount_0f7a4_47 : decode cJ6_bitCount_0f7a4 47 = .ok (.istore_n 0, 1) := by decide +kernel
theorem dJ6_bitCount_0f7a4_48 : decode cJ6_bitCount_0f7a4 48 = .ok (.iload_n 0, 1) := by decide +kernel
theorem dJ6_bitCount_0f7a4_49 : decode cJ6_bitCount_0f7a4 49 = .ok (.bipush 63, 2) := by decide +kernel
theorem dJ6_bitCount_0f7a4_51 : decode cJ6_bitCount_0f7a4 51 = .ok (.iand, 1) := by decide +kernel
theorem dJ6_bitCount_0f7a4_52 : decode cJ6_bitCount_0f7a4 52 = .ok (.ireturn, 1) := by decide +kernel
def rJ6_bitCount_0f7a4 : Room := { frames := 0, cells := 0, slots := 0, locals := 0 }
def vJ6_bitCount_0f7a4 (p0 : Int32) : Int32 := ((((((((p0 - ((jushr p0 (1 : Int32)) &&& (1431655765 : Int32))) &&& (858993459 : Int32)) + ((jushr (p0 - ((jushr p0 (1 : Int32)) &&& (1431655765 : Int32))) (2 : Int32)) &&& (858993459 : Int32))) + (jushr (((p0 - ((jushr p0 (1 : Int32)) &&& (1431655765 : Int32))) &&& (858993459 : Int32)) + ((jushr (p0 - ((jushr p0 (1 : Int32)) &&& (1431655765 : Int32))) (2 : Int32)) &&& (858993459 : Int32))) (4 : Int32))) &&& (252645135 : Int32)) + (jushr (((((p0 - ((jushr p0 (1 : Int32)) &&& (1431655765 : Int32))) &&& (858993459 : Int32)) + ((jushr (p0 - ((jushr p0 (1 : Int32)) &&& (1431655765 : Int32))) (2 : Int32)) &&& (858993459 : Int32))) + (jushr (((p0 - ((jushr p0 (1 : Int32)) &&& (1431655765 : Int32))) &&& (858993459 : Int32)) + ((jushr (p0 - ((jushr p0 (1 : Int32)) &&& (1431655765 : Int32))) (2 : Int32)) &&& (858993459 : Int32))) (4 : Int32))) &&& (252645135 : Int32)) (8 : Int32))) + (jushr ((((((p0 - ((jushr p0 (1 : Int32)) &&& (1431655765 : Int32))) &&& (858993459 : Int32)) + ((jushr (p0 - ((jushr p0 (1 : Int32)) &&& (1431655765 : Int32))) (2 : Int32)) &&& (858993459 : Int32))) + (jushr (((p0 - ((jushr p0 (1 : Int32)) &&& (1431655765 : Int32))) &&& (858993459 : Int32)) + ((jushr (p0 - ((jushr p0 (1 : Int32)) &&& (1431655765 : Int32))) (2 : Int32)) &&& (858993459 : Int32))) (4 : Int32))) &&& (252645135 : Int32)) + (jushr (((((p0 - ((jushr p0 (1 : Int32)) &&& (1431655765 : Int32))) &&& (858993459 : Int32)) + ((jushr (p0 - ((jushr p0 (1 : Int32)) &&& (1431655765 : Int32))) (2 : Int32)) &&& (858993459 : Int32))) + (jushr (((p0 - ((jushr p0 (1 : Int32)) &&& (1431655765 : Int32))) &&& (858993459 : Int32)) + ((jushr (p0 - ((jushr p0 (1 : Int32)) &&& (1431655765 : Int32))) (2 : Int32)) &&& (858993459 : Int32))) (4 : Int32))) &&& (252645135 : Int32)) (8 : Int32))) (16 : Int32))) &&& (63 : Int32))
set_option maxHeartbeats 4000000 in
set_option maxRecDepth 100000 in
theorem hJ6_bitCount_0f7a4 (l : Launch) (D : va_G) (K : JK) (G : JG) (p0 : Int32) (sz : Nat) : Met l yJ6_bitCount_0f7a4 (.code yJ6_bitCount_0f7a4 cJ6_bitCount_0f7a4 1 (some .int) :: jGW) rJ6_bitCount_0f7a4 (jPre D (jT K) G [.int p0] ([] : va_W) sz) (jQi D (jT K) (vJ6_bitCount_0f7a4 p0) ([] : va_W) (va_A ([] : va_W) sz)) 0 0 (va_A ([] : va_W) sz) := by
  refine jEi (by decide) (Nat.le_of_ble_eq_true rfl) (fun p e s m below meth c A Q ls hat hP hD hS hl hend => ?_)
  obtain ⟨hx, hb, hml, hown, hts, hK, hZ, hA⟩ := hat
  have hl : lv_has ls 1 [(0, .int p0)] := hl
  have hV := vJ6_bitCount_0f7a4.eq_1 p0
  refine lv_iload_n hx hb dJ6_bitCount_0f7a4_0 rfl (lv_at hl 0 rfl) ?_
  refine lv_iload_n hx hb dJ6_bitCount_0f7a4_1 rfl (lv_at hl 0 rfl) ?_
  refine lv_iconst (v := (1 : Int32)) hx hb dJ6_bitCount_0f7a4_2 (by decide) ?_
  refine j_iushr hx hb dJ6_bitCount_0f7a4_3 ?_
  refine lv_ldcw (v := (1431655765 : Int32)) hx hb hown (hts _ kc_J6_265) dJ6_bitCount_0f7a4_4 ?_
  refine lv_iand hx hb dJ6_bitCount_0f7a4_7 ?_
  refine lv_isub hx hb dJ6_bitCount_0f7a4_8 ?_
  refine lv_istore_n (lv' := [(0, .int (p0 - ((jushr p0 (1 : Int32)) &&& (1431655765 : Int32))))]) hx hb dJ6_bitCount_0f7a4_9 rfl hl (by decide) rfl (fun ls hl => ?_)
  refine lv_iload_n hx hb dJ6_bitCount_0f7a4_10 rfl (lv_at hl 0 rfl) ?_
  refine lv_ldcw (v := (858993459 : Int32)) hx hb hown (hts _ kc_J6_266) dJ6_bitCount_0f7a4_11 ?_
  refine lv_iand hx hb dJ6_bitCount_0f7a4_14 ?_
  refine lv_iload_n hx hb dJ6_bitCount_0f7a4_15 rfl (lv_at hl 0 rfl) ?_
  refine lv_iconst (v := (2 : Int32)) hx hb dJ6_bitCount_0f7a4_16 (by decide) ?_
  refine j_iushr hx hb dJ6_bitCount_0f7a4_17 ?_
  refine lv_ldcw (v := (858993459 : Int32)) hx hb hown (hts _ kc_J6_266) dJ6_bitCount_0f7a4_18 ?_
  refine lv_iand hx hb dJ6_bitCount_0f7a4_21 ?_
  refine lv_iadd hx hb dJ6_bitCount_0f7a4_22 ?_
  refine lv_istore_n (lv' := [(0, .int (((p0 - ((jushr p0 (1 : Int32)) &&& (1431655765 : Int32))) &&& (858993459 : Int32)) + ((jushr (p0 - ((jushr p0 (1 : Int32)) &&& (1431655765 : Int32))) (2 : Int32)) &&& (858993459 : Int32))))]) hx hb dJ6_bitCount_0f7a4_23 rfl hl (by decide) rfl (fun ls hl => ?_)
  refine lv_iload_n hx hb dJ6_bitCount_0f7a4_24 rfl (lv_at hl 0 rfl) ?_
  refine lv_iload_n hx hb dJ6_bitCount_0f7a4_25 rfl (lv_at hl 0 rfl) ?_
  refine lv_iconst (v := (4 : Int32)) hx hb dJ6_bitCount_0f7a4_26 (by decide) ?_
  refine j_iushr hx hb dJ6_bitCount_0f7a4_27 ?_
  refine lv_iadd hx hb dJ6_bitCount_0f7a4_28 ?_
  refine lv_ldcw (v := (252645135 : Int32)) hx hb hown (hts _ kc_J6_267) dJ6_bitCount_0f7a4_29 ?_
  refine lv_iand hx hb dJ6_bitCount_0f7a4_32 ?_
  refine lv_istore_n (lv' := [(0, .int (((((p0 - ((jushr p0 (1 : Int32)) &&& (1431655765 : Int32))) &&& (858993459 : Int32)) + ((jushr (p0 - ((jushr p0 (1 : Int32)) &&& (1431655765 : Int32))) (2 : Int32)) &&& (858993459 : Int32))) + (jushr (((p0 - ((jushr p0 (1 : Int32)) &&& (1431655765 : Int32))) &&& (858993459 : Int32)) + ((jushr (p0 - ((jushr p0 (1 : Int32)) &&& (1431655765 : Int32))) (2 : Int32)) &&& (858993459 : Int32))) (4 : Int32))) &&& (252645135 : Int32)))]) hx hb dJ6_bitCount_0f7a4_33 rfl hl (by decide) rfl (fun ls hl => ?_)
  refine lv_iload_n hx hb dJ6_bitCount_0f7a4_34 rfl (lv_at hl 0 rfl) ?_
  refine lv_iload_n hx hb dJ6_bitCount_0f7a4_35 rfl (lv_at hl 0 rfl) ?_
  refine lv_bipush (v := (8 : Int32)) hx hb dJ6_bitCount_0f7a4_36 (by decide) ?_
  refine j_iushr hx hb dJ6_bitCount_0f7a4_38 ?_
  refine lv_iadd hx hb dJ6_bitCount_0f7a4_39 ?_
  refine lv_istore_n (lv' := [(0, .int ((((((p0 - ((jushr p0 (1 : Int32)) &&& (1431655765 : Int32))) &&& (858993459 : Int32)) + ((jushr (p0 - ((jushr p0 (1 : Int32)) &&& (1431655765 : Int32))) (2 : Int32)) &&& (858993459 : Int32))) + (jushr (((p0 - ((jushr p0 (1 : Int32)) &&& (1431655765 : Int32))) &&& (858993459 : Int32)) + ((jushr (p0 - ((jushr p0 (1 : Int32)) &&& (1431655765 : Int32))) (2 : Int32)) &&& (858993459 : Int32))) (4 : Int32))) &&& (252645135 : Int32)) + (jushr (((((p0 - ((jushr p0 (1 : Int32)) &&& (1431655765 : Int32))) &&& (858993459 : Int32)) + ((jushr (p0 - ((jushr p0 (1 : Int32)) &&& (1431655765 : Int32))) (2 : Int32)) &&& (858993459 : Int32))) + (jushr (((p0 - ((jushr p0 (1 : Int32)) &&& (1431655765 : Int32))) &&& (858993459 : Int32)) + ((jushr (p0 - ((jushr p0 (1 : Int32)) &&& (1431655765 : Int32))) (2 : Int32)) &&& (858993459 : Int32))) (4 : Int32))) &&& (252645135 : Int32)) (8 : Int32))))]) hx hb dJ6_bitCount_0f7a4_40 rfl hl (by decide) rfl (fun ls hl => ?_)
  refine lv_iload_n hx hb dJ6_bitCount_0f7a4_41 rfl (lv_at hl 0 rfl) ?_
  refine lv_iload_n hx hb dJ6_bitCount_0f7a4_42 rfl (lv_at hl 0 rfl) ?_
  refine lv_bipush (v := (16 : Int32)) hx hb dJ6_bitCount_0f7a4_43 (by decide) ?_
  refine j_iushr hx hb dJ6_bitCount_0f7a4_45 ?_
  refine lv_iadd hx hb dJ6_bitCount_0f7a4_46 ?_
  refine lv_istore_n (lv' := [(0, .int (((((((p0 - ((jushr p0 (1 : Int32)) &&& (1431655765 : Int32))) &&& (858993459 : Int32)) + ((jushr (p0 - ((jushr p0 (1 : Int32)) &&& (1431655765 : Int32))) (2 : Int32)) &&& (858993459 : Int32))) + (jushr (((p0 - ((jushr p0 (1 : Int32)) &&& (1431655765 : Int32))) &&& (858993459 : Int32)) + ((jushr (p0 - ((jushr p0 (1 : Int32)) &&& (1431655765 : Int32))) (2 : Int32)) &&& (858993459 : Int32))) (4 : Int32))) &&& (252645135 : Int32)) + (jushr (((((p0 - ((jushr p0 (1 : Int32)) &&& (1431655765 : Int32))) &&& (858993459 : Int32)) + ((jushr (p0 - ((jushr p0 (1 : Int32)) &&& (1431655765 : Int32))) (2 : Int32)) &&& (858993459 : Int32))) + (jushr (((p0 - ((jushr p0 (1 : Int32)) &&& (1431655765 : Int32))) &&& (858993459 : Int32)) + ((jushr (p0 - ((jushr p0 (1 : Int32)) &&& (1431655765 : Int32))) (2 : Int32)) &&& (858993459 : Int32))) (4 : Int32))) &&& (252645135 : Int32)) (8 : Int32))) + (jushr ((((((p0 - ((jushr p0 (1 : Int32)) &&& (1431655765 : Int32))) &&& (858993459 : Int32)) + ((jushr (p0 - ((jushr p0 (1 : Int32)) &&& (1431655765 : Int32))) (2 : Int32)) &&& (858993459 : Int32))) + (jushr (((p0 - ((jushr p0 (1 : Int32)) &&& (1431655765 : Int32))) &&& (858993459 : Int32)) + ((jushr (p0 - ((jushr p0 (1 : Int32)) &&& (1431655765 : Int32))) (2 : Int32)) &&& (858993459 : Int32))) (4 : Int32))) &&& (252645135 : Int32)) + (jushr (((((p0 - ((jushr p0 (1 : Int32)) &&& (1431655765 : Int32))) &&& (858993459 : Int32)) + ((jushr (p0 - ((jushr p0 (1 : Int32)) &&& (1431655765 : Int32))) (2 : Int32)) &&& (858993459 : Int32))) + (jushr (((p0 - ((jushr p0 (1 : Int32)) &&& (1431655765 : Int32))) &&& (858993459 : Int32)) + ((jushr (p0 - ((jushr p0 (1 : Int32)) &&& (1431655765 : Int32))) (2 : Int32)) &&& (858993459 : Int32))) (4 : Int32))) &&& (252645135 : Int32)) (8 : Int32))) (16 : Int32))))]) hx hb dJ6_bitCount_0f7a4_47 rfl hl (by decide) rfl (fun ls hl => ?_)
  refine lv_iload_n hx hb dJ6_bitCount_0f7a4_48 rfl (lv_at hl 0 rfl) ?_
  refine lv_bipush (v := (63 : Int32)) hx hb dJ6_bitCount_0f7a4_49 (by decide) ?_
  refine lv_iand hx hb dJ6_bitCount_0f7a4_51 ?_
  exact hend _ _ _ _ _ hP hD hS hV.symm rfl dJ6_bitCount_0f7a4_52
theorem dX1_lives_0 : decode cX1_lives 0 = .ok (.iload_n 0, 1) := by decide +kernel
theorem dX1_lives_1 : decode cX1_lives 1 = .ok (.tableswitch 65 1 6 #[39, 47, 51, 55, 61, 43], 39) := by decide +kernel
theorem dX1_lives_40 : decode cX1_lives 40 = .ok (.sipush 400, 3) := by decide +kernel
theorem dX1_lives_43 : decode cX1_lives 43 = .ok (.ireturn, 1) := by decide +kernel
theorem dX1_lives_44 : decode cX1_lives 44 = .ok (.sipush 200, 3) := by decide +kernel
theorem dX1_lives_47 : decode cX1_lives 47 = .ok (.ireturn, 1) := by decide +kernel
theorem dX1_lives_48 : decode cX1_lives 48 = .ok (.sipush 1000, 3) := by decide +kernel
theorem dX1_lives_51 : decode cX1_lives 51 = .ok (.ireturn, 1) := by decide +kernel
theorem dX1_lives_52 : decode cX1_lives 52 = .ok (.sipush 200, 3) := by decide +kernel
theorem dX1_lives_55 : decode cX1_lives 55 = .ok (.ireturn, 1) := by decide +kernel
theorem dX1_lives_56 : decode cX1_lives 56 = .ok (.sipush 200, 3) := by decide +kernel
theorem dX1_lives_59 : decode cX1_lives 59 = .ok (.iload_n 1, 1) := by decide +kernel
theorem dX1_lives_60 : decode cX1_lives 60 = .ok (.iadd, 1) := by decide +kernel
theorem dX1_lives_61 : decode cX1_lives 61 = .ok (.ireturn, 1) := by decide +kernel
theorem dX1_lives_62 : decode cX1_lives 62 = .ok (.sipush 300, 3) := by decide +kernel
theorem dX1_lives_65 : decode cX1_lives 65 = .ok (.ireturn, 1) := by decide +kernel
theorem dX1_lives_66 : decode cX1_lives 66 = .ok (.sipush 500, 3) := by decide +kernel
theorem dX1_lives_69 : decode cX1_lives 69 = .ok (.ireturn, 1) := by decide +kernel
def rX1_lives : Room := { frames := 0, cells := 0, slots := 0, locals := 0 }
def vX1_lives (p0 : Int32) (p1 : Int32) : Int32 := if (p0 = (1 : Int32)) then (400 : Int32) else if (p0 = (2 : Int32)) then (1000 : Int32) else if (p0 = (3 : Int32)) then (200 : Int32) else if (p0 = (4 : Int32)) then ((200 : Int32) + p1) else if (p0 = (5 : Int32)) then (300 : Int32) else if (p0 = (6 : Int32)) then (200 : Int32) else (500 : Int32)
set_option maxHeartbeats 4000000 in
set_option maxRecDepth 100000 in
theorem hX1_lives (l : Launch) (D : va_G) (K : JK) (G : JG) (p0 : Int32) (p1 : Int32) (sz : Nat) : Met l yX1_lives (.code yX1_lives cX1_lives 2 (some .int) :: jGW) rX1_lives (jPre D (jT K) G [.int p0, .int p1] ([] : va_W) sz) (jQi D (jT K) (vX1_lives p0 p1) ([] : va_W) (va_A ([] : va_W) sz)) 0 0 (va_A ([] : va_W) sz) := by
  refine jEi (by decide) (Nat.le_of_ble_eq_true rfl) (fun p e s m below meth c A Q ls hat hP hD hS hl hend => ?_)
  obtain ⟨hx, hb, hml, hown, hts, hK, hZ, hA⟩ := hat
  have hl : lv_has ls 2 [(0, .int p0), (1, .int p1)] := hl
  have hV := vX1_lives.eq_1 p0 p1
  refine lv_iload_n hx hb dX1_lives_0 rfl (lv_at hl 0 rfl) ?_
  by_cases c7 : (p0 = (1 : Int32))
  · have hV := hV.trans (if_pos c7)
    refine lv_tableIn (off := 39) (tgt := 40) hx hb dX1_lives_1 (by rw [c7]; decide) (by rw [c7]; decide) (by rw [c7]; rfl) (by decide) ?_
    refine lv_sipush (v := (400 : Int32)) hx hb dX1_lives_40 (by decide) ?_
    exact hend _ _ _ _ _ hP hD hS hV.symm rfl dX1_lives_43
  · have hV := hV.trans (if_neg c7)
    by_cases c8 : (p0 = (2 : Int32))
    · have hV := hV.trans (if_pos c8)
      refine lv_tableIn (off := 47) (tgt := 48) hx hb dX1_lives_1 (by rw [c8]; decide) (by rw [c8]; decide) (by rw [c8]; rfl) (by decide) ?_
      refine lv_sipush (v := (1000 : Int32)) hx hb dX1_lives_48 (by decide) ?_
      exact hend _ _ _ _ _ hP hD hS hV.symm rfl dX1_lives_51
    · have hV := hV.trans (if_neg c8)
      by_cases c9 : (p0 = (3 : Int32))
      · have hV := hV.trans (if_pos c9)
        refine lv_tableIn (off := 51) (tgt := 52) hx hb dX1_lives_1 (by rw [c9]; decide) (by rw [c9]; decide) (by rw [c9]; rfl) (by decide) ?_
        refine lv_sipush (v := (200 : Int32)) hx hb dX1_lives_52 (by decide) ?_
        exact hend _ _ _ _ _ hP hD hS hV.symm rfl dX1_lives_55
      · have hV := hV.trans (if_neg c9)
        by_cases c10 : (p0 = (4 : Int32))
        · have hV := hV.trans (if_pos c10)
          refine lv_tableIn (off := 55) (tgt := 56) hx hb dX1_lives_1 (by rw [c10]; decide) (by rw [c10]; decide) (by rw [c10]; rfl) (by decide) ?_
          refine lv_sipush (v := (200 : Int32)) hx hb dX1_lives_56 (by decide) ?_
          refine lv_iload_n hx hb dX1_lives_59 rfl (lv_at hl 1 rfl) ?_
          refine lv_iadd hx hb dX1_lives_60 ?_
          exact hend _ _ _ _ _ hP hD hS hV.symm rfl dX1_lives_61
        · have hV := hV.trans (if_neg c10)
          by_cases c11 : (p0 = (5 : Int32))
          · have hV := hV.trans (if_pos c11)
            refine lv_tableIn (off := 61) (tgt := 62) hx hb dX1_lives_1 (by rw [c11]; decide) (by rw [c11]; decide) (by rw [c11]; rfl) (by decide) ?_
            refine lv_sipush (v := (300 : Int32)) hx hb dX1_lives_62 (by decide) ?_
            exact hend _ _ _ _ _ hP hD hS hV.symm rfl dX1_lives_65
          · have hV := hV.trans (if_neg c11)
            by_cases c12 : (p0 = (6 : Int32))
            · have hV := hV.trans (if_pos c12)
              refine lv_tableIn (off := 43) (tgt := 44) hx hb dX1_lives_1 (by rw [c12]; decide) (by rw [c12]; decide) (by rw [c12]; rfl) (by decide) ?_
              refine lv_sipush (v := (200 : Int32)) hx hb dX1_lives_44 (by decide) ?_
              exact hend _ _ _ _ _ hP hD hS hV.symm rfl dX1_lives_47
            · have hV := hV.trans (if_neg c12)
              refine lv_tableOut (tgt := 66) hx hb dX1_lives_1 (by have n0 := jneL (z := 1) c7 (by decide); have n1 := jneL (z := 2) c8 (by decide); have n2 := jneL (z := 3) c9 (by decide); have n3 := jneL (z := 4) c10 (by decide); have n4 := jneL (z := 5) c11 (by decide); have n5 := jneL (z := 6) c12 (by decide); omega) (by decide) ?_
              refine lv_sipush (v := (500 : Int32)) hx hb dX1_lives_66 (by decide) ?_
              exact hend _ _ _ _ _ hP hD hS hV.symm rfl dX1_lives_69
theorem dX1_shareLeft_0 : decode cX1_shareLeft 0 = .ok (.iload_n 2, 1) := by decide +kernel
theorem dX1_shareLeft_1 : decode cX1_shareLeft 1 = .ok (.ifCond .le 17, 3) := by decide +kernel
theorem dX1_shareLeft_4 : decode cX1_shareLeft 4 = .ok (.iload_n 0, 1) := by decide +kernel
theorem dX1_shareLeft_5 : decode cX1_shareLeft 5 = .ok (.iconst 0, 1) := by decide +kernel
theorem dX1_shareLeft_6 : decode cX1_shareLeft 6 = .ok (.iload_n 2, 1) := by decide +kernel
theorem dX1_shareLeft_7 : decode cX1_shareLeft 7 = .ok (.iload_n 1, 1) := by decide +kernel
theorem dX1_shareLeft_8 : decode cX1_shareLeft 8 = .ok (.isub, 1) := by decide +kernel
theorem dX1_shareLeft_9 : decode cX1_shareLeft 9 = .ok (.invokestatic 27, 3) := by decide +kernel
theorem dX1_shareLeft_12 : decode cX1_shareLeft 12 = .ok (.imul, 1) := by decide +kernel
theorem dX1_shareLeft_13 : decode cX1_shareLeft 13 = .ok (.iload_n 2, 1) := by decide +kernel
theorem dX1_shareLeft_14 : decode cX1_shareLeft 14 = .ok (.idiv, 1) := by decide +kernel
theorem dX1_shareLeft_15 : decode cX1_shareLeft 15 = .ok (.goto 4, 3) := by decide +kernel
theorem dX1_shareLeft_18 : decode cX1_shareLeft 18 = .ok (.iconst 0, 1) := by decide +kernel
theorem dX1_shareLeft_19 : decode cX1_shareLeft 19 = .ok (.ireturn, 1) := by decide +kernel
def rX1_shareLeft : Room := { frames := 1, cells := 0, slots := 0, locals := 14 }
def vX1_shareLeft (p0 : Int32) (p1 : Int32) (p2 : Int32) : Int32 := if (p2 ≤ 0) then (0 : Int32) else ((p0 * (jmax (0 : Int32) (p2 - p1))) / p2)
def kX1_shareLeft (p0 : Int32) (p1 : Int32) (p2 : Int32) : Prop := ((p2 ≤ 0) → True) ∧ (¬ (p2 ≤ 0) → ((¬ p2 = 0) ∧ True))
set_option maxHeartbeats 4000000 in
set_option maxRecDepth 100000 in
theorem hX1_shareLeft (l : Launch) (D : va_G) (K : JK) (G : JG) (p0 : Int32) (p1 : Int32) (p2 : Int32) (hk : kX1_shareLeft p0 p1 p2) (sz : Nat) : Met l yX1_shareLeft (.code yX1_shareLeft cX1_shareLeft 3 (some .int) :: jGW) rX1_shareLeft (jPre D (jT K) G [.int p0, .int p1, .int p2] ([] : va_W) sz) (jQi D (jT K) (vX1_shareLeft p0 p1 p2) ([] : va_W) (va_A ([] : va_W) sz)) 0 0 (va_A ([] : va_W) sz) := by
  refine jEi (by decide) (Nat.le_of_ble_eq_true rfl) (fun p e s m below meth c A Q ls hat hP hD hS hl hend => ?_)
  obtain ⟨hx, hb, hml, hown, hts, hK, hZ, hA⟩ := hat
  have hl : lv_has ls 3 [(0, .int p0), (1, .int p1), (2, .int p2)] := hl
  have hV := vX1_shareLeft.eq_1 p0 p1 p2
  rw [kX1_shareLeft] at hk
  refine lv_iload_n hx hb dX1_shareLeft_0 rfl (lv_at hl 2 rfl) ?_
  refine lv_if_le (tgt := 18) hx hb dX1_shareLeft_1 (by decide) (fun c3 => ?_) (fun c3 => ?_)
  · have hV := hV.trans (if_pos c3)
    have hk := hk.1 c3
    refine lv_iconst (v := (0 : Int32)) hx hb dX1_shareLeft_18 (by decide) ?_
    exact hend _ _ _ _ _ hP hD hS hV.symm rfl dX1_shareLeft_19
  · have hV := hV.trans (if_neg c3)
    have hk := hk.2 c3
    refine lv_iload_n hx hb dX1_shareLeft_4 rfl (lv_at hl 0 rfl) ?_
    refine lv_iconst (v := (0 : Int32)) hx hb dX1_shareLeft_5 (by decide) ?_
    refine lv_iload_n hx hb dX1_shareLeft_6 rfl (lv_at hl 2 rfl) ?_
    refine lv_iload_n hx hb dX1_shareLeft_7 rfl (lv_at hl 1 rfl) ?_
    refine lv_isub hx hb dX1_shareLeft_8 ?_
    refine mmax_X1_27 hx hb (hml.trans hl.1.symm) hts hown (Nat.le_of_ble_eq_true rfl) (Nat.le_of_ble_eq_true rfl) (Nat.zero_le _) (Nat.zero_le _) dX1_shareLeft_9 ?_
    refine lv_imul hx hb dX1_shareLeft_12 ?_
    refine lv_iload_n hx hb dX1_shareLeft_13 rfl (lv_at hl 2 rfl) ?_
    obtain ⟨h4, hk⟩ := hk
    refine lv_idiv hx hb dX1_shareLeft_14 h4 ?_
    refine lv_goto (tgt := 19) hx hb dX1_shareLeft_15 (by decide) ?_
    exact hend _ _ _ _ _ hP hD hS hV.symm rfl dX1_shareLeft_19
theorem dX1_worth_0 : decode cX1_worth 0 = .ok (.iload_n 0, 1) := by decide +kernel
theorem dX1_worth_1 : decode cX1_worth 1 = .ok (.iload_n 1, 1) := by decide +kernel
theorem dX1_worth_2 : decode cX1_worth 2 = .ok (.invokestatic 19, 3) := by decide +kernel
theorem dX1_worth_5 : decode cX1_worth 5 = .ok (.istore_n 3, 1) := by decide +kernel
theorem dX1_worth_6 : decode cX1_worth 6 = .ok (.iload_n 0, 1) := by decide +kernel
theorem dX1_worth_7 : decode cX1_worth 7 = .ok (.tableswitch 76 1 6 #[37, 53, 55, 64, 76, 37], 37) := by decide +kernel
theorem dX1_worth_44 : decode cX1_worth 44 = .ok (.iload_n 1, 1) := by decide +kernel
theorem dX1_worth_45 : decode cX1_worth 45 = .ok (.bipush 20, 2) := by decide +kernel
theorem dX1_worth_47 : decode cX1_worth 47 = .ok (.iload_n 1, 1) := by decide +kernel
theorem dX1_worth_48 : decode cX1_worth 48 = .ok (.iload_n 2, 1) := by decide +kernel
theorem dX1_worth_49 : decode cX1_worth 49 = .ok (.iload_n 3, 1) := by decide +kernel
theorem dX1_worth_50 : decode cX1_worth 50 = .ok (.invokestatic 23, 3) := by decide +kernel
theorem dX1_worth_53 : decode cX1_worth 53 = .ok (.invokestatic 27, 3) := by decide +kernel
theorem dX1_worth_56 : decode cX1_worth 56 = .ok (.invokestatic 32, 3) := by decide +kernel
theorem dX1_worth_59 : decode cX1_worth 59 = .ok (.ireturn, 1) := by decide +kernel
theorem dX1_worth_60 : decode cX1_worth 60 = .ok (.iload_n 1, 1) := by decide +kernel
theorem dX1_worth_61 : decode cX1_worth 61 = .ok (.ireturn, 1) := by decide +kernel
theorem dX1_worth_62 : decode cX1_worth 62 = .ok (.iload_n 1, 1) := by decide +kernel
theorem dX1_worth_63 : decode cX1_worth 63 = .ok (.iconst 2, 1) := by decide +kernel
theorem dX1_worth_64 : decode cX1_worth 64 = .ok (.idiv, 1) := by decide +kernel
theorem dX1_worth_65 : decode cX1_worth 65 = .ok (.iload_n 2, 1) := by decide +kernel
theorem dX1_worth_66 : decode cX1_worth 66 = .ok (.iload_n 3, 1) := by decide +kernel
theorem dX1_worth_67 : decode cX1_worth 67 = .ok (.invokestatic 23, 3) := by decide +kernel
theorem dX1_worth_70 : decode cX1_worth 70 = .ok (.ireturn, 1) := by decide +kernel
theorem dX1_worth_71 : decode cX1_worth 71 = .ok (.iload_n 1, 1) := by decide +kernel
theorem dX1_worth_72 : decode cX1_worth 72 = .ok (.iconst 2, 1) := by decide +kernel
theorem dX1_worth_73 : decode cX1_worth 73 = .ok (.idiv, 1) := by decide +kernel
theorem dX1_worth_74 : decode cX1_worth 74 = .ok (.iload_n 2, 1) := by decide +kernel
theorem dX1_worth_75 : decode cX1_worth 75 = .ok (.iload_n 3, 1) := by decide +kernel
theorem dX1_worth_76 : decode cX1_worth 76 = .ok (.invokestatic 23, 3) := by decide +kernel
theorem dX1_worth_79 : decode cX1_worth 79 = .ok (.bipush 50, 2) := by decide +kernel
theorem dX1_worth_81 : decode cX1_worth 81 = .ok (.iadd, 1) := by decide +kernel
theorem dX1_worth_82 : decode cX1_worth 82 = .ok (.ireturn, 1) := by decide +kernel
theorem dX1_worth_83 : decode cX1_worth 83 = .ok (.iload_n 1, 1) := by decide +kernel
theorem dX1_worth_84 : decode cX1_worth 84 = .ok (.iload_n 2, 1) := by decide +kernel
theorem dX1_worth_85 : decode cX1_worth 85 = .ok (.iload_n 3, 1) := by decide +kernel
theorem dX1_worth_86 : decode cX1_worth 86 = .ok (.invokestatic 23, 3) := by decide +kernel
theorem dX1_worth_89 : decode cX1_worth 89 = .ok (.ireturn, 1) := by decide +kernel
def rX1_worth : Room := { frames := 2, cells := 0, slots := 0, locals := 36 }
def vX1_worth_c83 (p0 : Int32) (p1 : Int32) (p2 : Int32) (x3 : Int32) : Int32 := (vX1_shareLeft p1 p2 x3)
def kX1_worth_c83 (p0 : Int32) (p1 : Int32) (p2 : Int32) (x3 : Int32) : Prop := (kX1_shareLeft p1 p2 x3) ∧ True
def vX1_worth_c44 (p0 : Int32) (p1 : Int32) (p2 : Int32) (x3 : Int32) : Int32 := (jmin p1 (jmax (20 : Int32) (vX1_shareLeft p1 p2 x3)))
def kX1_worth_c44 (p0 : Int32) (p1 : Int32) (p2 : Int32) (x3 : Int32) : Prop := (kX1_shareLeft p1 p2 x3) ∧ True
def vX1_worth (p0 : Int32) (p1 : Int32) (p2 : Int32) : Int32 := if (p0 = (1 : Int32)) then (vX1_worth_c44 p0 p1 p2 (vX1_lives p0 p1)) else if (p0 = (2 : Int32)) then p1 else if (p0 = (3 : Int32)) then (vX1_shareLeft (p1 / (2 : Int32)) p2 (vX1_lives p0 p1)) else if (p0 = (4 : Int32)) then ((vX1_shareLeft (p1 / (2 : Int32)) p2 (vX1_lives p0 p1)) + (50 : Int32)) else if (p0 = (5 : Int32)) then (vX1_worth_c83 p0 p1 p2 (vX1_lives p0 p1)) else if (p0 = (6 : Int32)) then (vX1_worth_c44 p0 p1 p2 (vX1_lives p0 p1)) else (vX1_worth_c83 p0 p1 p2 (vX1_lives p0 p1))
def kX1_worth (p0 : Int32) (p1 : Int32) (p2 : Int32) : Prop := ((p0 = (1 : Int32)) → ((kX1_worth_c44 p0 p1 p2 (vX1_lives p0 p1)))) ∧ (¬ (p0 = (1 : Int32)) → (((p0 = (2 : Int32)) → True) ∧ (¬ (p0 = (2 : Int32)) → (((p0 = (3 : Int32)) → ((kX1_shareLeft (p1 / (2 : Int32)) p2 (vX1_lives p0 p1)) ∧ True)) ∧ (¬ (p0 = (3 : Int32)) → (((p0 = (4 : Int32)) → ((kX1_shareLeft (p1 / (2 : Int32)) p2 (vX1_lives p0 p1)) ∧ True)) ∧ (¬ (p0 = (4 : Int32)) → (((p0 = (5 : Int32)) → ((kX1_worth_c83 p0 p1 p2 (vX1_lives p0 p1)))) ∧ (¬ (p0 = (5 : Int32)) → (((p0 = (6 : Int32)) → ((kX1_worth_c44 p0 p1 p2 (vX1_lives p0 p1)))) ∧ (¬ (p0 = (6 : Int32)) → ((kX1_worth_c83 p0 p1 p2 (vX1_lives p0 p1))))))))))))))
set_option maxHeartbeats 4000000 in
set_option maxRecDepth 100000 in
theorem hX1_worth (l : Launch) (D : va_G) (K : JK) (G : JG) (p0 : Int32) (p1 : Int32) (p2 : Int32) (hk : kX1_worth p0 p1 p2) (sz : Nat) : Met l yX1_worth (.code yX1_worth cX1_worth 4 (some .int) :: jGW) rX1_worth (jPre D (jT K) G [.int p0, .int p1, .int p2] ([] : va_W) sz) (jQi D (jT K) (vX1_worth p0 p1 p2) ([] : va_W) (va_A ([] : va_W) sz)) 0 0 (va_A ([] : va_W) sz) := by
  refine jEi (by decide) (Nat.le_of_ble_eq_true rfl) (fun p e s m below meth c A Q ls hat hP hD hS hl hend => ?_)
  obtain ⟨hx, hb, hml, hown, hts, hK, hZ, hA⟩ := hat
  have hl : lv_has ls 4 [(0, .int p0), (1, .int p1), (2, .int p2)] := hl
  have hc83 : ∀ (x3 : Int32) (H : Heap) (locs : List Loc) (ls : Array Slot), (vX1_worth p0 p1 p2) = vX1_worth_c83 p0 p1 p2 x3 → kX1_worth_c83 p0 p1 p2 x3 → va_P D vwCl ([] : va_W) H → va_D A ([] : va_W) → va_S A s.heap H locs → lv_has ls 4 [(0, .int p0), (1, .int p1), (2, .int p2), (3, .int x3)] → W p l e rX1_worth s m ([.int p0, .int p1, .int p2] : List Value).toArray below meth c H locs 0 0 Q (F0 m 83 ls []) := by
    intro x3 H locs ls hV hk hP hD hS hl
    rw [vX1_worth_c83] at hV
    rw [kX1_worth_c83] at hk
    refine lv_iload_n hx hb dX1_worth_83 rfl (lv_at hl 1 rfl) ?_
    refine lv_iload_n hx hb dX1_worth_84 rfl (lv_at hl 2 rfl) ?_
    refine lv_iload_n hx hb dX1_worth_85 rfl (lv_at hl 3 rfl) ?_
    obtain ⟨h11, hk⟩ := hk
    refine jci0 (jrunS (As := [.int p1, .int p2, .int x3]) (rest := []) hx hb hml hown hts hK hZ hA hP hD hS hl.1 mf_X1_shareLeft kl_X1_23 ⟨rfl, rfl, Nat.le_of_ble_eq_true rfl, Nat.le_of_ble_eq_true rfl⟩ ⟨Nat.zero_le _, Nat.zero_le _⟩ [] rfl rfl (hX1_shareLeft l D K G p1 p2 x3 h11 _) rfl rfl (Nat.le_of_ble_eq_true rfl) dX1_worth_86) hA hP hD hS [] rfl (fun H locs hP hS => ?_)
    exact hend _ _ _ _ _ hP hD hS hV.symm rfl dX1_worth_89
  have hc44 : ∀ (x3 : Int32) (H : Heap) (locs : List Loc) (ls : Array Slot), (vX1_worth p0 p1 p2) = vX1_worth_c44 p0 p1 p2 x3 → kX1_worth_c44 p0 p1 p2 x3 → va_P D vwCl ([] : va_W) H → va_D A ([] : va_W) → va_S A s.heap H locs → lv_has ls 4 [(0, .int p0), (1, .int p1), (2, .int p2), (3, .int x3)] → W p l e rX1_worth s m ([.int p0, .int p1, .int p2] : List Value).toArray below meth c H locs 0 0 Q (F0 m 44 ls []) := by
    intro x3 H locs ls hV hk hP hD hS hl
    rw [vX1_worth_c44] at hV
    rw [kX1_worth_c44] at hk
    refine lv_iload_n hx hb dX1_worth_44 rfl (lv_at hl 1 rfl) ?_
    refine lv_bipush (v := (20 : Int32)) hx hb dX1_worth_45 (by decide) ?_
    refine lv_iload_n hx hb dX1_worth_47 rfl (lv_at hl 1 rfl) ?_
    refine lv_iload_n hx hb dX1_worth_48 rfl (lv_at hl 2 rfl) ?_
    refine lv_iload_n hx hb dX1_worth_49 rfl (lv_at hl 3 rfl) ?_
    obtain ⟨h12, hk⟩ := hk
    refine jci0 (jrunS (As := [.int p1, .int p2, .int x3]) (rest := [.int (20 : Int32), .int p1]) hx hb hml hown hts hK hZ hA hP hD hS hl.1 mf_X1_shareLeft kl_X1_23 ⟨rfl, rfl, Nat.le_of_ble_eq_true rfl, Nat.le_of_ble_eq_true rfl⟩ ⟨Nat.zero_le _, Nat.zero_le _⟩ [] rfl rfl (hX1_shareLeft l D K G p1 p2 x3 h12 _) rfl rfl (Nat.le_of_ble_eq_true rfl) dX1_worth_50) hA hP hD hS [] rfl (fun H locs hP hS => ?_)
    refine mmax_X1_27 hx hb (hml.trans hl.1.symm) hts hown (Nat.le_of_ble_eq_true rfl) (Nat.le_of_ble_eq_true rfl) (Nat.zero_le _) (Nat.zero_le _) dX1_worth_53 ?_
    refine mmin_X1_32 hx hb (hml.trans hl.1.symm) hts hown (Nat.le_of_ble_eq_true rfl) (Nat.le_of_ble_eq_true rfl) (Nat.zero_le _) (Nat.zero_le _) dX1_worth_56 ?_
    exact hend _ _ _ _ _ hP hD hS hV.symm rfl dX1_worth_59
  have hV := vX1_worth.eq_1 p0 p1 p2
  rw [kX1_worth] at hk
  refine lv_iload_n hx hb dX1_worth_0 rfl (lv_at hl 0 rfl) ?_
  refine lv_iload_n hx hb dX1_worth_1 rfl (lv_at hl 1 rfl) ?_
  refine jci0 (jrunS (As := [.int p0, .int p1]) (rest := []) hx hb hml hown hts hK hZ hA hP hD hS hl.1 mf_X1_lives kl_X1_19 ⟨rfl, rfl, Nat.le_of_ble_eq_true rfl, Nat.le_of_ble_eq_true rfl⟩ ⟨Nat.zero_le _, Nat.zero_le _⟩ [] rfl rfl (hX1_lives l D K G p0 p1 _) rfl rfl (Nat.le_of_ble_eq_true rfl) dX1_worth_2) hA hP hD hS [] rfl (fun H locs hP hS => ?_)
  refine lv_istore_n (lv' := [(3, .int (vX1_lives p0 p1)), (0, .int p0), (1, .int p1), (2, .int p2)]) hx hb dX1_worth_5 rfl hl (by decide) rfl (fun ls hl => ?_)
  refine lv_iload_n hx hb dX1_worth_6 rfl (lv_at hl 1 rfl) ?_
  by_cases c13 : (p0 = (1 : Int32))
  · have hV := hV.trans (if_pos c13)
    have hk := hk.1 c13
    refine lv_tableIn (off := 37) (tgt := 44) hx hb dX1_worth_7 (by rw [c13]; decide) (by rw [c13]; decide) (by rw [c13]; rfl) (by decide) ?_
    exact hc44 (vX1_lives p0 p1) _ _ _ hV hk hP hD hS (lv_sub hl [1, 2, 3, 0] rfl)
  · have hV := hV.trans (if_neg c13)
    have hk := hk.2 c13
    by_cases c14 : (p0 = (2 : Int32))
    · have hV := hV.trans (if_pos c14)
      have hk := hk.1 c14
      refine lv_tableIn (off := 53) (tgt := 60) hx hb dX1_worth_7 (by rw [c14]; decide) (by rw [c14]; decide) (by rw [c14]; rfl) (by decide) ?_
      refine lv_iload_n hx hb dX1_worth_60 rfl (lv_at hl 2 rfl) ?_
      exact hend _ _ _ _ _ hP hD hS hV.symm rfl dX1_worth_61
    · have hV := hV.trans (if_neg c14)
      have hk := hk.2 c14
      by_cases c15 : (p0 = (3 : Int32))
      · have hV := hV.trans (if_pos c15)
        have hk := hk.1 c15
        refine lv_tableIn (off := 55) (tgt := 62) hx hb dX1_worth_7 (by rw [c15]; decide) (by rw [c15]; decide) (by rw [c15]; rfl) (by decide) ?_
        refine lv_iload_n hx hb dX1_worth_62 rfl (lv_at hl 2 rfl) ?_
        refine lv_iconst (v := (2 : Int32)) hx hb dX1_worth_63 (by decide) ?_
        refine lv_idiv hx hb dX1_worth_64 (by decide) ?_
        refine lv_iload_n hx hb dX1_worth_65 rfl (lv_at hl 3 rfl) ?_
        refine lv_iload_n hx hb dX1_worth_66 rfl (lv_at hl 0 rfl) ?_
        obtain ⟨h20, hk⟩ := hk
        refine jci0 (jrunS (As := [.int (p1 / (2 : Int32)), .int p2, .int (vX1_lives p0 p1)]) (rest := []) hx hb hml hown hts hK hZ hA hP hD hS hl.1 mf_X1_shareLeft kl_X1_23 ⟨rfl, rfl, Nat.le_of_ble_eq_true rfl, Nat.le_of_ble_eq_true rfl⟩ ⟨Nat.zero_le _, Nat.zero_le _⟩ [] rfl rfl (hX1_shareLeft l D K G (p1 / (2 : Int32)) p2 (vX1_lives p0 p1) h20 _) rfl rfl (Nat.le_of_ble_eq_true rfl) dX1_worth_67) hA hP hD hS [] rfl (fun H locs hP hS => ?_)
        exact hend _ _ _ _ _ hP hD hS hV.symm rfl dX1_worth_70
      · have hV := hV.trans (if_neg c15)
        have hk := hk.2 c15
        by_cases c16 : (p0 = (4 : Int32))
        · have hV := hV.trans (if_pos c16)
          have hk := hk.1 c16
          refine lv_tableIn (off := 64) (tgt := 71) hx hb dX1_worth_7 (by rw [c16]; decide) (by rw [c16]; decide) (by rw [c16]; rfl) (by decide) ?_
          refine lv_iload_n hx hb dX1_worth_71 rfl (lv_at hl 2 rfl) ?_
          refine lv_iconst (v := (2 : Int32)) hx hb dX1_worth_72 (by decide) ?_
          refine lv_idiv hx hb dX1_worth_73 (by decide) ?_
          refine lv_iload_n hx hb dX1_worth_74 rfl (lv_at hl 3 rfl) ?_
          refine lv_iload_n hx hb dX1_worth_75 rfl (lv_at hl 0 rfl) ?_
          obtain ⟨h19, hk⟩ := hk
          refine jci0 (jrunS (As := [.int (p1 / (2 : Int32)), .int p2, .int (vX1_lives p0 p1)]) (rest := []) hx hb hml hown hts hK hZ hA hP hD hS hl.1 mf_X1_shareLeft kl_X1_23 ⟨rfl, rfl, Nat.le_of_ble_eq_true rfl, Nat.le_of_ble_eq_true rfl⟩ ⟨Nat.zero_le _, Nat.zero_le _⟩ [] rfl rfl (hX1_shareLeft l D K G (p1 / (2 : Int32)) p2 (vX1_lives p0 p1) h19 _) rfl rfl (Nat.le_of_ble_eq_true rfl) dX1_worth_76) hA hP hD hS [] rfl (fun H locs hP hS => ?_)
          refine lv_bipush (v := (50 : Int32)) hx hb dX1_worth_79 (by decide) ?_
          refine lv_iadd hx hb dX1_worth_81 ?_
          exact hend _ _ _ _ _ hP hD hS hV.symm rfl dX1_worth_82
        · have hV := hV.trans (if_neg c16)
          have hk := hk.2 c16
          by_cases c17 : (p0 = (5 : Int32))
          · have hV := hV.trans (if_pos c17)
            have hk := hk.1 c17
            refine lv_tableIn (off := 76) (tgt := 83) hx hb dX1_worth_7 (by rw [c17]; decide) (by rw [c17]; decide) (by rw [c17]; rfl) (by decide) ?_
            exact hc83 (vX1_lives p0 p1) _ _ _ hV hk hP hD hS (lv_sub hl [1, 2, 3, 0] rfl)
          · have hV := hV.trans (if_neg c17)
            have hk := hk.2 c17
            by_cases c18 : (p0 = (6 : Int32))
            · have hV := hV.trans (if_pos c18)
              have hk := hk.1 c18
              refine lv_tableIn (off := 37) (tgt := 44) hx hb dX1_worth_7 (by rw [c18]; decide) (by rw [c18]; decide) (by rw [c18]; rfl) (by decide) ?_
              exact hc44 (vX1_lives p0 p1) _ _ _ hV hk hP hD hS (lv_sub hl [1, 2, 3, 0] rfl)
            · have hV := hV.trans (if_neg c18)
              have hk := hk.2 c18
              refine lv_tableOut (tgt := 83) hx hb dX1_worth_7 (by have n0 := jneL (z := 1) c13 (by decide); have n1 := jneL (z := 2) c14 (by decide); have n2 := jneL (z := 3) c15 (by decide); have n3 := jneL (z := 4) c16 (by decide); have n4 := jneL (z := 5) c17 (by decide); have n5 := jneL (z := 6) c18 (by decide); omega) (by decide) ?_
              exact hc83 (vX1_lives p0 p1) _ _ _ hV hk hP hD hS (lv_sub hl [1, 2, 3, 0] rfl)
theorem dX1_fair_0 : decode cX1_fair 0 = .ok (.iload_n 0, 1) := by decide +kernel
theorem dX1_fair_1 : decode cX1_fair 1 = .ok (.tableswitch 85 1 6 #[39, 55, 60, 67, 69, 46], 39) := by decide +kernel
theorem dX1_fair_40 : decode cX1_fair 40 = .ok (.iload_n 1, 1) := by decide +kernel
theorem dX1_fair_41 : decode cX1_fair 41 = .ok (.bipush 20, 2) := by decide +kernel
theorem dX1_fair_43 : decode cX1_fair 43 = .ok (.idiv, 1) := by decide +kernel
theorem dX1_fair_44 : decode cX1_fair 44 = .ok (.iload_n 2, 1) := by decide +kernel
theorem dX1_fair_45 : decode cX1_fair 45 = .ok (.iadd, 1) := by decide +kernel
theorem dX1_fair_46 : decode cX1_fair 46 = .ok (.ireturn, 1) := by decide +kernel
theorem dX1_fair_47 : decode cX1_fair 47 = .ok (.iconst 2, 1) := by decide +kernel
theorem dX1_fair_48 : decode cX1_fair 48 = .ok (.iload_n 1, 1) := by decide +kernel
theorem dX1_fair_49 : decode cX1_fair 49 = .ok (.bipush 20, 2) := by decide +kernel
theorem dX1_fair_51 : decode cX1_fair 51 = .ok (.idiv, 1) := by decide +kernel
theorem dX1_fair_52 : decode cX1_fair 52 = .ok (.iload_n 2, 1) := by decide +kernel
theorem dX1_fair_53 : decode cX1_fair 53 = .ok (.iadd, 1) := by decide +kernel
theorem dX1_fair_54 : decode cX1_fair 54 = .ok (.imul, 1) := by decide +kernel
theorem dX1_fair_55 : decode cX1_fair 55 = .ok (.ireturn, 1) := by decide +kernel
theorem dX1_fair_56 : decode cX1_fair 56 = .ok (.iload_n 1, 1) := by decide +kernel
theorem dX1_fair_57 : decode cX1_fair 57 = .ok (.bipush 50, 2) := by decide +kernel
theorem dX1_fair_59 : decode cX1_fair 59 = .ok (.idiv, 1) := by decide +kernel
theorem dX1_fair_60 : decode cX1_fair 60 = .ok (.ireturn, 1) := by decide +kernel
theorem dX1_fair_61 : decode cX1_fair 61 = .ok (.iload_n 1, 1) := by decide +kernel
theorem dX1_fair_62 : decode cX1_fair 62 = .ok (.bipush 50, 2) := by decide +kernel
theorem dX1_fair_64 : decode cX1_fair 64 = .ok (.idiv, 1) := by decide +kernel
theorem dX1_fair_65 : decode cX1_fair 65 = .ok (.iconst 3, 1) := by decide +kernel
theorem dX1_fair_66 : decode cX1_fair 66 = .ok (.iadd, 1) := by decide +kernel
theorem dX1_fair_67 : decode cX1_fair 67 = .ok (.ireturn, 1) := by decide +kernel
theorem dX1_fair_68 : decode cX1_fair 68 = .ok (.iconst 0, 1) := by decide +kernel
theorem dX1_fair_69 : decode cX1_fair 69 = .ok (.ireturn, 1) := by decide +kernel
theorem dX1_fair_70 : decode cX1_fair 70 = .ok (.iload_n 1, 1) := by decide +kernel
theorem dX1_fair_71 : decode cX1_fair 71 = .ok (.bipush 100, 2) := by decide +kernel
theorem dX1_fair_73 : decode cX1_fair 73 = .ok (.if_icmp .lt 8, 3) := by decide +kernel
theorem dX1_fair_76 : decode cX1_fair 76 = .ok (.bipush 99, 2) := by decide +kernel
theorem dX1_fair_78 : decode cX1_fair 78 = .ok (.goto 7, 3) := by decide +kernel
theorem dX1_fair_81 : decode cX1_fair 81 = .ok (.iload_n 1, 1) := by decide +kernel
theorem dX1_fair_82 : decode cX1_fair 82 = .ok (.bipush 20, 2) := by decide +kernel
theorem dX1_fair_84 : decode cX1_fair 84 = .ok (.idiv, 1) := by decide +kernel
theorem dX1_fair_85 : decode cX1_fair 85 = .ok (.ireturn, 1) := by decide +kernel
theorem dX1_fair_86 : decode cX1_fair 86 = .ok (.iload_n 1, 1) := by decide +kernel
theorem dX1_fair_87 : decode cX1_fair 87 = .ok (.bipush 20, 2) := by decide +kernel
theorem dX1_fair_89 : decode cX1_fair 89 = .ok (.idiv, 1) := by decide +kernel
theorem dX1_fair_90 : decode cX1_fair 90 = .ok (.ireturn, 1) := by decide +kernel
def rX1_fair : Room := { frames := 0, cells := 0, slots := 0, locals := 0 }
def vX1_fair (p0 : Int32) (p1 : Int32) (p2 : Int32) : Int32 := if (p0 = (1 : Int32)) then ((p1 / (20 : Int32)) + p2) else if (p0 = (2 : Int32)) then (p1 / (50 : Int32)) else if (p0 = (3 : Int32)) then ((p1 / (50 : Int32)) + (3 : Int32)) else if (p0 = (4 : Int32)) then (0 : Int32) else if (p0 = (5 : Int32)) then (if (p1 < (100 : Int32)) then (p1 / (20 : Int32)) else (99 : Int32)) else if (p0 = (6 : Int32)) then ((2 : Int32) * ((p1 / (20 : Int32)) + p2)) else (p1 / (20 : Int32))
set_option maxHeartbeats 4000000 in
set_option maxRecDepth 100000 in
theorem hX1_fair (l : Launch) (D : va_G) (K : JK) (G : JG) (p0 : Int32) (p1 : Int32) (p2 : Int32) (sz : Nat) : Met l yX1_fair (.code yX1_fair cX1_fair 3 (some .int) :: jGW) rX1_fair (jPre D (jT K) G [.int p0, .int p1, .int p2] ([] : va_W) sz) (jQi D (jT K) (vX1_fair p0 p1 p2) ([] : va_W) (va_A ([] : va_W) sz)) 0 0 (va_A ([] : va_W) sz) := by
  refine jEi (by decide) (Nat.le_of_ble_eq_true rfl) (fun p e s m below meth c A Q ls hat hP hD hS hl hend => ?_)
  obtain ⟨hx, hb, hml, hown, hts, hK, hZ, hA⟩ := hat
  have hl : lv_has ls 3 [(0, .int p0), (1, .int p1), (2, .int p2)] := hl
  have hV := vX1_fair.eq_1 p0 p1 p2
  refine lv_iload_n hx hb dX1_fair_0 rfl (lv_at hl 0 rfl) ?_
  by_cases c8 : (p0 = (1 : Int32))
  · have hV := hV.trans (if_pos c8)
    refine lv_tableIn (off := 39) (tgt := 40) hx hb dX1_fair_1 (by rw [c8]; decide) (by rw [c8]; decide) (by rw [c8]; rfl) (by decide) ?_
    refine lv_iload_n hx hb dX1_fair_40 rfl (lv_at hl 1 rfl) ?_
    refine lv_bipush (v := (20 : Int32)) hx hb dX1_fair_41 (by decide) ?_
    refine lv_idiv hx hb dX1_fair_43 (by decide) ?_
    refine lv_iload_n hx hb dX1_fair_44 rfl (lv_at hl 2 rfl) ?_
    refine lv_iadd hx hb dX1_fair_45 ?_
    exact hend _ _ _ _ _ hP hD hS hV.symm rfl dX1_fair_46
  · have hV := hV.trans (if_neg c8)
    by_cases c9 : (p0 = (2 : Int32))
    · have hV := hV.trans (if_pos c9)
      refine lv_tableIn (off := 55) (tgt := 56) hx hb dX1_fair_1 (by rw [c9]; decide) (by rw [c9]; decide) (by rw [c9]; rfl) (by decide) ?_
      refine lv_iload_n hx hb dX1_fair_56 rfl (lv_at hl 1 rfl) ?_
      refine lv_bipush (v := (50 : Int32)) hx hb dX1_fair_57 (by decide) ?_
      refine lv_idiv hx hb dX1_fair_59 (by decide) ?_
      exact hend _ _ _ _ _ hP hD hS hV.symm rfl dX1_fair_60
    · have hV := hV.trans (if_neg c9)
      by_cases c10 : (p0 = (3 : Int32))
      · have hV := hV.trans (if_pos c10)
        refine lv_tableIn (off := 60) (tgt := 61) hx hb dX1_fair_1 (by rw [c10]; decide) (by rw [c10]; decide) (by rw [c10]; rfl) (by decide) ?_
        refine lv_iload_n hx hb dX1_fair_61 rfl (lv_at hl 1 rfl) ?_
        refine lv_bipush (v := (50 : Int32)) hx hb dX1_fair_62 (by decide) ?_
        refine lv_idiv hx hb dX1_fair_64 (by decide) ?_
        refine lv_iconst (v := (3 : Int32)) hx hb dX1_fair_65 (by decide) ?_
        refine lv_iadd hx hb dX1_fair_66 ?_
        exact hend _ _ _ _ _ hP hD hS hV.symm rfl dX1_fair_67
      · have hV := hV.trans (if_neg c10)
        by_cases c11 : (p0 = (4 : Int32))
        · have hV := hV.trans (if_pos c11)
          refine lv_tableIn (off := 67) (tgt := 68) hx hb dX1_fair_1 (by rw [c11]; decide) (by rw [c11]; decide) (by rw [c11]; rfl) (by decide) ?_
          refine lv_iconst (v := (0 : Int32)) hx hb dX1_fair_68 (by decide) ?_
          exact hend _ _ _ _ _ hP hD hS hV.symm rfl dX1_fair_69
        · have hV := hV.trans (if_neg c11)
          by_cases c12 : (p0 = (5 : Int32))
          · have hV := hV.trans (if_pos c12)
            refine lv_tableIn (off := 69) (tgt := 70) hx hb dX1_fair_1 (by rw [c12]; decide) (by rw [c12]; decide) (by rw [c12]; rfl) (by decide) ?_
            refine lv_iload_n hx hb dX1_fair_70 rfl (lv_at hl 1 rfl) ?_
            refine lv_bipush (v := (100 : Int32)) hx hb dX1_fair_71 (by decide) ?_
            refine lv_icmp_lt (tgt := 81) hx hb dX1_fair_73 (by decide) (fun c14 => ?_) (fun c14 => ?_)
            · have hV := hV.trans (if_pos c14)
              refine lv_iload_n hx hb dX1_fair_81 rfl (lv_at hl 1 rfl) ?_
              refine lv_bipush (v := (20 : Int32)) hx hb dX1_fair_82 (by decide) ?_
              refine lv_idiv hx hb dX1_fair_84 (by decide) ?_
              exact hend _ _ _ _ _ hP hD hS hV.symm rfl dX1_fair_85
            · have hV := hV.trans (if_neg c14)
              refine lv_bipush (v := (99 : Int32)) hx hb dX1_fair_76 (by decide) ?_
              refine lv_goto (tgt := 85) hx hb dX1_fair_78 (by decide) ?_
              exact hend _ _ _ _ _ hP hD hS hV.symm rfl dX1_fair_85
          · have hV := hV.trans (if_neg c12)
            by_cases c13 : (p0 = (6 : Int32))
            · have hV := hV.trans (if_pos c13)
              refine lv_tableIn (off := 46) (tgt := 47) hx hb dX1_fair_1 (by rw [c13]; decide) (by rw [c13]; decide) (by rw [c13]; rfl) (by decide) ?_
              refine lv_iconst (v := (2 : Int32)) hx hb dX1_fair_47 (by decide) ?_
              refine lv_iload_n hx hb dX1_fair_48 rfl (lv_at hl 1 rfl) ?_
              refine lv_bipush (v := (20 : Int32)) hx hb dX1_fair_49 (by decide) ?_
              refine lv_idiv hx hb dX1_fair_51 (by decide) ?_
              refine lv_iload_n hx hb dX1_fair_52 rfl (lv_at hl 2 rfl) ?_
              refine lv_iadd hx hb dX1_fair_53 ?_
              refine lv_imul hx hb dX1_fair_54 ?_
              exact hend _ _ _ _ _ hP hD hS hV.symm rfl dX1_fair_55
            · have hV := hV.trans (if_neg c13)
              refine lv_tableOut (tgt := 86) hx hb dX1_fair_1 (by have n0 := jneL (z := 1) c8 (by decide); have n1 := jneL (z := 2) c9 (by decide); have n2 := jneL (z := 3) c10 (by decide); have n3 := jneL (z := 4) c11 (by decide); have n4 := jneL (z := 5) c12 (by decide); have n5 := jneL (z := 6) c13 (by decide); omega) (by decide) ?_
              refine lv_iload_n hx hb dX1_fair_86 rfl (lv_at hl 1 rfl) ?_
              refine lv_bipush (v := (20 : Int32)) hx hb dX1_fair_87 (by decide) ?_
              refine lv_idiv hx hb dX1_fair_89 (by decide) ?_
              exact hend _ _ _ _ _ hP hD hS hV.symm rfl dX1_fair_90
theorem dX1_hurt_0 : decode cX1_hurt 0 = .ok (.iload_n 0, 1) := by decide +kernel
theorem dX1_hurt_1 : decode cX1_hurt 1 = .ok (.tableswitch 86 1 6 #[39, 53, 55, 59, 74, 39], 39) := by decide +kernel
theorem dX1_hurt_40 : decode cX1_hurt 40 = .ok (.iload_n 1, 1) := by decide +kernel
theorem dX1_hurt_41 : decode cX1_hurt 41 = .ok (.ifCond .le 11, 3) := by decide +kernel
theorem dX1_hurt_44 : decode cX1_hurt 44 = .ok (.iconst 5, 1) := by decide +kernel
theorem dX1_hurt_45 : decode cX1_hurt 45 = .ok (.iload_n 1, 1) := by decide +kernel
theorem dX1_hurt_46 : decode cX1_hurt 46 = .ok (.imul, 1) := by decide +kernel
theorem dX1_hurt_47 : decode cX1_hurt 47 = .ok (.iload_n 2, 1) := by decide +kernel
theorem dX1_hurt_48 : decode cX1_hurt 48 = .ok (.iadd, 1) := by decide +kernel
theorem dX1_hurt_49 : decode cX1_hurt 49 = .ok (.goto 4, 3) := by decide +kernel
theorem dX1_hurt_52 : decode cX1_hurt 52 = .ok (.iconst 0, 1) := by decide +kernel
theorem dX1_hurt_53 : decode cX1_hurt 53 = .ok (.ireturn, 1) := by decide +kernel
theorem dX1_hurt_54 : decode cX1_hurt 54 = .ok (.iload_n 1, 1) := by decide +kernel
theorem dX1_hurt_55 : decode cX1_hurt 55 = .ok (.ireturn, 1) := by decide +kernel
theorem dX1_hurt_56 : decode cX1_hurt 56 = .ok (.iconst 2, 1) := by decide +kernel
theorem dX1_hurt_57 : decode cX1_hurt 57 = .ok (.iload_n 1, 1) := by decide +kernel
theorem dX1_hurt_58 : decode cX1_hurt 58 = .ok (.imul, 1) := by decide +kernel
theorem dX1_hurt_59 : decode cX1_hurt 59 = .ok (.ireturn, 1) := by decide +kernel
theorem dX1_hurt_60 : decode cX1_hurt 60 = .ok (.iload_n 1, 1) := by decide +kernel
theorem dX1_hurt_61 : decode cX1_hurt 61 = .ok (.ifCond .le 12, 3) := by decide +kernel
theorem dX1_hurt_64 : decode cX1_hurt 64 = .ok (.iconst 2, 1) := by decide +kernel
theorem dX1_hurt_65 : decode cX1_hurt 65 = .ok (.iload_n 1, 1) := by decide +kernel
theorem dX1_hurt_66 : decode cX1_hurt 66 = .ok (.imul, 1) := by decide +kernel
theorem dX1_hurt_67 : decode cX1_hurt 67 = .ok (.bipush 10, 2) := by decide +kernel
theorem dX1_hurt_69 : decode cX1_hurt 69 = .ok (.iadd, 1) := by decide +kernel
theorem dX1_hurt_70 : decode cX1_hurt 70 = .ok (.goto 4, 3) := by decide +kernel
theorem dX1_hurt_73 : decode cX1_hurt 73 = .ok (.iconst 0, 1) := by decide +kernel
theorem dX1_hurt_74 : decode cX1_hurt 74 = .ok (.ireturn, 1) := by decide +kernel
theorem dX1_hurt_75 : decode cX1_hurt 75 = .ok (.iload_n 1, 1) := by decide +kernel
theorem dX1_hurt_76 : decode cX1_hurt 76 = .ok (.iconst 5, 1) := by decide +kernel
theorem dX1_hurt_77 : decode cX1_hurt 77 = .ok (.if_icmp .lt 8, 3) := by decide +kernel
theorem dX1_hurt_80 : decode cX1_hurt 80 = .ok (.bipush 99, 2) := by decide +kernel
theorem dX1_hurt_82 : decode cX1_hurt 82 = .ok (.goto 4, 3) := by decide +kernel
theorem dX1_hurt_85 : decode cX1_hurt 85 = .ok (.iconst 0, 1) := by decide +kernel
theorem dX1_hurt_86 : decode cX1_hurt 86 = .ok (.ireturn, 1) := by decide +kernel
theorem dX1_hurt_87 : decode cX1_hurt 87 = .ok (.iconst 5, 1) := by decide +kernel
theorem dX1_hurt_88 : decode cX1_hurt 88 = .ok (.iload_n 1, 1) := by decide +kernel
theorem dX1_hurt_89 : decode cX1_hurt 89 = .ok (.imul, 1) := by decide +kernel
theorem dX1_hurt_90 : decode cX1_hurt 90 = .ok (.ireturn, 1) := by decide +kernel
def rX1_hurt : Room := { frames := 0, cells := 0, slots := 0, locals := 0 }
def vX1_hurt_c40 (p0 : Int32) (p1 : Int32) (p2 : Int32) : Int32 := if (p1 ≤ 0) then (0 : Int32) else (((5 : Int32) * p1) + p2)
def vX1_hurt (p0 : Int32) (p1 : Int32) (p2 : Int32) : Int32 := if (p0 = (1 : Int32)) then (vX1_hurt_c40 p0 p1 p2) else if (p0 = (2 : Int32)) then p1 else if (p0 = (3 : Int32)) then ((2 : Int32) * p1) else if (p0 = (4 : Int32)) then (if (p1 ≤ 0) then (0 : Int32) else (((2 : Int32) * p1) + (10 : Int32))) else if (p0 = (5 : Int32)) then (if (p1 < (5 : Int32)) then (0 : Int32) else (99 : Int32)) else if (p0 = (6 : Int32)) then (vX1_hurt_c40 p0 p1 p2) else ((5 : Int32) * p1)
set_option maxHeartbeats 4000000 in
set_option maxRecDepth 100000 in
theorem hX1_hurt (l : Launch) (D : va_G) (K : JK) (G : JG) (p0 : Int32) (p1 : Int32) (p2 : Int32) (sz : Nat) : Met l yX1_hurt (.code yX1_hurt cX1_hurt 3 (some .int) :: jGW) rX1_hurt (jPre D (jT K) G [.int p0, .int p1, .int p2] ([] : va_W) sz) (jQi D (jT K) (vX1_hurt p0 p1 p2) ([] : va_W) (va_A ([] : va_W) sz)) 0 0 (va_A ([] : va_W) sz) := by
  refine jEi (by decide) (Nat.le_of_ble_eq_true rfl) (fun p e s m below meth c A Q ls hat hP hD hS hl hend => ?_)
  obtain ⟨hx, hb, hml, hown, hts, hK, hZ, hA⟩ := hat
  have hl : lv_has ls 3 [(0, .int p0), (1, .int p1), (2, .int p2)] := hl
  have hc40 : ∀ (H : Heap) (locs : List Loc) (ls : Array Slot), (vX1_hurt p0 p1 p2) = vX1_hurt_c40 p0 p1 p2 → va_P D vwCl ([] : va_W) H → va_D A ([] : va_W) → va_S A s.heap H locs → lv_has ls 3 [(0, .int p0), (1, .int p1), (2, .int p2)] → W p l e rX1_hurt s m ([.int p0, .int p1, .int p2] : List Value).toArray below meth c H locs 0 0 Q (F0 m 40 ls []) := by
    intro H locs ls hV hP hD hS hl
    rw [vX1_hurt_c40] at hV
    refine lv_iload_n hx hb dX1_hurt_40 rfl (lv_at hl 1 rfl) ?_
    refine lv_if_le (tgt := 52) hx hb dX1_hurt_41 (by decide) (fun c10 => ?_) (fun c10 => ?_)
    · have hV := hV.trans (if_pos c10)
      refine lv_iconst (v := (0 : Int32)) hx hb dX1_hurt_52 (by decide) ?_
      exact hend _ _ _ _ _ hP hD hS hV.symm rfl dX1_hurt_53
    · have hV := hV.trans (if_neg c10)
      refine lv_iconst (v := (5 : Int32)) hx hb dX1_hurt_44 (by decide) ?_
      refine lv_iload_n hx hb dX1_hurt_45 rfl (lv_at hl 1 rfl) ?_
      refine lv_imul hx hb dX1_hurt_46 ?_
      refine lv_iload_n hx hb dX1_hurt_47 rfl (lv_at hl 2 rfl) ?_
      refine lv_iadd hx hb dX1_hurt_48 ?_
      refine lv_goto (tgt := 53) hx hb dX1_hurt_49 (by decide) ?_
      exact hend _ _ _ _ _ hP hD hS hV.symm rfl dX1_hurt_53
  have hV := vX1_hurt.eq_1 p0 p1 p2
  refine lv_iload_n hx hb dX1_hurt_0 rfl (lv_at hl 0 rfl) ?_
  by_cases c11 : (p0 = (1 : Int32))
  · have hV := hV.trans (if_pos c11)
    refine lv_tableIn (off := 39) (tgt := 40) hx hb dX1_hurt_1 (by rw [c11]; decide) (by rw [c11]; decide) (by rw [c11]; rfl) (by decide) ?_
    exact hc40 _ _ _ hV hP hD hS (lv_sub hl [0, 1, 2] rfl)
  · have hV := hV.trans (if_neg c11)
    by_cases c12 : (p0 = (2 : Int32))
    · have hV := hV.trans (if_pos c12)
      refine lv_tableIn (off := 53) (tgt := 54) hx hb dX1_hurt_1 (by rw [c12]; decide) (by rw [c12]; decide) (by rw [c12]; rfl) (by decide) ?_
      refine lv_iload_n hx hb dX1_hurt_54 rfl (lv_at hl 1 rfl) ?_
      exact hend _ _ _ _ _ hP hD hS hV.symm rfl dX1_hurt_55
    · have hV := hV.trans (if_neg c12)
      by_cases c13 : (p0 = (3 : Int32))
      · have hV := hV.trans (if_pos c13)
        refine lv_tableIn (off := 55) (tgt := 56) hx hb dX1_hurt_1 (by rw [c13]; decide) (by rw [c13]; decide) (by rw [c13]; rfl) (by decide) ?_
        refine lv_iconst (v := (2 : Int32)) hx hb dX1_hurt_56 (by decide) ?_
        refine lv_iload_n hx hb dX1_hurt_57 rfl (lv_at hl 1 rfl) ?_
        refine lv_imul hx hb dX1_hurt_58 ?_
        exact hend _ _ _ _ _ hP hD hS hV.symm rfl dX1_hurt_59
      · have hV := hV.trans (if_neg c13)
        by_cases c14 : (p0 = (4 : Int32))
        · have hV := hV.trans (if_pos c14)
          refine lv_tableIn (off := 59) (tgt := 60) hx hb dX1_hurt_1 (by rw [c14]; decide) (by rw [c14]; decide) (by rw [c14]; rfl) (by decide) ?_
          refine lv_iload_n hx hb dX1_hurt_60 rfl (lv_at hl 1 rfl) ?_
          refine lv_if_le (tgt := 73) hx hb dX1_hurt_61 (by decide) (fun c18 => ?_) (fun c18 => ?_)
          · have hV := hV.trans (if_pos c18)
            refine lv_iconst (v := (0 : Int32)) hx hb dX1_hurt_73 (by decide) ?_
            exact hend _ _ _ _ _ hP hD hS hV.symm rfl dX1_hurt_74
          · have hV := hV.trans (if_neg c18)
            refine lv_iconst (v := (2 : Int32)) hx hb dX1_hurt_64 (by decide) ?_
            refine lv_iload_n hx hb dX1_hurt_65 rfl (lv_at hl 1 rfl) ?_
            refine lv_imul hx hb dX1_hurt_66 ?_
            refine lv_bipush (v := (10 : Int32)) hx hb dX1_hurt_67 (by decide) ?_
            refine lv_iadd hx hb dX1_hurt_69 ?_
            refine lv_goto (tgt := 74) hx hb dX1_hurt_70 (by decide) ?_
            exact hend _ _ _ _ _ hP hD hS hV.symm rfl dX1_hurt_74
        · have hV := hV.trans (if_neg c14)
          by_cases c15 : (p0 = (5 : Int32))
          · have hV := hV.trans (if_pos c15)
            refine lv_tableIn (off := 74) (tgt := 75) hx hb dX1_hurt_1 (by rw [c15]; decide) (by rw [c15]; decide) (by rw [c15]; rfl) (by decide) ?_
            refine lv_iload_n hx hb dX1_hurt_75 rfl (lv_at hl 1 rfl) ?_
            refine lv_iconst (v := (5 : Int32)) hx hb dX1_hurt_76 (by decide) ?_
            refine lv_icmp_lt (tgt := 85) hx hb dX1_hurt_77 (by decide) (fun c17 => ?_) (fun c17 => ?_)
            · have hV := hV.trans (if_pos c17)
              refine lv_iconst (v := (0 : Int32)) hx hb dX1_hurt_85 (by decide) ?_
              exact hend _ _ _ _ _ hP hD hS hV.symm rfl dX1_hurt_86
            · have hV := hV.trans (if_neg c17)
              refine lv_bipush (v := (99 : Int32)) hx hb dX1_hurt_80 (by decide) ?_
              refine lv_goto (tgt := 86) hx hb dX1_hurt_82 (by decide) ?_
              exact hend _ _ _ _ _ hP hD hS hV.symm rfl dX1_hurt_86
          · have hV := hV.trans (if_neg c15)
            by_cases c16 : (p0 = (6 : Int32))
            · have hV := hV.trans (if_pos c16)
              refine lv_tableIn (off := 39) (tgt := 40) hx hb dX1_hurt_1 (by rw [c16]; decide) (by rw [c16]; decide) (by rw [c16]; rfl) (by decide) ?_
              exact hc40 _ _ _ hV hP hD hS (lv_sub hl [0, 1, 2] rfl)
            · have hV := hV.trans (if_neg c16)
              refine lv_tableOut (tgt := 87) hx hb dX1_hurt_1 (by have n0 := jneL (z := 1) c11 (by decide); have n1 := jneL (z := 2) c12 (by decide); have n2 := jneL (z := 3) c13 (by decide); have n3 := jneL (z := 4) c14 (by decide); have n4 := jneL (z := 5) c15 (by decide); have n5 := jneL (z := 6) c16 (by decide); omega) (by decide) ?_
              refine lv_iconst (v := (5 : Int32)) hx hb dX1_hurt_87 (by decide) ?_
              refine lv_iload_n hx hb dX1_hurt_88 rfl (lv_at hl 1 rfl) ?_
              refine lv_imul hx hb dX1_hurt_89 ?_
              exact hend _ _ _ _ _ hP hD hS hV.symm rfl dX1_hurt_90
theorem dX4_thingOfBlow_0 : decode cX4_thingOfBlow 0 = .ok (.iload_n 0, 1) := by decide +kernel
theorem dX4_thingOfBlow_1 : decode cX4_thingOfBlow 1 = .ok (.bipush 10, 2) := by decide +kernel
theorem dX4_thingOfBlow_3 : decode cX4_thingOfBlow 3 = .ok (.idiv, 1) := by decide +kernel
theorem dX4_thingOfBlow_4 : decode cX4_thingOfBlow 4 = .ok (.ireturn, 1) := by decide +kernel
def rX4_thingOfBlow : Room := { frames := 0, cells := 0, slots := 0, locals := 0 }
def vX4_thingOfBlow (p0 : Int32) : Int32 := (p0 / (10 : Int32))
set_option maxHeartbeats 4000000 in
set_option maxRecDepth 100000 in
theorem hX4_thingOfBlow (l : Launch) (D : va_G) (K : JK) (G : JG) (p0 : Int32) (sz : Nat) : Met l yX4_thingOfBlow (.code yX4_thingOfBlow cX4_thingOfBlow 1 (some .int) :: jGW) rX4_thingOfBlow (jPre D (jT K) G [.int p0] ([] : va_W) sz) (jQi D (jT K) (vX4_thingOfBlow p0) ([] : va_W) (va_A ([] : va_W) sz)) 0 0 (va_A ([] : va_W) sz) := by
  refine jEi (by decide) (Nat.le_of_ble_eq_true rfl) (fun p e s m below meth c A Q ls hat hP hD hS hl hend => ?_)
  obtain ⟨hx, hb, hml, hown, hts, hK, hZ, hA⟩ := hat
  have hl : lv_has ls 1 [(0, .int p0)] := hl
  have hV := vX4_thingOfBlow.eq_1 p0
  refine lv_iload_n hx hb dX4_thingOfBlow_0 rfl (lv_at hl 0 rfl) ?_
  refine lv_bipush (v := (10 : Int32)) hx hb dX4_thingOfBlow_1 (by decide) ?_
  refine lv_idiv hx hb dX4_thingOfBlow_3 (by decide) ?_
  exact hend _ _ _ _ _ hP hD hS hV.symm rfl dX4_thingOfBlow_4
theorem dX4_forceOfBlow_0 : decode cX4_forceOfBlow 0 = .ok (.iload_n 0, 1) := by decide +kernel
theorem dX4_forceOfBlow_1 : decode cX4_forceOfBlow 1 = .ok (.bipush 10, 2) := by decide +kernel
theorem dX4_forceOfBlow_3 : decode cX4_forceOfBlow 3 = .ok (.irem, 1) := by decide +kernel
theorem dX4_forceOfBlow_4 : decode cX4_forceOfBlow 4 = .ok (.ireturn, 1) := by decide +kernel
def rX4_forceOfBlow : Room := { frames := 0, cells := 0, slots := 0, locals := 0 }
def vX4_forceOfBlow (p0 : Int32) : Int32 := (jrem p0 (10 : Int32))
set_option maxHeartbeats 4000000 in
set_option maxRecDepth 100000 in
theorem hX4_forceOfBlow (l : Launch) (D : va_G) (K : JK) (G : JG) (p0 : Int32) (sz : Nat) : Met l yX4_forceOfBlow (.code yX4_forceOfBlow cX4_forceOfBlow 1 (some .int) :: jGW) rX4_forceOfBlow (jPre D (jT K) G [.int p0] ([] : va_W) sz) (jQi D (jT K) (vX4_forceOfBlow p0) ([] : va_W) (va_A ([] : va_W) sz)) 0 0 (va_A ([] : va_W) sz) := by
  refine jEi (by decide) (Nat.le_of_ble_eq_true rfl) (fun p e s m below meth c A Q ls hat hP hD hS hl hend => ?_)
  obtain ⟨hx, hb, hml, hown, hts, hK, hZ, hA⟩ := hat
  have hl : lv_has ls 1 [(0, .int p0)] := hl
  have hV := vX4_forceOfBlow.eq_1 p0
  refine lv_iload_n hx hb dX4_forceOfBlow_0 rfl (lv_at hl 0 rfl) ?_
  refine lv_bipush (v := (10 : Int32)) hx hb dX4_forceOfBlow_1 (by decide) ?_
  refine j_irem hx hb dX4_forceOfBlow_3 (by decide) ?_
  exact hend _ _ _ _ _ hP hD hS hV.symm rfl dX4_forceOfBlow_4
theorem dX4_within_0 : decode cX4_within 0 = .ok (.iload_n 0, 1) := by decide +kernel
theorem dX4_within_1 : decode cX4_within 1 = .ok (.iload_n 1, 1) := by decide +kernel
theorem dX4_within_2 : decode cX4_within 2 = .ok (.if_icmp .lt 12, 3) := by decide +kernel
theorem dX4_within_5 : decode cX4_within 5 = .ok (.iload_n 0, 1) := by decide +kernel
theorem dX4_within_6 : decode cX4_within 6 = .ok (.iload_n 2, 1) := by decide +kernel
theorem dX4_within_7 : decode cX4_within 7 = .ok (.if_icmp .gt 7, 3) := by decide +kernel
theorem dX4_within_10 : decode cX4_within 10 = .ok (.iconst 1, 1) := by decide +kernel
theorem dX4_within_11 : decode cX4_within 11 = .ok (.goto 4, 3) := by decide +kernel
theorem dX4_within_14 : decode cX4_within 14 = .ok (.iconst 0, 1) := by decide +kernel
theorem dX4_within_15 : decode cX4_within 15 = .ok (.ireturn, 1) := by decide +kernel
def rX4_within : Room := { frames := 0, cells := 0, slots := 0, locals := 0 }
def vX4_within (p0 : Int32) (p1 : Int32) (p2 : Int32) : Int32 := if (p0 < p1) then (0 : Int32) else if (p2 < p0) then (0 : Int32) else (1 : Int32)
set_option maxHeartbeats 4000000 in
set_option maxRecDepth 100000 in
theorem hX4_within (l : Launch) (D : va_G) (K : JK) (G : JG) (p0 : Int32) (p1 : Int32) (p2 : Int32) (sz : Nat) : Met l yX4_within (.code yX4_within cX4_within 3 (some .boolean) :: jGW) rX4_within (jPre D (jT K) G [.int p0, .int p1, .int p2] ([] : va_W) sz) (jQi D (jT K) (vX4_within p0 p1 p2) ([] : va_W) (va_A ([] : va_W) sz)) 0 0 (va_A ([] : va_W) sz) := by
  refine jEi (by decide) (Nat.le_of_ble_eq_true rfl) (fun p e s m below meth c A Q ls hat hP hD hS hl hend => ?_)
  obtain ⟨hx, hb, hml, hown, hts, hK, hZ, hA⟩ := hat
  have hl : lv_has ls 3 [(0, .int p0), (1, .int p1), (2, .int p2)] := hl
  have hV := vX4_within.eq_1 p0 p1 p2
  refine lv_iload_n hx hb dX4_within_0 rfl (lv_at hl 0 rfl) ?_
  refine lv_iload_n hx hb dX4_within_1 rfl (lv_at hl 1 rfl) ?_
  refine lv_icmp_lt (tgt := 14) hx hb dX4_within_2 (by decide) (fun c3 => ?_) (fun c3 => ?_)
  · have hV := hV.trans (if_pos c3)
    refine lv_iconst (v := (0 : Int32)) hx hb dX4_within_14 (by decide) ?_
    exact hend _ _ _ _ _ hP hD hS hV.symm rfl dX4_within_15
  · have hV := hV.trans (if_neg c3)
    refine lv_iload_n hx hb dX4_within_5 rfl (lv_at hl 0 rfl) ?_
    refine lv_iload_n hx hb dX4_within_6 rfl (lv_at hl 2 rfl) ?_
    refine lv_icmp_gt (tgt := 14) hx hb dX4_within_7 (by decide) (fun c4 => ?_) (fun c4 => ?_)
    · have hV := hV.trans (if_pos c4)
      refine lv_iconst (v := (0 : Int32)) hx hb dX4_within_14 (by decide) ?_
      exact hend _ _ _ _ _ hP hD hS hV.symm rfl dX4_within_15
    · have hV := hV.trans (if_neg c4)
      refine lv_iconst (v := (1 : Int32)) hx hb dX4_within_10 (by decide) ?_
      refine lv_goto (tgt := 15) hx hb dX4_within_11 (by decide) ?_
      exact hend _ _ _ _ _ hP hD hS hV.symm rfl dX4_within_15
theorem dX4_isKind_0 : decode cX4_isKind 0 = .ok (.iload_n 0, 1) := by decide +kernel
theorem dX4_isKind_1 : decode cX4_isKind 1 = .ok (.iconst 0, 1) := by decide +kernel
theorem dX4_isKind_2 : decode cX4_isKind 2 = .ok (.bipush 6, 2) := by decide +kernel
theorem dX4_isKind_4 : decode cX4_isKind 4 = .ok (.invokestatic 50, 3) := by decide +kernel
theorem dX4_isKind_7 : decode cX4_isKind 7 = .ok (.ireturn, 1) := by decide +kernel
def rX4_isKind : Room := { frames := 1, cells := 0, slots := 0, locals := 22 }
def vX4_isKind (p0 : Int32) : Int32 := (vX4_within p0 (0 : Int32) (6 : Int32))
def kX4_isKind (p0 : Int32) : Prop := ((vX4_within p0 (0 : Int32) (6 : Int32)) = 0 ∨ (vX4_within p0 (0 : Int32) (6 : Int32)) = 1) ∧ True
set_option maxHeartbeats 4000000 in
set_option maxRecDepth 100000 in
theorem hX4_isKind (l : Launch) (D : va_G) (K : JK) (G : JG) (p0 : Int32) (hk : kX4_isKind p0) (sz : Nat) : Met l yX4_isKind (.code yX4_isKind cX4_isKind 1 (some .boolean) :: jGW) rX4_isKind (jPre D (jT K) G [.int p0] ([] : va_W) sz) (jQi D (jT K) (vX4_isKind p0) ([] : va_W) (va_A ([] : va_W) sz)) 0 0 (va_A ([] : va_W) sz) := by
  refine jEi (by decide) (Nat.le_of_ble_eq_true rfl) (fun p e s m below meth c A Q ls hat hP hD hS hl hend => ?_)
  obtain ⟨hx, hb, hml, hown, hts, hK, hZ, hA⟩ := hat
  have hl : lv_has ls 1 [(0, .int p0)] := hl
  have hV := vX4_isKind.eq_1 p0
  rw [kX4_isKind] at hk
  refine lv_iload_n hx hb dX4_isKind_0 rfl (lv_at hl 0 rfl) ?_
  refine lv_iconst (v := (0 : Int32)) hx hb dX4_isKind_1 (by decide) ?_
  refine lv_bipush (v := (6 : Int32)) hx hb dX4_isKind_2 (by decide) ?_
  refine jci0 (jrunS (As := [.int p0, .int (0 : Int32), .int (6 : Int32)]) (rest := []) hx hb hml hown hts hK hZ hA hP hD hS hl.1 mf_X4_within kl_X4_50 ⟨rfl, rfl, Nat.le_of_ble_eq_true rfl, Nat.le_of_ble_eq_true rfl⟩ ⟨Nat.zero_le _, Nat.zero_le _⟩ [] rfl rfl (hX4_within l D K G p0 (0 : Int32) (6 : Int32) _) rfl rfl (Nat.le_of_ble_eq_true rfl) dX4_isKind_4) hA hP hD hS [] rfl (fun H locs hP hS => ?_)
  obtain ⟨h2, hk⟩ := hk
  exact hend _ _ _ _ _ hP hD hS hV.symm (jnb h2) dX4_isKind_7
theorem dX1_isOf_0 : decode cX1_isOf 0 = .ok (.iload_n 0, 1) := by decide +kernel
theorem dX1_isOf_1 : decode cX1_isOf 1 = .ok (.istore_n 2, 1) := by decide +kernel
theorem dX1_isOf_2 : decode cX1_isOf 2 = .ok (.iconst 0, 1) := by decide +kernel
theorem dX1_isOf_3 : decode cX1_isOf 3 = .ok (.istore_n 3, 1) := by decide +kernel
theorem dX1_isOf_4 : decode cX1_isOf 4 = .ok (.iload_n 3, 1) := by decide +kernel
theorem dX1_isOf_5 : decode cX1_isOf 5 = .ok (.bipush 7, 2) := by decide +kernel
theorem dX1_isOf_7 : decode cX1_isOf 7 = .ok (.if_icmp .ge 29, 3) := by decide +kernel
theorem dX1_isOf_10 : decode cX1_isOf 10 = .ok (.iload_n 2, 1) := by decide +kernel
theorem dX1_isOf_11 : decode cX1_isOf 11 = .ok (.invokestatic 11, 3) := by decide +kernel
theorem dX1_isOf_14 : decode cX1_isOf 14 = .ok (.ifCond .eq 22, 3) := by decide +kernel
theorem dX1_isOf_17 : decode cX1_isOf 17 = .ok (.iload_n 2, 1) := by decide +kernel
theorem dX1_isOf_18 : decode cX1_isOf 18 = .ok (.iload_n 1, 1) := by decide +kernel
theorem dX1_isOf_19 : decode cX1_isOf 19 = .ok (.if_icmp .ne 5, 3) := by decide +kernel
theorem dX1_isOf_22 : decode cX1_isOf 22 = .ok (.iconst 1, 1) := by decide +kernel
theorem dX1_isOf_23 : decode cX1_isOf 23 = .ok (.ireturn, 1) := by decide +kernel
theorem dX1_isOf_24 : decode cX1_isOf 24 = .ok (.getstatic 15, 3) := by decide +kernel
theorem dX1_isOf_27 : decode cX1_isOf 27 = .ok (.iload_n 2, 1) := by decide +kernel
theorem dX1_isOf_28 : decode cX1_isOf 28 = .ok (.iaload, 1) := by decide +kernel
theorem dX1_isOf_29 : decode cX1_isOf 29 = .ok (.istore_n 2, 1) := by decide +kernel
theorem dX1_isOf_30 : decode cX1_isOf 30 = .ok (.iinc 3 1, 3) := by decide +kernel
theorem dX1_isOf_33 : decode cX1_isOf 33 = .ok (.goto (-29), 3) := by decide +kernel
theorem dX1_isOf_36 : decode cX1_isOf 36 = .ok (.iconst 0, 1) := by decide +kernel
theorem dX1_isOf_37 : decode cX1_isOf 37 = .ok (.ireturn, 1) := by decide +kernel
def rX1_isOf : Room := { frames := 2, cells := 0, slots := 0, locals := 42 }
def vX1_isOf_c4 (p0 : Int32) (p1 : Int32) : Nat → Int32 → Int32 → Int32
  | 0, x2, x3 => (0)
  | n + 1, x2, x3 => if ((7 : Int32) ≤ x3) then (0 : Int32) else if ((vX4_isKind x2) = 0) then (0 : Int32) else if (x2 = p1) then (1 : Int32) else (vX1_isOf_c4 p0 p1 n (jKA.getD (x2).toNatClampNeg 0) (x3 + (1 : Int32)))
def kX1_isOf_c4 (p0 : Int32) (p1 : Int32) : Nat → Int32 → Int32 → Prop
  | 0, _, _ => False
  | n + 1, x2, x3 => (((7 : Int32) ≤ x3) → True) ∧ (¬ ((7 : Int32) ≤ x3) → ((kX4_isKind x2) ∧ (((vX4_isKind x2) = 0) → True) ∧ (¬ ((vX4_isKind x2) = 0) → (((x2 = p1) → True) ∧ (¬ (x2 = p1) → ((vp_in x2 7) ∧ (kX1_isOf_c4 p0 p1 n (jKA.getD (x2).toNatClampNeg 0) (x3 + (1 : Int32)))))))))
def vX1_isOf (p0 : Int32) (p1 : Int32) : Int32 := (vX1_isOf_c4 p0 p1 1024 p0 (0 : Int32))
def kX1_isOf (p0 : Int32) (p1 : Int32) : Prop := (kX1_isOf_c4 p0 p1 1024 p0 (0 : Int32))
set_option maxHeartbeats 4000000 in
set_option maxRecDepth 100000 in
theorem hX1_isOf (l : Launch) (D : va_G) (K : JK) (G : JG) (p0 : Int32) (p1 : Int32) (hk : kX1_isOf p0 p1) (sz : Nat) : Met l yX1_isOf (.code yX1_isOf cX1_isOf 4 (some .boolean) :: jGW) rX1_isOf (jPre D (jT K) G [.int p0, .int p1] ([] : va_W) sz) (jQi D (jT K) (vX1_isOf p0 p1) ([] : va_W) (va_A ([] : va_W) sz)) 0 0 (va_A ([] : va_W) sz) := by
  refine jEi (by decide) (Nat.le_of_ble_eq_true rfl) (fun p e s m below meth c A Q ls hat hP hD hS hl hend => ?_)
  obtain ⟨hx, hb, hml, hown, hts, hK, hZ, hA⟩ := hat
  have hl : lv_has ls 4 [(0, .int p0), (1, .int p1)] := hl
  have hc4 : ∀ (n : Nat) (x2 : Int32) (x3 : Int32) (H : Heap) (locs : List Loc) (ls : Array Slot), (vX1_isOf p0 p1) = vX1_isOf_c4 p0 p1 n x2 x3 → kX1_isOf_c4 p0 p1 n x2 x3 → va_P D vwCl ([] : va_W) H → va_D A ([] : va_W) → va_S A s.heap H locs → lv_has ls 4 [(0, .int p0), (1, .int p1), (2, .int x2), (3, .int x3)] → W p l e rX1_isOf s m ([.int p0, .int p1] : List Value).toArray below meth c H locs 0 0 Q (F0 m 4 ls []) := by
    intro n
    induction n with
    | zero =>
      intro x2 x3 H locs ls hV hk hP hD hS hl
      exact False.elim hk
    | succ n ih =>
      intro x2 x3 H locs ls hV hk hP hD hS hl
      rw [vX1_isOf_c4] at hV
      rw [kX1_isOf_c4] at hk
      refine lv_iload_n hx hb dX1_isOf_4 rfl (lv_at hl 3 rfl) ?_
      refine lv_bipush (v := (7 : Int32)) hx hb dX1_isOf_5 (by decide) ?_
      refine lv_icmp_ge (tgt := 36) hx hb dX1_isOf_7 (by decide) (fun c6 => ?_) (fun c6 => ?_)
      · have hV := hV.trans (if_pos c6)
        have hk := hk.1 c6
        refine lv_iconst (v := (0 : Int32)) hx hb dX1_isOf_36 (by decide) ?_
        exact hend _ _ _ _ _ hP hD hS hV.symm rfl dX1_isOf_37
      · have hV := hV.trans (if_neg c6)
        have hk := hk.2 c6
        refine lv_iload_n hx hb dX1_isOf_10 rfl (lv_at hl 2 rfl) ?_
        obtain ⟨h7, hk⟩ := hk
        refine jci0 (jrunSN (As := [.int x2]) (rest := []) hx hb hml hown hts hK hZ hA hP hD hS hl.1 mf_X4_isKind kl_X1_11 ⟨rfl, rfl, Nat.le_of_ble_eq_true rfl, Nat.le_of_ble_eq_true rfl⟩ ⟨Nat.zero_le _, Nat.zero_le _⟩ [] rfl rfl (hX4_isKind l D K G x2 h7 _) rfl rfl (Nat.le_of_ble_eq_true rfl) dX1_isOf_11) hA hP hD hS [] rfl (fun H locs hP hS => ?_)
        refine lv_if_eq (tgt := 36) hx hb dX1_isOf_14 (by decide) (fun c8 => ?_) (fun c8 => ?_)
        · have hV := hV.trans (if_pos c8)
          have hk := hk.1 c8
          refine lv_iconst (v := (0 : Int32)) hx hb dX1_isOf_36 (by decide) ?_
          exact hend _ _ _ _ _ hP hD hS hV.symm rfl dX1_isOf_37
        · have hV := hV.trans (if_neg c8)
          have hk := hk.2 c8
          refine lv_iload_n hx hb dX1_isOf_17 rfl (lv_at hl 2 rfl) ?_
          refine lv_iload_n hx hb dX1_isOf_18 rfl (lv_at hl 1 rfl) ?_
          refine lv_icmp_ne (tgt := 24) hx hb dX1_isOf_19 (by decide) (fun c9 => ?_) (fun c9 => ?_)
          · have hV := hV.trans (if_neg c9)
            have hk := hk.2 c9
            refine gs_X1_15 hx hb hts hown hZ hS dX1_isOf_24 ?_
            refine lv_iload_n hx hb dX1_isOf_27 rfl (lv_at hl 2 rfl) ?_
            obtain ⟨h10, hk⟩ := hk
            refine va_ti (v := .int (jKA.getD (x2).toNatClampNeg 0)) hx hb (hZ.1 4 _ rfl).2 hS h10 rfl dX1_isOf_28 ?_
            refine lv_istore_n (lv' := [(2, .int (jKA.getD (x2).toNatClampNeg 0)), (0, .int p0), (1, .int p1), (3, .int x3)]) hx hb dX1_isOf_29 rfl hl (by decide) rfl (fun ls hl => ?_)
            refine lv_iinc (v := (x3 + (1 : Int32))) (lv' := [(3, .int (x3 + (1 : Int32))), (2, .int (jKA.getD (x2).toNatClampNeg 0)), (0, .int p0), (1, .int p1)]) hx hb dX1_isOf_30 hl (k := 3) rfl rfl (by decide) rfl (fun ls hl => ?_)
            refine lv_goto (tgt := 4) hx hb dX1_isOf_33 (by decide) ?_
            exact ih (jKA.getD (x2).toNatClampNeg 0) (x3 + (1 : Int32)) _ _ _ hV hk hP hD hS (lv_sub hl [2, 3, 1, 0] rfl)
          · have hV := hV.trans (if_pos c9)
            have hk := hk.1 c9
            refine lv_iconst (v := (1 : Int32)) hx hb dX1_isOf_22 (by decide) ?_
            exact hend _ _ _ _ _ hP hD hS hV.symm rfl dX1_isOf_23
  have hV := vX1_isOf.eq_1 p0 p1
  rw [kX1_isOf] at hk
  refine lv_iload_n hx hb dX1_isOf_0 rfl (lv_at hl 0 rfl) ?_
  refine lv_istore_n (lv' := [(2, .int p0), (0, .int p0), (1, .int p1)]) hx hb dX1_isOf_1 rfl hl (by decide) rfl (fun ls hl => ?_)
  refine lv_iconst (v := (0 : Int32)) hx hb dX1_isOf_2 (by decide) ?_
  refine lv_istore_n (lv' := [(3, .int (0 : Int32)), (2, .int p0), (0, .int p0), (1, .int p1)]) hx hb dX1_isOf_3 rfl hl (by decide) rfl (fun ls hl => ?_)
  exact hc4 1024 p0 (0 : Int32) _ _ _ hV hk hP hD hS (lv_sub hl [2, 3, 1, 0] rfl)
theorem dX4_blowOf_0 : decode cX4_blowOf 0 = .ok (.bipush 10, 2) := by decide +kernel
theorem dX4_blowOf_2 : decode cX4_blowOf 2 = .ok (.iload_n 0, 1) := by decide +kernel
theorem dX4_blowOf_3 : decode cX4_blowOf 3 = .ok (.imul, 1) := by decide +kernel
theorem dX4_blowOf_4 : decode cX4_blowOf 4 = .ok (.iload_n 1, 1) := by decide +kernel
theorem dX4_blowOf_5 : decode cX4_blowOf 5 = .ok (.iadd, 1) := by decide +kernel
theorem dX4_blowOf_6 : decode cX4_blowOf 6 = .ok (.ireturn, 1) := by decide +kernel
def rX4_blowOf : Room := { frames := 0, cells := 0, slots := 0, locals := 0 }
def vX4_blowOf (p0 : Int32) (p1 : Int32) : Int32 := (((10 : Int32) * p0) + p1)
set_option maxHeartbeats 4000000 in
set_option maxRecDepth 100000 in
theorem hX4_blowOf (l : Launch) (D : va_G) (K : JK) (G : JG) (p0 : Int32) (p1 : Int32) (sz : Nat) : Met l yX4_blowOf (.code yX4_blowOf cX4_blowOf 2 (some .int) :: jGW) rX4_blowOf (jPre D (jT K) G [.int p0, .int p1] ([] : va_W) sz) (jQi D (jT K) (vX4_blowOf p0 p1) ([] : va_W) (va_A ([] : va_W) sz)) 0 0 (va_A ([] : va_W) sz) := by
  refine jEi (by decide) (Nat.le_of_ble_eq_true rfl) (fun p e s m below meth c A Q ls hat hP hD hS hl hend => ?_)
  obtain ⟨hx, hb, hml, hown, hts, hK, hZ, hA⟩ := hat
  have hl : lv_has ls 2 [(0, .int p0), (1, .int p1)] := hl
  have hV := vX4_blowOf.eq_1 p0 p1
  refine lv_bipush (v := (10 : Int32)) hx hb dX4_blowOf_0 (by decide) ?_
  refine lv_iload_n hx hb dX4_blowOf_2 rfl (lv_at hl 0 rfl) ?_
  refine lv_imul hx hb dX4_blowOf_3 ?_
  refine lv_iload_n hx hb dX4_blowOf_4 rfl (lv_at hl 1 rfl) ?_
  refine lv_iadd hx hb dX4_blowOf_5 ?_
  exact hend _ _ _ _ _ hP hD hS hV.symm rfl dX4_blowOf_6
theorem dX4_isSpot_0 : decode cX4_isSpot 0 = .ok (.iload_n 0, 1) := by decide +kernel
theorem dX4_isSpot_1 : decode cX4_isSpot 1 = .ok (.iconst 0, 1) := by decide +kernel
theorem dX4_isSpot_2 : decode cX4_isSpot 2 = .ok (.bipush 9, 2) := by decide +kernel
theorem dX4_isSpot_4 : decode cX4_isSpot 4 = .ok (.invokestatic 50, 3) := by decide +kernel
theorem dX4_isSpot_7 : decode cX4_isSpot 7 = .ok (.ireturn, 1) := by decide +kernel
def rX4_isSpot : Room := { frames := 1, cells := 0, slots := 0, locals := 22 }
def vX4_isSpot (p0 : Int32) : Int32 := (vX4_within p0 (0 : Int32) (9 : Int32))
def kX4_isSpot (p0 : Int32) : Prop := ((vX4_within p0 (0 : Int32) (9 : Int32)) = 0 ∨ (vX4_within p0 (0 : Int32) (9 : Int32)) = 1) ∧ True
set_option maxHeartbeats 4000000 in
set_option maxRecDepth 100000 in
theorem hX4_isSpot (l : Launch) (D : va_G) (K : JK) (G : JG) (p0 : Int32) (hk : kX4_isSpot p0) (sz : Nat) : Met l yX4_isSpot (.code yX4_isSpot cX4_isSpot 1 (some .boolean) :: jGW) rX4_isSpot (jPre D (jT K) G [.int p0] ([] : va_W) sz) (jQi D (jT K) (vX4_isSpot p0) ([] : va_W) (va_A ([] : va_W) sz)) 0 0 (va_A ([] : va_W) sz) := by
  refine jEi (by decide) (Nat.le_of_ble_eq_true rfl) (fun p e s m below meth c A Q ls hat hP hD hS hl hend => ?_)
  obtain ⟨hx, hb, hml, hown, hts, hK, hZ, hA⟩ := hat
  have hl : lv_has ls 1 [(0, .int p0)] := hl
  have hV := vX4_isSpot.eq_1 p0
  rw [kX4_isSpot] at hk
  refine lv_iload_n hx hb dX4_isSpot_0 rfl (lv_at hl 0 rfl) ?_
  refine lv_iconst (v := (0 : Int32)) hx hb dX4_isSpot_1 (by decide) ?_
  refine lv_bipush (v := (9 : Int32)) hx hb dX4_isSpot_2 (by decide) ?_
  refine jci0 (jrunS (As := [.int p0, .int (0 : Int32), .int (9 : Int32)]) (rest := []) hx hb hml hown hts hK hZ hA hP hD hS hl.1 mf_X4_within kl_X4_50 ⟨rfl, rfl, Nat.le_of_ble_eq_true rfl, Nat.le_of_ble_eq_true rfl⟩ ⟨Nat.zero_le _, Nat.zero_le _⟩ [] rfl rfl (hX4_within l D K G p0 (0 : Int32) (9 : Int32) _) rfl rfl (Nat.le_of_ble_eq_true rfl) dX4_isSpot_4) hA hP hD hS [] rfl (fun H locs hP hS => ?_)
  obtain ⟨h2, hk⟩ := hk
  exact hend _ _ _ _ _ hP hD hS hV.symm (jnb h2) dX4_isSpot_7
theorem dX4_isPlace_0 : decode cX4_isPlace 0 = .ok (.iload_n 0, 1) := by decide +kernel
theorem dX4_isPlace_1 : decode cX4_isPlace 1 = .ok (.iconst 0, 1) := by decide +kernel
theorem dX4_isPlace_2 : decode cX4_isPlace 2 = .ok (.iconst 5, 1) := by decide +kernel
theorem dX4_isPlace_3 : decode cX4_isPlace 3 = .ok (.invokestatic 50, 3) := by decide +kernel
theorem dX4_isPlace_6 : decode cX4_isPlace 6 = .ok (.ireturn, 1) := by decide +kernel
def rX4_isPlace : Room := { frames := 1, cells := 0, slots := 0, locals := 22 }
def vX4_isPlace (p0 : Int32) : Int32 := (vX4_within p0 (0 : Int32) (5 : Int32))
def kX4_isPlace (p0 : Int32) : Prop := ((vX4_within p0 (0 : Int32) (5 : Int32)) = 0 ∨ (vX4_within p0 (0 : Int32) (5 : Int32)) = 1) ∧ True
set_option maxHeartbeats 4000000 in
set_option maxRecDepth 100000 in
theorem hX4_isPlace (l : Launch) (D : va_G) (K : JK) (G : JG) (p0 : Int32) (hk : kX4_isPlace p0) (sz : Nat) : Met l yX4_isPlace (.code yX4_isPlace cX4_isPlace 1 (some .boolean) :: jGW) rX4_isPlace (jPre D (jT K) G [.int p0] ([] : va_W) sz) (jQi D (jT K) (vX4_isPlace p0) ([] : va_W) (va_A ([] : va_W) sz)) 0 0 (va_A ([] : va_W) sz) := by
  refine jEi (by decide) (Nat.le_of_ble_eq_true rfl) (fun p e s m below meth c A Q ls hat hP hD hS hl hend => ?_)
  obtain ⟨hx, hb, hml, hown, hts, hK, hZ, hA⟩ := hat
  have hl : lv_has ls 1 [(0, .int p0)] := hl
  have hV := vX4_isPlace.eq_1 p0
  rw [kX4_isPlace] at hk
  refine lv_iload_n hx hb dX4_isPlace_0 rfl (lv_at hl 0 rfl) ?_
  refine lv_iconst (v := (0 : Int32)) hx hb dX4_isPlace_1 (by decide) ?_
  refine lv_iconst (v := (5 : Int32)) hx hb dX4_isPlace_2 (by decide) ?_
  refine jci0 (jrunS (As := [.int p0, .int (0 : Int32), .int (5 : Int32)]) (rest := []) hx hb hml hown hts hK hZ hA hP hD hS hl.1 mf_X4_within kl_X4_50 ⟨rfl, rfl, Nat.le_of_ble_eq_true rfl, Nat.le_of_ble_eq_true rfl⟩ ⟨Nat.zero_le _, Nat.zero_le _⟩ [] rfl rfl (hX4_within l D K G p0 (0 : Int32) (5 : Int32) _) rfl rfl (Nat.le_of_ble_eq_true rfl) dX4_isPlace_3) hA hP hD hS [] rfl (fun H locs hP hS => ?_)
  obtain ⟨h2, hk⟩ := hk
  exact hend _ _ _ _ _ hP hD hS hV.symm (jnb h2) dX4_isPlace_6
theorem dX4_isForce_0 : decode cX4_isForce 0 = .ok (.iload_n 0, 1) := by decide +kernel
theorem dX4_isForce_1 : decode cX4_isForce 1 = .ok (.iconst 0, 1) := by decide +kernel
theorem dX4_isForce_2 : decode cX4_isForce 2 = .ok (.bipush 9, 2) := by decide +kernel
theorem dX4_isForce_4 : decode cX4_isForce 4 = .ok (.invokestatic 50, 3) := by decide +kernel
theorem dX4_isForce_7 : decode cX4_isForce 7 = .ok (.ireturn, 1) := by decide +kernel
def rX4_isForce : Room := { frames := 1, cells := 0, slots := 0, locals := 22 }
def vX4_isForce (p0 : Int32) : Int32 := (vX4_within p0 (0 : Int32) (9 : Int32))
def kX4_isForce (p0 : Int32) : Prop := ((vX4_within p0 (0 : Int32) (9 : Int32)) = 0 ∨ (vX4_within p0 (0 : Int32) (9 : Int32)) = 1) ∧ True
set_option maxHeartbeats 4000000 in
set_option maxRecDepth 100000 in
theorem hX4_isForce (l : Launch) (D : va_G) (K : JK) (G : JG) (p0 : Int32) (hk : kX4_isForce p0) (sz : Nat) : Met l yX4_isForce (.code yX4_isForce cX4_isForce 1 (some .boolean) :: jGW) rX4_isForce (jPre D (jT K) G [.int p0] ([] : va_W) sz) (jQi D (jT K) (vX4_isForce p0) ([] : va_W) (va_A ([] : va_W) sz)) 0 0 (va_A ([] : va_W) sz) := by
  refine jEi (by decide) (Nat.le_of_ble_eq_true rfl) (fun p e s m below meth c A Q ls hat hP hD hS hl hend => ?_)
  obtain ⟨hx, hb, hml, hown, hts, hK, hZ, hA⟩ := hat
  have hl : lv_has ls 1 [(0, .int p0)] := hl
  have hV := vX4_isForce.eq_1 p0
  rw [kX4_isForce] at hk
  refine lv_iload_n hx hb dX4_isForce_0 rfl (lv_at hl 0 rfl) ?_
  refine lv_iconst (v := (0 : Int32)) hx hb dX4_isForce_1 (by decide) ?_
  refine lv_bipush (v := (9 : Int32)) hx hb dX4_isForce_2 (by decide) ?_
  refine jci0 (jrunS (As := [.int p0, .int (0 : Int32), .int (9 : Int32)]) (rest := []) hx hb hml hown hts hK hZ hA hP hD hS hl.1 mf_X4_within kl_X4_50 ⟨rfl, rfl, Nat.le_of_ble_eq_true rfl, Nat.le_of_ble_eq_true rfl⟩ ⟨Nat.zero_le _, Nat.zero_le _⟩ [] rfl rfl (hX4_within l D K G p0 (0 : Int32) (9 : Int32) _) rfl rfl (Nat.le_of_ble_eq_true rfl) dX4_isForce_4) hA hP hD hS [] rfl (fun H locs hP hS => ?_)
  obtain ⟨h2, hk⟩ := hk
  exact hend _ _ _ _ _ hP hD hS hV.symm (jnb h2) dX4_isForce_7
theorem dX4_commonDivisor_0 : decode cX4_commonDivisor 0 = .ok (.iload_n 0, 1) := by decide +kernel
theorem dX4_commonDivisor_1 : decode cX4_commonDivisor 1 = .ok (.istore_n 2, 1) := by decide +kernel
theorem dX4_commonDivisor_2 : decode cX4_commonDivisor 2 = .ok (.iload_n 1, 1) := by decide +kernel
theorem dX4_commonDivisor_3 : decode cX4_commonDivisor 3 = .ok (.istore_n 3, 1) := by decide +kernel
theorem dX4_commonDivisor_4 : decode cX4_commonDivisor 4 = .ok (.iconst 0, 1) := by decide +kernel
theorem dX4_commonDivisor_5 : decode cX4_commonDivisor 5 = .ok (.istore 4, 2) := by decide +kernel
theorem dX4_commonDivisor_7 : decode cX4_commonDivisor 7 = .ok (.iload 4, 2) := by decide +kernel
theorem dX4_commonDivisor_9 : decode cX4_commonDivisor 9 = .ok (.bipush 64, 2) := by decide +kernel
theorem dX4_commonDivisor_11 : decode cX4_commonDivisor 11 = .ok (.if_icmp .ge 23, 3) := by decide +kernel
theorem dX4_commonDivisor_14 : decode cX4_commonDivisor 14 = .ok (.iload_n 3, 1) := by decide +kernel
theorem dX4_commonDivisor_15 : decode cX4_commonDivisor 15 = .ok (.ifCond .eq 19, 3) := by decide +kernel
theorem dX4_commonDivisor_18 : decode cX4_commonDivisor 18 = .ok (.iload_n 2, 1) := by decide +kernel
theorem dX4_commonDivisor_19 : decode cX4_commonDivisor 19 = .ok (.iload_n 3, 1) := by decide +kernel
theorem dX4_commonDivisor_20 : decode cX4_commonDivisor 20 = .ok (.irem, 1) := by decide +kernel
theorem dX4_commonDivisor_21 : decode cX4_commonDivisor 21 = .ok (.istore 5, 2) := by decide +kernel
theorem dX4_commonDivisor_23 : decode cX4_commonDivisor 23 = .ok (.iload_n 3, 1) := by decide +kernel
theorem dX4_commonDivisor_24 : decode cX4_commonDivisor 24 = .ok (.istore_n 2, 1) := by decide +kernel
theorem dX4_commonDivisor_25 : decode cX4_commonDivisor 25 = .ok (.iload 5, 2) := by decide +kernel
theorem dX4_commonDivisor_27 : decode cX4_commonDivisor 27 = .ok (.istore_n 3, 1) := by decide +kernel
theorem dX4_commonDivisor_28 : decode cX4_commonDivisor 28 = .ok (.iinc 4 1, 3) := by decide +kernel
theorem dX4_commonDivisor_31 : decode cX4_commonDivisor 31 = .ok (.goto (-24), 3) := by decide +kernel
theorem dX4_commonDivisor_34 : decode cX4_commonDivisor 34 = .ok (.iload_n 2, 1) := by decide +kernel
theorem dX4_commonDivisor_35 : decode cX4_commonDivisor 35 = .ok (.ireturn, 1) := by decide +kernel
def rX4_commonDivisor : Room := { frames := 0, cells := 0, slots := 0, locals := 0 }
def vX4_commonDivisor_c7 (p0 : Int32) (p1 : Int32) : Nat → Int32 → Int32 → Int32 → Int32
  | 0, x2, x3, x4 => (0)
  | n + 1, x2, x3, x4 => if ((64 : Int32) ≤ x4) then x2 else if (x3 = 0) then x2 else (vX4_commonDivisor_c7 p0 p1 n x3 (jrem x2 x3) (x4 + (1 : Int32)))
def kX4_commonDivisor_c7 (p0 : Int32) (p1 : Int32) : Nat → Int32 → Int32 → Int32 → Prop
  | 0, _, _, _ => False
  | n + 1, x2, x3, x4 => (((64 : Int32) ≤ x4) → True) ∧ (¬ ((64 : Int32) ≤ x4) → (((x3 = 0) → True) ∧ (¬ (x3 = 0) → ((¬ x3 = 0) ∧ (kX4_commonDivisor_c7 p0 p1 n x3 (jrem x2 x3) (x4 + (1 : Int32)))))))
def vX4_commonDivisor (p0 : Int32) (p1 : Int32) : Int32 := (vX4_commonDivisor_c7 p0 p1 1024 p0 p1 (0 : Int32))
def kX4_commonDivisor (p0 : Int32) (p1 : Int32) : Prop := (kX4_commonDivisor_c7 p0 p1 1024 p0 p1 (0 : Int32))
set_option maxHeartbeats 4000000 in
set_option maxRecDepth 100000 in
theorem hX4_commonDivisor (l : Launch) (D : va_G) (K : JK) (G : JG) (p0 : Int32) (p1 : Int32) (hk : kX4_commonDivisor p0 p1) (sz : Nat) : Met l yX4_commonDivisor (.code yX4_commonDivisor cX4_commonDivisor 6 (some .int) :: jGW) rX4_commonDivisor (jPre D (jT K) G [.int p0, .int p1] ([] : va_W) sz) (jQi D (jT K) (vX4_commonDivisor p0 p1) ([] : va_W) (va_A ([] : va_W) sz)) 0 0 (va_A ([] : va_W) sz) := by
  refine jEi (by decide) (Nat.le_of_ble_eq_true rfl) (fun p e s m below meth c A Q ls hat hP hD hS hl hend => ?_)
  obtain ⟨hx, hb, hml, hown, hts, hK, hZ, hA⟩ := hat
  have hl : lv_has ls 6 [(0, .int p0), (1, .int p1)] := hl
  have hc7 : ∀ (n : Nat) (x2 : Int32) (x3 : Int32) (x4 : Int32) (H : Heap) (locs : List Loc) (ls : Array Slot), (vX4_commonDivisor p0 p1) = vX4_commonDivisor_c7 p0 p1 n x2 x3 x4 → kX4_commonDivisor_c7 p0 p1 n x2 x3 x4 → va_P D vwCl ([] : va_W) H → va_D A ([] : va_W) → va_S A s.heap H locs → lv_has ls 6 [(0, .int p0), (1, .int p1), (2, .int x2), (3, .int x3), (4, .int x4)] → W p l e rX4_commonDivisor s m ([.int p0, .int p1] : List Value).toArray below meth c H locs 0 0 Q (F0 m 7 ls []) := by
    intro n
    induction n with
    | zero =>
      intro x2 x3 x4 H locs ls hV hk hP hD hS hl
      exact False.elim hk
    | succ n ih =>
      intro x2 x3 x4 H locs ls hV hk hP hD hS hl
      rw [vX4_commonDivisor_c7] at hV
      rw [kX4_commonDivisor_c7] at hk
      refine lv_iload hx hb dX4_commonDivisor_7 (lv_at hl 4 rfl) ?_
      refine lv_bipush (v := (64 : Int32)) hx hb dX4_commonDivisor_9 (by decide) ?_
      refine lv_icmp_ge (tgt := 34) hx hb dX4_commonDivisor_11 (by decide) (fun c4 => ?_) (fun c4 => ?_)
      · have hV := hV.trans (if_pos c4)
        have hk := hk.1 c4
        refine lv_iload_n hx hb dX4_commonDivisor_34 rfl (lv_at hl 2 rfl) ?_
        exact hend _ _ _ _ _ hP hD hS hV.symm rfl dX4_commonDivisor_35
      · have hV := hV.trans (if_neg c4)
        have hk := hk.2 c4
        refine lv_iload_n hx hb dX4_commonDivisor_14 rfl (lv_at hl 3 rfl) ?_
        refine lv_if_eq (tgt := 34) hx hb dX4_commonDivisor_15 (by decide) (fun c5 => ?_) (fun c5 => ?_)
        · have hV := hV.trans (if_pos c5)
          have hk := hk.1 c5
          refine lv_iload_n hx hb dX4_commonDivisor_34 rfl (lv_at hl 2 rfl) ?_
          exact hend _ _ _ _ _ hP hD hS hV.symm rfl dX4_commonDivisor_35
        · have hV := hV.trans (if_neg c5)
          have hk := hk.2 c5
          refine lv_iload_n hx hb dX4_commonDivisor_18 rfl (lv_at hl 2 rfl) ?_
          refine lv_iload_n hx hb dX4_commonDivisor_19 rfl (lv_at hl 3 rfl) ?_
          obtain ⟨h6, hk⟩ := hk
          refine j_irem hx hb dX4_commonDivisor_20 h6 ?_
          refine lv_istore (lv' := [(5, .int (jrem x2 x3)), (0, .int p0), (1, .int p1), (2, .int x2), (3, .int x3), (4, .int x4)]) hx hb dX4_commonDivisor_21 hl (by decide) rfl (fun ls hl => ?_)
          refine lv_iload_n hx hb dX4_commonDivisor_23 rfl (lv_at hl 4 rfl) ?_
          refine lv_istore_n (lv' := [(2, .int x3), (5, .int (jrem x2 x3)), (0, .int p0), (1, .int p1), (3, .int x3), (4, .int x4)]) hx hb dX4_commonDivisor_24 rfl hl (by decide) rfl (fun ls hl => ?_)
          refine lv_iload hx hb dX4_commonDivisor_25 (lv_at hl 1 rfl) ?_
          refine lv_istore_n (lv' := [(3, .int (jrem x2 x3)), (2, .int x3), (5, .int (jrem x2 x3)), (0, .int p0), (1, .int p1), (4, .int x4)]) hx hb dX4_commonDivisor_27 rfl hl (by decide) rfl (fun ls hl => ?_)
          refine lv_iinc (v := (x4 + (1 : Int32))) (lv' := [(4, .int (x4 + (1 : Int32))), (3, .int (jrem x2 x3)), (2, .int x3), (5, .int (jrem x2 x3)), (0, .int p0), (1, .int p1)]) hx hb dX4_commonDivisor_28 hl (k := 5) rfl rfl (by decide) rfl (fun ls hl => ?_)
          refine lv_goto (tgt := 7) hx hb dX4_commonDivisor_31 (by decide) ?_
          exact ih x3 (jrem x2 x3) (x4 + (1 : Int32)) _ _ _ hV hk hP hD hS (lv_sub hl [4, 5, 2, 1, 0] rfl)
  have hV := vX4_commonDivisor.eq_1 p0 p1
  rw [kX4_commonDivisor] at hk
  refine lv_iload_n hx hb dX4_commonDivisor_0 rfl (lv_at hl 0 rfl) ?_
  refine lv_istore_n (lv' := [(2, .int p0), (0, .int p0), (1, .int p1)]) hx hb dX4_commonDivisor_1 rfl hl (by decide) rfl (fun ls hl => ?_)
  refine lv_iload_n hx hb dX4_commonDivisor_2 rfl (lv_at hl 2 rfl) ?_
  refine lv_istore_n (lv' := [(3, .int p1), (2, .int p0), (0, .int p0), (1, .int p1)]) hx hb dX4_commonDivisor_3 rfl hl (by decide) rfl (fun ls hl => ?_)
  refine lv_iconst (v := (0 : Int32)) hx hb dX4_commonDivisor_4 (by decide) ?_
  refine lv_istore (lv' := [(4, .int (0 : Int32)), (3, .int p1), (2, .int p0), (0, .int p0), (1, .int p1)]) hx hb dX4_commonDivisor_5 hl (by decide) rfl (fun ls hl => ?_)
  exact hc7 1024 p0 p1 (0 : Int32) _ _ _ hV hk hP hD hS (lv_sub hl [3, 4, 2, 1, 0] rfl)
theorem dX4_isSheet_0 : decode cX4_isSheet 0 = .ok (.iload_n 0, 1) := by decide +kernel
theorem dX4_isSheet_1 : decode cX4_isSheet 1 = .ok (.iconst 0, 1) := by decide +kernel
theorem dX4_isSheet_2 : decode cX4_isSheet 2 = .ok (.iconst 3, 1) := by decide +kernel
theorem dX4_isSheet_3 : decode cX4_isSheet 3 = .ok (.invokestatic 50, 3) := by decide +kernel
theorem dX4_isSheet_6 : decode cX4_isSheet 6 = .ok (.ireturn, 1) := by decide +kernel
def rX4_isSheet : Room := { frames := 1, cells := 0, slots := 0, locals := 22 }
def vX4_isSheet (p0 : Int32) : Int32 := (vX4_within p0 (0 : Int32) (3 : Int32))
def kX4_isSheet (p0 : Int32) : Prop := ((vX4_within p0 (0 : Int32) (3 : Int32)) = 0 ∨ (vX4_within p0 (0 : Int32) (3 : Int32)) = 1) ∧ True
set_option maxHeartbeats 4000000 in
set_option maxRecDepth 100000 in
theorem hX4_isSheet (l : Launch) (D : va_G) (K : JK) (G : JG) (p0 : Int32) (hk : kX4_isSheet p0) (sz : Nat) : Met l yX4_isSheet (.code yX4_isSheet cX4_isSheet 1 (some .boolean) :: jGW) rX4_isSheet (jPre D (jT K) G [.int p0] ([] : va_W) sz) (jQi D (jT K) (vX4_isSheet p0) ([] : va_W) (va_A ([] : va_W) sz)) 0 0 (va_A ([] : va_W) sz) := by
  refine jEi (by decide) (Nat.le_of_ble_eq_true rfl) (fun p e s m below meth c A Q ls hat hP hD hS hl hend => ?_)
  obtain ⟨hx, hb, hml, hown, hts, hK, hZ, hA⟩ := hat
  have hl : lv_has ls 1 [(0, .int p0)] := hl
  have hV := vX4_isSheet.eq_1 p0
  rw [kX4_isSheet] at hk
  refine lv_iload_n hx hb dX4_isSheet_0 rfl (lv_at hl 0 rfl) ?_
  refine lv_iconst (v := (0 : Int32)) hx hb dX4_isSheet_1 (by decide) ?_
  refine lv_iconst (v := (3 : Int32)) hx hb dX4_isSheet_2 (by decide) ?_
  refine jci0 (jrunS (As := [.int p0, .int (0 : Int32), .int (3 : Int32)]) (rest := []) hx hb hml hown hts hK hZ hA hP hD hS hl.1 mf_X4_within kl_X4_50 ⟨rfl, rfl, Nat.le_of_ble_eq_true rfl, Nat.le_of_ble_eq_true rfl⟩ ⟨Nat.zero_le _, Nat.zero_le _⟩ [] rfl rfl (hX4_within l D K G p0 (0 : Int32) (3 : Int32) _) rfl rfl (Nat.le_of_ble_eq_true rfl) dX4_isSheet_3) hA hP hD hS [] rfl (fun H locs hP hS => ?_)
  obtain ⟨h2, hk⟩ := hk
  exact hend _ _ _ _ _ hP hD hS hV.symm (jnb h2) dX4_isSheet_6
theorem dX4_power_0 : decode cX4_power 0 = .ok (.lconst 1, 1) := by decide +kernel
theorem dX4_power_1 : decode cX4_power 1 = .ok (.lstore_n 2, 1) := by decide +kernel
theorem dX4_power_2 : decode cX4_power 2 = .ok (.iconst 0, 1) := by decide +kernel
theorem dX4_power_3 : decode cX4_power 3 = .ok (.istore 4, 2) := by decide +kernel
theorem dX4_power_5 : decode cX4_power 5 = .ok (.iload 4, 2) := by decide +kernel
theorem dX4_power_7 : decode cX4_power 7 = .ok (.iload_n 1, 1) := by decide +kernel
theorem dX4_power_8 : decode cX4_power 8 = .ok (.if_icmp .ge 14, 3) := by decide +kernel
theorem dX4_power_11 : decode cX4_power 11 = .ok (.lload_n 2, 1) := by decide +kernel
theorem dX4_power_12 : decode cX4_power 12 = .ok (.iload_n 0, 1) := by decide +kernel
theorem dX4_power_13 : decode cX4_power 13 = .ok (.i2l, 1) := by decide +kernel
theorem dX4_power_14 : decode cX4_power 14 = .ok (.lmul, 1) := by decide +kernel
theorem dX4_power_15 : decode cX4_power 15 = .ok (.lstore_n 2, 1) := by decide +kernel
theorem dX4_power_16 : decode cX4_power 16 = .ok (.iinc 4 1, 3) := by decide +kernel
theorem dX4_power_19 : decode cX4_power 19 = .ok (.goto (-14), 3) := by decide +kernel
theorem dX4_power_22 : decode cX4_power 22 = .ok (.lload_n 2, 1) := by decide +kernel
theorem dX4_power_23 : decode cX4_power 23 = .ok (.lreturn, 1) := by decide +kernel
def rX4_power : Room := { frames := 0, cells := 0, slots := 0, locals := 0 }
def vX4_power_c5 (p0 : Int32) (p1 : Int32) : Nat → Int64 → Int32 → Int64
  | 0, x2, x4 => (0)
  | n + 1, x2, x4 => if (p1 ≤ x4) then x2 else (vX4_power_c5 p0 p1 n (x2 * ((p0).toInt64)) (x4 + (1 : Int32)))
def kX4_power_c5 (p0 : Int32) (p1 : Int32) : Nat → Int64 → Int32 → Prop
  | 0, _, _ => False
  | n + 1, x2, x4 => ((p1 ≤ x4) → True) ∧ (¬ (p1 ≤ x4) → ((kX4_power_c5 p0 p1 n (x2 * ((p0).toInt64)) (x4 + (1 : Int32)))))
def vX4_power (p0 : Int32) (p1 : Int32) : Int64 := (vX4_power_c5 p0 p1 1024 (1 : Int64) (0 : Int32))
def kX4_power (p0 : Int32) (p1 : Int32) : Prop := (kX4_power_c5 p0 p1 1024 (1 : Int64) (0 : Int32))
set_option maxHeartbeats 4000000 in
set_option maxRecDepth 100000 in
theorem hX4_power (l : Launch) (D : va_G) (K : JK) (G : JG) (p0 : Int32) (p1 : Int32) (hk : kX4_power p0 p1) (sz : Nat) : Met l yX4_power (.code yX4_power cX4_power 5 (some .long) :: jGW) rX4_power (jPre D (jT K) G [.int p0, .int p1] ([] : va_W) sz) (jQl D (jT K) (vX4_power p0 p1) ([] : va_W) (va_A ([] : va_W) sz)) 0 0 (va_A ([] : va_W) sz) := by
  refine jEl (by decide) (Nat.le_of_ble_eq_true rfl) (fun p e s m below meth c A Q ls hat hP hD hS hl hend => ?_)
  obtain ⟨hx, hb, hml, hown, hts, hK, hZ, hA⟩ := hat
  have hl : lv_has ls 5 [(0, .int p0), (1, .int p1)] := hl
  have hc5 : ∀ (n : Nat) (x2 : Int64) (x4 : Int32) (H : Heap) (locs : List Loc) (ls : Array Slot), (vX4_power p0 p1) = vX4_power_c5 p0 p1 n x2 x4 → kX4_power_c5 p0 p1 n x2 x4 → va_P D vwCl ([] : va_W) H → va_D A ([] : va_W) → va_S A s.heap H locs → lv_has ls 5 [(0, .int p0), (1, .int p1), (2, .long x2), (4, .int x4)] → W p l e rX4_power s m ([.int p0, .int p1] : List Value).toArray below meth c H locs 0 0 Q (F0 m 5 ls []) := by
    intro n
    induction n with
    | zero =>
      intro x2 x4 H locs ls hV hk hP hD hS hl
      exact False.elim hk
    | succ n ih =>
      intro x2 x4 H locs ls hV hk hP hD hS hl
      rw [vX4_power_c5] at hV
      rw [kX4_power_c5] at hk
      refine lv_iload hx hb dX4_power_5 (lv_at hl 3 rfl) ?_
      refine lv_iload_n hx hb dX4_power_7 rfl (lv_at hl 1 rfl) ?_
      refine lv_icmp_ge (tgt := 22) hx hb dX4_power_8 (by decide) (fun c2 => ?_) (fun c2 => ?_)
      · have hV := hV.trans (if_pos c2)
        have hk := hk.1 c2
        refine lv_lload_n hx hb dX4_power_22 rfl (lv_at hl 2 rfl) ?_
        exact hend _ _ _ _ _ hP hD hS hV.symm dX4_power_23
      · have hV := hV.trans (if_neg c2)
        have hk := hk.2 c2
        refine lv_lload_n hx hb dX4_power_11 rfl (lv_at hl 2 rfl) ?_
        refine lv_iload_n hx hb dX4_power_12 rfl (lv_at hl 0 rfl) ?_
        refine lv_i2l hx hb dX4_power_13 rfl ?_
        refine lv_lmul hx hb dX4_power_14 ?_
        refine lv_lstore_n (lv' := [(2, .long (x2 * ((p0).toInt64))), (0, .int p0), (1, .int p1), (4, .int x4)]) hx hb dX4_power_15 rfl hl (by decide) rfl (fun ls hl => ?_)
        refine lv_iinc (v := (x4 + (1 : Int32))) (lv' := [(4, .int (x4 + (1 : Int32))), (2, .long (x2 * ((p0).toInt64))), (0, .int p0), (1, .int p1)]) hx hb dX4_power_16 hl (k := 3) rfl rfl (by decide) rfl (fun ls hl => ?_)
        refine lv_goto (tgt := 5) hx hb dX4_power_19 (by decide) ?_
        exact ih (x2 * ((p0).toInt64)) (x4 + (1 : Int32)) _ _ _ hV hk hP hD hS (lv_sub hl [2, 3, 1, 0] rfl)
  have hV := vX4_power.eq_1 p0 p1
  rw [kX4_power] at hk
  refine lv_lconst (v := (1 : Int64)) hx hb dX4_power_0 (by decide) ?_
  refine lv_lstore_n (lv' := [(2, .long (1 : Int64)), (0, .int p0), (1, .int p1)]) hx hb dX4_power_1 rfl hl (by decide) rfl (fun ls hl => ?_)
  refine lv_iconst (v := (0 : Int32)) hx hb dX4_power_2 (by decide) ?_
  refine lv_istore (lv' := [(4, .int (0 : Int32)), (2, .long (1 : Int64)), (0, .int p0), (1, .int p1)]) hx hb dX4_power_3 hl (by decide) rfl (fun ls hl => ?_)
  exact hc5 1024 (1 : Int64) (0 : Int32) _ _ _ hV hk hP hD hS (lv_sub hl [2, 3, 1, 0] rfl)
theorem dX5_in_0 : decode cX5_in 0 = .ok (.iload_n 0, 1) := by decide +kernel
theorem dX5_in_1 : decode cX5_in 1 = .ok (.iload_n 1, 1) := by decide +kernel
theorem dX5_in_2 : decode cX5_in 2 = .ok (.if_icmp .lt 12, 3) := by decide +kernel
theorem dX5_in_5 : decode cX5_in 5 = .ok (.iload_n 0, 1) := by decide +kernel
theorem dX5_in_6 : decode cX5_in 6 = .ok (.iload_n 2, 1) := by decide +kernel
theorem dX5_in_7 : decode cX5_in 7 = .ok (.if_icmp .gt 7, 3) := by decide +kernel
theorem dX5_in_10 : decode cX5_in 10 = .ok (.iconst 1, 1) := by decide +kernel
theorem dX5_in_11 : decode cX5_in 11 = .ok (.goto 4, 3) := by decide +kernel
theorem dX5_in_14 : decode cX5_in 14 = .ok (.iconst 0, 1) := by decide +kernel
theorem dX5_in_15 : decode cX5_in 15 = .ok (.ireturn, 1) := by decide +kernel
def rX5_in : Room := { frames := 0, cells := 0, slots := 0, locals := 0 }
def vX5_in (p0 : Int32) (p1 : Int32) (p2 : Int32) : Int32 := if (p0 < p1) then (0 : Int32) else if (p2 < p0) then (0 : Int32) else (1 : Int32)
set_option maxHeartbeats 4000000 in
set_option maxRecDepth 100000 in
theorem hX5_in (l : Launch) (D : va_G) (K : JK) (G : JG) (p0 : Int32) (p1 : Int32) (p2 : Int32) (sz : Nat) : Met l yX5_in (.code yX5_in cX5_in 3 (some .boolean) :: jGW) rX5_in (jPre D (jT K) G [.int p0, .int p1, .int p2] ([] : va_W) sz) (jQi D (jT K) (vX5_in p0 p1 p2) ([] : va_W) (va_A ([] : va_W) sz)) 0 0 (va_A ([] : va_W) sz) := by
  refine jEi (by decide) (Nat.le_of_ble_eq_true rfl) (fun p e s m below meth c A Q ls hat hP hD hS hl hend => ?_)
  obtain ⟨hx, hb, hml, hown, hts, hK, hZ, hA⟩ := hat
  have hl : lv_has ls 3 [(0, .int p0), (1, .int p1), (2, .int p2)] := hl
  have hV := vX5_in.eq_1 p0 p1 p2
  refine lv_iload_n hx hb dX5_in_0 rfl (lv_at hl 0 rfl) ?_
  refine lv_iload_n hx hb dX5_in_1 rfl (lv_at hl 1 rfl) ?_
  refine lv_icmp_lt (tgt := 14) hx hb dX5_in_2 (by decide) (fun c3 => ?_) (fun c3 => ?_)
  · have hV := hV.trans (if_pos c3)
    refine lv_iconst (v := (0 : Int32)) hx hb dX5_in_14 (by decide) ?_
    exact hend _ _ _ _ _ hP hD hS hV.symm rfl dX5_in_15
  · have hV := hV.trans (if_neg c3)
    refine lv_iload_n hx hb dX5_in_5 rfl (lv_at hl 0 rfl) ?_
    refine lv_iload_n hx hb dX5_in_6 rfl (lv_at hl 2 rfl) ?_
    refine lv_icmp_gt (tgt := 14) hx hb dX5_in_7 (by decide) (fun c4 => ?_) (fun c4 => ?_)
    · have hV := hV.trans (if_pos c4)
      refine lv_iconst (v := (0 : Int32)) hx hb dX5_in_14 (by decide) ?_
      exact hend _ _ _ _ _ hP hD hS hV.symm rfl dX5_in_15
    · have hV := hV.trans (if_neg c4)
      refine lv_iconst (v := (1 : Int32)) hx hb dX5_in_10 (by decide) ?_
      refine lv_goto (tgt := 15) hx hb dX5_in_11 (by decide) ?_
      exact hend _ _ _ _ _ hP hD hS hV.symm rfl dX5_in_15
theorem dX5_held_0 : decode cX5_held 0 = .ok (.iload_n 0, 1) := by decide +kernel
theorem dX5_held_1 : decode cX5_held 1 = .ok (.iload_n 1, 1) := by decide +kernel
theorem dX5_held_2 : decode cX5_held 2 = .ok (.if_icmp .ge 7, 3) := by decide +kernel
theorem dX5_held_5 : decode cX5_held 5 = .ok (.iload_n 1, 1) := by decide +kernel
theorem dX5_held_6 : decode cX5_held 6 = .ok (.goto 13, 3) := by decide +kernel
theorem dX5_held_9 : decode cX5_held 9 = .ok (.iload_n 0, 1) := by decide +kernel
theorem dX5_held_10 : decode cX5_held 10 = .ok (.iload_n 2, 1) := by decide +kernel
theorem dX5_held_11 : decode cX5_held 11 = .ok (.if_icmp .le 7, 3) := by decide +kernel
theorem dX5_held_14 : decode cX5_held 14 = .ok (.iload_n 2, 1) := by decide +kernel
theorem dX5_held_15 : decode cX5_held 15 = .ok (.goto 4, 3) := by decide +kernel
theorem dX5_held_18 : decode cX5_held 18 = .ok (.iload_n 0, 1) := by decide +kernel
theorem dX5_held_19 : decode cX5_held 19 = .ok (.ireturn, 1) := by decide +kernel
def rX5_held : Room := { frames := 0, cells := 0, slots := 0, locals := 0 }
def vX5_held (p0 : Int32) (p1 : Int32) (p2 : Int32) : Int32 := if (p1 ≤ p0) then (if (p0 ≤ p2) then p0 else p2) else p1
set_option maxHeartbeats 4000000 in
set_option maxRecDepth 100000 in
theorem hX5_held (l : Launch) (D : va_G) (K : JK) (G : JG) (p0 : Int32) (p1 : Int32) (p2 : Int32) (sz : Nat) : Met l yX5_held (.code yX5_held cX5_held 3 (some .int) :: jGW) rX5_held (jPre D (jT K) G [.int p0, .int p1, .int p2] ([] : va_W) sz) (jQi D (jT K) (vX5_held p0 p1 p2) ([] : va_W) (va_A ([] : va_W) sz)) 0 0 (va_A ([] : va_W) sz) := by
  refine jEi (by decide) (Nat.le_of_ble_eq_true rfl) (fun p e s m below meth c A Q ls hat hP hD hS hl hend => ?_)
  obtain ⟨hx, hb, hml, hown, hts, hK, hZ, hA⟩ := hat
  have hl : lv_has ls 3 [(0, .int p0), (1, .int p1), (2, .int p2)] := hl
  have hV := vX5_held.eq_1 p0 p1 p2
  refine lv_iload_n hx hb dX5_held_0 rfl (lv_at hl 0 rfl) ?_
  refine lv_iload_n hx hb dX5_held_1 rfl (lv_at hl 1 rfl) ?_
  refine lv_icmp_ge (tgt := 9) hx hb dX5_held_2 (by decide) (fun c3 => ?_) (fun c3 => ?_)
  · have hV := hV.trans (if_pos c3)
    refine lv_iload_n hx hb dX5_held_9 rfl (lv_at hl 0 rfl) ?_
    refine lv_iload_n hx hb dX5_held_10 rfl (lv_at hl 2 rfl) ?_
    refine lv_icmp_le (tgt := 18) hx hb dX5_held_11 (by decide) (fun c4 => ?_) (fun c4 => ?_)
    · have hV := hV.trans (if_pos c4)
      refine lv_iload_n hx hb dX5_held_18 rfl (lv_at hl 0 rfl) ?_
      exact hend _ _ _ _ _ hP hD hS hV.symm rfl dX5_held_19
    · have hV := hV.trans (if_neg c4)
      refine lv_iload_n hx hb dX5_held_14 rfl (lv_at hl 2 rfl) ?_
      refine lv_goto (tgt := 19) hx hb dX5_held_15 (by decide) ?_
      exact hend _ _ _ _ _ hP hD hS hV.symm rfl dX5_held_19
  · have hV := hV.trans (if_neg c3)
    refine lv_iload_n hx hb dX5_held_5 rfl (lv_at hl 1 rfl) ?_
    refine lv_goto (tgt := 19) hx hb dX5_held_6 (by decide) ?_
    exact hend _ _ _ _ _ hP hD hS hV.symm rfl dX5_held_19
theorem dX5_isUnder_0 : decode cX5_isUnder 0 = .ok (.iload_n 0, 1) := by decide +kernel
theorem dX5_isUnder_1 : decode cX5_isUnder 1 = .ok (.iconst 3, 1) := by decide +kernel
theorem dX5_isUnder_2 : decode cX5_isUnder 2 = .ok (.if_icmp .eq 8, 3) := by decide +kernel
theorem dX5_isUnder_5 : decode cX5_isUnder 5 = .ok (.iload_n 0, 1) := by decide +kernel
theorem dX5_isUnder_6 : decode cX5_isUnder 6 = .ok (.iconst 4, 1) := by decide +kernel
theorem dX5_isUnder_7 : decode cX5_isUnder 7 = .ok (.if_icmp .ne 7, 3) := by decide +kernel
theorem dX5_isUnder_10 : decode cX5_isUnder 10 = .ok (.iconst 1, 1) := by decide +kernel
theorem dX5_isUnder_11 : decode cX5_isUnder 11 = .ok (.goto 4, 3) := by decide +kernel
theorem dX5_isUnder_14 : decode cX5_isUnder 14 = .ok (.iconst 0, 1) := by decide +kernel
theorem dX5_isUnder_15 : decode cX5_isUnder 15 = .ok (.istore_n 2, 1) := by decide +kernel
theorem dX5_isUnder_16 : decode cX5_isUnder 16 = .ok (.iload_n 1, 1) := by decide +kernel
theorem dX5_isUnder_17 : decode cX5_isUnder 17 = .ok (.ifCond .eq 38, 3) := by decide +kernel
theorem dX5_isUnder_20 : decode cX5_isUnder 20 = .ok (.iload_n 1, 1) := by decide +kernel
theorem dX5_isUnder_21 : decode cX5_isUnder 21 = .ok (.iload_n 0, 1) := by decide +kernel
theorem dX5_isUnder_22 : decode cX5_isUnder 22 = .ok (.if_icmp .eq 33, 3) := by decide +kernel
theorem dX5_isUnder_25 : decode cX5_isUnder 25 = .ok (.iload_n 1, 1) := by decide +kernel
theorem dX5_isUnder_26 : decode cX5_isUnder 26 = .ok (.iconst 2, 1) := by decide +kernel
theorem dX5_isUnder_27 : decode cX5_isUnder 27 = .ok (.if_icmp .ne 7, 3) := by decide +kernel
theorem dX5_isUnder_30 : decode cX5_isUnder 30 = .ok (.iload_n 2, 1) := by decide +kernel
theorem dX5_isUnder_31 : decode cX5_isUnder 31 = .ok (.ifCond .ne 24, 3) := by decide +kernel
theorem dX5_isUnder_34 : decode cX5_isUnder 34 = .ok (.iload_n 1, 1) := by decide +kernel
theorem dX5_isUnder_35 : decode cX5_isUnder 35 = .ok (.iconst 3, 1) := by decide +kernel
theorem dX5_isUnder_36 : decode cX5_isUnder 36 = .ok (.if_icmp .ne 8, 3) := by decide +kernel
theorem dX5_isUnder_39 : decode cX5_isUnder 39 = .ok (.iload_n 0, 1) := by decide +kernel
theorem dX5_isUnder_40 : decode cX5_isUnder 40 = .ok (.iconst 4, 1) := by decide +kernel
theorem dX5_isUnder_41 : decode cX5_isUnder 41 = .ok (.if_icmp .eq 14, 3) := by decide +kernel
theorem dX5_isUnder_44 : decode cX5_isUnder 44 = .ok (.iload_n 1, 1) := by decide +kernel
theorem dX5_isUnder_45 : decode cX5_isUnder 45 = .ok (.iconst 1, 1) := by decide +kernel
theorem dX5_isUnder_46 : decode cX5_isUnder 46 = .ok (.if_icmp .ne 13, 3) := by decide +kernel
theorem dX5_isUnder_49 : decode cX5_isUnder 49 = .ok (.iload_n 0, 1) := by decide +kernel
theorem dX5_isUnder_50 : decode cX5_isUnder 50 = .ok (.bipush 6, 2) := by decide +kernel
theorem dX5_isUnder_52 : decode cX5_isUnder 52 = .ok (.if_icmp .ne 7, 3) := by decide +kernel
theorem dX5_isUnder_55 : decode cX5_isUnder 55 = .ok (.iconst 1, 1) := by decide +kernel
theorem dX5_isUnder_56 : decode cX5_isUnder 56 = .ok (.goto 4, 3) := by decide +kernel
theorem dX5_isUnder_59 : decode cX5_isUnder 59 = .ok (.iconst 0, 1) := by decide +kernel
theorem dX5_isUnder_60 : decode cX5_isUnder 60 = .ok (.ireturn, 1) := by decide +kernel
def rX5_isUnder : Room := { frames := 0, cells := 0, slots := 0, locals := 0 }
def vX5_isUnder_c44 (p0 : Int32) (p1 : Int32) : Int32 := if (p1 = (1 : Int32)) then (if (p0 = (6 : Int32)) then (1 : Int32) else (0 : Int32)) else (0 : Int32)
def vX5_isUnder_c34 (p0 : Int32) (p1 : Int32) : Int32 := if (p1 = (3 : Int32)) then (if (p0 = (4 : Int32)) then (1 : Int32) else (vX5_isUnder_c44 p0 p1)) else (vX5_isUnder_c44 p0 p1)
def vX5_isUnder_c15 (p0 : Int32) (p1 : Int32) (y0 : Int32) : Int32 := if (p1 = 0) then (1 : Int32) else if (p1 = p0) then (1 : Int32) else if (p1 = (2 : Int32)) then (if (y0 = 0) then (vX5_isUnder_c34 p0 p1) else (1 : Int32)) else (vX5_isUnder_c34 p0 p1)
def vX5_isUnder_c10 (p0 : Int32) (p1 : Int32) : Int32 := (vX5_isUnder_c15 p0 p1 (1 : Int32))
def vX5_isUnder (p0 : Int32) (p1 : Int32) : Int32 := if (p0 = (3 : Int32)) then (vX5_isUnder_c10 p0 p1) else if (p0 = (4 : Int32)) then (vX5_isUnder_c10 p0 p1) else (vX5_isUnder_c15 p0 p1 (0 : Int32))
set_option maxHeartbeats 4000000 in
set_option maxRecDepth 100000 in
theorem hX5_isUnder (l : Launch) (D : va_G) (K : JK) (G : JG) (p0 : Int32) (p1 : Int32) (sz : Nat) : Met l yX5_isUnder (.code yX5_isUnder cX5_isUnder 3 (some .boolean) :: jGW) rX5_isUnder (jPre D (jT K) G [.int p0, .int p1] ([] : va_W) sz) (jQi D (jT K) (vX5_isUnder p0 p1) ([] : va_W) (va_A ([] : va_W) sz)) 0 0 (va_A ([] : va_W) sz) := by
  refine jEi (by decide) (Nat.le_of_ble_eq_true rfl) (fun p e s m below meth c A Q ls hat hP hD hS hl hend => ?_)
  obtain ⟨hx, hb, hml, hown, hts, hK, hZ, hA⟩ := hat
  have hl : lv_has ls 3 [(0, .int p0), (1, .int p1)] := hl
  have hc44 : ∀ (H : Heap) (locs : List Loc) (ls : Array Slot), (vX5_isUnder p0 p1) = vX5_isUnder_c44 p0 p1 → va_P D vwCl ([] : va_W) H → va_D A ([] : va_W) → va_S A s.heap H locs → lv_has ls 3 [(0, .int p0), (1, .int p1)] → W p l e rX5_isUnder s m ([.int p0, .int p1] : List Value).toArray below meth c H locs 0 0 Q (F0 m 44 ls []) := by
    intro H locs ls hV hP hD hS hl
    rw [vX5_isUnder_c44] at hV
    refine lv_iload_n hx hb dX5_isUnder_44 rfl (lv_at hl 1 rfl) ?_
    refine lv_iconst (v := (1 : Int32)) hx hb dX5_isUnder_45 (by decide) ?_
    refine lv_icmp_ne (tgt := 59) hx hb dX5_isUnder_46 (by decide) (fun c11 => ?_) (fun c11 => ?_)
    · have hV := hV.trans (if_neg c11)
      refine lv_iconst (v := (0 : Int32)) hx hb dX5_isUnder_59 (by decide) ?_
      exact hend _ _ _ _ _ hP hD hS hV.symm rfl dX5_isUnder_60
    · have hV := hV.trans (if_pos c11)
      refine lv_iload_n hx hb dX5_isUnder_49 rfl (lv_at hl 0 rfl) ?_
      refine lv_bipush (v := (6 : Int32)) hx hb dX5_isUnder_50 (by decide) ?_
      refine lv_icmp_ne (tgt := 59) hx hb dX5_isUnder_52 (by decide) (fun c12 => ?_) (fun c12 => ?_)
      · have hV := hV.trans (if_neg c12)
        refine lv_iconst (v := (0 : Int32)) hx hb dX5_isUnder_59 (by decide) ?_
        exact hend _ _ _ _ _ hP hD hS hV.symm rfl dX5_isUnder_60
      · have hV := hV.trans (if_pos c12)
        refine lv_iconst (v := (1 : Int32)) hx hb dX5_isUnder_55 (by decide) ?_
        refine lv_goto (tgt := 60) hx hb dX5_isUnder_56 (by decide) ?_
        exact hend _ _ _ _ _ hP hD hS hV.symm rfl dX5_isUnder_60
  have hc34 : ∀ (H : Heap) (locs : List Loc) (ls : Array Slot), (vX5_isUnder p0 p1) = vX5_isUnder_c34 p0 p1 → va_P D vwCl ([] : va_W) H → va_D A ([] : va_W) → va_S A s.heap H locs → lv_has ls 3 [(0, .int p0), (1, .int p1)] → W p l e rX5_isUnder s m ([.int p0, .int p1] : List Value).toArray below meth c H locs 0 0 Q (F0 m 34 ls []) := by
    intro H locs ls hV hP hD hS hl
    rw [vX5_isUnder_c34] at hV
    refine lv_iload_n hx hb dX5_isUnder_34 rfl (lv_at hl 1 rfl) ?_
    refine lv_iconst (v := (3 : Int32)) hx hb dX5_isUnder_35 (by decide) ?_
    refine lv_icmp_ne (tgt := 44) hx hb dX5_isUnder_36 (by decide) (fun c13 => ?_) (fun c13 => ?_)
    · have hV := hV.trans (if_neg c13)
      exact hc44 _ _ _ hV hP hD hS (lv_sub hl [0, 1] rfl)
    · have hV := hV.trans (if_pos c13)
      refine lv_iload_n hx hb dX5_isUnder_39 rfl (lv_at hl 0 rfl) ?_
      refine lv_iconst (v := (4 : Int32)) hx hb dX5_isUnder_40 (by decide) ?_
      refine lv_icmp_eq (tgt := 55) hx hb dX5_isUnder_41 (by decide) (fun c14 => ?_) (fun c14 => ?_)
      · have hV := hV.trans (if_pos c14)
        refine lv_iconst (v := (1 : Int32)) hx hb dX5_isUnder_55 (by decide) ?_
        refine lv_goto (tgt := 60) hx hb dX5_isUnder_56 (by decide) ?_
        exact hend _ _ _ _ _ hP hD hS hV.symm rfl dX5_isUnder_60
      · have hV := hV.trans (if_neg c14)
        exact hc44 _ _ _ hV hP hD hS (lv_sub hl [0, 1] rfl)
  have hc15 : ∀ (y0 : Int32) (H : Heap) (locs : List Loc) (ls : Array Slot), (vX5_isUnder p0 p1) = vX5_isUnder_c15 p0 p1 y0 → va_P D vwCl ([] : va_W) H → va_D A ([] : va_W) → va_S A s.heap H locs → lv_has ls 3 [(0, .int p0), (1, .int p1)] → W p l e rX5_isUnder s m ([.int p0, .int p1] : List Value).toArray below meth c H locs 0 0 Q (F0 m 15 ls [.int y0]) := by
    intro y0 H locs ls hV hP hD hS hl
    rw [vX5_isUnder_c15] at hV
    refine lv_istore_n (lv' := [(2, .int y0), (0, .int p0), (1, .int p1)]) hx hb dX5_isUnder_15 rfl hl (by decide) rfl (fun ls hl => ?_)
    refine lv_iload_n hx hb dX5_isUnder_16 rfl (lv_at hl 2 rfl) ?_
    refine lv_if_eq (tgt := 55) hx hb dX5_isUnder_17 (by decide) (fun c15 => ?_) (fun c15 => ?_)
    · have hV := hV.trans (if_pos c15)
      refine lv_iconst (v := (1 : Int32)) hx hb dX5_isUnder_55 (by decide) ?_
      refine lv_goto (tgt := 60) hx hb dX5_isUnder_56 (by decide) ?_
      exact hend _ _ _ _ _ hP hD hS hV.symm rfl dX5_isUnder_60
    · have hV := hV.trans (if_neg c15)
      refine lv_iload_n hx hb dX5_isUnder_20 rfl (lv_at hl 2 rfl) ?_
      refine lv_iload_n hx hb dX5_isUnder_21 rfl (lv_at hl 1 rfl) ?_
      refine lv_icmp_eq (tgt := 55) hx hb dX5_isUnder_22 (by decide) (fun c16 => ?_) (fun c16 => ?_)
      · have hV := hV.trans (if_pos c16)
        refine lv_iconst (v := (1 : Int32)) hx hb dX5_isUnder_55 (by decide) ?_
        refine lv_goto (tgt := 60) hx hb dX5_isUnder_56 (by decide) ?_
        exact hend _ _ _ _ _ hP hD hS hV.symm rfl dX5_isUnder_60
      · have hV := hV.trans (if_neg c16)
        refine lv_iload_n hx hb dX5_isUnder_25 rfl (lv_at hl 2 rfl) ?_
        refine lv_iconst (v := (2 : Int32)) hx hb dX5_isUnder_26 (by decide) ?_
        refine lv_icmp_ne (tgt := 34) hx hb dX5_isUnder_27 (by decide) (fun c17 => ?_) (fun c17 => ?_)
        · have hV := hV.trans (if_neg c17)
          exact hc34 _ _ _ hV hP hD hS (lv_sub hl [1, 2] rfl)
        · have hV := hV.trans (if_pos c17)
          refine lv_iload_n hx hb dX5_isUnder_30 rfl (lv_at hl 0 rfl) ?_
          refine lv_if_ne (tgt := 55) hx hb dX5_isUnder_31 (by decide) (fun c18 => ?_) (fun c18 => ?_)
          · have hV := hV.trans (if_neg c18)
            refine lv_iconst (v := (1 : Int32)) hx hb dX5_isUnder_55 (by decide) ?_
            refine lv_goto (tgt := 60) hx hb dX5_isUnder_56 (by decide) ?_
            exact hend _ _ _ _ _ hP hD hS hV.symm rfl dX5_isUnder_60
          · have hV := hV.trans (if_pos c18)
            exact hc34 _ _ _ hV hP hD hS (lv_sub hl [1, 2] rfl)
  have hc10 : ∀ (H : Heap) (locs : List Loc) (ls : Array Slot), (vX5_isUnder p0 p1) = vX5_isUnder_c10 p0 p1 → va_P D vwCl ([] : va_W) H → va_D A ([] : va_W) → va_S A s.heap H locs → lv_has ls 3 [(0, .int p0), (1, .int p1)] → W p l e rX5_isUnder s m ([.int p0, .int p1] : List Value).toArray below meth c H locs 0 0 Q (F0 m 10 ls []) := by
    intro H locs ls hV hP hD hS hl
    rw [vX5_isUnder_c10] at hV
    refine lv_iconst (v := (1 : Int32)) hx hb dX5_isUnder_10 (by decide) ?_
    refine lv_goto (tgt := 15) hx hb dX5_isUnder_11 (by decide) ?_
    exact hc15 (1 : Int32) _ _ _ hV hP hD hS (lv_sub hl [0, 1] rfl)
  have hV := vX5_isUnder.eq_1 p0 p1
  refine lv_iload_n hx hb dX5_isUnder_0 rfl (lv_at hl 0 rfl) ?_
  refine lv_iconst (v := (3 : Int32)) hx hb dX5_isUnder_1 (by decide) ?_
  refine lv_icmp_eq (tgt := 10) hx hb dX5_isUnder_2 (by decide) (fun c19 => ?_) (fun c19 => ?_)
  · have hV := hV.trans (if_pos c19)
    exact hc10 _ _ _ hV hP hD hS (lv_sub hl [0, 1] rfl)
  · have hV := hV.trans (if_neg c19)
    refine lv_iload_n hx hb dX5_isUnder_5 rfl (lv_at hl 0 rfl) ?_
    refine lv_iconst (v := (4 : Int32)) hx hb dX5_isUnder_6 (by decide) ?_
    refine lv_icmp_ne (tgt := 14) hx hb dX5_isUnder_7 (by decide) (fun c20 => ?_) (fun c20 => ?_)
    · have hV := hV.trans (if_neg c20)
      refine lv_iconst (v := (0 : Int32)) hx hb dX5_isUnder_14 (by decide) ?_
      exact hc15 (0 : Int32) _ _ _ hV hP hD hS (lv_sub hl [0, 1] rfl)
    · have hV := hV.trans (if_pos c20)
      exact hc10 _ _ _ hV hP hD hS (lv_sub hl [0, 1] rfl)
theorem dX5_bits_0 : decode cX5_bits 0 = .ok (.iconst 0, 1) := by decide +kernel
theorem dX5_bits_1 : decode cX5_bits 1 = .ok (.istore_n 1, 1) := by decide +kernel
theorem dX5_bits_2 : decode cX5_bits 2 = .ok (.iload_n 0, 1) := by decide +kernel
theorem dX5_bits_3 : decode cX5_bits 3 = .ok (.istore_n 2, 1) := by decide +kernel
theorem dX5_bits_4 : decode cX5_bits 4 = .ok (.iload_n 2, 1) := by decide +kernel
theorem dX5_bits_5 : decode cX5_bits 5 = .ok (.ifCond .eq 15, 3) := by decide +kernel
theorem dX5_bits_8 : decode cX5_bits 8 = .ok (.iinc 1 1, 3) := by decide +kernel
theorem dX5_bits_11 : decode cX5_bits 11 = .ok (.iload_n 2, 1) := by decide +kernel
theorem dX5_bits_12 : decode cX5_bits 12 = .ok (.iload_n 2, 1) := by decide +kernel
theorem dX5_bits_13 : decode cX5_bits 13 = .ok (.iconst 1, 1) := by decide +kernel
theorem dX5_bits_14 : decode cX5_bits 14 = .ok (.isub, 1) := by decide +kernel
theorem dX5_bits_15 : decode cX5_bits 15 = .ok (.iand, 1) := by decide +kernel
theorem dX5_bits_16 : decode cX5_bits 16 = .ok (.istore_n 2, 1) := by decide +kernel
theorem dX5_bits_17 : decode cX5_bits 17 = .ok (.goto (-13), 3) := by decide +kernel
theorem dX5_bits_20 : decode cX5_bits 20 = .ok (.iload_n 1, 1) := by decide +kernel
theorem dX5_bits_21 : decode cX5_bits 21 = .ok (.ireturn, 1) := by decide +kernel
def rX5_bits : Room := { frames := 0, cells := 0, slots := 0, locals := 0 }
def vX5_bits_c4 (p0 : Int32) : Nat → Int32 → Int32 → Int32
  | 0, x1, x2 => (0)
  | n + 1, x1, x2 => if (x2 = 0) then x1 else (vX5_bits_c4 p0 n (x1 + (1 : Int32)) (x2 &&& (x2 - (1 : Int32))))
def kX5_bits_c4 (p0 : Int32) : Nat → Int32 → Int32 → Prop
  | 0, _, _ => False
  | n + 1, x1, x2 => ((x2 = 0) → True) ∧ (¬ (x2 = 0) → ((kX5_bits_c4 p0 n (x1 + (1 : Int32)) (x2 &&& (x2 - (1 : Int32))))))
def vX5_bits (p0 : Int32) : Int32 := (vX5_bits_c4 p0 1024 (0 : Int32) p0)
def kX5_bits (p0 : Int32) : Prop := (kX5_bits_c4 p0 1024 (0 : Int32) p0)
set_option maxHeartbeats 4000000 in
set_option maxRecDepth 100000 in
theorem hX5_bits (l : Launch) (D : va_G) (K : JK) (G : JG) (p0 : Int32) (hk : kX5_bits p0) (sz : Nat) : Met l yX5_bits (.code yX5_bits cX5_bits 3 (some .int) :: jGW) rX5_bits (jPre D (jT K) G [.int p0] ([] : va_W) sz) (jQi D (jT K) (vX5_bits p0) ([] : va_W) (va_A ([] : va_W) sz)) 0 0 (va_A ([] : va_W) sz) := by
  refine jEi (by decide) (Nat.le_of_ble_eq_true rfl) (fun p e s m below meth c A Q ls hat hP hD hS hl hend => ?_)
  obtain ⟨hx, hb, hml, hown, hts, hK, hZ, hA⟩ := hat
  have hl : lv_has ls 3 [(0, .int p0)] := hl
  have hc4 : ∀ (n : Nat) (x1 : Int32) (x2 : Int32) (H : Heap) (locs : List Loc) (ls : Array Slot), (vX5_bits p0) = vX5_bits_c4 p0 n x1 x2 → kX5_bits_c4 p0 n x1 x2 → va_P D vwCl ([] : va_W) H → va_D A ([] : va_W) → va_S A s.heap H locs → lv_has ls 3 [(0, .int p0), (1, .int x1), (2, .int x2)] → W p l e rX5_bits s m ([.int p0] : List Value).toArray below meth c H locs 0 0 Q (F0 m 4 ls []) := by
    intro n
    induction n with
    | zero =>
      intro x1 x2 H locs ls hV hk hP hD hS hl
      exact False.elim hk
    | succ n ih =>
      intro x1 x2 H locs ls hV hk hP hD hS hl
      rw [vX5_bits_c4] at hV
      rw [kX5_bits_c4] at hk
      refine lv_iload_n hx hb dX5_bits_4 rfl (lv_at hl 2 rfl) ?_
      refine lv_if_eq (tgt := 20) hx hb dX5_bits_5 (by decide) (fun c2 => ?_) (fun c2 => ?_)
      · have hV := hV.trans (if_pos c2)
        have hk := hk.1 c2
        refine lv_iload_n hx hb dX5_bits_20 rfl (lv_at hl 1 rfl) ?_
        exact hend _ _ _ _ _ hP hD hS hV.symm rfl dX5_bits_21
      · have hV := hV.trans (if_neg c2)
        have hk := hk.2 c2
        refine lv_iinc (v := (x1 + (1 : Int32))) (lv' := [(1, .int (x1 + (1 : Int32))), (0, .int p0), (2, .int x2)]) hx hb dX5_bits_8 hl (k := 1) rfl rfl (by decide) rfl (fun ls hl => ?_)
        refine lv_iload_n hx hb dX5_bits_11 rfl (lv_at hl 2 rfl) ?_
        refine lv_iload_n hx hb dX5_bits_12 rfl (lv_at hl 2 rfl) ?_
        refine lv_iconst (v := (1 : Int32)) hx hb dX5_bits_13 (by decide) ?_
        refine lv_isub hx hb dX5_bits_14 ?_
        refine lv_iand hx hb dX5_bits_15 ?_
        refine lv_istore_n (lv' := [(2, .int (x2 &&& (x2 - (1 : Int32)))), (1, .int (x1 + (1 : Int32))), (0, .int p0)]) hx hb dX5_bits_16 rfl hl (by decide) rfl (fun ls hl => ?_)
        refine lv_goto (tgt := 4) hx hb dX5_bits_17 (by decide) ?_
        exact ih (x1 + (1 : Int32)) (x2 &&& (x2 - (1 : Int32))) _ _ _ hV hk hP hD hS (lv_sub hl [2, 1, 0] rfl)
  have hV := vX5_bits.eq_1 p0
  rw [kX5_bits] at hk
  refine lv_iconst (v := (0 : Int32)) hx hb dX5_bits_0 (by decide) ?_
  refine lv_istore_n (lv' := [(1, .int (0 : Int32)), (0, .int p0)]) hx hb dX5_bits_1 rfl hl (by decide) rfl (fun ls hl => ?_)
  refine lv_iload_n hx hb dX5_bits_2 rfl (lv_at hl 1 rfl) ?_
  refine lv_istore_n (lv' := [(2, .int p0), (1, .int (0 : Int32)), (0, .int p0)]) hx hb dX5_bits_3 rfl hl (by decide) rfl (fun ls hl => ?_)
  exact hc4 1024 (0 : Int32) p0 _ _ _ hV hk hP hD hS (lv_sub hl [2, 1, 0] rfl)
theorem dX5_isPlace_0 : decode cX5_isPlace 0 = .ok (.iload_n 0, 1) := by decide +kernel
theorem dX5_isPlace_1 : decode cX5_isPlace 1 = .ok (.iconst 0, 1) := by decide +kernel
theorem dX5_isPlace_2 : decode cX5_isPlace 2 = .ok (.iconst 5, 1) := by decide +kernel
theorem dX5_isPlace_3 : decode cX5_isPlace 3 = .ok (.invokestatic 40, 3) := by decide +kernel
theorem dX5_isPlace_6 : decode cX5_isPlace 6 = .ok (.ireturn, 1) := by decide +kernel
def rX5_isPlace : Room := { frames := 1, cells := 0, slots := 0, locals := 22 }
def vX5_isPlace (p0 : Int32) : Int32 := (vX5_in p0 (0 : Int32) (5 : Int32))
def kX5_isPlace (p0 : Int32) : Prop := ((vX5_in p0 (0 : Int32) (5 : Int32)) = 0 ∨ (vX5_in p0 (0 : Int32) (5 : Int32)) = 1) ∧ True
set_option maxHeartbeats 4000000 in
set_option maxRecDepth 100000 in
theorem hX5_isPlace (l : Launch) (D : va_G) (K : JK) (G : JG) (p0 : Int32) (hk : kX5_isPlace p0) (sz : Nat) : Met l yX5_isPlace (.code yX5_isPlace cX5_isPlace 1 (some .boolean) :: jGW) rX5_isPlace (jPre D (jT K) G [.int p0] ([] : va_W) sz) (jQi D (jT K) (vX5_isPlace p0) ([] : va_W) (va_A ([] : va_W) sz)) 0 0 (va_A ([] : va_W) sz) := by
  refine jEi (by decide) (Nat.le_of_ble_eq_true rfl) (fun p e s m below meth c A Q ls hat hP hD hS hl hend => ?_)
  obtain ⟨hx, hb, hml, hown, hts, hK, hZ, hA⟩ := hat
  have hl : lv_has ls 1 [(0, .int p0)] := hl
  have hV := vX5_isPlace.eq_1 p0
  rw [kX5_isPlace] at hk
  refine lv_iload_n hx hb dX5_isPlace_0 rfl (lv_at hl 0 rfl) ?_
  refine lv_iconst (v := (0 : Int32)) hx hb dX5_isPlace_1 (by decide) ?_
  refine lv_iconst (v := (5 : Int32)) hx hb dX5_isPlace_2 (by decide) ?_
  refine jci0 (jrunS (As := [.int p0, .int (0 : Int32), .int (5 : Int32)]) (rest := []) hx hb hml hown hts hK hZ hA hP hD hS hl.1 mf_X5_in kl_X5_40 ⟨rfl, rfl, Nat.le_of_ble_eq_true rfl, Nat.le_of_ble_eq_true rfl⟩ ⟨Nat.zero_le _, Nat.zero_le _⟩ [] rfl rfl (hX5_in l D K G p0 (0 : Int32) (5 : Int32) _) rfl rfl (Nat.le_of_ble_eq_true rfl) dX5_isPlace_3) hA hP hD hS [] rfl (fun H locs hP hS => ?_)
  obtain ⟨h2, hk⟩ := hk
  exact hend _ _ _ _ _ hP hD hS hV.symm (jnb h2) dX5_isPlace_6
theorem dX5_mostOf_0 : decode cX5_mostOf 0 = .ok (.iload_n 0, 1) := by decide +kernel
theorem dX5_mostOf_1 : decode cX5_mostOf 1 = .ok (.tableswitch 49 0 5 #[39, 49, 45, 42, 42, 45], 39) := by decide +kernel
theorem dX5_mostOf_40 : decode cX5_mostOf 40 = .ok (.bipush 6, 2) := by decide +kernel
theorem dX5_mostOf_42 : decode cX5_mostOf 42 = .ok (.ireturn, 1) := by decide +kernel
theorem dX5_mostOf_43 : decode cX5_mostOf 43 = .ok (.bipush 99, 2) := by decide +kernel
theorem dX5_mostOf_45 : decode cX5_mostOf 45 = .ok (.ireturn, 1) := by decide +kernel
theorem dX5_mostOf_46 : decode cX5_mostOf 46 = .ok (.sipush 9999, 3) := by decide +kernel
theorem dX5_mostOf_49 : decode cX5_mostOf 49 = .ok (.ireturn, 1) := by decide +kernel
theorem dX5_mostOf_50 : decode cX5_mostOf 50 = .ok (.sipush 999, 3) := by decide +kernel
theorem dX5_mostOf_53 : decode cX5_mostOf 53 = .ok (.ireturn, 1) := by decide +kernel
def rX5_mostOf : Room := { frames := 0, cells := 0, slots := 0, locals := 0 }
def vX5_mostOf (p0 : Int32) : Int32 := if (p0 = (0 : Int32)) then (6 : Int32) else if (p0 = (1 : Int32)) then (999 : Int32) else if (p0 = (2 : Int32)) then (9999 : Int32) else if (p0 = (3 : Int32)) then (99 : Int32) else if (p0 = (4 : Int32)) then (99 : Int32) else if (p0 = (5 : Int32)) then (9999 : Int32) else (999 : Int32)
set_option maxHeartbeats 4000000 in
set_option maxRecDepth 100000 in
theorem hX5_mostOf (l : Launch) (D : va_G) (K : JK) (G : JG) (p0 : Int32) (sz : Nat) : Met l yX5_mostOf (.code yX5_mostOf cX5_mostOf 1 (some .int) :: jGW) rX5_mostOf (jPre D (jT K) G [.int p0] ([] : va_W) sz) (jQi D (jT K) (vX5_mostOf p0) ([] : va_W) (va_A ([] : va_W) sz)) 0 0 (va_A ([] : va_W) sz) := by
  refine jEi (by decide) (Nat.le_of_ble_eq_true rfl) (fun p e s m below meth c A Q ls hat hP hD hS hl hend => ?_)
  obtain ⟨hx, hb, hml, hown, hts, hK, hZ, hA⟩ := hat
  have hl : lv_has ls 1 [(0, .int p0)] := hl
  have hV := vX5_mostOf.eq_1 p0
  refine lv_iload_n hx hb dX5_mostOf_0 rfl (lv_at hl 0 rfl) ?_
  by_cases c7 : (p0 = (0 : Int32))
  · have hV := hV.trans (if_pos c7)
    refine lv_tableIn (off := 39) (tgt := 40) hx hb dX5_mostOf_1 (by rw [c7]; decide) (by rw [c7]; decide) (by rw [c7]; rfl) (by decide) ?_
    refine lv_bipush (v := (6 : Int32)) hx hb dX5_mostOf_40 (by decide) ?_
    exact hend _ _ _ _ _ hP hD hS hV.symm rfl dX5_mostOf_42
  · have hV := hV.trans (if_neg c7)
    by_cases c8 : (p0 = (1 : Int32))
    · have hV := hV.trans (if_pos c8)
      refine lv_tableIn (off := 49) (tgt := 50) hx hb dX5_mostOf_1 (by rw [c8]; decide) (by rw [c8]; decide) (by rw [c8]; rfl) (by decide) ?_
      refine lv_sipush (v := (999 : Int32)) hx hb dX5_mostOf_50 (by decide) ?_
      exact hend _ _ _ _ _ hP hD hS hV.symm rfl dX5_mostOf_53
    · have hV := hV.trans (if_neg c8)
      by_cases c9 : (p0 = (2 : Int32))
      · have hV := hV.trans (if_pos c9)
        refine lv_tableIn (off := 45) (tgt := 46) hx hb dX5_mostOf_1 (by rw [c9]; decide) (by rw [c9]; decide) (by rw [c9]; rfl) (by decide) ?_
        refine lv_sipush (v := (9999 : Int32)) hx hb dX5_mostOf_46 (by decide) ?_
        exact hend _ _ _ _ _ hP hD hS hV.symm rfl dX5_mostOf_49
      · have hV := hV.trans (if_neg c9)
        by_cases c10 : (p0 = (3 : Int32))
        · have hV := hV.trans (if_pos c10)
          refine lv_tableIn (off := 42) (tgt := 43) hx hb dX5_mostOf_1 (by rw [c10]; decide) (by rw [c10]; decide) (by rw [c10]; rfl) (by decide) ?_
          refine lv_bipush (v := (99 : Int32)) hx hb dX5_mostOf_43 (by decide) ?_
          exact hend _ _ _ _ _ hP hD hS hV.symm rfl dX5_mostOf_45
        · have hV := hV.trans (if_neg c10)
          by_cases c11 : (p0 = (4 : Int32))
          · have hV := hV.trans (if_pos c11)
            refine lv_tableIn (off := 42) (tgt := 43) hx hb dX5_mostOf_1 (by rw [c11]; decide) (by rw [c11]; decide) (by rw [c11]; rfl) (by decide) ?_
            refine lv_bipush (v := (99 : Int32)) hx hb dX5_mostOf_43 (by decide) ?_
            exact hend _ _ _ _ _ hP hD hS hV.symm rfl dX5_mostOf_45
          · have hV := hV.trans (if_neg c11)
            by_cases c12 : (p0 = (5 : Int32))
            · have hV := hV.trans (if_pos c12)
              refine lv_tableIn (off := 45) (tgt := 46) hx hb dX5_mostOf_1 (by rw [c12]; decide) (by rw [c12]; decide) (by rw [c12]; rfl) (by decide) ?_
              refine lv_sipush (v := (9999 : Int32)) hx hb dX5_mostOf_46 (by decide) ?_
              exact hend _ _ _ _ _ hP hD hS hV.symm rfl dX5_mostOf_49
            · have hV := hV.trans (if_neg c12)
              refine lv_tableOut (tgt := 50) hx hb dX5_mostOf_1 (by have n0 := jneL (z := 0) c7 (by decide); have n1 := jneL (z := 1) c8 (by decide); have n2 := jneL (z := 2) c9 (by decide); have n3 := jneL (z := 3) c10 (by decide); have n4 := jneL (z := 4) c11 (by decide); have n5 := jneL (z := 5) c12 (by decide); omega) (by decide) ?_
              refine lv_sipush (v := (999 : Int32)) hx hb dX5_mostOf_50 (by decide) ?_
              exact hend _ _ _ _ _ hP hD hS hV.symm rfl dX5_mostOf_53
theorem dX5_isSheet_0 : decode cX5_isSheet 0 = .ok (.iload_n 0, 1) := by decide +kernel
theorem dX5_isSheet_1 : decode cX5_isSheet 1 = .ok (.iconst 0, 1) := by decide +kernel
theorem dX5_isSheet_2 : decode cX5_isSheet 2 = .ok (.iconst 3, 1) := by decide +kernel
theorem dX5_isSheet_3 : decode cX5_isSheet 3 = .ok (.invokestatic 40, 3) := by decide +kernel
theorem dX5_isSheet_6 : decode cX5_isSheet 6 = .ok (.ireturn, 1) := by decide +kernel
def rX5_isSheet : Room := { frames := 1, cells := 0, slots := 0, locals := 22 }
def vX5_isSheet (p0 : Int32) : Int32 := (vX5_in p0 (0 : Int32) (3 : Int32))
def kX5_isSheet (p0 : Int32) : Prop := ((vX5_in p0 (0 : Int32) (3 : Int32)) = 0 ∨ (vX5_in p0 (0 : Int32) (3 : Int32)) = 1) ∧ True
set_option maxHeartbeats 4000000 in
set_option maxRecDepth 100000 in
theorem hX5_isSheet (l : Launch) (D : va_G) (K : JK) (G : JG) (p0 : Int32) (hk : kX5_isSheet p0) (sz : Nat) : Met l yX5_isSheet (.code yX5_isSheet cX5_isSheet 1 (some .boolean) :: jGW) rX5_isSheet (jPre D (jT K) G [.int p0] ([] : va_W) sz) (jQi D (jT K) (vX5_isSheet p0) ([] : va_W) (va_A ([] : va_W) sz)) 0 0 (va_A ([] : va_W) sz) := by
  refine jEi (by decide) (Nat.le_of_ble_eq_true rfl) (fun p e s m below meth c A Q ls hat hP hD hS hl hend => ?_)
  obtain ⟨hx, hb, hml, hown, hts, hK, hZ, hA⟩ := hat
  have hl : lv_has ls 1 [(0, .int p0)] := hl
  have hV := vX5_isSheet.eq_1 p0
  rw [kX5_isSheet] at hk
  refine lv_iload_n hx hb dX5_isSheet_0 rfl (lv_at hl 0 rfl) ?_
  refine lv_iconst (v := (0 : Int32)) hx hb dX5_isSheet_1 (by decide) ?_
  refine lv_iconst (v := (3 : Int32)) hx hb dX5_isSheet_2 (by decide) ?_
  refine jci0 (jrunS (As := [.int p0, .int (0 : Int32), .int (3 : Int32)]) (rest := []) hx hb hml hown hts hK hZ hA hP hD hS hl.1 mf_X5_in kl_X5_40 ⟨rfl, rfl, Nat.le_of_ble_eq_true rfl, Nat.le_of_ble_eq_true rfl⟩ ⟨Nat.zero_le _, Nat.zero_le _⟩ [] rfl rfl (hX5_in l D K G p0 (0 : Int32) (3 : Int32) _) rfl rfl (Nat.le_of_ble_eq_true rfl) dX5_isSheet_3) hA hP hD hS [] rfl (fun H locs hP hS => ?_)
  obtain ⟨h2, hk⟩ := hk
  exact hend _ _ _ _ _ hP hD hS hV.symm (jnb h2) dX5_isSheet_6
theorem dX5_mostOfHome_0 : decode cX5_mostOfHome 0 = .ok (.iload_n 0, 1) := by decide +kernel
theorem dX5_mostOfHome_1 : decode cX5_mostOfHome 1 = .ok (.tableswitch 38 1 4 #[31, 34, 34, 36], 31) := by decide +kernel
theorem dX5_mostOfHome_32 : decode cX5_mostOfHome 32 = .ok (.bipush 9, 2) := by decide +kernel
theorem dX5_mostOfHome_34 : decode cX5_mostOfHome 34 = .ok (.ireturn, 1) := by decide +kernel
theorem dX5_mostOfHome_35 : decode cX5_mostOfHome 35 = .ok (.iconst 1, 1) := by decide +kernel
theorem dX5_mostOfHome_36 : decode cX5_mostOfHome 36 = .ok (.ireturn, 1) := by decide +kernel
theorem dX5_mostOfHome_37 : decode cX5_mostOfHome 37 = .ok (.iconst 2, 1) := by decide +kernel
theorem dX5_mostOfHome_38 : decode cX5_mostOfHome 38 = .ok (.ireturn, 1) := by decide +kernel
theorem dX5_mostOfHome_39 : decode cX5_mostOfHome 39 = .ok (.sipush 9999, 3) := by decide +kernel
theorem dX5_mostOfHome_42 : decode cX5_mostOfHome 42 = .ok (.ireturn, 1) := by decide +kernel
def rX5_mostOfHome : Room := { frames := 0, cells := 0, slots := 0, locals := 0 }
def vX5_mostOfHome (p0 : Int32) : Int32 := if (p0 = (1 : Int32)) then (9 : Int32) else if (p0 = (2 : Int32)) then (1 : Int32) else if (p0 = (3 : Int32)) then (1 : Int32) else if (p0 = (4 : Int32)) then (2 : Int32) else (9999 : Int32)
set_option maxHeartbeats 4000000 in
set_option maxRecDepth 100000 in
theorem hX5_mostOfHome (l : Launch) (D : va_G) (K : JK) (G : JG) (p0 : Int32) (sz : Nat) : Met l yX5_mostOfHome (.code yX5_mostOfHome cX5_mostOfHome 1 (some .int) :: jGW) rX5_mostOfHome (jPre D (jT K) G [.int p0] ([] : va_W) sz) (jQi D (jT K) (vX5_mostOfHome p0) ([] : va_W) (va_A ([] : va_W) sz)) 0 0 (va_A ([] : va_W) sz) := by
  refine jEi (by decide) (Nat.le_of_ble_eq_true rfl) (fun p e s m below meth c A Q ls hat hP hD hS hl hend => ?_)
  obtain ⟨hx, hb, hml, hown, hts, hK, hZ, hA⟩ := hat
  have hl : lv_has ls 1 [(0, .int p0)] := hl
  have hV := vX5_mostOfHome.eq_1 p0
  refine lv_iload_n hx hb dX5_mostOfHome_0 rfl (lv_at hl 0 rfl) ?_
  by_cases c5 : (p0 = (1 : Int32))
  · have hV := hV.trans (if_pos c5)
    refine lv_tableIn (off := 31) (tgt := 32) hx hb dX5_mostOfHome_1 (by rw [c5]; decide) (by rw [c5]; decide) (by rw [c5]; rfl) (by decide) ?_
    refine lv_bipush (v := (9 : Int32)) hx hb dX5_mostOfHome_32 (by decide) ?_
    exact hend _ _ _ _ _ hP hD hS hV.symm rfl dX5_mostOfHome_34
  · have hV := hV.trans (if_neg c5)
    by_cases c6 : (p0 = (2 : Int32))
    · have hV := hV.trans (if_pos c6)
      refine lv_tableIn (off := 34) (tgt := 35) hx hb dX5_mostOfHome_1 (by rw [c6]; decide) (by rw [c6]; decide) (by rw [c6]; rfl) (by decide) ?_
      refine lv_iconst (v := (1 : Int32)) hx hb dX5_mostOfHome_35 (by decide) ?_
      exact hend _ _ _ _ _ hP hD hS hV.symm rfl dX5_mostOfHome_36
    · have hV := hV.trans (if_neg c6)
      by_cases c7 : (p0 = (3 : Int32))
      · have hV := hV.trans (if_pos c7)
        refine lv_tableIn (off := 34) (tgt := 35) hx hb dX5_mostOfHome_1 (by rw [c7]; decide) (by rw [c7]; decide) (by rw [c7]; rfl) (by decide) ?_
        refine lv_iconst (v := (1 : Int32)) hx hb dX5_mostOfHome_35 (by decide) ?_
        exact hend _ _ _ _ _ hP hD hS hV.symm rfl dX5_mostOfHome_36
      · have hV := hV.trans (if_neg c7)
        by_cases c8 : (p0 = (4 : Int32))
        · have hV := hV.trans (if_pos c8)
          refine lv_tableIn (off := 36) (tgt := 37) hx hb dX5_mostOfHome_1 (by rw [c8]; decide) (by rw [c8]; decide) (by rw [c8]; rfl) (by decide) ?_
          refine lv_iconst (v := (2 : Int32)) hx hb dX5_mostOfHome_37 (by decide) ?_
          exact hend _ _ _ _ _ hP hD hS hV.symm rfl dX5_mostOfHome_38
        · have hV := hV.trans (if_neg c8)
          refine lv_tableOut (tgt := 39) hx hb dX5_mostOfHome_1 (by have n0 := jneL (z := 1) c5 (by decide); have n1 := jneL (z := 2) c6 (by decide); have n2 := jneL (z := 3) c7 (by decide); have n3 := jneL (z := 4) c8 (by decide); omega) (by decide) ?_
          refine lv_sipush (v := (9999 : Int32)) hx hb dX5_mostOfHome_39 (by decide) ?_
          exact hend _ _ _ _ _ hP hD hS hV.symm rfl dX5_mostOfHome_42
