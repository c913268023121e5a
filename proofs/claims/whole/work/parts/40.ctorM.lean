def fM0 : FA := upd (upd (upd (upd (upd (upd (upd (upd (upd (upd (upd (upd (upd (upd (upd (fun _ => 0) 1 (1 : Int32)) 3 (1000 : Int32)) 4 (2 : Int32)) 5 (1 : Int32)) 6 (1 : Int32)) 72 (-1 : Int32)) 73 (-1 : Int32)) 74 (-1 : Int32)) 75 (-1 : Int32)) 76 (-1 : Int32)) 77 (-1 : Int32)) 78 (-1 : Int32)) 79 (-1 : Int32)) 80 (-1 : Int32)) 81 (-1 : Int32)
def mM0 : MS := (upd (upd (upd (upd (upd (upd (upd (upd (upd (upd (upd (upd (upd (upd (upd (fun _ => 0) 1 (1 : Int32)) 3 (1000 : Int32)) 4 (2 : Int32)) 5 (1 : Int32)) 6 (1 : Int32)) 72 (-1 : Int32)) 73 (-1 : Int32)) 74 (-1 : Int32)) 75 (-1 : Int32)) 76 (-1 : Int32)) 77 (-1 : Int32)) 78 (-1 : Int32)) 79 (-1 : Int32)) 80 (-1 : Int32)) 81 (-1 : Int32), fun _ => 0, fun _ => 0, 0, fun _ => 0, fun _ => 0, fun _ => 0, fun _ => 0, fun _ => 0, 0, 0, 0, 0, 0, 0)
theorem dX5_init_0 : decode cX5_init 0 = .ok (.aload_n 0, 1) := by decide +kernel
theorem dX5_init_1 : decode cX5_init 1 = .ok (.invokespecial 3, 3) := by decide +kernel
theorem dX5_init_4 : decode cX5_init 4 = .ok (.aload_n 0, 1) := by decide +kernel
theorem dX5_init_5 : decode cX5_init 5 = .ok (.bipush 82, 2) := by decide +kernel
theorem dX5_init_7 : decode cX5_init 7 = .ok (.newarray .int, 2) := by decide +kernel
theorem dX5_init_9 : decode cX5_init 9 = .ok (.putfield 9, 3) := by decide +kernel
theorem dX5_init_12 : decode cX5_init 12 = .ok (.aload_n 0, 1) := by decide +kernel
theorem dX5_init_13 : decode cX5_init 13 = .ok (.bipush 82, 2) := by decide +kernel
theorem dX5_init_15 : decode cX5_init 15 = .ok (.newarray .int, 2) := by decide +kernel
theorem dX5_init_17 : decode cX5_init 17 = .ok (.putfield 13, 3) := by decide +kernel
theorem dX5_init_20 : decode cX5_init 20 = .ok (.aload_n 0, 1) := by decide +kernel
theorem dX5_init_21 : decode cX5_init 21 = .ok (.bipush 82, 2) := by decide +kernel
theorem dX5_init_23 : decode cX5_init 23 = .ok (.newarray .int, 2) := by decide +kernel
theorem dX5_init_25 : decode cX5_init 25 = .ok (.putfield 16, 3) := by decide +kernel
theorem dX5_init_28 : decode cX5_init 28 = .ok (.aload_n 0, 1) := by decide +kernel
theorem dX5_init_29 : decode cX5_init 29 = .ok (.bipush 7, 2) := by decide +kernel
theorem dX5_init_31 : decode cX5_init 31 = .ok (.newarray .int, 2) := by decide +kernel
theorem dX5_init_33 : decode cX5_init 33 = .ok (.putfield 19, 3) := by decide +kernel
theorem dX5_init_36 : decode cX5_init 36 = .ok (.aload_n 0, 1) := by decide +kernel
theorem dX5_init_37 : decode cX5_init 37 = .ok (.iconst 4, 1) := by decide +kernel
theorem dX5_init_38 : decode cX5_init 38 = .ok (.newarray .int, 2) := by decide +kernel
theorem dX5_init_40 : decode cX5_init 40 = .ok (.putfield 22, 3) := by decide +kernel
theorem dX5_init_43 : decode cX5_init 43 = .ok (.aload_n 0, 1) := by decide +kernel
theorem dX5_init_44 : decode cX5_init 44 = .ok (.iconst 4, 1) := by decide +kernel
theorem dX5_init_45 : decode cX5_init 45 = .ok (.newarray .int, 2) := by decide +kernel
theorem dX5_init_47 : decode cX5_init 47 = .ok (.putfield 25, 3) := by decide +kernel
theorem dX5_init_50 : decode cX5_init 50 = .ok (.aload_n 0, 1) := by decide +kernel
theorem dX5_init_51 : decode cX5_init 51 = .ok (.sipush 160, 3) := by decide +kernel
theorem dX5_init_54 : decode cX5_init 54 = .ok (.newarray .int, 2) := by decide +kernel
theorem dX5_init_56 : decode cX5_init 56 = .ok (.putfield 28, 3) := by decide +kernel
theorem dX5_init_59 : decode cX5_init 59 = .ok (.aload_n 0, 1) := by decide +kernel
theorem dX5_init_60 : decode cX5_init 60 = .ok (.bipush 120, 2) := by decide +kernel
theorem dX5_init_62 : decode cX5_init 62 = .ok (.newarray .int, 2) := by decide +kernel
theorem dX5_init_64 : decode cX5_init 64 = .ok (.putfield 31, 3) := by decide +kernel
theorem dX5_init_67 : decode cX5_init 67 = .ok (.aload_n 0, 1) := by decide +kernel
theorem dX5_init_68 : decode cX5_init 68 = .ok (.getfield 9, 3) := by decide +kernel
theorem dX5_init_71 : decode cX5_init 71 = .ok (.iconst 1, 1) := by decide +kernel
theorem dX5_init_72 : decode cX5_init 72 = .ok (.iconst 1, 1) := by decide +kernel
theorem dX5_init_73 : decode cX5_init 73 = .ok (.iastore, 1) := by decide +kernel
theorem dX5_init_74 : decode cX5_init 74 = .ok (.aload_n 0, 1) := by decide +kernel
theorem dX5_init_75 : decode cX5_init 75 = .ok (.getfield 9, 3) := by decide +kernel
theorem dX5_init_78 : decode cX5_init 78 = .ok (.iconst 3, 1) := by decide +kernel
theorem dX5_init_79 : decode cX5_init 79 = .ok (.sipush 1000, 3) := by decide +kernel
theorem dX5_init_82 : decode cX5_init 82 = .ok (.iastore, 1) := by decide +kernel
theorem dX5_init_83 : decode cX5_init 83 = .ok (.aload_n 0, 1) := by decide +kernel
theorem dX5_init_84 : decode cX5_init 84 = .ok (.getfield 9, 3) := by decide +kernel
theorem dX5_init_87 : decode cX5_init 87 = .ok (.iconst 4, 1) := by decide +kernel
theorem dX5_init_88 : decode cX5_init 88 = .ok (.iconst 2, 1) := by decide +kernel
theorem dX5_init_89 : decode cX5_init 89 = .ok (.iastore, 1) := by decide +kernel
theorem dX5_init_90 : decode cX5_init 90 = .ok (.aload_n 0, 1) := by decide +kernel
theorem dX5_init_91 : decode cX5_init 91 = .ok (.getfield 9, 3) := by decide +kernel
theorem dX5_init_94 : decode cX5_init 94 = .ok (.iconst 5, 1) := by decide +kernel
theorem dX5_init_95 : decode cX5_init 95 = .ok (.iconst 1, 1) := by decide +kernel
theorem dX5_init_96 : decode cX5_init 96 = .ok (.iastore, 1) := by decide +kernel
theorem dX5_init_97 : decode cX5_init 97 = .ok (.aload_n 0, 1) := by decide +kernel
theorem dX5_init_98 : decode cX5_init 98 = .ok (.getfield 9, 3) := by decide +kernel
theorem dX5_init_101 : decode cX5_init 101 = .ok (.bipush 6, 2) := by decide +kernel
theorem dX5_init_103 : decode cX5_init 103 = .ok (.iconst 1, 1) := by decide +kernel
theorem dX5_init_104 : decode cX5_init 104 = .ok (.iastore, 1) := by decide +kernel
theorem dX5_init_105 : decode cX5_init 105 = .ok (.bipush 72, 2) := by decide +kernel
theorem dX5_init_107 : decode cX5_init 107 = .ok (.istore_n 1, 1) := by decide +kernel
theorem dX5_init_108 : decode cX5_init 108 = .ok (.iload_n 1, 1) := by decide +kernel
theorem dX5_init_109 : decode cX5_init 109 = .ok (.bipush 82, 2) := by decide +kernel
theorem dX5_init_111 : decode cX5_init 111 = .ok (.if_icmp .ge 16, 3) := by decide +kernel
theorem dX5_init_114 : decode cX5_init 114 = .ok (.aload_n 0, 1) := by decide +kernel
theorem dX5_init_115 : decode cX5_init 115 = .ok (.getfield 9, 3) := by decide +kernel
theorem dX5_init_118 : decode cX5_init 118 = .ok (.iload_n 1, 1) := by decide +kernel
theorem dX5_init_119 : decode cX5_init 119 = .ok (.iconst (-1), 1) := by decide +kernel
theorem dX5_init_120 : decode cX5_init 120 = .ok (.iastore, 1) := by decide +kernel
theorem dX5_init_121 : decode cX5_init 121 = .ok (.iinc 1 1, 3) := by decide +kernel
theorem dX5_init_124 : decode cX5_init 124 = .ok (.goto (-16), 3) := by decide +kernel
theorem dX5_init_127 : decode cX5_init 127 = .ok (.return_, 1) := by decide +kernel
def rX5_init : Room := { frames := 1, cells := 8, slots := 541, locals := 60 }
set_option maxHeartbeats 4000000 in
set_option maxRecDepth 100000 in
theorem hX5_init (l : Launch) (D : va_G) (K : JK) (G : JG) (h0 : Nat) (sz : Nat) : Met l yX5_init (.code yX5_init cX5_init 2 none :: jGW) rX5_init (jPreI D K G [.ref h0] [(h0, .inr (4, fsX5))] sz) (jQI D K h0 (fun u => wM K u mM0) (va_A [(h0, .inr (4, fsX5))] sz)) 8 541 (va_A [(h0, .inr (4, fsX5))] sz) := by
  refine jEI (by decide) rfl (Nat.le_of_ble_eq_true rfl) (fun p e s m below meth c A Q ls hat hX hin hP hD hS hl hend => ?_)
  obtain ⟨hx, hb, hml, hown, hts, hK, hZ, hA⟩ := hat
  have hP : va_P D vwCl [(h0, .inr (4, [.null, .null, .null, .int 0, .null, .null, .null, .null, .null, .int 0, .int 0, .int 0, .int 0, .int 0, .int 0]))] s.heap := hP
  have hD : va_D A [(h0, .inr (4, [.null, .null, .null, .int 0, .null, .null, .null, .null, .null, .int 0, .int 0, .int 0, .int 0, .int 0, .int 0]))] := hD
  have hl : lv_has ls 2 [(0, .ref h0)] := hl
  refine lv_aload_n hx hb dX5_init_0 rfl (lv_at hl 0 rfl) ?_
  refine W.objInit hx hb hown (hts (.methodLink RX5 3 objectInit) (jq 728 (by decide +kernel) rfl)) (hts (.instanceMethod objectInit) (jq 82 (by decide +kernel) rfl)) (hts (.code objectInit ⟨#[0xb1]⟩ 1 none) (jq 83 (by decide +kernel) rfl)) rfl (by rw [hml]; exact hl.1) rfl dX5_init_1 (Nat.le_of_ble_eq_true rfl) (Nat.le_of_ble_eq_true rfl) ?_
  refine W.eq (g2 := F0 m 4 ls []) rfl ?_
  refine lv_aload_n hx hb dX5_init_4 rfl (lv_at hl 0 rfl) ?_
  refine lv_bipush (v := (82 : Int32)) hx hb dX5_init_5 (by decide) ?_
  refine jnewi hx hb hts hK hP hD hS hA (N := 82) (by decide) rfl (Nat.le_of_ble_eq_true rfl) (Nat.le_of_ble_eq_true rfl) (Nat.le_of_ble_eq_true rfl) dX5_init_7 (fun q1 H hP hD hS => ?_)
  have hP : va_P D vwCl [(h0, .inr (4, [.null, .null, .null, .int 0, .null, .null, .null, .null, .null, .int 0, .int 0, .int 0, .int 0, .int 0, .int 0])), (q1, .inl (K.1, 82, .inl (fun _ => 0)))] H := hP
  have hD : va_D A [(h0, .inr (4, [.null, .null, .null, .int 0, .null, .null, .null, .null, .null, .int 0, .int 0, .int 0, .int 0, .int 0, .int 0])), (q1, .inl (K.1, 82, .inl (fun _ => 0)))] := hD
  refine W.widen (k := 1) (n := 82) (Nat.le_of_ble_eq_true rfl) (Nat.le_of_ble_eq_true rfl) ?_
  refine va_putF (ty := .array .int) (v := .ref q1) (C := RX5) (T := TX5) (N := 15) hx hb hts jin_X5 tyX5 tyX5_ok nmX5 hown hK hP hD hS 0 rfl rfl 0 (by decide) (hts (.fieldLink RX5 9 "JudgedDepositsModel" "m" "[I") (jq 729 (by decide +kernel) rfl)) (fun _ h9 => h9) rfl hin rfl (by decide +kernel) rfl rfl (Nat.le_of_ble_eq_true rfl) dX5_init_9 (fun H locs hP hD hS => ?_)
  have hP : va_P D vwCl [(h0, .inr (4, [.ref q1, .null, .null, .int 0, .null, .null, .null, .null, .null, .int 0, .int 0, .int 0, .int 0, .int 0, .int 0])), (q1, .inl (K.1, 82, .inl (fun _ => 0)))] H := hP
  have hD : va_D A [(h0, .inr (4, [.ref q1, .null, .null, .int 0, .null, .null, .null, .null, .null, .int 0, .int 0, .int 0, .int 0, .int 0, .int 0])), (q1, .inl (K.1, 82, .inl (fun _ => 0)))] := hD
  refine lv_aload_n hx hb dX5_init_12 rfl (lv_at hl 0 rfl) ?_
  refine lv_bipush (v := (82 : Int32)) hx hb dX5_init_13 (by decide) ?_
  refine jnewi hx hb hts hK hP hD hS hA (N := 82) (by decide) rfl (Nat.le_of_ble_eq_true rfl) (Nat.le_of_ble_eq_true rfl) (Nat.le_of_ble_eq_true rfl) dX5_init_15 (fun q2 H hP hD hS => ?_)
  have hP : va_P D vwCl [(h0, .inr (4, [.ref q1, .null, .null, .int 0, .null, .null, .null, .null, .null, .int 0, .int 0, .int 0, .int 0, .int 0, .int 0])), (q1, .inl (K.1, 82, .inl (fun _ => 0))), (q2, .inl (K.1, 82, .inl (fun _ => 0)))] H := hP
  have hD : va_D A [(h0, .inr (4, [.ref q1, .null, .null, .int 0, .null, .null, .null, .null, .null, .int 0, .int 0, .int 0, .int 0, .int 0, .int 0])), (q1, .inl (K.1, 82, .inl (fun _ => 0))), (q2, .inl (K.1, 82, .inl (fun _ => 0)))] := hD
  refine W.widen (k := 2) (n := 164) (Nat.le_of_ble_eq_true rfl) (Nat.le_of_ble_eq_true rfl) ?_
  refine va_putF (ty := .array .int) (v := .ref q2) (C := RX5) (T := TX5) (N := 15) hx hb hts jin_X5 tyX5 tyX5_ok nmX5 hown hK hP hD hS 0 rfl rfl 1 (by decide) (hts (.fieldLink RX5 13 "JudgedDepositsModel" "kept" "[I") (jq 730 (by decide +kernel) rfl)) (fun _ h9 => h9) rfl hin rfl (by decide +kernel) rfl rfl (Nat.le_of_ble_eq_true rfl) dX5_init_17 (fun H locs hP hD hS => ?_)
  have hP : va_P D vwCl [(h0, .inr (4, [.ref q1, .ref q2, .null, .int 0, .null, .null, .null, .null, .null, .int 0, .int 0, .int 0, .int 0, .int 0, .int 0])), (q1, .inl (K.1, 82, .inl (fun _ => 0))), (q2, .inl (K.1, 82, .inl (fun _ => 0)))] H := hP
  have hD : va_D A [(h0, .inr (4, [.ref q1, .ref q2, .null, .int 0, .null, .null, .null, .null, .null, .int 0, .int 0, .int 0, .int 0, .int 0, .int 0])), (q1, .inl (K.1, 82, .inl (fun _ => 0))), (q2, .inl (K.1, 82, .inl (fun _ => 0)))] := hD
  refine lv_aload_n hx hb dX5_init_20 rfl (lv_at hl 0 rfl) ?_
  refine lv_bipush (v := (82 : Int32)) hx hb dX5_init_21 (by decide) ?_
  refine jnewi hx hb hts hK hP hD hS hA (N := 82) (by decide) rfl (Nat.le_of_ble_eq_true rfl) (Nat.le_of_ble_eq_true rfl) (Nat.le_of_ble_eq_true rfl) dX5_init_23 (fun q3 H hP hD hS => ?_)
  have hP : va_P D vwCl [(h0, .inr (4, [.ref q1, .ref q2, .null, .int 0, .null, .null, .null, .null, .null, .int 0, .int 0, .int 0, .int 0, .int 0, .int 0])), (q1, .inl (K.1, 82, .inl (fun _ => 0))), (q2, .inl (K.1, 82, .inl (fun _ => 0))), (q3, .inl (K.1, 82, .inl (fun _ => 0)))] H := hP
  have hD : va_D A [(h0, .inr (4, [.ref q1, .ref q2, .null, .int 0, .null, .null, .null, .null, .null, .int 0, .int 0, .int 0, .int 0, .int 0, .int 0])), (q1, .inl (K.1, 82, .inl (fun _ => 0))), (q2, .inl (K.1, 82, .inl (fun _ => 0))), (q3, .inl (K.1, 82, .inl (fun _ => 0)))] := hD
  refine W.widen (k := 3) (n := 246) (Nat.le_of_ble_eq_true rfl) (Nat.le_of_ble_eq_true rfl) ?_
  refine va_putF (ty := .array .int) (v := .ref q3) (C := RX5) (T := TX5) (N := 15) hx hb hts jin_X5 tyX5 tyX5_ok nmX5 hown hK hP hD hS 0 rfl rfl 2 (by decide) (hts (.fieldLink RX5 16 "JudgedDepositsModel" "was" "[I") (jq 731 (by decide +kernel) rfl)) (fun _ h9 => h9) rfl hin rfl (by decide +kernel) rfl rfl (Nat.le_of_ble_eq_true rfl) dX5_init_25 (fun H locs hP hD hS => ?_)
  have hP : va_P D vwCl [(h0, .inr (4, [.ref q1, .ref q2, .ref q3, .int 0, .null, .null, .null, .null, .null, .int 0, .int 0, .int 0, .int 0, .int 0, .int 0])), (q1, .inl (K.1, 82, .inl (fun _ => 0))), (q2, .inl (K.1, 82, .inl (fun _ => 0))), (q3, .inl (K.1, 82, .inl (fun _ => 0)))] H := hP
  have hD : va_D A [(h0, .inr (4, [.ref q1, .ref q2, .ref q3, .int 0, .null, .null, .null, .null, .null, .int 0, .int 0, .int 0, .int 0, .int 0, .int 0])), (q1, .inl (K.1, 82, .inl (fun _ => 0))), (q2, .inl (K.1, 82, .inl (fun _ => 0))), (q3, .inl (K.1, 82, .inl (fun _ => 0)))] := hD
  refine lv_aload_n hx hb dX5_init_28 rfl (lv_at hl 0 rfl) ?_
  refine lv_bipush (v := (7 : Int32)) hx hb dX5_init_29 (by decide) ?_
  refine jnewi hx hb hts hK hP hD hS hA (N := 7) (by decide) rfl (Nat.le_of_ble_eq_true rfl) (Nat.le_of_ble_eq_true rfl) (Nat.le_of_ble_eq_true rfl) dX5_init_31 (fun q4 H hP hD hS => ?_)
  have hP : va_P D vwCl [(h0, .inr (4, [.ref q1, .ref q2, .ref q3, .int 0, .null, .null, .null, .null, .null, .int 0, .int 0, .int 0, .int 0, .int 0, .int 0])), (q1, .inl (K.1, 82, .inl (fun _ => 0))), (q2, .inl (K.1, 82, .inl (fun _ => 0))), (q3, .inl (K.1, 82, .inl (fun _ => 0))), (q4, .inl (K.1, 7, .inl (fun _ => 0)))] H := hP
  have hD : va_D A [(h0, .inr (4, [.ref q1, .ref q2, .ref q3, .int 0, .null, .null, .null, .null, .null, .int 0, .int 0, .int 0, .int 0, .int 0, .int 0])), (q1, .inl (K.1, 82, .inl (fun _ => 0))), (q2, .inl (K.1, 82, .inl (fun _ => 0))), (q3, .inl (K.1, 82, .inl (fun _ => 0))), (q4, .inl (K.1, 7, .inl (fun _ => 0)))] := hD
  refine W.widen (k := 4) (n := 253) (Nat.le_of_ble_eq_true rfl) (Nat.le_of_ble_eq_true rfl) ?_
  refine va_putF (ty := .array .int) (v := .ref q4) (C := RX5) (T := TX5) (N := 15) hx hb hts jin_X5 tyX5 tyX5_ok nmX5 hown hK hP hD hS 0 rfl rfl 4 (by decide) (hts (.fieldLink RX5 19 "JudgedDepositsModel" "found" "[I") (jq 733 (by decide +kernel) rfl)) (fun _ h9 => h9) rfl hin rfl (by decide +kernel) rfl rfl (Nat.le_of_ble_eq_true rfl) dX5_init_33 (fun H locs hP hD hS => ?_)
  have hP : va_P D vwCl [(h0, .inr (4, [.ref q1, .ref q2, .ref q3, .int 0, .ref q4, .null, .null, .null, .null, .int 0, .int 0, .int 0, .int 0, .int 0, .int 0])), (q1, .inl (K.1, 82, .inl (fun _ => 0))), (q2, .inl (K.1, 82, .inl (fun _ => 0))), (q3, .inl (K.1, 82, .inl (fun _ => 0))), (q4, .inl (K.1, 7, .inl (fun _ => 0)))] H := hP
  have hD : va_D A [(h0, .inr (4, [.ref q1, .ref q2, .ref q3, .int 0, .ref q4, .null, .null, .null, .null, .int 0, .int 0, .int 0, .int 0, .int 0, .int 0])), (q1, .inl (K.1, 82, .inl (fun _ => 0))), (q2, .inl (K.1, 82, .inl (fun _ => 0))), (q3, .inl (K.1, 82, .inl (fun _ => 0))), (q4, .inl (K.1, 7, .inl (fun _ => 0)))] := hD
  refine lv_aload_n hx hb dX5_init_36 rfl (lv_at hl 0 rfl) ?_
  refine lv_iconst (v := (4 : Int32)) hx hb dX5_init_37 (by decide) ?_
  refine jnewi hx hb hts hK hP hD hS hA (N := 4) (by decide) rfl (Nat.le_of_ble_eq_true rfl) (Nat.le_of_ble_eq_true rfl) (Nat.le_of_ble_eq_true rfl) dX5_init_38 (fun q5 H hP hD hS => ?_)
  have hP : va_P D vwCl [(h0, .inr (4, [.ref q1, .ref q2, .ref q3, .int 0, .ref q4, .null, .null, .null, .null, .int 0, .int 0, .int 0, .int 0, .int 0, .int 0])), (q1, .inl (K.1, 82, .inl (fun _ => 0))), (q2, .inl (K.1, 82, .inl (fun _ => 0))), (q3, .inl (K.1, 82, .inl (fun _ => 0))), (q4, .inl (K.1, 7, .inl (fun _ => 0))), (q5, .inl (K.1, 4, .inl (fun _ => 0)))] H := hP
  have hD : va_D A [(h0, .inr (4, [.ref q1, .ref q2, .ref q3, .int 0, .ref q4, .null, .null, .null, .null, .int 0, .int 0, .int 0, .int 0, .int 0, .int 0])), (q1, .inl (K.1, 82, .inl (fun _ => 0))), (q2, .inl (K.1, 82, .inl (fun _ => 0))), (q3, .inl (K.1, 82, .inl (fun _ => 0))), (q4, .inl (K.1, 7, .inl (fun _ => 0))), (q5, .inl (K.1, 4, .inl (fun _ => 0)))] := hD
  refine W.widen (k := 5) (n := 257) (Nat.le_of_ble_eq_true rfl) (Nat.le_of_ble_eq_true rfl) ?_
  refine va_putF (ty := .array .int) (v := .ref q5) (C := RX5) (T := TX5) (N := 15) hx hb hts jin_X5 tyX5 tyX5_ok nmX5 hown hK hP hD hS 0 rfl rfl 5 (by decide) (hts (.fieldLink RX5 22 "JudgedDepositsModel" "bitsOf" "[I") (jq 734 (by decide +kernel) rfl)) (fun _ h9 => h9) rfl hin rfl (by decide +kernel) rfl rfl (Nat.le_of_ble_eq_true rfl) dX5_init_40 (fun H locs hP hD hS => ?_)
  have hP : va_P D vwCl [(h0, .inr (4, [.ref q1, .ref q2, .ref q3, .int 0, .ref q4, .ref q5, .null, .null, .null, .int 0, .int 0, .int 0, .int 0, .int 0, .int 0])), (q1, .inl (K.1, 82, .inl (fun _ => 0))), (q2, .inl (K.1, 82, .inl (fun _ => 0))), (q3, .inl (K.1, 82, .inl (fun _ => 0))), (q4, .inl (K.1, 7, .inl (fun _ => 0))), (q5, .inl (K.1, 4, .inl (fun _ => 0)))] H := hP
  have hD : va_D A [(h0, .inr (4, [.ref q1, .ref q2, .ref q3, .int 0, .ref q4, .ref q5, .null, .null, .null, .int 0, .int 0, .int 0, .int 0, .int 0, .int 0])), (q1, .inl (K.1, 82, .inl (fun _ => 0))), (q2, .inl (K.1, 82, .inl (fun _ => 0))), (q3, .inl (K.1, 82, .inl (fun _ => 0))), (q4, .inl (K.1, 7, .inl (fun _ => 0))), (q5, .inl (K.1, 4, .inl (fun _ => 0)))] := hD
  refine lv_aload_n hx hb dX5_init_43 rfl (lv_at hl 0 rfl) ?_
  refine lv_iconst (v := (4 : Int32)) hx hb dX5_init_44 (by decide) ?_
  refine jnewi hx hb hts hK hP hD hS hA (N := 4) (by decide) rfl (Nat.le_of_ble_eq_true rfl) (Nat.le_of_ble_eq_true rfl) (Nat.le_of_ble_eq_true rfl) dX5_init_45 (fun q6 H hP hD hS => ?_)
  have hP : va_P D vwCl [(h0, .inr (4, [.ref q1, .ref q2, .ref q3, .int 0, .ref q4, .ref q5, .null, .null, .null, .int 0, .int 0, .int 0, .int 0, .int 0, .int 0])), (q1, .inl (K.1, 82, .inl (fun _ => 0))), (q2, .inl (K.1, 82, .inl (fun _ => 0))), (q3, .inl (K.1, 82, .inl (fun _ => 0))), (q4, .inl (K.1, 7, .inl (fun _ => 0))), (q5, .inl (K.1, 4, .inl (fun _ => 0))), (q6, .inl (K.1, 4, .inl (fun _ => 0)))] H := hP
  have hD : va_D A [(h0, .inr (4, [.ref q1, .ref q2, .ref q3, .int 0, .ref q4, .ref q5, .null, .null, .null, .int 0, .int 0, .int 0, .int 0, .int 0, .int 0])), (q1, .inl (K.1, 82, .inl (fun _ => 0))), (q2, .inl (K.1, 82, .inl (fun _ => 0))), (q3, .inl (K.1, 82, .inl (fun _ => 0))), (q4, .inl (K.1, 7, .inl (fun _ => 0))), (q5, .inl (K.1, 4, .inl (fun _ => 0))), (q6, .inl (K.1, 4, .inl (fun _ => 0)))] := hD
  refine W.widen (k := 6) (n := 261) (Nat.le_of_ble_eq_true rfl) (Nat.le_of_ble_eq_true rfl) ?_
  refine va_putF (ty := .array .int) (v := .ref q6) (C := RX5) (T := TX5) (N := 15) hx hb hts jin_X5 tyX5 tyX5_ok nmX5 hown hK hP hD hS 0 rfl rfl 6 (by decide) (hts (.fieldLink RX5 25 "JudgedDepositsModel" "sizeOf" "[I") (jq 735 (by decide +kernel) rfl)) (fun _ h9 => h9) rfl hin rfl (by decide +kernel) rfl rfl (Nat.le_of_ble_eq_true rfl) dX5_init_47 (fun H locs hP hD hS => ?_)
  have hP : va_P D vwCl [(h0, .inr (4, [.ref q1, .ref q2, .ref q3, .int 0, .ref q4, .ref q5, .ref q6, .null, .null, .int 0, .int 0, .int 0, .int 0, .int 0, .int 0])), (q1, .inl (K.1, 82, .inl (fun _ => 0))), (q2, .inl (K.1, 82, .inl (fun _ => 0))), (q3, .inl (K.1, 82, .inl (fun _ => 0))), (q4, .inl (K.1, 7, .inl (fun _ => 0))), (q5, .inl (K.1, 4, .inl (fun _ => 0))), (q6, .inl (K.1, 4, .inl (fun _ => 0)))] H := hP
  have hD : va_D A [(h0, .inr (4, [.ref q1, .ref q2, .ref q3, .int 0, .ref q4, .ref q5, .ref q6, .null, .null, .int 0, .int 0, .int 0, .int 0, .int 0, .int 0])), (q1, .inl (K.1, 82, .inl (fun _ => 0))), (q2, .inl (K.1, 82, .inl (fun _ => 0))), (q3, .inl (K.1, 82, .inl (fun _ => 0))), (q4, .inl (K.1, 7, .inl (fun _ => 0))), (q5, .inl (K.1, 4, .inl (fun _ => 0))), (q6, .inl (K.1, 4, .inl (fun _ => 0)))] := hD
  refine lv_aload_n hx hb dX5_init_50 rfl (lv_at hl 0 rfl) ?_
  refine lv_sipush (v := (160 : Int32)) hx hb dX5_init_51 (by decide) ?_
  refine jnewi hx hb hts hK hP hD hS hA (N := 160) (by decide) rfl (Nat.le_of_ble_eq_true rfl) (Nat.le_of_ble_eq_true rfl) (Nat.le_of_ble_eq_true rfl) dX5_init_54 (fun q7 H hP hD hS => ?_)
  have hP : va_P D vwCl [(h0, .inr (4, [.ref q1, .ref q2, .ref q3, .int 0, .ref q4, .ref q5, .ref q6, .null, .null, .int 0, .int 0, .int 0, .int 0, .int 0, .int 0])), (q1, .inl (K.1, 82, .inl (fun _ => 0))), (q2, .inl (K.1, 82, .inl (fun _ => 0))), (q3, .inl (K.1, 82, .inl (fun _ => 0))), (q4, .inl (K.1, 7, .inl (fun _ => 0))), (q5, .inl (K.1, 4, .inl (fun _ => 0))), (q6, .inl (K.1, 4, .inl (fun _ => 0))), (q7, .inl (K.1, 160, .inl (fun _ => 0)))] H := hP
  have hD : va_D A [(h0, .inr (4, [.ref q1, .ref q2, .ref q3, .int 0, .ref q4, .ref q5, .ref q6, .null, .null, .int 0, .int 0, .int 0, .int 0, .int 0, .int 0])), (q1, .inl (K.1, 82, .inl (fun _ => 0))), (q2, .inl (K.1, 82, .inl (fun _ => 0))), (q3, .inl (K.1, 82, .inl (fun _ => 0))), (q4, .inl (K.1, 7, .inl (fun _ => 0))), (q5, .inl (K.1, 4, .inl (fun _ => 0))), (q6, .inl (K.1, 4, .inl (fun _ => 0))), (q7, .inl (K.1, 160, .inl (fun _ => 0)))] := hD
  refine W.widen (k := 7) (n := 421) (Nat.le_of_ble_eq_true rfl) (Nat.le_of_ble_eq_true rfl) ?_
  refine va_putF (ty := .array .int) (v := .ref q7) (C := RX5) (T := TX5) (N := 15) hx hb hts jin_X5 tyX5 tyX5_ok nmX5 hown hK hP hD hS 0 rfl rfl 7 (by decide) (hts (.fieldLink RX5 28 "JudgedDepositsModel" "cells" "[I") (jq 736 (by decide +kernel) rfl)) (fun _ h9 => h9) rfl hin rfl (by decide +kernel) rfl rfl (Nat.le_of_ble_eq_true rfl) dX5_init_56 (fun H locs hP hD hS => ?_)
  have hP : va_P D vwCl [(h0, .inr (4, [.ref q1, .ref q2, .ref q3, .int 0, .ref q4, .ref q5, .ref q6, .ref q7, .null, .int 0, .int 0, .int 0, .int 0, .int 0, .int 0])), (q1, .inl (K.1, 82, .inl (fun _ => 0))), (q2, .inl (K.1, 82, .inl (fun _ => 0))), (q3, .inl (K.1, 82, .inl (fun _ => 0))), (q4, .inl (K.1, 7, .inl (fun _ => 0))), (q5, .inl (K.1, 4, .inl (fun _ => 0))), (q6, .inl (K.1, 4, .inl (fun _ => 0))), (q7, .inl (K.1, 160, .inl (fun _ => 0)))] H := hP
  have hD : va_D A [(h0, .inr (4, [.ref q1, .ref q2, .ref q3, .int 0, .ref q4, .ref q5, .ref q6, .ref q7, .null, .int 0, .int 0, .int 0, .int 0, .int 0, .int 0])), (q1, .inl (K.1, 82, .inl (fun _ => 0))), (q2, .inl (K.1, 82, .inl (fun _ => 0))), (q3, .inl (K.1, 82, .inl (fun _ => 0))), (q4, .inl (K.1, 7, .inl (fun _ => 0))), (q5, .inl (K.1, 4, .inl (fun _ => 0))), (q6, .inl (K.1, 4, .inl (fun _ => 0))), (q7, .inl (K.1, 160, .inl (fun _ => 0)))] := hD
  refine lv_aload_n hx hb dX5_init_59 rfl (lv_at hl 0 rfl) ?_
  refine lv_bipush (v := (120 : Int32)) hx hb dX5_init_60 (by decide) ?_
  refine jnewi hx hb hts hK hP hD hS hA (N := 120) (by decide) rfl (Nat.le_of_ble_eq_true rfl) (Nat.le_of_ble_eq_true rfl) (Nat.le_of_ble_eq_true rfl) dX5_init_62 (fun q8 H hP hD hS => ?_)
  have hP : va_P D vwCl [(h0, .inr (4, [.ref q1, .ref q2, .ref q3, .int 0, .ref q4, .ref q5, .ref q6, .ref q7, .null, .int 0, .int 0, .int 0, .int 0, .int 0, .int 0])), (q1, .inl (K.1, 82, .inl (fun _ => 0))), (q2, .inl (K.1, 82, .inl (fun _ => 0))), (q3, .inl (K.1, 82, .inl (fun _ => 0))), (q4, .inl (K.1, 7, .inl (fun _ => 0))), (q5, .inl (K.1, 4, .inl (fun _ => 0))), (q6, .inl (K.1, 4, .inl (fun _ => 0))), (q7, .inl (K.1, 160, .inl (fun _ => 0))), (q8, .inl (K.1, 120, .inl (fun _ => 0)))] H := hP
  have hD : va_D A [(h0, .inr (4, [.ref q1, .ref q2, .ref q3, .int 0, .ref q4, .ref q5, .ref q6, .ref q7, .null, .int 0, .int 0, .int 0, .int 0, .int 0, .int 0])), (q1, .inl (K.1, 82, .inl (fun _ => 0))), (q2, .inl (K.1, 82, .inl (fun _ => 0))), (q3, .inl (K.1, 82, .inl (fun _ => 0))), (q4, .inl (K.1, 7, .inl (fun _ => 0))), (q5, .inl (K.1, 4, .inl (fun _ => 0))), (q6, .inl (K.1, 4, .inl (fun _ => 0))), (q7, .inl (K.1, 160, .inl (fun _ => 0))), (q8, .inl (K.1, 120, .inl (fun _ => 0)))] := hD
  refine W.widen (k := 8) (n := 541) (Nat.le_of_ble_eq_true rfl) (Nat.le_of_ble_eq_true rfl) ?_
  refine va_putF (ty := .array .int) (v := .ref q8) (C := RX5) (T := TX5) (N := 15) hx hb hts jin_X5 tyX5 tyX5_ok nmX5 hown hK hP hD hS 0 rfl rfl 8 (by decide) (hts (.fieldLink RX5 31 "JudgedDepositsModel" "tape" "[I") (jq 737 (by decide +kernel) rfl)) (fun _ h9 => h9) rfl hin rfl (by decide +kernel) rfl rfl (Nat.le_of_ble_eq_true rfl) dX5_init_64 (fun H locs hP hD hS => ?_)
  have hP : va_P D vwCl [(h0, .inr (4, [.ref q1, .ref q2, .ref q3, .int 0, .ref q4, .ref q5, .ref q6, .ref q7, .ref q8, .int 0, .int 0, .int 0, .int 0, .int 0, .int 0])), (q1, .inl (K.1, 82, .inl (fun _ => 0))), (q2, .inl (K.1, 82, .inl (fun _ => 0))), (q3, .inl (K.1, 82, .inl (fun _ => 0))), (q4, .inl (K.1, 7, .inl (fun _ => 0))), (q5, .inl (K.1, 4, .inl (fun _ => 0))), (q6, .inl (K.1, 4, .inl (fun _ => 0))), (q7, .inl (K.1, 160, .inl (fun _ => 0))), (q8, .inl (K.1, 120, .inl (fun _ => 0)))] H := hP
  have hD : va_D A [(h0, .inr (4, [.ref q1, .ref q2, .ref q3, .int 0, .ref q4, .ref q5, .ref q6, .ref q7, .ref q8, .int 0, .int 0, .int 0, .int 0, .int 0, .int 0])), (q1, .inl (K.1, 82, .inl (fun _ => 0))), (q2, .inl (K.1, 82, .inl (fun _ => 0))), (q3, .inl (K.1, 82, .inl (fun _ => 0))), (q4, .inl (K.1, 7, .inl (fun _ => 0))), (q5, .inl (K.1, 4, .inl (fun _ => 0))), (q6, .inl (K.1, 4, .inl (fun _ => 0))), (q7, .inl (K.1, 160, .inl (fun _ => 0))), (q8, .inl (K.1, 120, .inl (fun _ => 0)))] := hD
  refine lv_aload_n hx hb dX5_init_67 rfl (lv_at hl 0 rfl) ?_
  refine gf_X5_9 (v := .ref q1) hx hb hts hown hK hZ hP 0 rfl rfl dX5_init_68 ?_
  refine lv_iconst (v := (1 : Int32)) hx hb dX5_init_71 (by decide) ?_
  refine lv_iconst (v := (1 : Int32)) hx hb dX5_init_72 (by decide) ?_
  refine va_iast hx hb hK hP hD hS (1) 0 rfl rfl (show vp_in (1 : Int32) 82 by unfold vp_in; decide) dX5_init_73 (fun H locs hP hD hS => ?_)
  have hP : va_P D vwCl [(h0, .inr (4, [.ref q1, .ref q2, .ref q3, .int 0, .ref q4, .ref q5, .ref q6, .ref q7, .ref q8, .int 0, .int 0, .int 0, .int 0, .int 0, .int 0])), (q1, .inl (K.1, 82, .inl (upd (fun _ => 0) 1 (1 : Int32)))), (q2, .inl (K.1, 82, .inl (fun _ => 0))), (q3, .inl (K.1, 82, .inl (fun _ => 0))), (q4, .inl (K.1, 7, .inl (fun _ => 0))), (q5, .inl (K.1, 4, .inl (fun _ => 0))), (q6, .inl (K.1, 4, .inl (fun _ => 0))), (q7, .inl (K.1, 160, .inl (fun _ => 0))), (q8, .inl (K.1, 120, .inl (fun _ => 0)))] H := hP
  have hD : va_D A [(h0, .inr (4, [.ref q1, .ref q2, .ref q3, .int 0, .ref q4, .ref q5, .ref q6, .ref q7, .ref q8, .int 0, .int 0, .int 0, .int 0, .int 0, .int 0])), (q1, .inl (K.1, 82, .inl (upd (fun _ => 0) 1 (1 : Int32)))), (q2, .inl (K.1, 82, .inl (fun _ => 0))), (q3, .inl (K.1, 82, .inl (fun _ => 0))), (q4, .inl (K.1, 7, .inl (fun _ => 0))), (q5, .inl (K.1, 4, .inl (fun _ => 0))), (q6, .inl (K.1, 4, .inl (fun _ => 0))), (q7, .inl (K.1, 160, .inl (fun _ => 0))), (q8, .inl (K.1, 120, .inl (fun _ => 0)))] := hD
  refine lv_aload_n hx hb dX5_init_74 rfl (lv_at hl 0 rfl) ?_
  refine gf_X5_9 (v := .ref q1) hx hb hts hown hK hZ hP 0 rfl rfl dX5_init_75 ?_
  refine lv_iconst (v := (3 : Int32)) hx hb dX5_init_78 (by decide) ?_
  refine lv_sipush (v := (1000 : Int32)) hx hb dX5_init_79 (by decide) ?_
  refine va_iast hx hb hK hP hD hS (1) 0 rfl rfl (show vp_in (3 : Int32) 82 by unfold vp_in; decide) dX5_init_82 (fun H locs hP hD hS => ?_)
  have hP : va_P D vwCl [(h0, .inr (4, [.ref q1, .ref q2, .ref q3, .int 0, .ref q4, .ref q5, .ref q6, .ref q7, .ref q8, .int 0, .int 0, .int 0, .int 0, .int 0, .int 0])), (q1, .inl (K.1, 82, .inl (upd (upd (fun _ => 0) 1 (1 : Int32)) 3 (1000 : Int32)))), (q2, .inl (K.1, 82, .inl (fun _ => 0))), (q3, .inl (K.1, 82, .inl (fun _ => 0))), (q4, .inl (K.1, 7, .inl (fun _ => 0))), (q5, .inl (K.1, 4, .inl (fun _ => 0))), (q6, .inl (K.1, 4, .inl (fun _ => 0))), (q7, .inl (K.1, 160, .inl (fun _ => 0))), (q8, .inl (K.1, 120, .inl (fun _ => 0)))] H := hP
  have hD : va_D A [(h0, .inr (4, [.ref q1, .ref q2, .ref q3, .int 0, .ref q4, .ref q5, .ref q6, .ref q7, .ref q8, .int 0, .int 0, .int 0, .int 0, .int 0, .int 0])), (q1, .inl (K.1, 82, .inl (upd (upd (fun _ => 0) 1 (1 : Int32)) 3 (1000 : Int32)))), (q2, .inl (K.1, 82, .inl (fun _ => 0))), (q3, .inl (K.1, 82, .inl (fun _ => 0))), (q4, .inl (K.1, 7, .inl (fun _ => 0))), (q5, .inl (K.1, 4, .inl (fun _ => 0))), (q6, .inl (K.1, 4, .inl (fun _ => 0))), (q7, .inl (K.1, 160, .inl (fun _ => 0))), (q8, .inl (K.1, 120, .inl (fun _ => 0)))] := hD
  refine lv_aload_n hx hb dX5_init_83 rfl (lv_at hl 0 rfl) ?_
  refine gf_X5_9 (v := .ref q1) hx hb hts hown hK hZ hP 0 rfl rfl dX5_init_84 ?_
  refine lv_iconst (v := (4 : Int32)) hx hb dX5_init_87 (by decide) ?_
  refine lv_iconst (v := (2 : Int32)) hx hb dX5_init_88 (by decide) ?_
  refine va_iast hx hb hK hP hD hS (1) 0 rfl rfl (show vp_in (4 : Int32) 82 by unfold vp_in; decide) dX5_init_89 (fun H locs hP hD hS => ?_)
  have hP : va_P D vwCl [(h0, .inr (4, [.ref q1, .ref q2, .ref q3, .int 0, .ref q4, .ref q5, .ref q6, .ref q7, .ref q8, .int 0, .int 0, .int 0, .int 0, .int 0, .int 0])), (q1, .inl (K.1, 82, .inl (upd (upd (upd (fun _ => 0) 1 (1 : Int32)) 3 (1000 : Int32)) 4 (2 : Int32)))), (q2, .inl (K.1, 82, .inl (fun _ => 0))), (q3, .inl (K.1, 82, .inl (fun _ => 0))), (q4, .inl (K.1, 7, .inl (fun _ => 0))), (q5, .inl (K.1, 4, .inl (fun _ => 0))), (q6, .inl (K.1, 4, .inl (fun _ => 0))), (q7, .inl (K.1, 160, .inl (fun _ => 0))), (q8, .inl (K.1, 120, .inl (fun _ => 0)))] H := hP
  have hD : va_D A [(h0, .inr (4, [.ref q1, .ref q2, .ref q3, .int 0, .ref q4, .ref q5, .ref q6, .ref q7, .ref q8, .int 0, .int 0, .int 0, .int 0, .int 0, .int 0])), (q1, .inl (K.1, 82, .inl (upd (upd (upd (fun _ => 0) 1 (1 : Int32)) 3 (1000 : Int32)) 4 (2 : Int32)))), (q2, .inl (K.1, 82, .inl (fun _ => 0))), (q3, .inl (K.1, 82, .inl (fun _ => 0))), (q4, .inl (K.1, 7, .inl (fun _ => 0))), (q5, .inl (K.1, 4, .inl (fun _ => 0))), (q6, .inl (K.1, 4, .inl (fun _ => 0))), (q7, .inl (K.1, 160, .inl (fun _ => 0))), (q8, .inl (K.1, 120, .inl (fun _ => 0)))] := hD
  refine lv_aload_n hx hb dX5_init_90 rfl (lv_at hl 0 rfl) ?_
  refine gf_X5_9 (v := .ref q1) hx hb hts hown hK hZ hP 0 rfl rfl dX5_init_91 ?_
  refine lv_iconst (v := (5 : Int32)) hx hb dX5_init_94 (by decide) ?_
  refine lv_iconst (v := (1 : Int32)) hx hb dX5_init_95 (by decide) ?_
  refine va_iast hx hb hK hP hD hS (1) 0 rfl rfl (show vp_in (5 : Int32) 82 by unfold vp_in; decide) dX5_init_96 (fun H locs hP hD hS => ?_)
  have hP : va_P D vwCl [(h0, .inr (4, [.ref q1, .ref q2, .ref q3, .int 0, .ref q4, .ref q5, .ref q6, .ref q7, .ref q8, .int 0, .int 0, .int 0, .int 0, .int 0, .int 0])), (q1, .inl (K.1, 82, .inl (upd (upd (upd (upd (fun _ => 0) 1 (1 : Int32)) 3 (1000 : Int32)) 4 (2 : Int32)) 5 (1 : Int32)))), (q2, .inl (K.1, 82, .inl (fun _ => 0))), (q3, .inl (K.1, 82, .inl (fun _ => 0))), (q4, .inl (K.1, 7, .inl (fun _ => 0))), (q5, .inl (K.1, 4, .inl (fun _ => 0))), (q6, .inl (K.1, 4, .inl (fun _ => 0))), (q7, .inl (K.1, 160, .inl (fun _ => 0))), (q8, .inl (K.1, 120, .inl (fun _ => 0)))] H := hP
  have hD : va_D A [(h0, .inr (4, [.ref q1, .ref q2, .ref q3, .int 0, .ref q4, .ref q5, .ref q6, .ref q7, .ref q8, .int 0, .int 0, .int 0, .int 0, .int 0, .int 0])), (q1, .inl (K.1, 82, .inl (upd (upd (upd (upd (fun _ => 0) 1 (1 : Int32)) 3 (1000 : Int32)) 4 (2 : Int32)) 5 (1 : Int32)))), (q2, .inl (K.1, 82, .inl (fun _ => 0))), (q3, .inl (K.1, 82, .inl (fun _ => 0))), (q4, .inl (K.1, 7, .inl (fun _ => 0))), (q5, .inl (K.1, 4, .inl (fun _ => 0))), (q6, .inl (K.1, 4, .inl (fun _ => 0))), (q7, .inl (K.1, 160, .inl (fun _ => 0))), (q8, .inl (K.1, 120, .inl (fun _ => 0)))] := hD
  refine lv_aload_n hx hb dX5_init_97 rfl (lv_at hl 0 rfl) ?_
  refine gf_X5_9 (v := .ref q1) hx hb hts hown hK hZ hP 0 rfl rfl dX5_init_98 ?_
  refine lv_bipush (v := (6 : Int32)) hx hb dX5_init_101 (by decide) ?_
  refine lv_iconst (v := (1 : Int32)) hx hb dX5_init_103 (by decide) ?_
  refine va_iast hx hb hK hP hD hS (1) 0 rfl rfl (show vp_in (6 : Int32) 82 by unfold vp_in; decide) dX5_init_104 (fun H locs hP hD hS => ?_)
  have hP : va_P D vwCl [(h0, .inr (4, [.ref q1, .ref q2, .ref q3, .int 0, .ref q4, .ref q5, .ref q6, .ref q7, .ref q8, .int 0, .int 0, .int 0, .int 0, .int 0, .int 0])), (q1, .inl (K.1, 82, .inl (upd (upd (upd (upd (upd (fun _ => 0) 1 (1 : Int32)) 3 (1000 : Int32)) 4 (2 : Int32)) 5 (1 : Int32)) 6 (1 : Int32)))), (q2, .inl (K.1, 82, .inl (fun _ => 0))), (q3, .inl (K.1, 82, .inl (fun _ => 0))), (q4, .inl (K.1, 7, .inl (fun _ => 0))), (q5, .inl (K.1, 4, .inl (fun _ => 0))), (q6, .inl (K.1, 4, .inl (fun _ => 0))), (q7, .inl (K.1, 160, .inl (fun _ => 0))), (q8, .inl (K.1, 120, .inl (fun _ => 0)))] H := hP
  have hD : va_D A [(h0, .inr (4, [.ref q1, .ref q2, .ref q3, .int 0, .ref q4, .ref q5, .ref q6, .ref q7, .ref q8, .int 0, .int 0, .int 0, .int 0, .int 0, .int 0])), (q1, .inl (K.1, 82, .inl (upd (upd (upd (upd (upd (fun _ => 0) 1 (1 : Int32)) 3 (1000 : Int32)) 4 (2 : Int32)) 5 (1 : Int32)) 6 (1 : Int32)))), (q2, .inl (K.1, 82, .inl (fun _ => 0))), (q3, .inl (K.1, 82, .inl (fun _ => 0))), (q4, .inl (K.1, 7, .inl (fun _ => 0))), (q5, .inl (K.1, 4, .inl (fun _ => 0))), (q6, .inl (K.1, 4, .inl (fun _ => 0))), (q7, .inl (K.1, 160, .inl (fun _ => 0))), (q8, .inl (K.1, 120, .inl (fun _ => 0)))] := hD
  refine lv_bipush (v := (72 : Int32)) hx hb dX5_init_105 (by decide) ?_
  refine lv_istore_n (lv' := [(1, .int (72 : Int32)), (0, .ref h0)]) hx hb dX5_init_107 rfl hl (by decide) rfl (fun ls hl => ?_)
  refine lv_iload_n hx hb dX5_init_108 rfl (lv_at hl 0 rfl) ?_
  refine lv_bipush (v := (82 : Int32)) hx hb dX5_init_109 (by decide) ?_
  refine lv_icmp_ge (tgt := 127) hx hb dX5_init_111 (by decide) (fun cc => absurd cc (by decide)) (fun _ => ?_)
  refine lv_aload_n hx hb dX5_init_114 rfl (lv_at hl 1 rfl) ?_
  refine gf_X5_9 (v := .ref q1) hx hb hts hown hK hZ hP 0 rfl rfl dX5_init_115 ?_
  refine lv_iload_n hx hb dX5_init_118 rfl (lv_at hl 0 rfl) ?_
  refine lv_iconst (v := (-1 : Int32)) hx hb dX5_init_119 (by decide) ?_
  refine va_iast hx hb hK hP hD hS (1) 0 rfl rfl (show vp_in (72 : Int32) 82 by unfold vp_in; decide) dX5_init_120 (fun H locs hP hD hS => ?_)
  have hP : va_P D vwCl [(h0, .inr (4, [.ref q1, .ref q2, .ref q3, .int 0, .ref q4, .ref q5, .ref q6, .ref q7, .ref q8, .int 0, .int 0, .int 0, .int 0, .int 0, .int 0])), (q1, .inl (K.1, 82, .inl (upd (upd (upd (upd (upd (upd (fun _ => 0) 1 (1 : Int32)) 3 (1000 : Int32)) 4 (2 : Int32)) 5 (1 : Int32)) 6 (1 : Int32)) 72 (-1 : Int32)))), (q2, .inl (K.1, 82, .inl (fun _ => 0))), (q3, .inl (K.1, 82, .inl (fun _ => 0))), (q4, .inl (K.1, 7, .inl (fun _ => 0))), (q5, .inl (K.1, 4, .inl (fun _ => 0))), (q6, .inl (K.1, 4, .inl (fun _ => 0))), (q7, .inl (K.1, 160, .inl (fun _ => 0))), (q8, .inl (K.1, 120, .inl (fun _ => 0)))] H := hP
  have hD : va_D A [(h0, .inr (4, [.ref q1, .ref q2, .ref q3, .int 0, .ref q4, .ref q5, .ref q6, .ref q7, .ref q8, .int 0, .int 0, .int 0, .int 0, .int 0, .int 0])), (q1, .inl (K.1, 82, .inl (upd (upd (upd (upd (upd (upd (fun _ => 0) 1 (1 : Int32)) 3 (1000 : Int32)) 4 (2 : Int32)) 5 (1 : Int32)) 6 (1 : Int32)) 72 (-1 : Int32)))), (q2, .inl (K.1, 82, .inl (fun _ => 0))), (q3, .inl (K.1, 82, .inl (fun _ => 0))), (q4, .inl (K.1, 7, .inl (fun _ => 0))), (q5, .inl (K.1, 4, .inl (fun _ => 0))), (q6, .inl (K.1, 4, .inl (fun _ => 0))), (q7, .inl (K.1, 160, .inl (fun _ => 0))), (q8, .inl (K.1, 120, .inl (fun _ => 0)))] := hD
  refine lv_iinc (v := (73 : Int32)) (lv' := [(1, .int (73 : Int32)), (0, .ref h0)]) hx hb dX5_init_121 hl (k := 0) rfl rfl (by decide) rfl (fun ls hl => ?_)
  refine lv_goto (tgt := 108) hx hb dX5_init_124 (by decide) ?_
  refine lv_iload_n hx hb dX5_init_108 rfl (lv_at hl 0 rfl) ?_
  refine lv_bipush (v := (82 : Int32)) hx hb dX5_init_109 (by decide) ?_
  refine lv_icmp_ge (tgt := 127) hx hb dX5_init_111 (by decide) (fun cc => absurd cc (by decide)) (fun _ => ?_)
  refine lv_aload_n hx hb dX5_init_114 rfl (lv_at hl 1 rfl) ?_
  refine gf_X5_9 (v := .ref q1) hx hb hts hown hK hZ hP 0 rfl rfl dX5_init_115 ?_
  refine lv_iload_n hx hb dX5_init_118 rfl (lv_at hl 0 rfl) ?_
  refine lv_iconst (v := (-1 : Int32)) hx hb dX5_init_119 (by decide) ?_
  refine va_iast hx hb hK hP hD hS (1) 0 rfl rfl (show vp_in (73 : Int32) 82 by unfold vp_in; decide) dX5_init_120 (fun H locs hP hD hS => ?_)
  have hP : va_P D vwCl [(h0, .inr (4, [.ref q1, .ref q2, .ref q3, .int 0, .ref q4, .ref q5, .ref q6, .ref q7, .ref q8, .int 0, .int 0, .int 0, .int 0, .int 0, .int 0])), (q1, .inl (K.1, 82, .inl (upd (upd (upd (upd (upd (upd (upd (fun _ => 0) 1 (1 : Int32)) 3 (1000 : Int32)) 4 (2 : Int32)) 5 (1 : Int32)) 6 (1 : Int32)) 72 (-1 : Int32)) 73 (-1 : Int32)))), (q2, .inl (K.1, 82, .inl (fun _ => 0))), (q3, .inl (K.1, 82, .inl (fun _ => 0))), (q4, .inl (K.1, 7, .inl (fun _ => 0))), (q5, .inl (K.1, 4, .inl (fun _ => 0))), (q6, .inl (K.1, 4, .inl (fun _ => 0))), (q7, .inl (K.1, 160, .inl (fun _ => 0))), (q8, .inl (K.1, 120, .inl (fun _ => 0)))] H := hP
  have hD : va_D A [(h0, .inr (4, [.ref q1, .ref q2, .ref q3, .int 0, .ref q4, .ref q5, .ref q6, .ref q7, .ref q8, .int 0, .int 0, .int 0, .int 0, .int 0, .int 0])), (q1, .inl (K.1, 82, .inl (upd (upd (upd (upd (upd (upd (upd (fun _ => 0) 1 (1 : Int32)) 3 (1000 : Int32)) 4 (2 : Int32)) 5 (1 : Int32)) 6 (1 : Int32)) 72 (-1 : Int32)) 73 (-1 : Int32)))), (q2, .inl (K.1, 82, .inl (fun _ => 0))), (q3, .inl (K.1, 82, .inl (fun _ => 0))), (q4, .inl (K.1, 7, .inl (fun _ => 0))), (q5, .inl (K.1, 4, .inl (fun _ => 0))), (q6, .inl (K.1, 4, .inl (fun _ => 0))), (q7, .inl (K.1, 160, .inl (fun _ => 0))), (q8, .inl (K.1, 120, .inl (fun _ => 0)))] := hD
  refine lv_iinc (v := (74 : Int32)) (lv' := [(1, .int (74 : Int32)), (0, .ref h0)]) hx hb dX5_init_121 hl (k := 0) rfl rfl (by decide) rfl (fun ls hl => ?_)
  refine lv_goto (tgt := 108) hx hb dX5_init_124 (by decide) ?_
  refine lv_iload_n hx hb dX5_init_108 rfl (lv_at hl 0 rfl) ?_
  refine lv_bipush (v := (82 : Int32)) hx hb dX5_init_109 (by decide) ?_
  refine lv_icmp_ge (tgt := 127) hx hb dX5_init_111 (by decide) (fun cc => absurd cc (by decide)) (fun _ => ?_)
  refine lv_aload_n hx hb dX5_init_114 rfl (lv_at hl 1 rfl) ?_
  refine gf_X5_9 (v := .ref q1) hx hb hts hown hK hZ hP 0 rfl rfl dX5_init_115 ?_
  refine lv_iload_n hx hb dX5_init_118 rfl (lv_at hl 0 rfl) ?_
  refine lv_iconst (v := (-1 : Int32)) hx hb dX5_init_119 (by decide) ?_
  refine va_iast hx hb hK hP hD hS (1) 0 rfl rfl (show vp_in (74 : Int32) 82 by unfold vp_in; decide) dX5_init_120 (fun H locs hP hD hS => ?_)
  have hP : va_P D vwCl [(h0, .inr (4, [.ref q1, .ref q2, .ref q3, .int 0, .ref q4, .ref q5, .ref q6, .ref q7, .ref q8, .int 0, .int 0, .int 0, .int 0, .int 0, .int 0])), (q1, .inl (K.1, 82, .inl (upd (upd (upd (upd (upd (upd (upd (upd (fun _ => 0) 1 (1 : Int32)) 3 (1000 : Int32)) 4 (2 : Int32)) 5 (1 : Int32)) 6 (1 : Int32)) 72 (-1 : Int32)) 73 (-1 : Int32)) 74 (-1 : Int32)))), (q2, .inl (K.1, 82, .inl (fun _ => 0))), (q3, .inl (K.1, 82, .inl (fun _ => 0))), (q4, .inl (K.1, 7, .inl (fun _ => 0))), (q5, .inl (K.1, 4, .inl (fun _ => 0))), (q6, .inl (K.1, 4, .inl (fun _ => 0))), (q7, .inl (K.1, 160, .inl (fun _ => 0))), (q8, .inl (K.1, 120, .inl (fun _ => 0)))] H := hP
  have hD : va_D A [(h0, .inr (4, [.ref q1, .ref q2, .ref q3, .int 0, .ref q4, .ref q5, .ref q6, .ref q7, .ref q8, .int 0, .int 0, .int 0, .int 0, .int 0, .int 0])), (q1, .inl (K.1, 82, .inl (upd (upd (upd (upd (upd (upd (upd (upd (fun _ => 0) 1 (1 : Int32)) 3 (1000 : Int32)) 4 (2 : Int32)) 5 (1 : Int32)) 6 (1 : Int32)) 72 (-1 : Int32)) 73 (-1 : Int32)) 74 (-1 : Int32)))), (q2, .inl (K.1, 82, .inl (fun _ => 0))), (q3, .inl (K.1, 82, .inl (fun _ => 0))), (q4, .inl (K.1, 7, .inl (fun _ => 0))), (q5, .inl (K.1, 4, .inl (fun _ => 0))), (q6, .inl (K.1, 4, .inl (fun _ => 0))), (q7, .inl (K.1, 160, .inl (fun _ => 0))), (q8, .inl (K.1, 120, .inl (fun _ => 0)))] := hD
  refine lv_iinc (v := (75 : Int32)) (lv' := [(1, .int (75 : Int32)), (0, .ref h0)]) hx hb dX5_init_121 hl (k := 0) rfl rfl (by decide) rfl (fun ls hl => ?_)
  refine lv_goto (tgt := 108) hx hb dX5_init_124 (by decide) ?_
  refine lv_iload_n hx hb dX5_init_108 rfl (lv_at hl 0 rfl) ?_
  refine lv_bipush (v := (82 : Int32)) hx hb dX5_init_109 (by decide) ?_
  refine lv_icmp_ge (tgt := 127) hx hb dX5_init_111 (by decide) (fun cc => absurd cc (by decide)) (fun _ => ?_)
  refine lv_aload_n hx hb dX5_init_114 rfl (lv_at hl 1 rfl) ?_
  refine gf_X5_9 (v := .ref q1) hx hb hts hown hK hZ hP 0 rfl rfl dX5_init_115 ?_
  refine lv_iload_n hx hb dX5_init_118 rfl (lv_at hl 0 rfl) ?_
  refine lv_iconst (v := (-1 : Int32)) hx hb dX5_init_119 (by decide) ?_
  refine va_iast hx hb hK hP hD hS (1) 0 rfl rfl (show vp_in (75 : Int32) 82 by unfold vp_in; decide) dX5_init_120 (fun H locs hP hD hS => ?_)
  have hP : va_P D vwCl [(h0, .inr (4, [.ref q1, .ref q2, .ref q3, .int 0, .ref q4, .ref q5, .ref q6, .ref q7, .ref q8, .int 0, .int 0, .int 0, .int 0, .int 0, .int 0])), (q1, .inl (K.1, 82, .inl (upd (upd (upd (upd (upd (upd (upd (upd (upd (fun _ => 0) 1 (1 : Int32)) 3 (1000 : Int32)) 4 (2 : Int32)) 5 (1 : Int32)) 6 (1 : Int32)) 72 (-1 : Int32)) 73 (-1 : Int32)) 74 (-1 : Int32)) 75 (-1 : Int32)))), (q2, .inl (K.1, 82, .inl (fun _ => 0))), (q3, .inl (K.1, 82, .inl (fun _ => 0))), (q4, .inl (K.1, 7, .inl (fun _ => 0))), (q5, .inl (K.1, 4, .inl (fun _ => 0))), (q6, .inl (K.1, 4, .inl (fun _ => 0))), (q7, .inl (K.1, 160, .inl (fun _ => 0))), (q8, .inl (K.1, 120, .inl (fun _ => 0)))] H := hP
  have hD : va_D A [(h0, .inr (4, [.ref q1, .ref q2, .ref q3, .int 0, .ref q4, .ref q5, .ref q6, .ref q7, .ref q8, .int 0, .int 0, .int 0, .int 0, .int 0, .int 0])), (q1, .inl (K.1, 82, .inl (upd (upd (upd (upd (upd (upd (upd (upd (upd (fun _ => 0) 1 (1 : Int32)) 3 (1000 : Int32)) 4 (2 : Int32)) 5 (1 : Int32)) 6 (1 : Int32)) 72 (-1 : Int32)) 73 (-1 : Int32)) 74 (-1 : Int32)) 75 (-1 : Int32)))), (q2, .inl (K.1, 82, .inl (fun _ => 0))), (q3, .inl (K.1, 82, .inl (fun _ => 0))), (q4, .inl (K.1, 7, .inl (fun _ => 0))), (q5, .inl (K.1, 4, .inl (fun _ => 0))), (q6, .inl (K.1, 4, .inl (fun _ => 0))), (q7, .inl (K.1, 160, .inl (fun _ => 0))), (q8, .inl (K.1, 120, .inl (fun _ => 0)))] := hD
  refine lv_iinc (v := (76 : Int32)) (lv' := [(1, .int (76 : Int32)), (0, .ref h0)]) hx hb dX5_init_121 hl (k := 0) rfl rfl (by decide) rfl (fun ls hl => ?_)
  refine lv_goto (tgt := 108) hx hb dX5_init_124 (by decide) ?_
  refine lv_iload_n hx hb dX5_init_108 rfl (lv_at hl 0 rfl) ?_
  refine lv_bipush (v := (82 : Int32)) hx hb dX5_init_109 (by decide) ?_
  refine lv_icmp_ge (tgt := 127) hx hb dX5_init_111 (by decide) (fun cc => absurd cc (by decide)) (fun _ => ?_)
  refine lv_aload_n hx hb dX5_init_114 rfl (lv_at hl 1 rfl) ?_
  refine gf_X5_9 (v := .ref q1) hx hb hts hown hK hZ hP 0 rfl rfl dX5_init_115 ?_
  refine lv_iload_n hx hb dX5_init_118 rfl (lv_at hl 0 rfl) ?_
  refine lv_iconst (v := (-1 : Int32)) hx hb dX5_init_119 (by decide) ?_
  refine va_iast hx hb hK hP hD hS (1) 0 rfl rfl (show vp_in (76 : Int32) 82 by unfold vp_in; decide) dX5_init_120 (fun H locs hP hD hS => ?_)
  have hP : va_P D vwCl [(h0, .inr (4, [.ref q1, .ref q2, .ref q3, .int 0, .ref q4, .ref q5, .ref q6, .ref q7, .ref q8, .int 0, .int 0, .int 0, .int 0, .int 0, .int 0])), (q1, .inl (K.1, 82, .inl (upd (upd (upd (upd (upd (upd (upd (upd (upd (upd (fun _ => 0) 1 (1 : Int32)) 3 (1000 : Int32)) 4 (2 : Int32)) 5 (1 : Int32)) 6 (1 : Int32)) 72 (-1 : Int32)) 73 (-1 : Int32)) 74 (-1 : Int32)) 75 (-1 : Int32)) 76 (-1 : Int32)))), (q2, .inl (K.1, 82, .inl (fun _ => 0))), (q3, .inl (K.1, 82, .inl (fun _ => 0))), (q4, .inl (K.1, 7, .inl (fun _ => 0))), (q5, .inl (K.1, 4, .inl (fun _ => 0))), (q6, .inl (K.1, 4, .inl (fun _ => 0))), (q7, .inl (K.1, 160, .inl (fun _ => 0))), (q8, .inl (K.1, 120, .inl (fun _ => 0)))] H := hP
  have hD : va_D A [(h0, .inr (4, [.ref q1, .ref q2, .ref q3, .int 0, .ref q4, .ref q5, .ref q6, .ref q7, .ref q8, .int 0, .int 0, .int 0, .int 0, .int 0, .int 0])), (q1, .inl (K.1, 82, .inl (upd (upd (upd (upd (upd (upd (upd (upd (upd (upd (fun _ => 0) 1 (1 : Int32)) 3 (1000 : Int32)) 4 (2 : Int32)) 5 (1 : Int32)) 6 (1 : Int32)) 72 (-1 : Int32)) 73 (-1 : Int32)) 74 (-1 : Int32)) 75 (-1 : Int32)) 76 (-1 : Int32)))), (q2, .inl (K.1, 82, .inl (fun _ => 0))), (q3, .inl (K.1, 82, .inl (fun _ => 0))), (q4, .inl (K.1, 7, .inl (fun _ => 0))), (q5, .inl (K.1, 4, .inl (fun _ => 0))), (q6, .inl (K.1, 4, .inl (fun _ => 0))), (q7, .inl (K.1, 160, .inl (fun _ => 0))), (q8, .inl (K.1, 120, .inl (fun _ => 0)))] := hD
  refine lv_iinc (v := (77 : Int32)) (lv' := [(1, .int (77 : Int32)), (0, .ref h0)]) hx hb dX5_init_121 hl (k := 0) rfl rfl (by decide) rfl (fun ls hl => ?_)
  refine lv_goto (tgt := 108) hx hb dX5_init_124 (by decide) ?_
  refine lv_iload_n hx hb dX5_init_108 rfl (lv_at hl 0 rfl) ?_
  refine lv_bipush (v := (82 : Int32)) hx hb dX5_init_109 (by decide) ?_
  refine lv_icmp_ge (tgt := 127) hx hb dX5_init_111 (by decide) (fun cc => absurd cc (by decide)) (fun _ => ?_)
  refine lv_aload_n hx hb dX5_init_114 rfl (lv_at hl 1 rfl) ?_
  refine gf_X5_9 (v := .ref q1) hx hb hts hown hK hZ hP 0 rfl rfl dX5_init_115 ?_
  refine lv_iload_n hx hb dX5_init_118 rfl (lv_at hl 0 rfl) ?_
  refine lv_iconst (v := (-1 : Int32)) hx hb dX5_init_119 (by decide) ?_
  refine va_iast hx hb hK hP hD hS (1) 0 rfl rfl (show vp_in (77 : Int32) 82 by unfold vp_in; decide) dX5_init_120 (fun H locs hP hD hS => ?_)
  have hP : va_P D vwCl [(h0, .inr (4, [.ref q1, .ref q2, .ref q3, .int 0, .ref q4, .ref q5, .ref q6, .ref q7, .ref q8, .int 0, .int 0, .int 0, .int 0, .int 0, .int 0])), (q1, .inl (K.1, 82, .inl (upd (upd (upd (upd (upd (upd (upd (upd (upd (upd (upd (fun _ => 0) 1 (1 : Int32)) 3 (1000 : Int32)) 4 (2 : Int32)) 5 (1 : Int32)) 6 (1 : Int32)) 72 (-1 : Int32)) 73 (-1 : Int32)) 74 (-1 : Int32)) 75 (-1 : Int32)) 76 (-1 : Int32)) 77 (-1 : Int32)))), (q2, .inl (K.1, 82, .inl (fun _ => 0))), (q3, .inl (K.1, 82, .inl (fun _ => 0))), (q4, .inl (K.1, 7, .inl (fun _ => 0))), (q5, .inl (K.1, 4, .inl (fun _ => 0))), (q6, .inl (K.1, 4, .inl (fun _ => 0))), (q7, .inl (K.1, 160, .inl (fun _ => 0))), (q8, .inl (K.1, 120, .inl (fun _ => 0)))] H := hP
  have hD : va_D A [(h0, .inr (4, [.ref q1, .ref q2, .ref q3, .int 0, .ref q4, .ref q5, .ref q6, .ref q7, .ref q8, .int 0, .int 0, .int 0, .int 0, .int 0, .int 0])), (q1, .inl (K.1, 82, .inl (upd (upd (upd (upd (upd (upd (upd (upd (upd (upd (upd (fun _ => 0) 1 (1 : Int32)) 3 (1000 : Int32)) 4 (2 : Int32)) 5 (1 : Int32)) 6 (1 : Int32)) 72 (-1 : Int32)) 73 (-1 : Int32)) 74 (-1 : Int32)) 75 (-1 : Int32)) 76 (-1 : Int32)) 77 (-1 : Int32)))), (q2, .inl (K.1, 82, .inl (fun _ => 0))), (q3, .inl (K.1, 82, .inl (fun _ => 0))), (q4, .inl (K.1, 7, .inl (fun _ => 0))), (q5, .inl (K.1, 4, .inl (fun _ => 0))), (q6, .inl (K.1, 4, .inl (fun _ => 0))), (q7, .inl (K.1, 160, .inl (fun _ => 0))), (q8, .inl (K.1, 120, .inl (fun _ => 0)))] := hD
  refine lv_iinc (v := (78 : Int32)) (lv' := [(1, .int (78 : Int32)), (0, .ref h0)]) hx hb dX5_init_121 hl (k := 0) rfl rfl (by decide) rfl (fun ls hl => ?_)
  refine lv_goto (tgt := 108) hx hb dX5_init_124 (by decide) ?_
  refine lv_iload_n hx hb dX5_init_108 rfl (lv_at hl 0 rfl) ?_
  refine lv_bipush (v := (82 : Int32)) hx hb dX5_init_109 (by decide) ?_
  refine lv_icmp_ge (tgt := 127) hx hb dX5_init_111 (by decide) (fun cc => absurd cc (by decide)) (fun _ => ?_)
  refine lv_aload_n hx hb dX5_init_114 rfl (lv_at hl 1 rfl) ?_
  refine gf_X5_9 (v := .ref q1) hx hb hts hown hK hZ hP 0 rfl rfl dX5_init_115 ?_
  refine lv_iload_n hx hb dX5_init_118 rfl (lv_at hl 0 rfl) ?_
  refine lv_iconst (v := (-1 : Int32)) hx hb dX5_init_119 (by decide) ?_
  refine va_iast hx hb hK hP hD hS (1) 0 rfl rfl (show vp_in (78 : Int32) 82 by unfold vp_in; decide) dX5_init_120 (fun H locs hP hD hS => ?_)
  have hP : va_P D vwCl [(h0, .inr (4, [.ref q1, .ref q2, .ref q3, .int 0, .ref q4, .ref q5, .ref q6, .ref q7, .ref q8, .int 0, .int 0, .int 0, .int 0, .int 0, .int 0])), (q1, .inl (K.1, 82, .inl (upd (upd (upd (upd (upd (upd (upd (upd (upd (upd (upd (upd (fun _ => 0) 1 (1 : Int32)) 3 (1000 : Int32)) 4 (2 : Int32)) 5 (1 : Int32)) 6 (1 : Int32)) 72 (-1 : Int32)) 73 (-1 : Int32)) 74 (-1 : Int32)) 75 (-1 : Int32)) 76 (-1 : Int32)) 77 (-1 : Int32)) 78 (-1 : Int32)))), (q2, .inl (K.1, 82, .inl (fun _ => 0))), (q3, .inl (K.1, 82, .inl (fun _ => 0))), (q4, .inl (K.1, 7, .inl (fun _ => 0))), (q5, .inl (K.1, 4, .inl (fun _ => 0))), (q6, .inl (K.1, 4, .inl (fun _ => 0))), (q7, .inl (K.1, 160, .inl (fun _ => 0))), (q8, .inl (K.1, 120, .inl (fun _ => 0)))] H := hP
  have hD : va_D A [(h0, .inr (4, [.ref q1, .ref q2, .ref q3, .int 0, .ref q4, .ref q5, .ref q6, .ref q7, .ref q8, .int 0, .int 0, .int 0, .int 0, .int 0, .int 0])), (q1, .inl (K.1, 82, .inl (upd (upd (upd (upd (upd (upd (upd (upd (upd (upd (upd (upd (fun _ => 0) 1 (1 : Int32)) 3 (1000 : Int32)) 4 (2 : Int32)) 5 (1 : Int32)) 6 (1 : Int32)) 72 (-1 : Int32)) 73 (-1 : Int32)) 74 (-1 : Int32)) 75 (-1 : Int32)) 76 (-1 : Int32)) 77 (-1 : Int32)) 78 (-1 : Int32)))), (q2, .inl (K.1, 82, .inl (fun _ => 0))), (q3, .inl (K.1, 82, .inl (fun _ => 0))), (q4, .inl (K.1, 7, .inl (fun _ => 0))), (q5, .inl (K.1, 4, .inl (fun _ => 0))), (q6, .inl (K.1, 4, .inl (fun _ => 0))), (q7, .inl (K.1, 160, .inl (fun _ => 0))), (q8, .inl (K.1, 120, .inl (fun _ => 0)))] := hD
  refine lv_iinc (v := (79 : Int32)) (lv' := [(1, .int (79 : Int32)), (0, .ref h0)]) hx hb dX5_init_121 hl (k := 0) rfl rfl (by decide) rfl (fun ls hl => ?_)
  refine lv_goto (tgt := 108) hx hb dX5_init_124 (by decide) ?_
  refine lv_iload_n hx hb dX5_init_108 rfl (lv_at hl 0 rfl) ?_
  refine lv_bipush (v := (82 : Int32)) hx hb dX5_init_109 (by decide) ?_
  refine lv_icmp_ge (tgt := 127) hx hb dX5_init_111 (by decide) (fun cc => absurd cc (by decide)) (fun _ => ?_)
  refine lv_aload_n hx hb dX5_init_114 rfl (lv_at hl 1 rfl) ?_
  refine gf_X5_9 (v := .ref q1) hx hb hts hown hK hZ hP 0 rfl rfl dX5_init_115 ?_
  refine lv_iload_n hx hb dX5_init_118 rfl (lv_at hl 0 rfl) ?_
  refine lv_iconst (v := (-1 : Int32)) hx hb dX5_init_119 (by decide) ?_
  refine va_iast hx hb hK hP hD hS (1) 0 rfl rfl (show vp_in (79 : Int32) 82 by unfold vp_in; decide) dX5_init_120 (fun H locs hP hD hS => ?_)
  have hP : va_P D vwCl [(h0, .inr (4, [.ref q1, .ref q2, .ref q3, .int 0, .ref q4, .ref q5, .ref q6, .ref q7, .ref q8, .int 0, .int 0, .int 0, .int 0, .int 0, .int 0])), (q1, .inl (K.1, 82, .inl (upd (upd (upd (upd (upd (upd (upd (upd (upd (upd (upd (upd (upd (fun _ => 0) 1 (1 : Int32)) 3 (1000 : Int32)) 4 (2 : Int32)) 5 (1 : Int32)) 6 (1 : Int32)) 72 (-1 : Int32)) 73 (-1 : Int32)) 74 (-1 : Int32)) 75 (-1 : Int32)) 76 (-1 : Int32)) 77 (-1 : Int32)) 78 (-1 : Int32)) 79 (-1 : Int32)))), (q2, .inl (K.1, 82, .inl (fun _ => 0))), (q3, .inl (K.1, 82, .inl (fun _ => 0))), (q4, .inl (K.1, 7, .inl (fun _ => 0))), (q5, .inl (K.1, 4, .inl (fun _ => 0))), (q6, .inl (K.1, 4, .inl (fun _ => 0))), (q7, .inl (K.1, 160, .inl (fun _ => 0))), (q8, .inl (K.1, 120, .inl (fun _ => 0)))] H := hP
  have hD : va_D A [(h0, .inr (4, [.ref q1, .ref q2, .ref q3, .int 0, .ref q4, .ref q5, .ref q6, .ref q7, .ref q8, .int 0, .int 0, .int 0, .int 0, .int 0, .int 0])), (q1, .inl (K.1, 82, .inl (upd (upd (upd (upd (upd (upd (upd (upd (upd (upd (upd (upd (upd (fun _ => 0) 1 (1 : Int32)) 3 (1000 : Int32)) 4 (2 : Int32)) 5 (1 : Int32)) 6 (1 : Int32)) 72 (-1 : Int32)) 73 (-1 : Int32)) 74 (-1 : Int32)) 75 (-1 : Int32)) 76 (-1 : Int32)) 77 (-1 : Int32)) 78 (-1 : Int32)) 79 (-1 : Int32)))), (q2, .inl (K.1, 82, .inl (fun _ => 0))), (q3, .inl (K.1, 82, .inl (fun _ => 0))), (q4, .inl (K.1, 7, .inl (fun _ => 0))), (q5, .inl (K.1, 4, .inl (fun _ => 0))), (q6, .inl (K.1, 4, .inl (fun _ => 0))), (q7, .inl (K.1, 160, .inl (fun _ => 0))), (q8, .inl (K.1, 120, .inl (fun _ => 0)))] := hD
  refine lv_iinc (v := (80 : Int32)) (lv' := [(1, .int (80 : Int32)), (0, .ref h0)]) hx hb dX5_init_121 hl (k := 0) rfl rfl (by decide) rfl (fun ls hl => ?_)
  refine lv_goto (tgt := 108) hx hb dX5_init_124 (by decide) ?_
  refine lv_iload_n hx hb dX5_init_108 rfl (lv_at hl 0 rfl) ?_
  refine lv_bipush (v := (82 : Int32)) hx hb dX5_init_109 (by decide) ?_
  refine lv_icmp_ge (tgt := 127) hx hb dX5_init_111 (by decide) (fun cc => absurd cc (by decide)) (fun _ => ?_)
  refine lv_aload_n hx hb dX5_init_114 rfl (lv_at hl 1 rfl) ?_
  refine gf_X5_9 (v := .ref q1) hx hb hts hown hK hZ hP 0 rfl rfl dX5_init_115 ?_
  refine lv_iload_n hx hb dX5_init_118 rfl (lv_at hl 0 rfl) ?_
  refine lv_iconst (v := (-1 : Int32)) hx hb dX5_init_119 (by decide) ?_
  refine va_iast hx hb hK hP hD hS (1) 0 rfl rfl (show vp_in (80 : Int32) 82 by unfold vp_in; decide) dX5_init_120 (fun H locs hP hD hS => ?_)
  have hP : va_P D vwCl [(h0, .inr (4, [.ref q1, .ref q2, .ref q3, .int 0, .ref q4, .ref q5, .ref q6, .ref q7, .ref q8, .int 0, .int 0, .int 0, .int 0, .int 0, .int 0])), (q1, .inl (K.1, 82, .inl (upd (upd (upd (upd (upd (upd (upd (upd (upd (upd (upd (upd (upd (upd (fun _ => 0) 1 (1 : Int32)) 3 (1000 : Int32)) 4 (2 : Int32)) 5 (1 : Int32)) 6 (1 : Int32)) 72 (-1 : Int32)) 73 (-1 : Int32)) 74 (-1 : Int32)) 75 (-1 : Int32)) 76 (-1 : Int32)) 77 (-1 : Int32)) 78 (-1 : Int32)) 79 (-1 : Int32)) 80 (-1 : Int32)))), (q2, .inl (K.1, 82, .inl (fun _ => 0))), (q3, .inl (K.1, 82, .inl (fun _ => 0))), (q4, .inl (K.1, 7, .inl (fun _ => 0))), (q5, .inl (K.1, 4, .inl (fun _ => 0))), (q6, .inl (K.1, 4, .inl (fun _ => 0))), (q7, .inl (K.1, 160, .inl (fun _ => 0))), (q8, .inl (K.1, 120, .inl (fun _ => 0)))] H := hP
  have hD : va_D A [(h0, .inr (4, [.ref q1, .ref q2, .ref q3, .int 0, .ref q4, .ref q5, .ref q6, .ref q7, .ref q8, .int 0, .int 0, .int 0, .int 0, .int 0, .int 0])), (q1, .inl (K.1, 82, .inl (upd (upd (upd (upd (upd (upd (upd (upd (upd (upd (upd (upd (upd (upd (fun _ => 0) 1 (1 : Int32)) 3 (1000 : Int32)) 4 (2 : Int32)) 5 (1 : Int32)) 6 (1 : Int32)) 72 (-1 : Int32)) 73 (-1 : Int32)) 74 (-1 : Int32)) 75 (-1 : Int32)) 76 (-1 : Int32)) 77 (-1 : Int32)) 78 (-1 : Int32)) 79 (-1 : Int32)) 80 (-1 : Int32)))), (q2, .inl (K.1, 82, .inl (fun _ => 0))), (q3, .inl (K.1, 82, .inl (fun _ => 0))), (q4, .inl (K.1, 7, .inl (fun _ => 0))), (q5, .inl (K.1, 4, .inl (fun _ => 0))), (q6, .inl (K.1, 4, .inl (fun _ => 0))), (q7, .inl (K.1, 160, .inl (fun _ => 0))), (q8, .inl (K.1, 120, .inl (fun _ => 0)))] := hD
  refine lv_iinc (v := (81 : Int32)) (lv' := [(1, .int (81 : Int32)), (0, .ref h0)]) hx hb dX5_init_121 hl (k := 0) rfl rfl (by decide) rfl (fun ls hl => ?_)
  refine lv_goto (tgt := 108) hx hb dX5_init_124 (by decide) ?_
  refine lv_iload_n hx hb dX5_init_108 rfl (lv_at hl 0 rfl) ?_
  refine lv_bipush (v := (82 : Int32)) hx hb dX5_init_109 (by decide) ?_
  refine lv_icmp_ge (tgt := 127) hx hb dX5_init_111 (by decide) (fun cc => absurd cc (by decide)) (fun _ => ?_)
  refine lv_aload_n hx hb dX5_init_114 rfl (lv_at hl 1 rfl) ?_
  refine gf_X5_9 (v := .ref q1) hx hb hts hown hK hZ hP 0 rfl rfl dX5_init_115 ?_
  refine lv_iload_n hx hb dX5_init_118 rfl (lv_at hl 0 rfl) ?_
  refine lv_iconst (v := (-1 : Int32)) hx hb dX5_init_119 (by decide) ?_
  refine va_iast hx hb hK hP hD hS (1) 0 rfl rfl (show vp_in (81 : Int32) 82 by unfold vp_in; decide) dX5_init_120 (fun H locs hP hD hS => ?_)
  have hP : va_P D vwCl [(h0, .inr (4, [.ref q1, .ref q2, .ref q3, .int 0, .ref q4, .ref q5, .ref q6, .ref q7, .ref q8, .int 0, .int 0, .int 0, .int 0, .int 0, .int 0])), (q1, .inl (K.1, 82, .inl (upd (upd (upd (upd (upd (upd (upd (upd (upd (upd (upd (upd (upd (upd (upd (fun _ => 0) 1 (1 : Int32)) 3 (1000 : Int32)) 4 (2 : Int32)) 5 (1 : Int32)) 6 (1 : Int32)) 72 (-1 : Int32)) 73 (-1 : Int32)) 74 (-1 : Int32)) 75 (-1 : Int32)) 76 (-1 : Int32)) 77 (-1 : Int32)) 78 (-1 : Int32)) 79 (-1 : Int32)) 80 (-1 : Int32)) 81 (-1 : Int32)))), (q2, .inl (K.1, 82, .inl (fun _ => 0))), (q3, .inl (K.1, 82, .inl (fun _ => 0))), (q4, .inl (K.1, 7, .inl (fun _ => 0))), (q5, .inl (K.1, 4, .inl (fun _ => 0))), (q6, .inl (K.1, 4, .inl (fun _ => 0))), (q7, .inl (K.1, 160, .inl (fun _ => 0))), (q8, .inl (K.1, 120, .inl (fun _ => 0)))] H := hP
  have hD : va_D A [(h0, .inr (4, [.ref q1, .ref q2, .ref q3, .int 0, .ref q4, .ref q5, .ref q6, .ref q7, .ref q8, .int 0, .int 0, .int 0, .int 0, .int 0, .int 0])), (q1, .inl (K.1, 82, .inl (upd (upd (upd (upd (upd (upd (upd (upd (upd (upd (upd (upd (upd (upd (upd (fun _ => 0) 1 (1 : Int32)) 3 (1000 : Int32)) 4 (2 : Int32)) 5 (1 : Int32)) 6 (1 : Int32)) 72 (-1 : Int32)) 73 (-1 : Int32)) 74 (-1 : Int32)) 75 (-1 : Int32)) 76 (-1 : Int32)) 77 (-1 : Int32)) 78 (-1 : Int32)) 79 (-1 : Int32)) 80 (-1 : Int32)) 81 (-1 : Int32)))), (q2, .inl (K.1, 82, .inl (fun _ => 0))), (q3, .inl (K.1, 82, .inl (fun _ => 0))), (q4, .inl (K.1, 7, .inl (fun _ => 0))), (q5, .inl (K.1, 4, .inl (fun _ => 0))), (q6, .inl (K.1, 4, .inl (fun _ => 0))), (q7, .inl (K.1, 160, .inl (fun _ => 0))), (q8, .inl (K.1, 120, .inl (fun _ => 0)))] := hD
  refine lv_iinc (v := (82 : Int32)) (lv' := [(1, .int (82 : Int32)), (0, .ref h0)]) hx hb dX5_init_121 hl (k := 0) rfl rfl (by decide) rfl (fun ls hl => ?_)
  refine lv_goto (tgt := 108) hx hb dX5_init_124 (by decide) ?_
  refine lv_iload_n hx hb dX5_init_108 rfl (lv_at hl 0 rfl) ?_
  refine lv_bipush (v := (82 : Int32)) hx hb dX5_init_109 (by decide) ?_
  refine lv_icmp_ge (tgt := 127) hx hb dX5_init_111 (by decide) (fun _ => ?_) (fun cc => absurd (by decide) cc)
  exact hend _ _ _ _ (fun k => [h0, q1, q2, q3, q4, q5, q6, q7, q8].getD k 0) rfl hP hD hS dX5_init_127
