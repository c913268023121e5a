theorem dJ0_isLatin1_aae02_0 : decode cJ0_isLatin1_aae02 0 = .ok (.getstatic 38, 3) := by decide +kernel
theorem dJ0_isLatin1_aae02_3 : decode cJ0_isLatin1_aae02 3 = .ok (.ifCond .eq 14, 3) := by decide +kernel
theorem dJ0_isLatin1_aae02_6 : decode cJ0_isLatin1_aae02 6 = .ok (.aload_n 0, 1) := by decide +kernel
theorem dJ0_isLatin1_aae02_7 : decode cJ0_isLatin1_aae02 7 = .ok (.getfield 15, 3) := by decide +kernel
theorem dJ0_isLatin1_aae02_10 : decode cJ0_isLatin1_aae02 10 = .ok (.ifCond .ne 7, 3) := by decide +kernel
theorem dJ0_isLatin1_aae02_13 : decode cJ0_isLatin1_aae02 13 = .ok (.iconst 1, 1) := by decide +kernel
theorem dJ0_isLatin1_aae02_14 : decode cJ0_isLatin1_aae02 14 = .ok (.goto 4, 3) := by decide +kernel
theorem dJ0_isLatin1_aae02_17 : decode cJ0_isLatin1_aae02 17 = .ok (.iconst 0, 1) := by decide +kernel
theorem dJ0_isLatin1_aae02_18 : decode cJ0_isLatin1_aae02 18 = .ok (.ireturn, 1) := by decide +kernel
def rJ0_isLatin1_aae02 : Room := { frames := 0, cells := 0, slots := 0, locals := 0 }
def vJ0_isLatin1_aae02 (p0 : Nat) : Int32 := if ((1 : Int32) = 0) then (0 : Int32) else if ((0 : Int32) = 0) then (1 : Int32) else (0 : Int32)
set_option maxHeartbeats 4000000 in
set_option maxRecDepth 100000 in
theorem hJ0_isLatin1_aae02 (l : Launch) (D : va_G) (K : JK) (G : JG) (p0 : Nat) (hj_p0 : p0 < 15) (sz : Nat) : Met l yJ0_isLatin1_aae02 (.code yJ0_isLatin1_aae02 cJ0_isLatin1_aae02 1 (some .boolean) :: jGW) rJ0_isLatin1_aae02 (jPre D (jT K) G [.ref (G.2.1 p0)] ([] : va_W) sz) (jQi D (jT K) (vJ0_isLatin1_aae02 p0) ([] : va_W) (va_A ([] : va_W) sz)) 0 0 (va_A ([] : va_W) sz) := by
  refine jEi (by decide) (Nat.le_of_ble_eq_true rfl) (fun p e s m below meth c A Q ls hat hP hD hS hl hend => ?_)
  obtain ⟨hx, hb, hml, hown, hts, hK, hZ, hA⟩ := hat
  have hl : lv_has ls 1 [(0, .ref (G.2.1 p0))] := hl
  have hV := vJ0_isLatin1_aae02.eq_1 p0
  refine va_gets hx hb hZ.2.1 hS hown (hts _ ks_J0_38) (fun _ h => h) dJ0_isLatin1_aae02_0 ?_
  refine lv_if_eq (tgt := 17) hx hb dJ0_isLatin1_aae02_3 (by decide) (fun c3 => ?_) (fun c3 => ?_)
  · have hV := hV.trans (if_pos c3)
    refine lv_iconst (v := (0 : Int32)) hx hb dJ0_isLatin1_aae02_17 (by decide) ?_
    exact hend _ _ _ _ _ hP hD hS hV.symm rfl dJ0_isLatin1_aae02_18
  · have hV := hV.trans (if_neg c3)
    refine lv_aload_n hx hb dJ0_isLatin1_aae02_6 rfl (lv_at hl 0 rfl) ?_
    refine vk_getf hx hb (hZ.2.2.1.1 (p0) hj_p0).2.1 hS hown (hts _ ks_J0_15) (fun _ h => h) dJ0_isLatin1_aae02_7 ?_
    refine lv_if_ne (tgt := 17) hx hb dJ0_isLatin1_aae02_10 (by decide) (fun c4 => ?_) (fun c4 => ?_)
    · have hV := hV.trans (if_neg c4)
      refine lv_iconst (v := (0 : Int32)) hx hb dJ0_isLatin1_aae02_17 (by decide) ?_
      exact hend _ _ _ _ _ hP hD hS hV.symm rfl dJ0_isLatin1_aae02_18
    · have hV := hV.trans (if_pos c4)
      refine lv_iconst (v := (1 : Int32)) hx hb dJ0_isLatin1_aae02_13 (by decide) ?_
      refine lv_goto (tgt := 18) hx hb dJ0_isLatin1_aae02_14 (by decide) ?_
      exact hend _ _ _ _ _ hP hD hS hV.symm rfl dJ0_isLatin1_aae02_18
theorem dJ1_charAt_3b067_0 : decode cJ1_charAt_3b067 0 = .ok (.iload_n 1, 1) := by decide +kernel
theorem dJ1_charAt_3b067_1 : decode cJ1_charAt_3b067 1 = .ok (.aload_n 0, 1) := by decide +kernel
theorem dJ1_charAt_3b067_2 : decode cJ1_charAt_3b067 2 = .ok (.arraylength, 1) := by decide +kernel
theorem dJ1_charAt_3b067_3 : decode cJ1_charAt_3b067 3 = .ok (.invokestatic 9, 3) := by decide +kernel
theorem dJ1_charAt_3b067_6 : decode cJ1_charAt_3b067 6 = .ok (.aload_n 0, 1) := by decide +kernel
theorem dJ1_charAt_3b067_7 : decode cJ1_charAt_3b067 7 = .ok (.iload_n 1, 1) := by decide +kernel
theorem dJ1_charAt_3b067_8 : decode cJ1_charAt_3b067 8 = .ok (.baload, 1) := by decide +kernel
theorem dJ1_charAt_3b067_9 : decode cJ1_charAt_3b067 9 = .ok (.sipush 255, 3) := by decide +kernel
theorem dJ1_charAt_3b067_12 : decode cJ1_charAt_3b067 12 = .ok (.iand, 1) := by decide +kernel
theorem dJ1_charAt_3b067_13 : decode cJ1_charAt_3b067 13 = .ok (.i2c, 1) := by decide +kernel
theorem dJ1_charAt_3b067_14 : decode cJ1_charAt_3b067 14 = .ok (.ireturn, 1) := by decide +kernel
def rJ1_charAt_3b067 : Room := { frames := 2, cells := 0, slots := 0, locals := 43 }
def vJ1_charAt_3b067 (p0 : Nat) (p1 : Int32) : Int32 := ((((((jByt.getD (p0) []).getD (p1).toNatClampNeg 0) &&& (255 : Int32))).toUInt32 % 65536).toInt32)
def kJ1_charAt_3b067 (p0 : Nat) (p1 : Int32) : Prop := (kJ0_checkIndex_df160 p1 (Int32.ofNat (jLen.getD (p0) 0))) ∧ (vp_in p1 (jLen.getD (p0) 0)) ∧ (narrow .char (.int ((((((jByt.getD (p0) []).getD (p1).toNatClampNeg 0) &&& (255 : Int32))).toUInt32 % 65536).toInt32)) = .int ((((((jByt.getD (p0) []).getD (p1).toNatClampNeg 0) &&& (255 : Int32))).toUInt32 % 65536).toInt32)) ∧ True
set_option maxHeartbeats 4000000 in
set_option maxRecDepth 100000 in
theorem hJ1_charAt_3b067 (l : Launch) (D : va_G) (K : JK) (G : JG) (p0 : Nat) (p1 : Int32) (hj_p0 : p0 < 15) (hk : kJ1_charAt_3b067 p0 p1) (sz : Nat) : Met l yJ1_charAt_3b067 (.code yJ1_charAt_3b067 cJ1_charAt_3b067 2 (some .char) :: jGW) rJ1_charAt_3b067 (jPre D (jT K) G [.ref (G.2.2.1 p0), .int p1] ([] : va_W) sz) (jQi D (jT K) (vJ1_charAt_3b067 p0 p1) ([] : va_W) (va_A ([] : va_W) sz)) 0 0 (va_A ([] : va_W) sz) := by
  refine jEi (by decide) (Nat.le_of_ble_eq_true rfl) (fun p e s m below meth c A Q ls hat hP hD hS hl hend => ?_)
  obtain ⟨hx, hb, hml, hown, hts, hK, hZ, hA⟩ := hat
  have hl : lv_has ls 2 [(0, .ref (G.2.2.1 p0)), (1, .int p1)] := hl
  have hV := vJ1_charAt_3b067.eq_1 p0 p1
  rw [kJ1_charAt_3b067] at hk
  refine lv_iload_n hx hb dJ1_charAt_3b067_0 rfl (lv_at hl 1 rfl) ?_
  refine lv_aload_n hx hb dJ1_charAt_3b067_1 rfl (lv_at hl 0 rfl) ?_
  refine va_tlen hx hb (hZ.2.2.1.1 (p0) hj_p0).2.2.2 hS rfl dJ1_charAt_3b067_2 ?_
  obtain ⟨h4, hk⟩ := hk
  refine jcv (jrunS (As := [.int p1, .int (Int32.ofNat (jLen.getD (p0) 0))]) (rest := []) hx hb hml hown hts hK hZ hA hP hD hS hl.1 mf_J0_checkIndex_df160 kl_J1_9 ⟨rfl, rfl, Nat.le_of_ble_eq_true rfl, Nat.le_of_ble_eq_true rfl⟩ ⟨Nat.zero_le _, Nat.zero_le _⟩ [] rfl rfl (hJ0_checkIndex_df160 l D K G p1 (Int32.ofNat (jLen.getD (p0) 0)) h4 _) rfl rfl (Nat.le_of_ble_eq_true rfl) dJ1_charAt_3b067_3) hA hP hD hS [] rfl rfl (fun H locs hP hD hS => ?_)
  refine lv_aload_n hx hb dJ1_charAt_3b067_6 rfl (lv_at hl 0 rfl) ?_
  refine lv_iload_n hx hb dJ1_charAt_3b067_7 rfl (lv_at hl 1 rfl) ?_
  obtain ⟨h5, hk⟩ := hk
  refine va_tb (v := .int ((jByt.getD (p0) []).getD (p1).toNatClampNeg 0)) hx hb (hZ.2.2.1.1 (p0) hj_p0).2.2.2 hS h5 rfl dJ1_charAt_3b067_8 ?_
  refine lv_sipush (v := (255 : Int32)) hx hb dJ1_charAt_3b067_9 (by decide) ?_
  refine lv_iand hx hb dJ1_charAt_3b067_12 ?_
  refine lv_i2c hx hb dJ1_charAt_3b067_13 rfl ?_
  obtain ⟨h6, hk⟩ := hk
  exact hend _ _ _ _ _ hP hD hS hV.symm h6 dJ1_charAt_3b067_14
theorem dJ0_charAt_5068e_0 : decode cJ0_charAt_5068e 0 = .ok (.aload_n 0, 1) := by decide +kernel
theorem dJ0_charAt_5068e_1 : decode cJ0_charAt_5068e 1 = .ok (.invokevirtual 492, 3) := by decide +kernel
theorem dJ0_charAt_5068e_4 : decode cJ0_charAt_5068e 4 = .ok (.ifCond .eq 12, 3) := by decide +kernel
theorem dJ0_charAt_5068e_7 : decode cJ0_charAt_5068e 7 = .ok (.aload_n 0, 1) := by decide +kernel
theorem dJ0_charAt_5068e_8 : decode cJ0_charAt_5068e 8 = .ok (.getfield 9, 3) := by decide +kernel
theorem dJ0_charAt_5068e_11 : decode cJ0_charAt_5068e 11 = .ok (.iload_n 1, 1) := by decide +kernel
theorem dJ0_charAt_5068e_12 : decode cJ0_charAt_5068e 12 = .ok (.invokestatic 495, 3) := by decide +kernel
theorem dJ0_charAt_5068e_15 : decode cJ0_charAt_5068e 15 = .ok (.ireturn, 1) := by decide +kernel
theorem dJ0_charAt_5068e_16 : decode cJ0_charAt_5068e 16 = .ok (.aload_n 0, 1) := by decide +kernel
theorem dJ0_charAt_5068e_17 : decode cJ0_charAt_5068e 17 = .ok (.getfield 9, 3) := by decide +kernel
theorem dJ0_charAt_5068e_20 : decode cJ0_charAt_5068e 20 = .ok (.iload_n 1, 1) := by decide +kernel
theorem dJ0_charAt_5068e_21 : decode cJ0_charAt_5068e 21 = .ok (.invokestatic 498, 3) := by decide +kernel
theorem dJ0_charAt_5068e_24 : decode cJ0_charAt_5068e 24 = .ok (.ireturn, 1) := by decide +kernel
def rJ0_charAt_5068e : Room := { frames := 3, cells := 0, slots := 0, locals := 64 }
def vJ0_charAt_5068e (p0 : Nat) (p1 : Int32) : Int32 := if ((vJ0_isLatin1_aae02 (p0)) = 0) then 0 else (vJ1_charAt_3b067 (p0) p1)
def kJ0_charAt_5068e (p0 : Nat) (p1 : Int32) : Prop := (((vJ0_isLatin1_aae02 (p0)) = 0) → (False)) ∧ (¬ ((vJ0_isLatin1_aae02 (p0)) = 0) → ((kJ1_charAt_3b067 (p0) p1) ∧ (narrow .char (.int (vJ1_charAt_3b067 (p0) p1)) = .int (vJ1_charAt_3b067 (p0) p1)) ∧ True))
set_option maxHeartbeats 4000000 in
set_option maxRecDepth 100000 in
theorem hJ0_charAt_5068e (l : Launch) (D : va_G) (K : JK) (G : JG) (p0 : Nat) (p1 : Int32) (hj_p0 : p0 < 15) (hk : kJ0_charAt_5068e p0 p1) (sz : Nat) : Met l yJ0_charAt_5068e (.code yJ0_charAt_5068e cJ0_charAt_5068e 2 (some .char) :: jGW) rJ0_charAt_5068e (jPre D (jT K) G [.ref (G.2.1 p0), .int p1] ([] : va_W) sz) (jQi D (jT K) (vJ0_charAt_5068e p0 p1) ([] : va_W) (va_A ([] : va_W) sz)) 0 0 (va_A ([] : va_W) sz) := by
  refine jEi (by decide) (Nat.le_of_ble_eq_true rfl) (fun p e s m below meth c A Q ls hat hP hD hS hl hend => ?_)
  obtain ⟨hx, hb, hml, hown, hts, hK, hZ, hA⟩ := hat
  have hl : lv_has ls 2 [(0, .ref (G.2.1 p0)), (1, .int p1)] := hl
  have hV := vJ0_charAt_5068e.eq_1 p0 p1
  rw [kJ0_charAt_5068e] at hk
  refine lv_aload_n hx hb dJ0_charAt_5068e_0 rfl (lv_at hl 0 rfl) ?_
  refine jci0 (jrunVs (As := []) (rest := []) hx hb hml hown hts hK hZ hA hP hD hS hl.1 mf_J0_isLatin1_aae02 kl_J0_492 ⟨rfl, rfl, Nat.le_of_ble_eq_true rfl, Nat.le_of_ble_eq_true rfl⟩ ⟨Nat.zero_le _, Nat.zero_le _⟩ [] rfl rfl (vk_recv hZ.2.2.1 hj_p0 hS) (hJ0_isLatin1_aae02 l D K G (p0) hj_p0 _) rfl rfl (Nat.le_of_ble_eq_true rfl) dJ0_charAt_5068e_1) hA hP hD hS [] rfl (fun H locs hP hS => ?_)
  refine lv_if_eq (tgt := 16) hx hb dJ0_charAt_5068e_4 (by decide) (fun c4 => ?_) (fun c4 => ?_)
  · have hV := hV.trans (if_pos c4)
    have hk := hk.1 c4
    refine lv_aload_n hx hb dJ0_charAt_5068e_16 rfl (lv_at hl 0 rfl) ?_
    refine vk_getf hx hb (hZ.2.2.1.1 (p0) hj_p0).2.2.1 hS hown (hts _ ks_J0_9) (fun _ h => h) dJ0_charAt_5068e_17 ?_
    refine lv_iload_n hx hb dJ0_charAt_5068e_20 rfl (lv_at hl 1 rfl) ?_
    exact False.elim hk
  · have hV := hV.trans (if_neg c4)
    have hk := hk.2 c4
    refine lv_aload_n hx hb dJ0_charAt_5068e_7 rfl (lv_at hl 0 rfl) ?_
    refine vk_getf hx hb (hZ.2.2.1.1 (p0) hj_p0).2.2.1 hS hown (hts _ ks_J0_9) (fun _ h => h) dJ0_charAt_5068e_8 ?_
    refine lv_iload_n hx hb dJ0_charAt_5068e_11 rfl (lv_at hl 1 rfl) ?_
    obtain ⟨h5, hk⟩ := hk
    refine jci0 (jrunS (As := [.ref (G.2.2.1 (p0)), .int p1]) (rest := []) hx hb hml hown hts hK hZ hA hP hD hS hl.1 mf_J1_charAt_3b067 kl_J0_495 ⟨rfl, rfl, Nat.le_of_ble_eq_true rfl, Nat.le_of_ble_eq_true rfl⟩ ⟨Nat.zero_le _, Nat.zero_le _⟩ [] rfl rfl (hJ1_charAt_3b067 l D K G (p0) p1 hj_p0 h5 _) rfl rfl (Nat.le_of_ble_eq_true rfl) dJ0_charAt_5068e_12) hA hP hD hS [] rfl (fun H locs hP hS => ?_)
    obtain ⟨h6, hk⟩ := hk
    exact hend _ _ _ _ _ hP hD hS hV.symm h6 dJ0_charAt_5068e_15
theorem dJ0_coder_7d493_0 : decode cJ0_coder_7d493 0 = .ok (.getstatic 38, 3) := by decide +kernel
theorem dJ0_coder_7d493_3 : decode cJ0_coder_7d493 3 = .ok (.ifCond .eq 10, 3) := by decide +kernel
theorem dJ0_coder_7d493_6 : decode cJ0_coder_7d493 6 = .ok (.aload_n 0, 1) := by decide +kernel
theorem dJ0_coder_7d493_7 : decode cJ0_coder_7d493 7 = .ok (.getfield 15, 3) := by decide +kernel
theorem dJ0_coder_7d493_10 : decode cJ0_coder_7d493 10 = .ok (.goto 4, 3) := by decide +kernel
theorem dJ0_coder_7d493_13 : decode cJ0_coder_7d493 13 = .ok (.iconst 1, 1) := by decide +kernel
theorem dJ0_coder_7d493_14 : decode cJ0_coder_7d493 14 = .ok (.ireturn, 1) := by decide +kernel
def rJ0_coder_7d493 : Room := { frames := 0, cells := 0, slots := 0, locals := 0 }
def vJ0_coder_7d493 (p0 : Nat) : Int32 := if ((1 : Int32) = 0) then (1 : Int32) else (0 : Int32)
set_option maxHeartbeats 4000000 in
set_option maxRecDepth 100000 in
theorem hJ0_coder_7d493 (l : Launch) (D : va_G) (K : JK) (G : JG) (p0 : Nat) (hj_p0 : p0 < 15) (sz : Nat) : Met l yJ0_coder_7d493 (.code yJ0_coder_7d493 cJ0_coder_7d493 1 (some .byte) :: jGW) rJ0_coder_7d493 (jPre D (jT K) G [.ref (G.2.1 p0)] ([] : va_W) sz) (jQi D (jT K) (vJ0_coder_7d493 p0) ([] : va_W) (va_A ([] : va_W) sz)) 0 0 (va_A ([] : va_W) sz) := by
  refine jEi (by decide) (Nat.le_of_ble_eq_true rfl) (fun p e s m below meth c A Q ls hat hP hD hS hl hend => ?_)
  obtain ⟨hx, hb, hml, hown, hts, hK, hZ, hA⟩ := hat
  have hl : lv_has ls 1 [(0, .ref (G.2.1 p0))] := hl
  have hV := vJ0_coder_7d493.eq_1 p0
  refine va_gets hx hb hZ.2.1 hS hown (hts _ ks_J0_38) (fun _ h => h) dJ0_coder_7d493_0 ?_
  refine lv_if_eq (tgt := 13) hx hb dJ0_coder_7d493_3 (by decide) (fun c2 => ?_) (fun c2 => ?_)
  · have hV := hV.trans (if_pos c2)
    refine lv_iconst (v := (1 : Int32)) hx hb dJ0_coder_7d493_13 (by decide) ?_
    exact hend _ _ _ _ _ hP hD hS hV.symm rfl dJ0_coder_7d493_14
  · have hV := hV.trans (if_neg c2)
    refine lv_aload_n hx hb dJ0_coder_7d493_6 rfl (lv_at hl 0 rfl) ?_
    refine vk_getf hx hb (hZ.2.2.1.1 (p0) hj_p0).2.1 hS hown (hts _ ks_J0_15) (fun _ h => h) dJ0_coder_7d493_7 ?_
    refine lv_goto (tgt := 14) hx hb dJ0_coder_7d493_10 (by decide) ?_
    exact hend _ _ _ _ _ hP hD hS hV.symm rfl dJ0_coder_7d493_14
theorem dJ0_length_8abf5_0 : decode cJ0_length_8abf5 0 = .ok (.aload_n 0, 1) := by decide +kernel
theorem dJ0_length_8abf5_1 : decode cJ0_length_8abf5 1 = .ok (.getfield 9, 3) := by decide +kernel
theorem dJ0_length_8abf5_4 : decode cJ0_length_8abf5 4 = .ok (.arraylength, 1) := by decide +kernel
theorem dJ0_length_8abf5_5 : decode cJ0_length_8abf5 5 = .ok (.aload_n 0, 1) := by decide +kernel
theorem dJ0_length_8abf5_6 : decode cJ0_length_8abf5 6 = .ok (.invokevirtual 335, 3) := by decide +kernel
theorem dJ0_length_8abf5_9 : decode cJ0_length_8abf5 9 = .ok (.ishr, 1) := by decide +kernel
theorem dJ0_length_8abf5_10 : decode cJ0_length_8abf5 10 = .ok (.ireturn, 1) := by decide +kernel
def rJ0_length_8abf5 : Room := { frames := 1, cells := 0, slots := 0, locals := 20 }
def vJ0_length_8abf5 (p0 : Nat) : Int32 := ((Int32.ofNat (jLen.getD (p0) 0)) >>> ((vJ0_coder_7d493 (p0)) &&& 31))
set_option maxHeartbeats 4000000 in
set_option maxRecDepth 100000 in
theorem hJ0_length_8abf5 (l : Launch) (D : va_G) (K : JK) (G : JG) (p0 : Nat) (hj_p0 : p0 < 15) (sz : Nat) : Met l yJ0_length_8abf5 (.code yJ0_length_8abf5 cJ0_length_8abf5 1 (some .int) :: jGW) rJ0_length_8abf5 (jPre D (jT K) G [.ref (G.2.1 p0)] ([] : va_W) sz) (jQi D (jT K) (vJ0_length_8abf5 p0) ([] : va_W) (va_A ([] : va_W) sz)) 0 0 (va_A ([] : va_W) sz) := by
  refine jEi (by decide) (Nat.le_of_ble_eq_true rfl) (fun p e s m below meth c A Q ls hat hP hD hS hl hend => ?_)
  obtain ⟨hx, hb, hml, hown, hts, hK, hZ, hA⟩ := hat
  have hl : lv_has ls 1 [(0, .ref (G.2.1 p0))] := hl
  have hV := vJ0_length_8abf5.eq_1 p0
  refine lv_aload_n hx hb dJ0_length_8abf5_0 rfl (lv_at hl 0 rfl) ?_
  refine vk_getf hx hb (hZ.2.2.1.1 (p0) hj_p0).2.2.1 hS hown (hts _ ks_J0_9) (fun _ h => h) dJ0_length_8abf5_1 ?_
  refine va_tlen hx hb (hZ.2.2.1.1 (p0) hj_p0).2.2.2 hS rfl dJ0_length_8abf5_4 ?_
  refine lv_aload_n hx hb dJ0_length_8abf5_5 rfl (lv_at hl 0 rfl) ?_
  refine jci0 (jrunVs (As := []) (rest := [.int (Int32.ofNat (jLen.getD (p0) 0))]) hx hb hml hown hts hK hZ hA hP hD hS hl.1 mf_J0_coder_7d493 kl_J0_335 ⟨rfl, rfl, Nat.le_of_ble_eq_true rfl, Nat.le_of_ble_eq_true rfl⟩ ⟨Nat.zero_le _, Nat.zero_le _⟩ [] rfl rfl (vk_recv hZ.2.2.1 hj_p0 hS) (hJ0_coder_7d493 l D K G (p0) hj_p0 _) rfl rfl (Nat.le_of_ble_eq_true rfl) dJ0_length_8abf5_6) hA hP hD hS [] rfl (fun H locs hP hS => ?_)
  refine lv_ishr hx hb dJ0_length_8abf5_9 ?_
  exact hend _ _ _ _ _ hP hD hS hV.symm rfl dJ0_length_8abf5_10
theorem ja0 (K : JK) (a : Nat) (nn : Nat) (Fa : FA) (f : FA) : (wA K nn a Fa).set 0 (a, .inl (K.1, nn, .inl f)) = (wA K nn a f) := rfl
theorem dJ7_fill_53178_0 : decode cJ7_fill_53178 0 = .ok (.iconst 0, 1) := by decide +kernel
theorem dJ7_fill_53178_1 : decode cJ7_fill_53178 1 = .ok (.istore_n 2, 1) := by decide +kernel
theorem dJ7_fill_53178_2 : decode cJ7_fill_53178 2 = .ok (.aload_n 0, 1) := by decide +kernel
theorem dJ7_fill_53178_3 : decode cJ7_fill_53178 3 = .ok (.arraylength, 1) := by decide +kernel
theorem dJ7_fill_53178_4 : decode cJ7_fill_53178 4 = .ok (.istore_n 3, 1) := by decide +kernel
theorem dJ7_fill_53178_5 : decode cJ7_fill_53178 5 = .ok (.iload_n 2, 1) := by decide +kernel
theorem dJ7_fill_53178_6 : decode cJ7_fill_53178 6 = .ok (.iload_n 3, 1) := by decide +kernel
theorem dJ7_fill_53178_7 : decode cJ7_fill_53178 7 = .ok (.if_icmp .ge 13, 3) := by decide +kernel
theorem dJ7_fill_53178_10 : decode cJ7_fill_53178 10 = .ok (.aload_n 0, 1) := by decide +kernel
theorem dJ7_fill_53178_11 : decode cJ7_fill_53178 11 = .ok (.iload_n 2, 1) := by decide +kernel
theorem dJ7_fill_53178_12 : decode cJ7_fill_53178 12 = .ok (.iload_n 1, 1) := by decide +kernel
theorem dJ7_fill_53178_13 : decode cJ7_fill_53178 13 = .ok (.iastore, 1) := by decide +kernel
theorem dJ7_fill_53178_14 : decode cJ7_fill_53178 14 = .ok (.iinc 2 1, 3) := by decide +kernel
theorem dJ7_fill_53178_17 : decode cJ7_fill_53178 17 = .ok (.goto (-12), 3) := by decide +kernel
theorem dJ7_fill_53178_20 : decode cJ7_fill_53178 20 = .ok (.return_, 1) := by decide +kernel
def rJ7_fill_53178 : Room := { frames := 0, cells := 0, slots := 0, locals := 0 }
def vJ7_fill_53178_c14 (nn : Nat) (p1 : Int32) (k : FA → Int32 → Int32 → FA) (Fa : FA) (x2 : Int32) (x3 : Int32) : FA := (k Fa (x2 + (1 : Int32)) x3)
def kJ7_fill_53178_c14 (nn : Nat) (p1 : Int32) (q : FA → Int32 → Int32 → Prop) (Fa : FA) (x2 : Int32) (x3 : Int32) : Prop := (q Fa (x2 + (1 : Int32)) x3)
def vJ7_fill_53178_c5 (nn : Nat) (p1 : Int32) : Nat → FA → Int32 → Int32 → FA
  | 0, Fa, x2, x3 => (Fa)
  | n + 1, Fa, x2, x3 => if (x3 ≤ x2) then Fa else (vJ7_fill_53178_c14 nn p1 (fun Fa x2 x3 => vJ7_fill_53178_c5 nn p1 n Fa x2 x3) (upd Fa (x2).toNatClampNeg p1) x2 x3)
def kJ7_fill_53178_c5 (nn : Nat) (p1 : Int32) : Nat → FA → Int32 → Int32 → Prop
  | 0, _, _, _ => False
  | n + 1, Fa, x2, x3 => ((x3 ≤ x2) → True) ∧ (¬ (x3 ≤ x2) → ((vp_in x2 nn) ∧ (kJ7_fill_53178_c14 nn p1 (fun Fa x2 x3 => kJ7_fill_53178_c5 nn p1 n Fa x2 x3) (upd Fa (x2).toNatClampNeg p1) x2 x3)))
def vJ7_fill_53178 (nn : Nat) (Fa0 : FA) (p1 : Int32) : FA := (vJ7_fill_53178_c5 nn p1 1024 Fa0 (0 : Int32) (Int32.ofNat nn))
def kJ7_fill_53178 (nn : Nat) (Fa0 : FA) (p1 : Int32) : Prop := (kJ7_fill_53178_c5 nn p1 1024 Fa0 (0 : Int32) (Int32.ofNat nn))
set_option maxHeartbeats 4000000 in
set_option maxRecDepth 100000 in
theorem hJ7_fill_53178 (l : Launch) (D : va_G) (K : JK) (G : JG) (a : Nat) (nn : Nat) (Fa0 : FA) (p1 : Int32) (hk : kJ7_fill_53178 nn Fa0 p1) (sz : Nat) : Met l yJ7_fill_53178 (.code yJ7_fill_53178 cJ7_fill_53178 4 none :: jGW) rJ7_fill_53178 (jPre D (jT K) G [.ref a, .int p1] (wA K nn a Fa0) sz) (jQv D (jT K) (wA K nn a (vJ7_fill_53178 nn Fa0 p1)) (va_A (wA K nn a Fa0) sz)) 0 0 (va_A (wA K nn a Fa0) sz) := by
  refine jEv (by decide) (Nat.le_of_ble_eq_true rfl) (fun p e s m below meth c A Q ls hat hP hD hS hl hend => ?_)
  obtain ⟨hx, hb, hml, hown, hts, hK, hZ, hA⟩ := hat
  have hl : lv_has ls 4 [(0, .ref a), (1, .int p1)] := hl
  have hc5 : ∀ (n : Nat) (Fa : FA) (x2 : Int32) (x3 : Int32) (H : Heap) (locs : List Loc) (ls : Array Slot), (vJ7_fill_53178 nn Fa0 p1) = vJ7_fill_53178_c5 nn p1 n Fa x2 x3 → kJ7_fill_53178_c5 nn p1 n Fa x2 x3 → va_P D vwCl (wA K nn a Fa) H → va_D A (wA K nn a Fa) → va_S A s.heap H locs → lv_has ls 4 [(0, .ref a), (1, .int p1), (2, .int x2), (3, .int x3)] → W p l e rJ7_fill_53178 s m ([.ref a, .int p1] : List Value).toArray below meth c H locs 0 0 Q (F0 m 5 ls []) := by
    intro n
    induction n with
    | zero =>
      intro Fa x2 x3 H locs ls hV hk hP hD hS hl
      exact False.elim hk
    | succ n ih =>
      have hc14 : ∀ (Fa : FA) (x2 : Int32) (x3 : Int32) (H : Heap) (locs : List Loc) (ls : Array Slot), (vJ7_fill_53178 nn Fa0 p1) = vJ7_fill_53178_c14 nn p1 (fun Fa x2 x3 => vJ7_fill_53178_c5 nn p1 n Fa x2 x3) Fa x2 x3 → kJ7_fill_53178_c14 nn p1 (fun Fa x2 x3 => kJ7_fill_53178_c5 nn p1 n Fa x2 x3) Fa x2 x3 → va_P D vwCl (wA K nn a Fa) H → va_D A (wA K nn a Fa) → va_S A s.heap H locs → lv_has ls 4 [(0, .ref a), (1, .int p1), (2, .int x2), (3, .int x3)] → W p l e rJ7_fill_53178 s m ([.ref a, .int p1] : List Value).toArray below meth c H locs 0 0 Q (F0 m 14 ls []) := by
        intro Fa x2 x3 H locs ls hV hk hP hD hS hl
        rw [vJ7_fill_53178_c14] at hV
        rw [kJ7_fill_53178_c14] at hk
        refine lv_iinc (v := (x2 + (1 : Int32))) (lv' := [(2, .int (x2 + (1 : Int32))), (0, .ref a), (1, .int p1), (3, .int x3)]) hx hb dJ7_fill_53178_14 hl (k := 2) rfl rfl (by decide) rfl (fun ls hl => ?_)
        refine lv_goto (tgt := 5) hx hb dJ7_fill_53178_17 (by decide) ?_
        exact ih Fa (x2 + (1 : Int32)) x3 _ _ _ hV hk hP hD hS (lv_sub hl [1, 2, 0, 3] rfl)
      intro Fa x2 x3 H locs ls hV hk hP hD hS hl
      rw [vJ7_fill_53178_c5] at hV
      rw [kJ7_fill_53178_c5] at hk
      refine lv_iload_n hx hb dJ7_fill_53178_5 rfl (lv_at hl 2 rfl) ?_
      refine lv_iload_n hx hb dJ7_fill_53178_6 rfl (lv_at hl 3 rfl) ?_
      refine lv_icmp_ge (tgt := 20) hx hb dJ7_fill_53178_7 (by decide) (fun c3 => ?_) (fun c3 => ?_)
      · have hV := hV.trans (if_pos c3)
        have hk := hk.1 c3
        exact hend _ _ _ _ (by rw [hV]; exact hP) (by rw [hV]; exact hD) hS dJ7_fill_53178_20
      · have hV := hV.trans (if_neg c3)
        have hk := hk.2 c3
        refine lv_aload_n hx hb dJ7_fill_53178_10 rfl (lv_at hl 0 rfl) ?_
        refine lv_iload_n hx hb dJ7_fill_53178_11 rfl (lv_at hl 2 rfl) ?_
        refine lv_iload_n hx hb dJ7_fill_53178_12 rfl (lv_at hl 1 rfl) ?_
        obtain ⟨h4, hk⟩ := hk
        refine va_iast hx hb hK hP hD hS (0) 0 rfl rfl h4 dJ7_fill_53178_13 (fun H locs hP hD hS => ?_)
        have hP := jeP (ja0 K a nn Fa (upd Fa (x2).toNatClampNeg p1)) hP
        have hD := jeD (ja0 K a nn Fa (upd Fa (x2).toNatClampNeg p1)) hD
        exact hc14 (upd Fa (x2).toNatClampNeg p1) x2 x3 _ _ _ hV hk hP hD hS (lv_sub hl [0, 1, 2, 3] rfl)
  have hV := vJ7_fill_53178.eq_1 nn Fa0 p1
  rw [kJ7_fill_53178] at hk
  refine lv_iconst (v := (0 : Int32)) hx hb dJ7_fill_53178_0 (by decide) ?_
  refine lv_istore_n (lv' := [(2, .int (0 : Int32)), (0, .ref a), (1, .int p1)]) hx hb dJ7_fill_53178_1 rfl hl (by decide) rfl (fun ls hl => ?_)
  refine lv_aload_n hx hb dJ7_fill_53178_2 rfl (lv_at hl 1 rfl) ?_
  refine va_alen hx hb hK hP (0) 0 rfl rfl rfl dJ7_fill_53178_3 ?_
  refine lv_istore_n (lv' := [(3, .int (Int32.ofNat nn)), (2, .int (0 : Int32)), (0, .ref a), (1, .int p1)]) hx hb dJ7_fill_53178_4 rfl hl (by decide) rfl (fun ls hl => ?_)
  exact hc5 1024 Fa0 (0 : Int32) (Int32.ofNat nn) _ _ _ hV hk hP hD hS (lv_sub hl [2, 3, 1, 0] rfl)
