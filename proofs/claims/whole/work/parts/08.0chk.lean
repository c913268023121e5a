-- the JDK's check of an index, where the index is right (by hand: its third argument may be null)
theorem dJ3_checkIndex_8e157_0 : decode cJ3_checkIndex_8e157 0 = .ok (.iload_n 0, 1) := by decide +kernel
theorem dJ3_checkIndex_8e157_1 : decode cJ3_checkIndex_8e157 1 = .ok (.ifCond .lt 8, 3) := by decide +kernel
theorem dJ3_checkIndex_8e157_4 : decode cJ3_checkIndex_8e157 4 = .ok (.iload_n 0, 1) := by decide +kernel
theorem dJ3_checkIndex_8e157_5 : decode cJ3_checkIndex_8e157 5 = .ok (.iload_n 1, 1) := by decide +kernel
theorem dJ3_checkIndex_8e157_6 : decode cJ3_checkIndex_8e157 6 = .ok (.if_icmp .lt 10, 3) := by decide +kernel
theorem dJ3_checkIndex_8e157_9 : decode cJ3_checkIndex_8e157 9 = .ok (.aload_n 2, 1) := by decide +kernel
theorem dJ3_checkIndex_8e157_10 : decode cJ3_checkIndex_8e157 10 = .ok (.iload_n 0, 1) := by decide +kernel
theorem dJ3_checkIndex_8e157_11 : decode cJ3_checkIndex_8e157 11 = .ok (.iload_n 1, 1) := by decide +kernel
theorem dJ3_checkIndex_8e157_12 : decode cJ3_checkIndex_8e157 12 = .ok (.invokestatic 95, 3) := by decide +kernel
theorem dJ3_checkIndex_8e157_15 : decode cJ3_checkIndex_8e157 15 = .ok (.athrow, 1) := by decide +kernel
theorem dJ3_checkIndex_8e157_16 : decode cJ3_checkIndex_8e157 16 = .ok (.iload_n 0, 1) := by decide +kernel
theorem dJ3_checkIndex_8e157_17 : decode cJ3_checkIndex_8e157 17 = .ok (.ireturn, 1) := by decide +kernel
theorem dJ0_checkIndex_df160_0 : decode cJ0_checkIndex_df160 0 = .ok (.iload_n 0, 1) := by decide +kernel
theorem dJ0_checkIndex_df160_1 : decode cJ0_checkIndex_df160 1 = .ok (.iload_n 1, 1) := by decide +kernel
theorem dJ0_checkIndex_df160_2 : decode cJ0_checkIndex_df160 2 = .ok (.getstatic 1053, 3) := by decide +kernel
theorem dJ0_checkIndex_df160_5 : decode cJ0_checkIndex_df160 5 = .ok (.invokestatic 1059, 3) := by decide +kernel
theorem dJ0_checkIndex_df160_8 : decode cJ0_checkIndex_df160 8 = .ok (.pop, 1) := by decide +kernel
theorem dJ0_checkIndex_df160_9 : decode cJ0_checkIndex_df160 9 = .ok (.return_, 1) := by decide +kernel
def rJ3_checkIndex_8e157 : Room := { frames := 0, cells := 0, slots := 0, locals := 0 }
def rJ0_checkIndex_df160 : Room := { frames := 1, cells := 0, slots := 0, locals := 22 }
def kJ0_checkIndex_df160 (p0 p1 : Int32) : Prop := ¬ p0 < 0 ∧ p0 < p1
set_option maxHeartbeats 4000000 in
set_option maxRecDepth 100000 in
theorem hJ3_checkIndex_8e157 (l : Launch) (D : va_G) (K : JK) (G : JG) (p0 p1 : Int32) (o : Option Nat) (hk : kJ0_checkIndex_df160 p0 p1) (sz : Nat) : Met l yJ3_checkIndex_8e157 (.code yJ3_checkIndex_8e157 cJ3_checkIndex_8e157 3 (some .int) :: jGW) rJ3_checkIndex_8e157 (jPre D (jT K) G [.int p0, .int p1, va_rf o] ([] : va_W) sz) (jQi D (jT K) p0 ([] : va_W) (va_A ([] : va_W) sz)) 0 0 (va_A ([] : va_W) sz) := by
  refine jEi (by decide) (by cases o <;> exact Nat.le_of_ble_eq_true rfl) (fun p e s m below meth c A Q ls hat hP hD hS hl hend => ?_)
  obtain ⟨hx, hb, hml, hown, hts, hK, hZ, hA⟩ := hat
  have hl : lv_has ls 3 [(0, .int p0), (1, .int p1)] := by
    cases o with
    | none => exact lv_sub hl [0, 1] rfl
    | some r => exact lv_sub hl [0, 1] rfl
  refine lv_iload_n hx hb dJ3_checkIndex_8e157_0 rfl (lv_at hl 0 rfl) ?_
  refine lv_if_lt (tgt := 9) hx hb dJ3_checkIndex_8e157_1 (by decide) (fun c1 => ?_) (fun c1 => ?_)
  · exact absurd c1 hk.1
  refine lv_iload_n hx hb dJ3_checkIndex_8e157_4 rfl (lv_at hl 0 rfl) ?_
  refine lv_iload_n hx hb dJ3_checkIndex_8e157_5 rfl (lv_at hl 1 rfl) ?_
  refine lv_icmp_lt (tgt := 16) hx hb dJ3_checkIndex_8e157_6 (by decide) (fun c1 => ?_) (fun c1 => ?_)
  · refine lv_iload_n hx hb dJ3_checkIndex_8e157_16 rfl (lv_at hl 0 rfl) ?_
    exact hend _ _ _ _ _ hP hD hS rfl rfl dJ3_checkIndex_8e157_17
  · exact absurd hk.2 c1
set_option maxHeartbeats 4000000 in
set_option maxRecDepth 100000 in
theorem hJ0_checkIndex_df160 (l : Launch) (D : va_G) (K : JK) (G : JG) (p0 p1 : Int32) (hk : kJ0_checkIndex_df160 p0 p1) (sz : Nat) : Met l yJ0_checkIndex_df160 (.code yJ0_checkIndex_df160 cJ0_checkIndex_df160 2 none :: jGW) rJ0_checkIndex_df160 (jPre D (jT K) G [.int p0, .int p1] ([] : va_W) sz) (jQv D (jT K) ([] : va_W) (va_A ([] : va_W) sz)) 0 0 (va_A ([] : va_W) sz) := by
  refine jEv (by decide) (Nat.le_of_ble_eq_true rfl) (fun p e s m below meth c A Q ls hat hP hD hS hl hend => ?_)
  obtain ⟨hx, hb, hml, hown, hts, hK, hZ, hA⟩ := hat
  have hl : lv_has ls 2 [(0, .int p0), (1, .int p1)] := hl
  refine lv_iload_n hx hb dJ0_checkIndex_df160_0 rfl (lv_at hl 0 rfl) ?_
  refine lv_iload_n hx hb dJ0_checkIndex_df160_1 rfl (lv_at hl 1 rfl) ?_
  refine va_gets hx hb hZ.2.2.2.2.2 hS hown (hts _ ks_J0_1053) (fun _ h => h) dJ0_checkIndex_df160_2 ?_
  refine jci0 (jrunS (As := [.int p0, .int p1, va_rf G.2.2.2]) (rest := []) hx hb hml hown hts hK hZ hA hP hD hS hl.1 mf_J3_checkIndex_8e157 kl_J0_1059 ⟨rfl, rfl, Nat.le_of_ble_eq_true rfl, Nat.le_of_ble_eq_true rfl⟩ ⟨Nat.zero_le _, Nat.zero_le _⟩ [] rfl rfl (hJ3_checkIndex_8e157 l D K G p0 p1 G.2.2.2 hk _) rfl rfl (Nat.le_of_ble_eq_true rfl) dJ0_checkIndex_df160_5) hA hP hD hS [] rfl (fun H locs hP hS => ?_)
  refine lv_pop hx hb dJ0_checkIndex_df160_8 rfl ?_
  exact hend _ _ _ _ hP hD hS dJ0_checkIndex_df160_9
