theorem jf15 (K : JK) (a : Nat → Nat) (S : SS) (v : Int32) : (wS K a S).set 0 ((a 0), .inr (1, ([.ref (a 1), .int (s_bits S), .int (s_size S)] : List Value).set 1 (.int v))) = (wS K a (s_s_bits S v)) := rfl
theorem jf16 (K : JK) (a : Nat → Nat) (S : SS) (v : Int32) : (wS K a S).set 0 ((a 0), .inr (1, ([.ref (a 1), .int (s_bits S), .int (s_size S)] : List Value).set 2 (.int v))) = (wS K a (s_s_size S v)) := rfl
theorem js17 (K : JK) (a : Nat → Nat) (S : SS) : [1].map (fun i => (wS K a S)[i]?) = (wA K (40) (a 1) (s_numbers S)).map some := rfl
theorem jh18 (K : JK) (a : Nat → Nat) (S : SS) (Z0 : FA) : (wA K (40) (a 1) Z0).map Prod.fst = (wA K (40) (a 1) (s_numbers S)).map Prod.fst := rfl
theorem jp19 (K : JK) (a : Nat → Nat) (S : SS) (Z0 : FA) : jput (wS K a S) [1] (wA K (40) (a 1) Z0) = (wS K a (s_s_numbers S Z0)) := rfl
theorem dX2_begin_0 : decode cX2_begin 0 = .ok (.aload_n 0, 1) := by decide +kernel
theorem dX2_begin_1 : decode cX2_begin 1 = .ok (.iload_n 1, 1) := by decide +kernel
theorem dX2_begin_2 : decode cX2_begin 2 = .ok (.putfield 15, 3) := by decide +kernel
theorem dX2_begin_5 : decode cX2_begin 5 = .ok (.aload_n 0, 1) := by decide +kernel
theorem dX2_begin_6 : decode cX2_begin 6 = .ok (.iload_n 2, 1) := by decide +kernel
theorem dX2_begin_7 : decode cX2_begin 7 = .ok (.putfield 19, 3) := by decide +kernel
theorem dX2_begin_10 : decode cX2_begin 10 = .ok (.aload_n 0, 1) := by decide +kernel
theorem dX2_begin_11 : decode cX2_begin 11 = .ok (.getfield 9, 3) := by decide +kernel
theorem dX2_begin_14 : decode cX2_begin 14 = .ok (.iconst 0, 1) := by decide +kernel
theorem dX2_begin_15 : decode cX2_begin 15 = .ok (.invokestatic 22, 3) := by decide +kernel
theorem dX2_begin_18 : decode cX2_begin 18 = .ok (.return_, 1) := by decide +kernel
def rX2_begin : Room := { frames := 1, cells := 0, slots := 0, locals := 23 }
def vX2_begin_c10 (p1 : Int32) (p2 : Int32) (S : SS) : SS := (s_s_numbers S (vJ7_fill_53178 40 (s_numbers S) (0 : Int32)))
def kX2_begin_c10 (p1 : Int32) (p2 : Int32) (S : SS) : Prop := (kJ7_fill_53178 40 (s_numbers S) (0 : Int32)) ∧ True
def vX2_begin_c5 (p1 : Int32) (p2 : Int32) (S : SS) : SS := (vX2_begin_c10 p1 p2 (s_s_size S p2))
def kX2_begin_c5 (p1 : Int32) (p2 : Int32) (S : SS) : Prop := (kX2_begin_c10 p1 p2 (s_s_size S p2))
def vX2_begin (S0 : SS) (p1 : Int32) (p2 : Int32) : SS := (vX2_begin_c5 p1 p2 (s_s_bits S0 p1))
def kX2_begin (S0 : SS) (p1 : Int32) (p2 : Int32) : Prop := (kX2_begin_c5 p1 p2 (s_s_bits S0 p1))
set_option maxHeartbeats 4000000 in
set_option maxRecDepth 100000 in
theorem hX2_begin (l : Launch) (D : va_G) (K : JK) (G : JG) (a : Nat → Nat) (S0 : SS) (p1 : Int32) (p2 : Int32) (hk : kX2_begin S0 p1 p2) (sz : Nat) : Met l yX2_begin (.code yX2_begin cX2_begin 3 none :: jGW) rX2_begin (jPre D (jT K) G [.ref (a 0), .int p1, .int p2] (wS K a S0) sz) (jQv D (jT K) (wS K a (vX2_begin S0 p1 p2)) (va_A (wS K a S0) sz)) 0 0 (va_A (wS K a S0) sz) := by
  refine jEv (by decide) (Nat.le_of_ble_eq_true rfl) (fun p e s m below meth c A Q ls hat hP hD hS hl hend => ?_)
  obtain ⟨hx, hb, hml, hown, hts, hK, hZ, hA⟩ := hat
  have hl : lv_has ls 3 [(0, .ref (a 0)), (1, .int p1), (2, .int p2)] := hl
  have hc10 : ∀ (S : SS) (H : Heap) (locs : List Loc) (ls : Array Slot), (vX2_begin S0 p1 p2) = vX2_begin_c10 p1 p2 S → kX2_begin_c10 p1 p2 S → va_P D vwCl (wS K a S) H → va_D A (wS K a S) → va_S A s.heap H locs → lv_has ls 3 [(0, .ref (a 0)), (1, .int p1), (2, .int p2)] → W p l e rX2_begin s m ([.ref (a 0), .int p1, .int p2] : List Value).toArray below meth c H locs 0 0 Q (F0 m 10 ls []) := by
    intro S H locs ls hV hk hP hD hS hl
    rw [vX2_begin_c10] at hV
    rw [kX2_begin_c10] at hk
    refine lv_aload_n hx hb dX2_begin_10 rfl (lv_at hl 0 rfl) ?_
    refine gf_X2_9 (v := .ref (a 1)) hx hb hts hown hK hZ hP (0) rfl rfl dX2_begin_11 ?_
    refine lv_iconst (v := (0 : Int32)) hx hb dX2_begin_14 (by decide) ?_
    obtain ⟨h2, hk⟩ := hk
    refine jcv (jrunS (As := [.ref (a 1), .int (0 : Int32)]) (rest := []) hx hb hml hown hts hK hZ hA hP hD hS hl.1 mf_J7_fill_53178 kl_X2_22 ⟨rfl, rfl, Nat.le_of_ble_eq_true rfl, Nat.le_of_ble_eq_true rfl⟩ ⟨Nat.zero_le _, Nat.zero_le _⟩ [1] rfl (js17 K a S) (hJ7_fill_53178 l D K G (a 1) 40 (s_numbers S) (0 : Int32) h2 _) rfl rfl (Nat.le_of_ble_eq_true rfl) dX2_begin_15) hA hP hD hS [1] (js17 K a S) (jh18 K a S (vJ7_fill_53178 40 (s_numbers S) (0 : Int32))) (fun H locs hP hD hS => ?_)
    have hP := jeP (jp19 K a S (vJ7_fill_53178 40 (s_numbers S) (0 : Int32))) hP
    have hD := jeD (jp19 K a S (vJ7_fill_53178 40 (s_numbers S) (0 : Int32))) hD
    exact hend _ _ _ _ (by rw [hV]; exact hP) (by rw [hV]; exact hD) hS dX2_begin_18
  have hc5 : ∀ (S : SS) (H : Heap) (locs : List Loc) (ls : Array Slot), (vX2_begin S0 p1 p2) = vX2_begin_c5 p1 p2 S → kX2_begin_c5 p1 p2 S → va_P D vwCl (wS K a S) H → va_D A (wS K a S) → va_S A s.heap H locs → lv_has ls 3 [(0, .ref (a 0)), (1, .int p1), (2, .int p2)] → W p l e rX2_begin s m ([.ref (a 0), .int p1, .int p2] : List Value).toArray below meth c H locs 0 0 Q (F0 m 5 ls []) := by
    intro S H locs ls hV hk hP hD hS hl
    rw [vX2_begin_c5] at hV
    rw [kX2_begin_c5] at hk
    refine lv_aload_n hx hb dX2_begin_5 rfl (lv_at hl 0 rfl) ?_
    refine lv_iload_n hx hb dX2_begin_6 rfl (lv_at hl 2 rfl) ?_
    refine pf_X2_19 (v := .int p2) hx hb hts hown hK hZ hP hD hS (0) rfl rfl rfl (Nat.le_of_ble_eq_true rfl) dX2_begin_7 (fun H locs hP hD hS => ?_)
    have hP := jeP (jf16 K a S p2) hP
    have hD := jeD (jf16 K a S p2) hD
    exact hc10 (s_s_size S p2) _ _ _ hV hk hP hD hS (lv_sub hl [0, 1, 2] rfl)
  have hV := vX2_begin.eq_1 S0 p1 p2
  rw [kX2_begin] at hk
  refine lv_aload_n hx hb dX2_begin_0 rfl (lv_at hl 0 rfl) ?_
  refine lv_iload_n hx hb dX2_begin_1 rfl (lv_at hl 1 rfl) ?_
  refine pf_X2_15 (v := .int p1) hx hb hts hown hK hZ hP hD hS (0) rfl rfl rfl (Nat.le_of_ble_eq_true rfl) dX2_begin_2 (fun H locs hP hD hS => ?_)
  have hP := jeP (jf15 K a S0 p1) hP
  have hD := jeD (jf15 K a S0 p1) hD
  exact hc5 (s_s_bits S0 p1) _ _ _ hV hk hP hD hS (lv_sub hl [0, 1, 2] rfl)
theorem dX2_hasRow_0 : decode cX2_hasRow 0 = .ok (.iload_n 2, 1) := by decide +kernel
theorem dX2_hasRow_1 : decode cX2_hasRow 1 = .ok (.iconst 0, 1) := by decide +kernel
theorem dX2_hasRow_2 : decode cX2_hasRow 2 = .ok (.aload_n 0, 1) := by decide +kernel
theorem dX2_hasRow_3 : decode cX2_hasRow 3 = .ok (.getfield 19, 3) := by decide +kernel
theorem dX2_hasRow_6 : decode cX2_hasRow 6 = .ok (.invokestatic 28, 3) := by decide +kernel
theorem dX2_hasRow_9 : decode cX2_hasRow 9 = .ok (.ifCond .eq 21, 3) := by decide +kernel
theorem dX2_hasRow_12 : decode cX2_hasRow 12 = .ok (.iload_n 1, 1) := by decide +kernel
theorem dX2_hasRow_13 : decode cX2_hasRow 13 = .ok (.iconst 0, 1) := by decide +kernel
theorem dX2_hasRow_14 : decode cX2_hasRow 14 = .ok (.aload_n 0, 1) := by decide +kernel
theorem dX2_hasRow_15 : decode cX2_hasRow 15 = .ok (.getfield 19, 3) := by decide +kernel
theorem dX2_hasRow_18 : decode cX2_hasRow 18 = .ok (.iload_n 2, 1) := by decide +kernel
theorem dX2_hasRow_19 : decode cX2_hasRow 19 = .ok (.isub, 1) := by decide +kernel
theorem dX2_hasRow_20 : decode cX2_hasRow 20 = .ok (.invokestatic 28, 3) := by decide +kernel
theorem dX2_hasRow_23 : decode cX2_hasRow 23 = .ok (.ifCond .eq 7, 3) := by decide +kernel
theorem dX2_hasRow_26 : decode cX2_hasRow 26 = .ok (.iconst 1, 1) := by decide +kernel
theorem dX2_hasRow_27 : decode cX2_hasRow 27 = .ok (.goto 4, 3) := by decide +kernel
theorem dX2_hasRow_30 : decode cX2_hasRow 30 = .ok (.iconst 0, 1) := by decide +kernel
theorem dX2_hasRow_31 : decode cX2_hasRow 31 = .ok (.ireturn, 1) := by decide +kernel
def rX2_hasRow : Room := { frames := 1, cells := 0, slots := 0, locals := 22 }
def vX2_hasRow (S0 : SS) (p1 : Int32) (p2 : Int32) : Int32 := if ((vX4_within p2 (0 : Int32) (s_size S0)) = 0) then (0 : Int32) else if ((vX4_within p1 (0 : Int32) ((s_size S0) - p2)) = 0) then (0 : Int32) else (1 : Int32)
set_option maxHeartbeats 4000000 in
set_option maxRecDepth 100000 in
theorem hX2_hasRow (l : Launch) (D : va_G) (K : JK) (G : JG) (a : Nat → Nat) (S0 : SS) (p1 : Int32) (p2 : Int32) (sz : Nat) : Met l yX2_hasRow (.code yX2_hasRow cX2_hasRow 3 (some .boolean) :: jGW) rX2_hasRow (jPre D (jT K) G [.ref (a 0), .int p1, .int p2] (wS K a S0) sz) (jQi D (jT K) (vX2_hasRow S0 p1 p2) (wS K a S0) (va_A (wS K a S0) sz)) 0 0 (va_A (wS K a S0) sz) := by
  refine jEi (by decide) (Nat.le_of_ble_eq_true rfl) (fun p e s m below meth c A Q ls hat hP hD hS hl hend => ?_)
  obtain ⟨hx, hb, hml, hown, hts, hK, hZ, hA⟩ := hat
  have hl : lv_has ls 3 [(0, .ref (a 0)), (1, .int p1), (2, .int p2)] := hl
  have hV := vX2_hasRow.eq_1 S0 p1 p2
  refine lv_iload_n hx hb dX2_hasRow_0 rfl (lv_at hl 2 rfl) ?_
  refine lv_iconst (v := (0 : Int32)) hx hb dX2_hasRow_1 (by decide) ?_
  refine lv_aload_n hx hb dX2_hasRow_2 rfl (lv_at hl 0 rfl) ?_
  refine gf_X2_19 (v := .int (s_size S0)) hx hb hts hown hK hZ hP (0) rfl rfl dX2_hasRow_3 ?_
  refine jci0 (jrunSN (As := [.int p2, .int (0 : Int32), .int (s_size S0)]) (rest := []) hx hb hml hown hts hK hZ hA hP hD hS hl.1 mf_X4_within kl_X2_28 ⟨rfl, rfl, Nat.le_of_ble_eq_true rfl, Nat.le_of_ble_eq_true rfl⟩ ⟨Nat.zero_le _, Nat.zero_le _⟩ [] rfl rfl (hX4_within l D K G p2 (0 : Int32) (s_size S0) _) rfl rfl (Nat.le_of_ble_eq_true rfl) dX2_hasRow_6) hA hP hD hS [] rfl (fun H locs hP hS => ?_)
  refine lv_if_eq (tgt := 30) hx hb dX2_hasRow_9 (by decide) (fun c3 => ?_) (fun c3 => ?_)
  · have hV := hV.trans (if_pos c3)
    refine lv_iconst (v := (0 : Int32)) hx hb dX2_hasRow_30 (by decide) ?_
    exact hend _ _ _ _ _ hP hD hS hV.symm rfl dX2_hasRow_31
  · have hV := hV.trans (if_neg c3)
    refine lv_iload_n hx hb dX2_hasRow_12 rfl (lv_at hl 1 rfl) ?_
    refine lv_iconst (v := (0 : Int32)) hx hb dX2_hasRow_13 (by decide) ?_
    refine lv_aload_n hx hb dX2_hasRow_14 rfl (lv_at hl 0 rfl) ?_
    refine gf_X2_19 (v := .int (s_size S0)) hx hb hts hown hK hZ hP (0) rfl rfl dX2_hasRow_15 ?_
    refine lv_iload_n hx hb dX2_hasRow_18 rfl (lv_at hl 2 rfl) ?_
    refine lv_isub hx hb dX2_hasRow_19 ?_
    refine jci0 (jrunSN (As := [.int p1, .int (0 : Int32), .int ((s_size S0) - p2)]) (rest := []) hx hb hml hown hts hK hZ hA hP hD hS hl.1 mf_X4_within kl_X2_28 ⟨rfl, rfl, Nat.le_of_ble_eq_true rfl, Nat.le_of_ble_eq_true rfl⟩ ⟨Nat.zero_le _, Nat.zero_le _⟩ [] rfl rfl (hX4_within l D K G p1 (0 : Int32) ((s_size S0) - p2) _) rfl rfl (Nat.le_of_ble_eq_true rfl) dX2_hasRow_20) hA hP hD hS [] rfl (fun H locs hP hS => ?_)
    refine lv_if_eq (tgt := 30) hx hb dX2_hasRow_23 (by decide) (fun c4 => ?_) (fun c4 => ?_)
    · have hV := hV.trans (if_pos c4)
      refine lv_iconst (v := (0 : Int32)) hx hb dX2_hasRow_30 (by decide) ?_
      exact hend _ _ _ _ _ hP hD hS hV.symm rfl dX2_hasRow_31
    · have hV := hV.trans (if_neg c4)
      refine lv_iconst (v := (1 : Int32)) hx hb dX2_hasRow_26 (by decide) ?_
      refine lv_goto (tgt := 31) hx hb dX2_hasRow_27 (by decide) ?_
      exact hend _ _ _ _ _ hP hD hS hV.symm rfl dX2_hasRow_31
theorem ja20 (K : JK) (a : Nat → Nat) (S : SS) (f : FA) : (wS K a S).set 1 ((a 1), .inl (K.1, 40, .inl f)) = (wS K a (s_s_numbers S f)) := rfl
theorem dX2_put_0 : decode cX2_put 0 = .ok (.bipush 32, 2) := by decide +kernel
theorem dX2_put_2 : decode cX2_put 2 = .ok (.aload_n 0, 1) := by decide +kernel
theorem dX2_put_3 : decode cX2_put 3 = .ok (.getfield 15, 3) := by decide +kernel
theorem dX2_put_6 : decode cX2_put 6 = .ok (.isub, 1) := by decide +kernel
theorem dX2_put_7 : decode cX2_put 7 = .ok (.istore_n 3, 1) := by decide +kernel
theorem dX2_put_8 : decode cX2_put 8 = .ok (.aload_n 0, 1) := by decide +kernel
theorem dX2_put_9 : decode cX2_put 9 = .ok (.getfield 9, 3) := by decide +kernel
theorem dX2_put_12 : decode cX2_put 12 = .ok (.iload_n 1, 1) := by decide +kernel
theorem dX2_put_13 : decode cX2_put 13 = .ok (.iload_n 2, 1) := by decide +kernel
theorem dX2_put_14 : decode cX2_put 14 = .ok (.iload_n 3, 1) := by decide +kernel
theorem dX2_put_15 : decode cX2_put 15 = .ok (.ishl, 1) := by decide +kernel
theorem dX2_put_16 : decode cX2_put 16 = .ok (.iload_n 3, 1) := by decide +kernel
theorem dX2_put_17 : decode cX2_put 17 = .ok (.ishr, 1) := by decide +kernel
theorem dX2_put_18 : decode cX2_put 18 = .ok (.iastore, 1) := by decide +kernel
theorem dX2_put_19 : decode cX2_put 19 = .ok (.return_, 1) := by decide +kernel
def rX2_put : Room := { frames := 0, cells := 0, slots := 0, locals := 0 }
def vX2_put (S0 : SS) (p1 : Int32) (p2 : Int32) : SS := (s_s_numbers S0 (upd (s_numbers S0) (p1).toNatClampNeg ((p2 <<< (((32 : Int32) - (s_bits S0)) &&& 31)) >>> (((32 : Int32) - (s_bits S0)) &&& 31))))
def kX2_put (S0 : SS) (p1 : Int32) (p2 : Int32) : Prop := (vp_in p1 40) ∧ True
set_option maxHeartbeats 4000000 in
set_option maxRecDepth 100000 in
theorem hX2_put (l : Launch) (D : va_G) (K : JK) (G : JG) (a : Nat → Nat) (S0 : SS) (p1 : Int32) (p2 : Int32) (hk : kX2_put S0 p1 p2) (sz : Nat) : Met l yX2_put (.code yX2_put cX2_put 4 none :: jGW) rX2_put (jPre D (jT K) G [.ref (a 0), .int p1, .int p2] (wS K a S0) sz) (jQv D (jT K) (wS K a (vX2_put S0 p1 p2)) (va_A (wS K a S0) sz)) 0 0 (va_A (wS K a S0) sz) := by
  refine jEv (by decide) (Nat.le_of_ble_eq_true rfl) (fun p e s m below meth c A Q ls hat hP hD hS hl hend => ?_)
  obtain ⟨hx, hb, hml, hown, hts, hK, hZ, hA⟩ := hat
  have hl : lv_has ls 4 [(0, .ref (a 0)), (1, .int p1), (2, .int p2)] := hl
  have hV := vX2_put.eq_1 S0 p1 p2
  rw [kX2_put] at hk
  refine lv_bipush (v := (32 : Int32)) hx hb dX2_put_0 (by decide) ?_
  refine lv_aload_n hx hb dX2_put_2 rfl (lv_at hl 0 rfl) ?_
  refine gf_X2_15 (v := .int (s_bits S0)) hx hb hts hown hK hZ hP (0) rfl rfl dX2_put_3 ?_
  refine lv_isub hx hb dX2_put_6 ?_
  refine lv_istore_n (lv' := [(3, .int ((32 : Int32) - (s_bits S0))), (0, .ref (a 0)), (1, .int p1), (2, .int p2)]) hx hb dX2_put_7 rfl hl (by decide) rfl (fun ls hl => ?_)
  refine lv_aload_n hx hb dX2_put_8 rfl (lv_at hl 1 rfl) ?_
  refine gf_X2_9 (v := .ref (a 1)) hx hb hts hown hK hZ hP (0) rfl rfl dX2_put_9 ?_
  refine lv_iload_n hx hb dX2_put_12 rfl (lv_at hl 2 rfl) ?_
  refine lv_iload_n hx hb dX2_put_13 rfl (lv_at hl 3 rfl) ?_
  refine lv_iload_n hx hb dX2_put_14 rfl (lv_at hl 0 rfl) ?_
  refine lv_ishl hx hb dX2_put_15 ?_
  refine lv_iload_n hx hb dX2_put_16 rfl (lv_at hl 0 rfl) ?_
  refine lv_ishr hx hb dX2_put_17 ?_
  obtain ⟨h2, hk⟩ := hk
  refine va_iast hx hb hK hP hD hS (1) 0 rfl rfl h2 dX2_put_18 (fun H locs hP hD hS => ?_)
  have hP := jeP (ja20 K a S0 (upd (s_numbers S0) (p1).toNatClampNeg ((p2 <<< (((32 : Int32) - (s_bits S0)) &&& 31)) >>> (((32 : Int32) - (s_bits S0)) &&& 31)))) hP
  have hD := jeD (ja20 K a S0 (upd (s_numbers S0) (p1).toNatClampNeg ((p2 <<< (((32 : Int32) - (s_bits S0)) &&& 31)) >>> (((32 : Int32) - (s_bits S0)) &&& 31)))) hD
  exact hend _ _ _ _ (by rw [hV]; exact hP) (by rw [hV]; exact hD) hS dX2_put_19
theorem ja21 (K : JK) (a : Nat → Nat) (T : TS) (f : FA) : (wT K a T).set 1 ((a 1), .inl (K.2.1, 120, .inl f)) = (wT K a (t_s_bytes T f)) := rfl
theorem jf22 (K : JK) (a : Nat → Nat) (T : TS) (v : Int32) : (wT K a T).set 0 ((a 0), .inr (2, ([.ref (a 1), .int (t_length T), .int (t_sort T), .int (t_begin T), .int (t_end T), .int (t_number T), .int (t_taken T)] : List Value).set 1 (.int v))) = (wT K a (t_s_length T v)) := rfl
theorem dX3_append_0 : decode cX3_append 0 = .ok (.aload_n 0, 1) := by decide +kernel
theorem dX3_append_1 : decode cX3_append 1 = .ok (.getfield 15, 3) := by decide +kernel
theorem dX3_append_4 : decode cX3_append 4 = .ok (.bipush 120, 2) := by decide +kernel
theorem dX3_append_6 : decode cX3_append 6 = .ok (.if_icmp .ge 23, 3) := by decide +kernel
theorem dX3_append_9 : decode cX3_append 9 = .ok (.aload_n 0, 1) := by decide +kernel
theorem dX3_append_10 : decode cX3_append 10 = .ok (.getfield 9, 3) := by decide +kernel
theorem dX3_append_13 : decode cX3_append 13 = .ok (.aload_n 0, 1) := by decide +kernel
theorem dX3_append_14 : decode cX3_append 14 = .ok (.getfield 15, 3) := by decide +kernel
theorem dX3_append_17 : decode cX3_append 17 = .ok (.iload_n 1, 1) := by decide +kernel
theorem dX3_append_18 : decode cX3_append 18 = .ok (.bastore, 1) := by decide +kernel
theorem dX3_append_19 : decode cX3_append 19 = .ok (.aload_n 0, 1) := by decide +kernel
theorem dX3_append_20 : decode cX3_append 20 = .ok (.dup, 1) := by decide +kernel
theorem dX3_append_21 : decode cX3_append 21 = .ok (.getfield 15, 3) := by decide +kernel
theorem dX3_append_24 : decode cX3_append 24 = .ok (.iconst 1, 1) := by decide +kernel
theorem dX3_append_25 : decode cX3_append 25 = .ok (.iadd, 1) := by decide +kernel
theorem dX3_append_26 : decode cX3_append 26 = .ok (.putfield 15, 3) := by decide +kernel
theorem dX3_append_29 : decode cX3_append 29 = .ok (.return_, 1) := by decide +kernel
def rX3_append : Room := { frames := 0, cells := 0, slots := 0, locals := 0 }
def vX3_append_c19 (p1 : Int32) (T : TS) : TS := (t_s_length T ((t_length T) + (1 : Int32)))
def vX3_append (T0 : TS) (p1 : Int32) : TS := if ((120 : Int32) ≤ (t_length T0)) then T0 else (vX3_append_c19 p1 (t_s_bytes T0 (upd (t_bytes T0) ((t_length T0)).toNatClampNeg (vp_nar .byte p1))))
def kX3_append (T0 : TS) (p1 : Int32) : Prop := (((120 : Int32) ≤ (t_length T0)) → True) ∧ (¬ ((120 : Int32) ≤ (t_length T0)) → ((vp_in (t_length T0) 120) ∧ True))
set_option maxHeartbeats 4000000 in
set_option maxRecDepth 100000 in
theorem hX3_append (l : Launch) (D : va_G) (K : JK) (G : JG) (a : Nat → Nat) (T0 : TS) (p1 : Int32) (hk : kX3_append T0 p1) (sz : Nat) : Met l yX3_append (.code yX3_append cX3_append 2 none :: jGW) rX3_append (jPre D (jT K) G [.ref (a 0), .int p1] (wT K a T0) sz) (jQv D (jT K) (wT K a (vX3_append T0 p1)) (va_A (wT K a T0) sz)) 0 0 (va_A (wT K a T0) sz) := by
  refine jEv (by decide) (Nat.le_of_ble_eq_true rfl) (fun p e s m below meth c A Q ls hat hP hD hS hl hend => ?_)
  obtain ⟨hx, hb, hml, hown, hts, hK, hZ, hA⟩ := hat
  have hl : lv_has ls 2 [(0, .ref (a 0)), (1, .int p1)] := hl
  have hc19 : ∀ (T : TS) (H : Heap) (locs : List Loc) (ls : Array Slot), (vX3_append T0 p1) = vX3_append_c19 p1 T → va_P D vwCl (wT K a T) H → va_D A (wT K a T) → va_S A s.heap H locs → lv_has ls 2 [(0, .ref (a 0)), (1, .int p1)] → W p l e rX3_append s m ([.ref (a 0), .int p1] : List Value).toArray below meth c H locs 0 0 Q (F0 m 19 ls []) := by
    intro T H locs ls hV hP hD hS hl
    rw [vX3_append_c19] at hV
    refine lv_aload_n hx hb dX3_append_19 rfl (lv_at hl 0 rfl) ?_
    refine lv_dup hx hb dX3_append_20 rfl ?_
    refine gf_X3_15 (v := .int (t_length T)) hx hb hts hown hK hZ hP (0) rfl rfl dX3_append_21 ?_
    refine lv_iconst (v := (1 : Int32)) hx hb dX3_append_24 (by decide) ?_
    refine lv_iadd hx hb dX3_append_25 ?_
    refine pf_X3_15 (v := .int ((t_length T) + (1 : Int32))) hx hb hts hown hK hZ hP hD hS (0) rfl rfl rfl (Nat.le_of_ble_eq_true rfl) dX3_append_26 (fun H locs hP hD hS => ?_)
    have hP := jeP (jf22 K a T ((t_length T) + (1 : Int32))) hP
    have hD := jeD (jf22 K a T ((t_length T) + (1 : Int32))) hD
    exact hend _ _ _ _ (by rw [hV]; exact hP) (by rw [hV]; exact hD) hS dX3_append_29
  have hV := vX3_append.eq_1 T0 p1
  rw [kX3_append] at hk
  refine lv_aload_n hx hb dX3_append_0 rfl (lv_at hl 0 rfl) ?_
  refine gf_X3_15 (v := .int (t_length T0)) hx hb hts hown hK hZ hP (0) rfl rfl dX3_append_1 ?_
  refine lv_bipush (v := (120 : Int32)) hx hb dX3_append_4 (by decide) ?_
  refine lv_icmp_ge (tgt := 29) hx hb dX3_append_6 (by decide) (fun c3 => ?_) (fun c3 => ?_)
  · have hV := hV.trans (if_pos c3)
    have hk := hk.1 c3
    exact hend _ _ _ _ (by rw [hV]; exact hP) (by rw [hV]; exact hD) hS dX3_append_29
  · have hV := hV.trans (if_neg c3)
    have hk := hk.2 c3
    refine lv_aload_n hx hb dX3_append_9 rfl (lv_at hl 0 rfl) ?_
    refine gf_X3_9 (v := .ref (a 1)) hx hb hts hown hK hZ hP (0) rfl rfl dX3_append_10 ?_
    refine lv_aload_n hx hb dX3_append_13 rfl (lv_at hl 0 rfl) ?_
    refine gf_X3_15 (v := .int (t_length T0)) hx hb hts hown hK hZ hP (0) rfl rfl dX3_append_14 ?_
    refine lv_iload_n hx hb dX3_append_17 rfl (lv_at hl 1 rfl) ?_
    obtain ⟨h4, hk⟩ := hk
    refine va_bast hx hb hK hP hD hS (1) 1 rfl rfl h4 dX3_append_18 (fun H locs hP hD hS => ?_)
    have hP := jeP (ja21 K a T0 (upd (t_bytes T0) ((t_length T0)).toNatClampNeg (vp_nar .byte p1))) hP
    have hD := jeD (ja21 K a T0 (upd (t_bytes T0) ((t_length T0)).toNatClampNeg (vp_nar .byte p1))) hD
    exact hc19 (t_s_bytes T0 (upd (t_bytes T0) ((t_length T0)).toNatClampNeg (vp_nar .byte p1))) _ _ _ hV hP hD hS (lv_sub hl [0, 1] rfl)
theorem dX3_sortOf_0 : decode cX3_sortOf 0 = .ok (.iload_n 0, 1) := by decide +kernel
theorem dX3_sortOf_1 : decode cX3_sortOf 1 = .ok (.bipush 97, 2) := by decide +kernel
theorem dX3_sortOf_3 : decode cX3_sortOf 3 = .ok (.if_icmp .lt 11, 3) := by decide +kernel
theorem dX3_sortOf_6 : decode cX3_sortOf 6 = .ok (.iload_n 0, 1) := by decide +kernel
theorem dX3_sortOf_7 : decode cX3_sortOf 7 = .ok (.bipush 122, 2) := by decide +kernel
theorem dX3_sortOf_9 : decode cX3_sortOf 9 = .ok (.if_icmp .gt 5, 3) := by decide +kernel
theorem dX3_sortOf_12 : decode cX3_sortOf 12 = .ok (.iconst 1, 1) := by decide +kernel
theorem dX3_sortOf_13 : decode cX3_sortOf 13 = .ok (.ireturn, 1) := by decide +kernel
theorem dX3_sortOf_14 : decode cX3_sortOf 14 = .ok (.iload_n 0, 1) := by decide +kernel
theorem dX3_sortOf_15 : decode cX3_sortOf 15 = .ok (.bipush 48, 2) := by decide +kernel
theorem dX3_sortOf_17 : decode cX3_sortOf 17 = .ok (.if_icmp .lt 11, 3) := by decide +kernel
theorem dX3_sortOf_20 : decode cX3_sortOf 20 = .ok (.iload_n 0, 1) := by decide +kernel
theorem dX3_sortOf_21 : decode cX3_sortOf 21 = .ok (.bipush 57, 2) := by decide +kernel
theorem dX3_sortOf_23 : decode cX3_sortOf 23 = .ok (.if_icmp .gt 5, 3) := by decide +kernel
theorem dX3_sortOf_26 : decode cX3_sortOf 26 = .ok (.iconst 2, 1) := by decide +kernel
theorem dX3_sortOf_27 : decode cX3_sortOf 27 = .ok (.ireturn, 1) := by decide +kernel
theorem dX3_sortOf_28 : decode cX3_sortOf 28 = .ok (.iload_n 0, 1) := by decide +kernel
theorem dX3_sortOf_29 : decode cX3_sortOf 29 = .ok (.bipush 59, 2) := by decide +kernel
theorem dX3_sortOf_31 : decode cX3_sortOf 31 = .ok (.if_icmp .ne 7, 3) := by decide +kernel
theorem dX3_sortOf_34 : decode cX3_sortOf 34 = .ok (.iconst 3, 1) := by decide +kernel
theorem dX3_sortOf_35 : decode cX3_sortOf 35 = .ok (.goto 4, 3) := by decide +kernel
theorem dX3_sortOf_38 : decode cX3_sortOf 38 = .ok (.iconst 4, 1) := by decide +kernel
theorem dX3_sortOf_39 : decode cX3_sortOf 39 = .ok (.ireturn, 1) := by decide +kernel
def rX3_sortOf : Room := { frames := 0, cells := 0, slots := 0, locals := 0 }
def vX3_sortOf_c28 (p0 : Int32) : Int32 := if (p0 = (59 : Int32)) then (3 : Int32) else (4 : Int32)
def vX3_sortOf_c14 (p0 : Int32) : Int32 := if (p0 < (48 : Int32)) then (vX3_sortOf_c28 p0) else if ((57 : Int32) < p0) then (vX3_sortOf_c28 p0) else (2 : Int32)
def vX3_sortOf (p0 : Int32) : Int32 := if (p0 < (97 : Int32)) then (vX3_sortOf_c14 p0) else if ((122 : Int32) < p0) then (vX3_sortOf_c14 p0) else (1 : Int32)
set_option maxHeartbeats 4000000 in
set_option maxRecDepth 100000 in
theorem hX3_sortOf (l : Launch) (D : va_G) (K : JK) (G : JG) (p0 : Int32) (sz : Nat) : Met l yX3_sortOf (.code yX3_sortOf cX3_sortOf 1 (some .int) :: jGW) rX3_sortOf (jPre D (jT K) G [.int p0] ([] : va_W) sz) (jQi D (jT K) (vX3_sortOf p0) ([] : va_W) (va_A ([] : va_W) sz)) 0 0 (va_A ([] : va_W) sz) := by
  refine jEi (by decide) (Nat.le_of_ble_eq_true rfl) (fun p e s m below meth c A Q ls hat hP hD hS hl hend => ?_)
  obtain ⟨hx, hb, hml, hown, hts, hK, hZ, hA⟩ := hat
  have hl : lv_has ls 1 [(0, .int p0)] := hl
  have hc28 : ∀ (H : Heap) (locs : List Loc) (ls : Array Slot), (vX3_sortOf p0) = vX3_sortOf_c28 p0 → va_P D vwCl ([] : va_W) H → va_D A ([] : va_W) → va_S A s.heap H locs → lv_has ls 1 [(0, .int p0)] → W p l e rX3_sortOf s m ([.int p0] : List Value).toArray below meth c H locs 0 0 Q (F0 m 28 ls []) := by
    intro H locs ls hV hP hD hS hl
    rw [vX3_sortOf_c28] at hV
    refine lv_iload_n hx hb dX3_sortOf_28 rfl (lv_at hl 0 rfl) ?_
    refine lv_bipush (v := (59 : Int32)) hx hb dX3_sortOf_29 (by decide) ?_
    refine lv_icmp_ne (tgt := 38) hx hb dX3_sortOf_31 (by decide) (fun c6 => ?_) (fun c6 => ?_)
    · have hV := hV.trans (if_neg c6)
      refine lv_iconst (v := (4 : Int32)) hx hb dX3_sortOf_38 (by decide) ?_
      exact hend _ _ _ _ _ hP hD hS hV.symm rfl dX3_sortOf_39
    · have hV := hV.trans (if_pos c6)
      refine lv_iconst (v := (3 : Int32)) hx hb dX3_sortOf_34 (by decide) ?_
      refine lv_goto (tgt := 39) hx hb dX3_sortOf_35 (by decide) ?_
      exact hend _ _ _ _ _ hP hD hS hV.symm rfl dX3_sortOf_39
  have hc14 : ∀ (H : Heap) (locs : List Loc) (ls : Array Slot), (vX3_sortOf p0) = vX3_sortOf_c14 p0 → va_P D vwCl ([] : va_W) H → va_D A ([] : va_W) → va_S A s.heap H locs → lv_has ls 1 [(0, .int p0)] → W p l e rX3_sortOf s m ([.int p0] : List Value).toArray below meth c H locs 0 0 Q (F0 m 14 ls []) := by
    intro H locs ls hV hP hD hS hl
    rw [vX3_sortOf_c14] at hV
    refine lv_iload_n hx hb dX3_sortOf_14 rfl (lv_at hl 0 rfl) ?_
    refine lv_bipush (v := (48 : Int32)) hx hb dX3_sortOf_15 (by decide) ?_
    refine lv_icmp_lt (tgt := 28) hx hb dX3_sortOf_17 (by decide) (fun c7 => ?_) (fun c7 => ?_)
    · have hV := hV.trans (if_pos c7)
      exact hc28 _ _ _ hV hP hD hS (lv_sub hl [0] rfl)
    · have hV := hV.trans (if_neg c7)
      refine lv_iload_n hx hb dX3_sortOf_20 rfl (lv_at hl 0 rfl) ?_
      refine lv_bipush (v := (57 : Int32)) hx hb dX3_sortOf_21 (by decide) ?_
      refine lv_icmp_gt (tgt := 28) hx hb dX3_sortOf_23 (by decide) (fun c8 => ?_) (fun c8 => ?_)
      · have hV := hV.trans (if_pos c8)
        exact hc28 _ _ _ hV hP hD hS (lv_sub hl [0] rfl)
      · have hV := hV.trans (if_neg c8)
        refine lv_iconst (v := (2 : Int32)) hx hb dX3_sortOf_26 (by decide) ?_
        exact hend _ _ _ _ _ hP hD hS hV.symm rfl dX3_sortOf_27
  have hV := vX3_sortOf.eq_1 p0
  refine lv_iload_n hx hb dX3_sortOf_0 rfl (lv_at hl 0 rfl) ?_
  refine lv_bipush (v := (97 : Int32)) hx hb dX3_sortOf_1 (by decide) ?_
  refine lv_icmp_lt (tgt := 14) hx hb dX3_sortOf_3 (by decide) (fun c9 => ?_) (fun c9 => ?_)
  · have hV := hV.trans (if_pos c9)
    exact hc14 _ _ _ hV hP hD hS (lv_sub hl [0] rfl)
  · have hV := hV.trans (if_neg c9)
    refine lv_iload_n hx hb dX3_sortOf_6 rfl (lv_at hl 0 rfl) ?_
    refine lv_bipush (v := (122 : Int32)) hx hb dX3_sortOf_7 (by decide) ?_
    refine lv_icmp_gt (tgt := 14) hx hb dX3_sortOf_9 (by decide) (fun c10 => ?_) (fun c10 => ?_)
    · have hV := hV.trans (if_pos c10)
      exact hc14 _ _ _ hV hP hD hS (lv_sub hl [0] rfl)
    · have hV := hV.trans (if_neg c10)
      refine lv_iconst (v := (1 : Int32)) hx hb dX3_sortOf_12 (by decide) ?_
      exact hend _ _ _ _ _ hP hD hS hV.symm rfl dX3_sortOf_13
theorem jf23 (K : JK) (a : Nat → Nat) (T : TS) (v : Int32) : (wT K a T).set 0 ((a 0), .inr (2, ([.ref (a 1), .int (t_length T), .int (t_sort T), .int (t_begin T), .int (t_end T), .int (t_number T), .int (t_taken T)] : List Value).set 3 (.int v))) = (wT K a (t_s_begin T v)) := rfl
theorem jf24 (K : JK) (a : Nat → Nat) (T : TS) (v : Int32) : (wT K a T).set 0 ((a 0), .inr (2, ([.ref (a 1), .int (t_length T), .int (t_sort T), .int (t_begin T), .int (t_end T), .int (t_number T), .int (t_taken T)] : List Value).set 4 (.int v))) = (wT K a (t_s_end T v)) := rfl
theorem jf25 (K : JK) (a : Nat → Nat) (T : TS) (v : Int32) : (wT K a T).set 0 ((a 0), .inr (2, ([.ref (a 1), .int (t_length T), .int (t_sort T), .int (t_begin T), .int (t_end T), .int (t_number T), .int (t_taken T)] : List Value).set 2 (.int v))) = (wT K a (t_s_sort T v)) := rfl
theorem jf26 (K : JK) (a : Nat → Nat) (T : TS) (v : Int32) : (wT K a T).set 0 ((a 0), .inr (2, ([.ref (a 1), .int (t_length T), .int (t_sort T), .int (t_begin T), .int (t_end T), .int (t_number T), .int (t_taken T)] : List Value).set 5 (.int v))) = (wT K a (t_s_number T v)) := rfl
theorem dX3_nextToken_0 : decode cX3_nextToken 0 = .ok (.aload_n 0, 1) := by decide +kernel
theorem dX3_nextToken_1 : decode cX3_nextToken 1 = .ok (.aload_n 0, 1) := by decide +kernel
theorem dX3_nextToken_2 : decode cX3_nextToken 2 = .ok (.getfield 25, 3) := by decide +kernel
theorem dX3_nextToken_5 : decode cX3_nextToken 5 = .ok (.putfield 22, 3) := by decide +kernel
theorem dX3_nextToken_8 : decode cX3_nextToken 8 = .ok (.aload_n 0, 1) := by decide +kernel
theorem dX3_nextToken_9 : decode cX3_nextToken 9 = .ok (.getfield 22, 3) := by decide +kernel
theorem dX3_nextToken_12 : decode cX3_nextToken 12 = .ok (.aload_n 0, 1) := by decide +kernel
theorem dX3_nextToken_13 : decode cX3_nextToken 13 = .ok (.getfield 15, 3) := by decide +kernel
theorem dX3_nextToken_16 : decode cX3_nextToken 16 = .ok (.if_icmp .ge 30, 3) := by decide +kernel
theorem dX3_nextToken_19 : decode cX3_nextToken 19 = .ok (.aload_n 0, 1) := by decide +kernel
theorem dX3_nextToken_20 : decode cX3_nextToken 20 = .ok (.getfield 9, 3) := by decide +kernel
theorem dX3_nextToken_23 : decode cX3_nextToken 23 = .ok (.aload_n 0, 1) := by decide +kernel
theorem dX3_nextToken_24 : decode cX3_nextToken 24 = .ok (.getfield 22, 3) := by decide +kernel
theorem dX3_nextToken_27 : decode cX3_nextToken 27 = .ok (.baload, 1) := by decide +kernel
theorem dX3_nextToken_28 : decode cX3_nextToken 28 = .ok (.bipush 32, 2) := by decide +kernel
theorem dX3_nextToken_30 : decode cX3_nextToken 30 = .ok (.if_icmp .ne 16, 3) := by decide +kernel
theorem dX3_nextToken_33 : decode cX3_nextToken 33 = .ok (.aload_n 0, 1) := by decide +kernel
theorem dX3_nextToken_34 : decode cX3_nextToken 34 = .ok (.dup, 1) := by decide +kernel
theorem dX3_nextToken_35 : decode cX3_nextToken 35 = .ok (.getfield 22, 3) := by decide +kernel
theorem dX3_nextToken_38 : decode cX3_nextToken 38 = .ok (.iconst 1, 1) := by decide +kernel
theorem dX3_nextToken_39 : decode cX3_nextToken 39 = .ok (.iadd, 1) := by decide +kernel
theorem dX3_nextToken_40 : decode cX3_nextToken 40 = .ok (.putfield 22, 3) := by decide +kernel
theorem dX3_nextToken_43 : decode cX3_nextToken 43 = .ok (.goto (-35), 3) := by decide +kernel
theorem dX3_nextToken_46 : decode cX3_nextToken 46 = .ok (.aload_n 0, 1) := by decide +kernel
theorem dX3_nextToken_47 : decode cX3_nextToken 47 = .ok (.aload_n 0, 1) := by decide +kernel
theorem dX3_nextToken_48 : decode cX3_nextToken 48 = .ok (.getfield 22, 3) := by decide +kernel
theorem dX3_nextToken_51 : decode cX3_nextToken 51 = .ok (.putfield 25, 3) := by decide +kernel
theorem dX3_nextToken_54 : decode cX3_nextToken 54 = .ok (.aload_n 0, 1) := by decide +kernel
theorem dX3_nextToken_55 : decode cX3_nextToken 55 = .ok (.aload_n 0, 1) := by decide +kernel
theorem dX3_nextToken_56 : decode cX3_nextToken 56 = .ok (.getfield 22, 3) := by decide +kernel
theorem dX3_nextToken_59 : decode cX3_nextToken 59 = .ok (.aload_n 0, 1) := by decide +kernel
theorem dX3_nextToken_60 : decode cX3_nextToken 60 = .ok (.getfield 15, 3) := by decide +kernel
theorem dX3_nextToken_63 : decode cX3_nextToken 63 = .ok (.if_icmp .ge 18, 3) := by decide +kernel
theorem dX3_nextToken_66 : decode cX3_nextToken 66 = .ok (.aload_n 0, 1) := by decide +kernel
theorem dX3_nextToken_67 : decode cX3_nextToken 67 = .ok (.getfield 9, 3) := by decide +kernel
theorem dX3_nextToken_70 : decode cX3_nextToken 70 = .ok (.aload_n 0, 1) := by decide +kernel
theorem dX3_nextToken_71 : decode cX3_nextToken 71 = .ok (.getfield 22, 3) := by decide +kernel
theorem dX3_nextToken_74 : decode cX3_nextToken 74 = .ok (.baload, 1) := by decide +kernel
theorem dX3_nextToken_75 : decode cX3_nextToken 75 = .ok (.invokestatic 143, 3) := by decide +kernel
theorem dX3_nextToken_78 : decode cX3_nextToken 78 = .ok (.goto 4, 3) := by decide +kernel
theorem dX3_nextToken_81 : decode cX3_nextToken 81 = .ok (.iconst 0, 1) := by decide +kernel
theorem dX3_nextToken_82 : decode cX3_nextToken 82 = .ok (.putfield 19, 3) := by decide +kernel
theorem dX3_nextToken_85 : decode cX3_nextToken 85 = .ok (.aload_n 0, 1) := by decide +kernel
theorem dX3_nextToken_86 : decode cX3_nextToken 86 = .ok (.iconst 0, 1) := by decide +kernel
theorem dX3_nextToken_87 : decode cX3_nextToken 87 = .ok (.putfield 28, 3) := by decide +kernel
theorem dX3_nextToken_90 : decode cX3_nextToken 90 = .ok (.aload_n 0, 1) := by decide +kernel
theorem dX3_nextToken_91 : decode cX3_nextToken 91 = .ok (.getfield 19, 3) := by decide +kernel
theorem dX3_nextToken_94 : decode cX3_nextToken 94 = .ok (.iconst 3, 1) := by decide +kernel
theorem dX3_nextToken_95 : decode cX3_nextToken 95 = .ok (.if_icmp .ne 13, 3) := by decide +kernel
theorem dX3_nextToken_98 : decode cX3_nextToken 98 = .ok (.aload_n 0, 1) := by decide +kernel
theorem dX3_nextToken_99 : decode cX3_nextToken 99 = .ok (.dup, 1) := by decide +kernel
theorem dX3_nextToken_100 : decode cX3_nextToken 100 = .ok (.getfield 25, 3) := by decide +kernel
theorem dX3_nextToken_103 : decode cX3_nextToken 103 = .ok (.iconst 1, 1) := by decide +kernel
theorem dX3_nextToken_104 : decode cX3_nextToken 104 = .ok (.iadd, 1) := by decide +kernel
theorem dX3_nextToken_105 : decode cX3_nextToken 105 = .ok (.putfield 25, 3) := by decide +kernel
theorem dX3_nextToken_108 : decode cX3_nextToken 108 = .ok (.aload_n 0, 1) := by decide +kernel
theorem dX3_nextToken_109 : decode cX3_nextToken 109 = .ok (.getfield 25, 3) := by decide +kernel
theorem dX3_nextToken_112 : decode cX3_nextToken 112 = .ok (.aload_n 0, 1) := by decide +kernel
theorem dX3_nextToken_113 : decode cX3_nextToken 113 = .ok (.getfield 15, 3) := by decide +kernel
theorem dX3_nextToken_116 : decode cX3_nextToken 116 = .ok (.if_icmp .ge 89, 3) := by decide +kernel
theorem dX3_nextToken_119 : decode cX3_nextToken 119 = .ok (.aload_n 0, 1) := by decide +kernel
theorem dX3_nextToken_120 : decode cX3_nextToken 120 = .ok (.getfield 19, 3) := by decide +kernel
theorem dX3_nextToken_123 : decode cX3_nextToken 123 = .ok (.iconst 1, 1) := by decide +kernel
theorem dX3_nextToken_124 : decode cX3_nextToken 124 = .ok (.if_icmp .eq 11, 3) := by decide +kernel
theorem dX3_nextToken_127 : decode cX3_nextToken 127 = .ok (.aload_n 0, 1) := by decide +kernel
theorem dX3_nextToken_128 : decode cX3_nextToken 128 = .ok (.getfield 19, 3) := by decide +kernel
theorem dX3_nextToken_131 : decode cX3_nextToken 131 = .ok (.iconst 2, 1) := by decide +kernel
theorem dX3_nextToken_132 : decode cX3_nextToken 132 = .ok (.if_icmp .ne 73, 3) := by decide +kernel
theorem dX3_nextToken_135 : decode cX3_nextToken 135 = .ok (.aload_n 0, 1) := by decide +kernel
theorem dX3_nextToken_136 : decode cX3_nextToken 136 = .ok (.getfield 9, 3) := by decide +kernel
theorem dX3_nextToken_139 : decode cX3_nextToken 139 = .ok (.aload_n 0, 1) := by decide +kernel
theorem dX3_nextToken_140 : decode cX3_nextToken 140 = .ok (.getfield 25, 3) := by decide +kernel
theorem dX3_nextToken_143 : decode cX3_nextToken 143 = .ok (.baload, 1) := by decide +kernel
theorem dX3_nextToken_144 : decode cX3_nextToken 144 = .ok (.invokestatic 143, 3) := by decide +kernel
theorem dX3_nextToken_147 : decode cX3_nextToken 147 = .ok (.aload_n 0, 1) := by decide +kernel
theorem dX3_nextToken_148 : decode cX3_nextToken 148 = .ok (.getfield 19, 3) := by decide +kernel
theorem dX3_nextToken_151 : decode cX3_nextToken 151 = .ok (.if_icmp .ne 54, 3) := by decide +kernel
theorem dX3_nextToken_154 : decode cX3_nextToken 154 = .ok (.aload_n 0, 1) := by decide +kernel
theorem dX3_nextToken_155 : decode cX3_nextToken 155 = .ok (.getfield 19, 3) := by decide +kernel
theorem dX3_nextToken_158 : decode cX3_nextToken 158 = .ok (.iconst 2, 1) := by decide +kernel
theorem dX3_nextToken_159 : decode cX3_nextToken 159 = .ok (.if_icmp .ne 33, 3) := by decide +kernel
theorem dX3_nextToken_162 : decode cX3_nextToken 162 = .ok (.aload_n 0, 1) := by decide +kernel
theorem dX3_nextToken_163 : decode cX3_nextToken 163 = .ok (.sipush 10000, 3) := by decide +kernel
theorem dX3_nextToken_166 : decode cX3_nextToken 166 = .ok (.bipush 10, 2) := by decide +kernel
theorem dX3_nextToken_168 : decode cX3_nextToken 168 = .ok (.aload_n 0, 1) := by decide +kernel
theorem dX3_nextToken_169 : decode cX3_nextToken 169 = .ok (.getfield 28, 3) := by decide +kernel
theorem dX3_nextToken_172 : decode cX3_nextToken 172 = .ok (.imul, 1) := by decide +kernel
theorem dX3_nextToken_173 : decode cX3_nextToken 173 = .ok (.aload_n 0, 1) := by decide +kernel
theorem dX3_nextToken_174 : decode cX3_nextToken 174 = .ok (.getfield 9, 3) := by decide +kernel
theorem dX3_nextToken_177 : decode cX3_nextToken 177 = .ok (.aload_n 0, 1) := by decide +kernel
theorem dX3_nextToken_178 : decode cX3_nextToken 178 = .ok (.getfield 25, 3) := by decide +kernel
theorem dX3_nextToken_181 : decode cX3_nextToken 181 = .ok (.baload, 1) := by decide +kernel
theorem dX3_nextToken_182 : decode cX3_nextToken 182 = .ok (.bipush 48, 2) := by decide +kernel
theorem dX3_nextToken_184 : decode cX3_nextToken 184 = .ok (.isub, 1) := by decide +kernel
theorem dX3_nextToken_185 : decode cX3_nextToken 185 = .ok (.iadd, 1) := by decide +kernel
theorem dX3_nextToken_186 : decode cX3_nextToken 186 = .ok (.invokestatic 147, 3) := by decide +kernel
theorem dX3_nextToken_189 : decode cX3_nextToken 189 = .ok (.putfield 28, 3) := by decide +kernel
theorem dX3_nextToken_192 : decode cX3_nextToken 192 = .ok (.aload_n 0, 1) := by decide +kernel
theorem dX3_nextToken_193 : decode cX3_nextToken 193 = .ok (.dup, 1) := by decide +kernel
theorem dX3_nextToken_194 : decode cX3_nextToken 194 = .ok (.getfield 25, 3) := by decide +kernel
theorem dX3_nextToken_197 : decode cX3_nextToken 197 = .ok (.iconst 1, 1) := by decide +kernel
theorem dX3_nextToken_198 : decode cX3_nextToken 198 = .ok (.iadd, 1) := by decide +kernel
theorem dX3_nextToken_199 : decode cX3_nextToken 199 = .ok (.putfield 25, 3) := by decide +kernel
theorem dX3_nextToken_202 : decode cX3_nextToken 202 = .ok (.goto (-94), 3) := by decide +kernel
theorem dX3_nextToken_205 : decode cX3_nextToken 205 = .ok (.return_, 1) := by decide +kernel
def rX3_nextToken : Room := { frames := 1, cells := 0, slots := 0, locals := 20 }
def vX3_nextToken_c202 (k : TS → TS) (T : TS) : TS := (k T)
def kX3_nextToken_c202 (q : TS → Prop) (T : TS) : Prop := (q T)
def vX3_nextToken_c192 (k : TS → TS) (T : TS) : TS := (vX3_nextToken_c202 k (t_s_end T ((t_end T) + (1 : Int32))))
def kX3_nextToken_c192 (q : TS → Prop) (T : TS) : Prop := (kX3_nextToken_c202 q (t_s_end T ((t_end T) + (1 : Int32))))
def vX3_nextToken_c135 (k : TS → TS) (T : TS) : TS := if ((vX3_sortOf ((t_bytes T) ((t_end T)).toNatClampNeg)) = (t_sort T)) then (if ((t_sort T) = (2 : Int32)) then (vX3_nextToken_c192 k (t_s_number T (jmin (10000 : Int32) (((10 : Int32) * (t_number T)) + (((t_bytes T) ((t_end T)).toNatClampNeg) - (48 : Int32)))))) else (vX3_nextToken_c192 k T)) else T
def kX3_nextToken_c135 (q : TS → Prop) (T : TS) : Prop := (vp_in (t_end T) 120) ∧ (((vX3_sortOf ((t_bytes T) ((t_end T)).toNatClampNeg)) = (t_sort T)) → ((((t_sort T) = (2 : Int32)) → ((vp_in (t_end T) 120) ∧ (kX3_nextToken_c192 q (t_s_number T (jmin (10000 : Int32) (((10 : Int32) * (t_number T)) + (((t_bytes T) ((t_end T)).toNatClampNeg) - (48 : Int32)))))))) ∧ (¬ ((t_sort T) = (2 : Int32)) → ((kX3_nextToken_c192 q T))))) ∧ (¬ ((vX3_sortOf ((t_bytes T) ((t_end T)).toNatClampNeg)) = (t_sort T)) → True)
def vX3_nextToken_c108 : Nat → TS → TS
  | 0, T => (T)
  | n + 1, T => if ((t_length T) ≤ (t_end T)) then T else if ((t_sort T) = (1 : Int32)) then (vX3_nextToken_c135 (fun T => vX3_nextToken_c108 n T) T) else if ((t_sort T) = (2 : Int32)) then (vX3_nextToken_c135 (fun T => vX3_nextToken_c108 n T) T) else T
def kX3_nextToken_c108 : Nat → TS → Prop
  | 0, _ => False
  | n + 1, T => (((t_length T) ≤ (t_end T)) → True) ∧ (¬ ((t_length T) ≤ (t_end T)) → ((((t_sort T) = (1 : Int32)) → ((kX3_nextToken_c135 (fun T => kX3_nextToken_c108 n T) T))) ∧ (¬ ((t_sort T) = (1 : Int32)) → ((((t_sort T) = (2 : Int32)) → ((kX3_nextToken_c135 (fun T => kX3_nextToken_c108 n T) T))) ∧ (¬ ((t_sort T) = (2 : Int32)) → True)))))
def vX3_nextToken_c90 (T : TS) : TS := if ((t_sort T) = (3 : Int32)) then (vX3_nextToken_c108 1024 (t_s_end T ((t_end T) + (1 : Int32)))) else (vX3_nextToken_c108 1024 T)
def kX3_nextToken_c90 (T : TS) : Prop := (((t_sort T) = (3 : Int32)) → ((kX3_nextToken_c108 1024 (t_s_end T ((t_end T) + (1 : Int32)))))) ∧ (¬ ((t_sort T) = (3 : Int32)) → ((kX3_nextToken_c108 1024 T)))
def vX3_nextToken_c85 (T : TS) : TS := (vX3_nextToken_c90 (t_s_number T (0 : Int32)))
def kX3_nextToken_c85 (T : TS) : Prop := (kX3_nextToken_c90 (t_s_number T (0 : Int32)))
def vX3_nextToken_c82 (T : TS) (y0 : Int32) : TS := (vX3_nextToken_c85 (t_s_sort T y0))
def kX3_nextToken_c82 (T : TS) (y0 : Int32) : Prop := (kX3_nextToken_c85 (t_s_sort T y0))
def vX3_nextToken_c54 (T : TS) : TS := if ((t_length T) ≤ (t_begin T)) then (vX3_nextToken_c82 T (0 : Int32)) else (vX3_nextToken_c82 T (vX3_sortOf ((t_bytes T) ((t_begin T)).toNatClampNeg)))
def kX3_nextToken_c54 (T : TS) : Prop := (((t_length T) ≤ (t_begin T)) → ((kX3_nextToken_c82 T (0 : Int32)))) ∧ (¬ ((t_length T) ≤ (t_begin T)) → ((vp_in (t_begin T) 120) ∧ (kX3_nextToken_c82 T (vX3_sortOf ((t_bytes T) ((t_begin T)).toNatClampNeg)))))
def vX3_nextToken_c46 (T : TS) : TS := (vX3_nextToken_c54 (t_s_end T (t_begin T)))
def kX3_nextToken_c46 (T : TS) : Prop := (kX3_nextToken_c54 (t_s_end T (t_begin T)))
def vX3_nextToken_c43 (k : TS → TS) (T : TS) : TS := (k T)
def kX3_nextToken_c43 (q : TS → Prop) (T : TS) : Prop := (q T)
def vX3_nextToken_c8 : Nat → TS → TS
  | 0, T => (T)
  | n + 1, T => if ((t_length T) ≤ (t_begin T)) then (vX3_nextToken_c46 T) else if (((t_bytes T) ((t_begin T)).toNatClampNeg) = (32 : Int32)) then (vX3_nextToken_c43 (fun T => vX3_nextToken_c8 n T) (t_s_begin T ((t_begin T) + (1 : Int32)))) else (vX3_nextToken_c46 T)
def kX3_nextToken_c8 : Nat → TS → Prop
  | 0, _ => False
  | n + 1, T => (((t_length T) ≤ (t_begin T)) → ((kX3_nextToken_c46 T))) ∧ (¬ ((t_length T) ≤ (t_begin T)) → ((vp_in (t_begin T) 120) ∧ ((((t_bytes T) ((t_begin T)).toNatClampNeg) = (32 : Int32)) → ((kX3_nextToken_c43 (fun T => kX3_nextToken_c8 n T) (t_s_begin T ((t_begin T) + (1 : Int32)))))) ∧ (¬ (((t_bytes T) ((t_begin T)).toNatClampNeg) = (32 : Int32)) → ((kX3_nextToken_c46 T)))))
def vX3_nextToken (T0 : TS) : TS := (vX3_nextToken_c8 1024 (t_s_begin T0 (t_end T0)))
def kX3_nextToken (T0 : TS) : Prop := (kX3_nextToken_c8 1024 (t_s_begin T0 (t_end T0)))
set_option maxHeartbeats 4000000 in
set_option maxRecDepth 100000 in
theorem hX3_nextToken (l : Launch) (D : va_G) (K : JK) (G : JG) (a : Nat → Nat) (T0 : TS) (hk : kX3_nextToken T0) (sz : Nat) : Met l yX3_nextToken (.code yX3_nextToken cX3_nextToken 1 none :: jGW) rX3_nextToken (jPre D (jT K) G [.ref (a 0)] (wT K a T0) sz) (jQv D (jT K) (wT K a (vX3_nextToken T0)) (va_A (wT K a T0) sz)) 0 0 (va_A (wT K a T0) sz) := by
  refine jEv (by decide) (Nat.le_of_ble_eq_true rfl) (fun p e s m below meth c A Q ls hat hP hD hS hl hend => ?_)
  obtain ⟨hx, hb, hml, hown, hts, hK, hZ, hA⟩ := hat
  have hl : lv_has ls 1 [(0, .ref (a 0))] := hl
  have hc108 : ∀ (n : Nat) (T : TS) (H : Heap) (locs : List Loc) (ls : Array Slot), (vX3_nextToken T0) = vX3_nextToken_c108 n T → kX3_nextToken_c108 n T → va_P D vwCl (wT K a T) H → va_D A (wT K a T) → va_S A s.heap H locs → lv_has ls 1 [(0, .ref (a 0))] → W p l e rX3_nextToken s m ([.ref (a 0)] : List Value).toArray below meth c H locs 0 0 Q (F0 m 108 ls []) := by
    intro n
    induction n with
    | zero =>
      intro T H locs ls hV hk hP hD hS hl
      exact False.elim hk
    | succ n ih =>
      have hc202 : ∀ (T : TS) (H : Heap) (locs : List Loc) (ls : Array Slot), (vX3_nextToken T0) = vX3_nextToken_c202 (fun T => vX3_nextToken_c108 n T) T → kX3_nextToken_c202 (fun T => kX3_nextToken_c108 n T) T → va_P D vwCl (wT K a T) H → va_D A (wT K a T) → va_S A s.heap H locs → lv_has ls 1 [(0, .ref (a 0))] → W p l e rX3_nextToken s m ([.ref (a 0)] : List Value).toArray below meth c H locs 0 0 Q (F0 m 202 ls []) := by
        intro T H locs ls hV hk hP hD hS hl
        rw [vX3_nextToken_c202] at hV
        rw [kX3_nextToken_c202] at hk
        refine lv_goto (tgt := 108) hx hb dX3_nextToken_202 (by decide) ?_
        exact ih T _ _ _ hV hk hP hD hS (lv_sub hl [0] rfl)
      have hc192 : ∀ (T : TS) (H : Heap) (locs : List Loc) (ls : Array Slot), (vX3_nextToken T0) = vX3_nextToken_c192 (fun T => vX3_nextToken_c108 n T) T → kX3_nextToken_c192 (fun T => kX3_nextToken_c108 n T) T → va_P D vwCl (wT K a T) H → va_D A (wT K a T) → va_S A s.heap H locs → lv_has ls 1 [(0, .ref (a 0))] → W p l e rX3_nextToken s m ([.ref (a 0)] : List Value).toArray below meth c H locs 0 0 Q (F0 m 192 ls []) := by
        intro T H locs ls hV hk hP hD hS hl
        rw [vX3_nextToken_c192] at hV
        rw [kX3_nextToken_c192] at hk
        refine lv_aload_n hx hb dX3_nextToken_192 rfl (lv_at hl 0 rfl) ?_
        refine lv_dup hx hb dX3_nextToken_193 rfl ?_
        refine gf_X3_25 (v := .int (t_end T)) hx hb hts hown hK hZ hP (0) rfl rfl dX3_nextToken_194 ?_
        refine lv_iconst (v := (1 : Int32)) hx hb dX3_nextToken_197 (by decide) ?_
        refine lv_iadd hx hb dX3_nextToken_198 ?_
        refine pf_X3_25 (v := .int ((t_end T) + (1 : Int32))) hx hb hts hown hK hZ hP hD hS (0) rfl rfl rfl (Nat.le_of_ble_eq_true rfl) dX3_nextToken_199 (fun H locs hP hD hS => ?_)
        have hP := jeP (jf24 K a T ((t_end T) + (1 : Int32))) hP
        have hD := jeD (jf24 K a T ((t_end T) + (1 : Int32))) hD
        exact hc202 (t_s_end T ((t_end T) + (1 : Int32))) _ _ _ hV hk hP hD hS (lv_sub hl [0] rfl)
      have hc135 : ∀ (T : TS) (H : Heap) (locs : List Loc) (ls : Array Slot), (vX3_nextToken T0) = vX3_nextToken_c135 (fun T => vX3_nextToken_c108 n T) T → kX3_nextToken_c135 (fun T => kX3_nextToken_c108 n T) T → va_P D vwCl (wT K a T) H → va_D A (wT K a T) → va_S A s.heap H locs → lv_has ls 1 [(0, .ref (a 0))] → W p l e rX3_nextToken s m ([.ref (a 0)] : List Value).toArray below meth c H locs 0 0 Q (F0 m 135 ls []) := by
        intro T H locs ls hV hk hP hD hS hl
        rw [vX3_nextToken_c135] at hV
        rw [kX3_nextToken_c135] at hk
        refine lv_aload_n hx hb dX3_nextToken_135 rfl (lv_at hl 0 rfl) ?_
        refine gf_X3_9 (v := .ref (a 1)) hx hb hts hown hK hZ hP (0) rfl rfl dX3_nextToken_136 ?_
        refine lv_aload_n hx hb dX3_nextToken_139 rfl (lv_at hl 0 rfl) ?_
        refine gf_X3_25 (v := .int (t_end T)) hx hb hts hown hK hZ hP (0) rfl rfl dX3_nextToken_140 ?_
        obtain ⟨h14, hk⟩ := hk
        refine va_bald hx hb hK hP (1) 1 rfl rfl h14 dX3_nextToken_143 ?_
        refine jci0 (jrunS (As := [.int ((t_bytes T) ((t_end T)).toNatClampNeg)]) (rest := []) hx hb hml hown hts hK hZ hA hP hD hS hl.1 mf_X3_sortOf kl_X3_143 ⟨rfl, rfl, Nat.le_of_ble_eq_true rfl, Nat.le_of_ble_eq_true rfl⟩ ⟨Nat.zero_le _, Nat.zero_le _⟩ [] rfl rfl (hX3_sortOf l D K G ((t_bytes T) ((t_end T)).toNatClampNeg) _) rfl rfl (Nat.le_of_ble_eq_true rfl) dX3_nextToken_144) hA hP hD hS [] rfl (fun H locs hP hS => ?_)
        refine lv_aload_n hx hb dX3_nextToken_147 rfl (lv_at hl 0 rfl) ?_
        refine gf_X3_19 (v := .int (t_sort T)) hx hb hts hown hK hZ hP (0) rfl rfl dX3_nextToken_148 ?_
        refine lv_icmp_ne (tgt := 205) hx hb dX3_nextToken_151 (by decide) (fun c15 => ?_) (fun c15 => ?_)
        · have hV := hV.trans (if_neg c15)
          have hk := hk.2 c15
          exact hend _ _ _ _ (by rw [hV]; exact hP) (by rw [hV]; exact hD) hS dX3_nextToken_205
        · have hV := hV.trans (if_pos c15)
          have hk := hk.1 c15
          refine lv_aload_n hx hb dX3_nextToken_154 rfl (lv_at hl 0 rfl) ?_
          refine gf_X3_19 (v := .int (t_sort T)) hx hb hts hown hK hZ hP (0) rfl rfl dX3_nextToken_155 ?_
          refine lv_iconst (v := (2 : Int32)) hx hb dX3_nextToken_158 (by decide) ?_
          refine lv_icmp_ne (tgt := 192) hx hb dX3_nextToken_159 (by decide) (fun c16 => ?_) (fun c16 => ?_)
          · have hV := hV.trans (if_neg c16)
            have hk := hk.2 c16
            exact hc192 T _ _ _ hV hk hP hD hS (lv_sub hl [0] rfl)
          · have hV := hV.trans (if_pos c16)
            have hk := hk.1 c16
            refine lv_aload_n hx hb dX3_nextToken_162 rfl (lv_at hl 0 rfl) ?_
            refine lv_sipush (v := (10000 : Int32)) hx hb dX3_nextToken_163 (by decide) ?_
            refine lv_bipush (v := (10 : Int32)) hx hb dX3_nextToken_166 (by decide) ?_
            refine lv_aload_n hx hb dX3_nextToken_168 rfl (lv_at hl 0 rfl) ?_
            refine gf_X3_28 (v := .int (t_number T)) hx hb hts hown hK hZ hP (0) rfl rfl dX3_nextToken_169 ?_
            refine lv_imul hx hb dX3_nextToken_172 ?_
            refine lv_aload_n hx hb dX3_nextToken_173 rfl (lv_at hl 0 rfl) ?_
            refine gf_X3_9 (v := .ref (a 1)) hx hb hts hown hK hZ hP (0) rfl rfl dX3_nextToken_174 ?_
            refine lv_aload_n hx hb dX3_nextToken_177 rfl (lv_at hl 0 rfl) ?_
            refine gf_X3_25 (v := .int (t_end T)) hx hb hts hown hK hZ hP (0) rfl rfl dX3_nextToken_178 ?_
            obtain ⟨h17, hk⟩ := hk
            refine va_bald hx hb hK hP (1) 1 rfl rfl h17 dX3_nextToken_181 ?_
            refine lv_bipush (v := (48 : Int32)) hx hb dX3_nextToken_182 (by decide) ?_
            refine lv_isub hx hb dX3_nextToken_184 ?_
            refine lv_iadd hx hb dX3_nextToken_185 ?_
            refine mmin_X3_147 hx hb (hml.trans hl.1.symm) hts hown (Nat.le_of_ble_eq_true rfl) (Nat.le_of_ble_eq_true rfl) (Nat.zero_le _) (Nat.zero_le _) dX3_nextToken_186 ?_
            refine pf_X3_28 (v := .int (jmin (10000 : Int32) (((10 : Int32) * (t_number T)) + (((t_bytes T) ((t_end T)).toNatClampNeg) - (48 : Int32))))) hx hb hts hown hK hZ hP hD hS (0) rfl rfl rfl (Nat.le_of_ble_eq_true rfl) dX3_nextToken_189 (fun H locs hP hD hS => ?_)
            have hP := jeP (jf26 K a T (jmin (10000 : Int32) (((10 : Int32) * (t_number T)) + (((t_bytes T) ((t_end T)).toNatClampNeg) - (48 : Int32))))) hP
            have hD := jeD (jf26 K a T (jmin (10000 : Int32) (((10 : Int32) * (t_number T)) + (((t_bytes T) ((t_end T)).toNatClampNeg) - (48 : Int32))))) hD
            exact hc192 (t_s_number T (jmin (10000 : Int32) (((10 : Int32) * (t_number T)) + (((t_bytes T) ((t_end T)).toNatClampNeg) - (48 : Int32))))) _ _ _ hV hk hP hD hS (lv_sub hl [0] rfl)
      intro T H locs ls hV hk hP hD hS hl
      rw [vX3_nextToken_c108] at hV
      rw [kX3_nextToken_c108] at hk
      refine lv_aload_n hx hb dX3_nextToken_108 rfl (lv_at hl 0 rfl) ?_
      refine gf_X3_25 (v := .int (t_end T)) hx hb hts hown hK hZ hP (0) rfl rfl dX3_nextToken_109 ?_
      refine lv_aload_n hx hb dX3_nextToken_112 rfl (lv_at hl 0 rfl) ?_
      refine gf_X3_15 (v := .int (t_length T)) hx hb hts hown hK hZ hP (0) rfl rfl dX3_nextToken_113 ?_
      refine lv_icmp_ge (tgt := 205) hx hb dX3_nextToken_116 (by decide) (fun c18 => ?_) (fun c18 => ?_)
      · have hV := hV.trans (if_pos c18)
        have hk := hk.1 c18
        exact hend _ _ _ _ (by rw [hV]; exact hP) (by rw [hV]; exact hD) hS dX3_nextToken_205
      · have hV := hV.trans (if_neg c18)
        have hk := hk.2 c18
        refine lv_aload_n hx hb dX3_nextToken_119 rfl (lv_at hl 0 rfl) ?_
        refine gf_X3_19 (v := .int (t_sort T)) hx hb hts hown hK hZ hP (0) rfl rfl dX3_nextToken_120 ?_
        refine lv_iconst (v := (1 : Int32)) hx hb dX3_nextToken_123 (by decide) ?_
        refine lv_icmp_eq (tgt := 135) hx hb dX3_nextToken_124 (by decide) (fun c19 => ?_) (fun c19 => ?_)
        · have hV := hV.trans (if_pos c19)
          have hk := hk.1 c19
          exact hc135 T _ _ _ hV hk hP hD hS (lv_sub hl [0] rfl)
        · have hV := hV.trans (if_neg c19)
          have hk := hk.2 c19
          refine lv_aload_n hx hb dX3_nextToken_127 rfl (lv_at hl 0 rfl) ?_
          refine gf_X3_19 (v := .int (t_sort T)) hx hb hts hown hK hZ hP (0) rfl rfl dX3_nextToken_128 ?_
          refine lv_iconst (v := (2 : Int32)) hx hb dX3_nextToken_131 (by decide) ?_
          refine lv_icmp_ne (tgt := 205) hx hb dX3_nextToken_132 (by decide) (fun c20 => ?_) (fun c20 => ?_)
          · have hV := hV.trans (if_neg c20)
            have hk := hk.2 c20
            exact hend _ _ _ _ (by rw [hV]; exact hP) (by rw [hV]; exact hD) hS dX3_nextToken_205
          · have hV := hV.trans (if_pos c20)
            have hk := hk.1 c20
            exact hc135 T _ _ _ hV hk hP hD hS (lv_sub hl [0] rfl)
  have hc90 : ∀ (T : TS) (H : Heap) (locs : List Loc) (ls : Array Slot), (vX3_nextToken T0) = vX3_nextToken_c90 T → kX3_nextToken_c90 T → va_P D vwCl (wT K a T) H → va_D A (wT K a T) → va_S A s.heap H locs → lv_has ls 1 [(0, .ref (a 0))] → W p l e rX3_nextToken s m ([.ref (a 0)] : List Value).toArray below meth c H locs 0 0 Q (F0 m 90 ls []) := by
    intro T H locs ls hV hk hP hD hS hl
    rw [vX3_nextToken_c90] at hV
    rw [kX3_nextToken_c90] at hk
    refine lv_aload_n hx hb dX3_nextToken_90 rfl (lv_at hl 0 rfl) ?_
    refine gf_X3_19 (v := .int (t_sort T)) hx hb hts hown hK hZ hP (0) rfl rfl dX3_nextToken_91 ?_
    refine lv_iconst (v := (3 : Int32)) hx hb dX3_nextToken_94 (by decide) ?_
    refine lv_icmp_ne (tgt := 108) hx hb dX3_nextToken_95 (by decide) (fun c21 => ?_) (fun c21 => ?_)
    · have hV := hV.trans (if_neg c21)
      have hk := hk.2 c21
      exact hc108 1024 T _ _ _ hV hk hP hD hS (lv_sub hl [0] rfl)
    · have hV := hV.trans (if_pos c21)
      have hk := hk.1 c21
      refine lv_aload_n hx hb dX3_nextToken_98 rfl (lv_at hl 0 rfl) ?_
      refine lv_dup hx hb dX3_nextToken_99 rfl ?_
      refine gf_X3_25 (v := .int (t_end T)) hx hb hts hown hK hZ hP (0) rfl rfl dX3_nextToken_100 ?_
      refine lv_iconst (v := (1 : Int32)) hx hb dX3_nextToken_103 (by decide) ?_
      refine lv_iadd hx hb dX3_nextToken_104 ?_
      refine pf_X3_25 (v := .int ((t_end T) + (1 : Int32))) hx hb hts hown hK hZ hP hD hS (0) rfl rfl rfl (Nat.le_of_ble_eq_true rfl) dX3_nextToken_105 (fun H locs hP hD hS => ?_)
      have hP := jeP (jf24 K a T ((t_end T) + (1 : Int32))) hP
      have hD := jeD (jf24 K a T ((t_end T) + (1 : Int32))) hD
      exact hc108 1024 (t_s_end T ((t_end T) + (1 : Int32))) _ _ _ hV hk hP hD hS (lv_sub hl [0] rfl)
  have hc85 : ∀ (T : TS) (H : Heap) (locs : List Loc) (ls : Array Slot), (vX3_nextToken T0) = vX3_nextToken_c85 T → kX3_nextToken_c85 T → va_P D vwCl (wT K a T) H → va_D A (wT K a T) → va_S A s.heap H locs → lv_has ls 1 [(0, .ref (a 0))] → W p l e rX3_nextToken s m ([.ref (a 0)] : List Value).toArray below meth c H locs 0 0 Q (F0 m 85 ls []) := by
    intro T H locs ls hV hk hP hD hS hl
    rw [vX3_nextToken_c85] at hV
    rw [kX3_nextToken_c85] at hk
    refine lv_aload_n hx hb dX3_nextToken_85 rfl (lv_at hl 0 rfl) ?_
    refine lv_iconst (v := (0 : Int32)) hx hb dX3_nextToken_86 (by decide) ?_
    refine pf_X3_28 (v := .int (0 : Int32)) hx hb hts hown hK hZ hP hD hS (0) rfl rfl rfl (Nat.le_of_ble_eq_true rfl) dX3_nextToken_87 (fun H locs hP hD hS => ?_)
    have hP := jeP (jf26 K a T (0 : Int32)) hP
    have hD := jeD (jf26 K a T (0 : Int32)) hD
    exact hc90 (t_s_number T (0 : Int32)) _ _ _ hV hk hP hD hS (lv_sub hl [0] rfl)
  have hc82 : ∀ (T : TS) (y0 : Int32) (H : Heap) (locs : List Loc) (ls : Array Slot), (vX3_nextToken T0) = vX3_nextToken_c82 T y0 → kX3_nextToken_c82 T y0 → va_P D vwCl (wT K a T) H → va_D A (wT K a T) → va_S A s.heap H locs → lv_has ls 1 [(0, .ref (a 0))] → W p l e rX3_nextToken s m ([.ref (a 0)] : List Value).toArray below meth c H locs 0 0 Q (F0 m 82 ls [.int y0, .ref (a 0)]) := by
    intro T y0 H locs ls hV hk hP hD hS hl
    rw [vX3_nextToken_c82] at hV
    rw [kX3_nextToken_c82] at hk
    refine pf_X3_19 (v := .int y0) hx hb hts hown hK hZ hP hD hS (0) rfl rfl rfl (Nat.le_of_ble_eq_true rfl) dX3_nextToken_82 (fun H locs hP hD hS => ?_)
    have hP := jeP (jf25 K a T y0) hP
    have hD := jeD (jf25 K a T y0) hD
    exact hc85 (t_s_sort T y0) _ _ _ hV hk hP hD hS (lv_sub hl [0] rfl)
  have hc54 : ∀ (T : TS) (H : Heap) (locs : List Loc) (ls : Array Slot), (vX3_nextToken T0) = vX3_nextToken_c54 T → kX3_nextToken_c54 T → va_P D vwCl (wT K a T) H → va_D A (wT K a T) → va_S A s.heap H locs → lv_has ls 1 [(0, .ref (a 0))] → W p l e rX3_nextToken s m ([.ref (a 0)] : List Value).toArray below meth c H locs 0 0 Q (F0 m 54 ls []) := by
    intro T H locs ls hV hk hP hD hS hl
    rw [vX3_nextToken_c54] at hV
    rw [kX3_nextToken_c54] at hk
    refine lv_aload_n hx hb dX3_nextToken_54 rfl (lv_at hl 0 rfl) ?_
    refine lv_aload_n hx hb dX3_nextToken_55 rfl (lv_at hl 0 rfl) ?_
    refine gf_X3_22 (v := .int (t_begin T)) hx hb hts hown hK hZ hP (0) rfl rfl dX3_nextToken_56 ?_
    refine lv_aload_n hx hb dX3_nextToken_59 rfl (lv_at hl 0 rfl) ?_
    refine gf_X3_15 (v := .int (t_length T)) hx hb hts hown hK hZ hP (0) rfl rfl dX3_nextToken_60 ?_
    refine lv_icmp_ge (tgt := 81) hx hb dX3_nextToken_63 (by decide) (fun c22 => ?_) (fun c22 => ?_)
    · have hV := hV.trans (if_pos c22)
      have hk := hk.1 c22
      refine lv_iconst (v := (0 : Int32)) hx hb dX3_nextToken_81 (by decide) ?_
      exact hc82 T (0 : Int32) _ _ _ hV hk hP hD hS (lv_sub hl [0] rfl)
    · have hV := hV.trans (if_neg c22)
      have hk := hk.2 c22
      refine lv_aload_n hx hb dX3_nextToken_66 rfl (lv_at hl 0 rfl) ?_
      refine gf_X3_9 (v := .ref (a 1)) hx hb hts hown hK hZ hP (0) rfl rfl dX3_nextToken_67 ?_
      refine lv_aload_n hx hb dX3_nextToken_70 rfl (lv_at hl 0 rfl) ?_
      refine gf_X3_22 (v := .int (t_begin T)) hx hb hts hown hK hZ hP (0) rfl rfl dX3_nextToken_71 ?_
      obtain ⟨h23, hk⟩ := hk
      refine va_bald hx hb hK hP (1) 1 rfl rfl h23 dX3_nextToken_74 ?_
      refine jci0 (jrunS (As := [.int ((t_bytes T) ((t_begin T)).toNatClampNeg)]) (rest := [.ref (a 0)]) hx hb hml hown hts hK hZ hA hP hD hS hl.1 mf_X3_sortOf kl_X3_143 ⟨rfl, rfl, Nat.le_of_ble_eq_true rfl, Nat.le_of_ble_eq_true rfl⟩ ⟨Nat.zero_le _, Nat.zero_le _⟩ [] rfl rfl (hX3_sortOf l D K G ((t_bytes T) ((t_begin T)).toNatClampNeg) _) rfl rfl (Nat.le_of_ble_eq_true rfl) dX3_nextToken_75) hA hP hD hS [] rfl (fun H locs hP hS => ?_)
      refine lv_goto (tgt := 82) hx hb dX3_nextToken_78 (by decide) ?_
      exact hc82 T (vX3_sortOf ((t_bytes T) ((t_begin T)).toNatClampNeg)) _ _ _ hV hk hP hD hS (lv_sub hl [0] rfl)
  have hc46 : ∀ (T : TS) (H : Heap) (locs : List Loc) (ls : Array Slot), (vX3_nextToken T0) = vX3_nextToken_c46 T → kX3_nextToken_c46 T → va_P D vwCl (wT K a T) H → va_D A (wT K a T) → va_S A s.heap H locs → lv_has ls 1 [(0, .ref (a 0))] → W p l e rX3_nextToken s m ([.ref (a 0)] : List Value).toArray below meth c H locs 0 0 Q (F0 m 46 ls []) := by
    intro T H locs ls hV hk hP hD hS hl
    rw [vX3_nextToken_c46] at hV
    rw [kX3_nextToken_c46] at hk
    refine lv_aload_n hx hb dX3_nextToken_46 rfl (lv_at hl 0 rfl) ?_
    refine lv_aload_n hx hb dX3_nextToken_47 rfl (lv_at hl 0 rfl) ?_
    refine gf_X3_22 (v := .int (t_begin T)) hx hb hts hown hK hZ hP (0) rfl rfl dX3_nextToken_48 ?_
    refine pf_X3_25 (v := .int (t_begin T)) hx hb hts hown hK hZ hP hD hS (0) rfl rfl rfl (Nat.le_of_ble_eq_true rfl) dX3_nextToken_51 (fun H locs hP hD hS => ?_)
    have hP := jeP (jf24 K a T (t_begin T)) hP
    have hD := jeD (jf24 K a T (t_begin T)) hD
    exact hc54 (t_s_end T (t_begin T)) _ _ _ hV hk hP hD hS (lv_sub hl [0] rfl)
  have hc8 : ∀ (n : Nat) (T : TS) (H : Heap) (locs : List Loc) (ls : Array Slot), (vX3_nextToken T0) = vX3_nextToken_c8 n T → kX3_nextToken_c8 n T → va_P D vwCl (wT K a T) H → va_D A (wT K a T) → va_S A s.heap H locs → lv_has ls 1 [(0, .ref (a 0))] → W p l e rX3_nextToken s m ([.ref (a 0)] : List Value).toArray below meth c H locs 0 0 Q (F0 m 8 ls []) := by
    intro n
    induction n with
    | zero =>
      intro T H locs ls hV hk hP hD hS hl
      exact False.elim hk
    | succ n ih =>
      have hc43 : ∀ (T : TS) (H : Heap) (locs : List Loc) (ls : Array Slot), (vX3_nextToken T0) = vX3_nextToken_c43 (fun T => vX3_nextToken_c8 n T) T → kX3_nextToken_c43 (fun T => kX3_nextToken_c8 n T) T → va_P D vwCl (wT K a T) H → va_D A (wT K a T) → va_S A s.heap H locs → lv_has ls 1 [(0, .ref (a 0))] → W p l e rX3_nextToken s m ([.ref (a 0)] : List Value).toArray below meth c H locs 0 0 Q (F0 m 43 ls []) := by
        intro T H locs ls hV hk hP hD hS hl
        rw [vX3_nextToken_c43] at hV
        rw [kX3_nextToken_c43] at hk
        refine lv_goto (tgt := 8) hx hb dX3_nextToken_43 (by decide) ?_
        exact ih T _ _ _ hV hk hP hD hS (lv_sub hl [0] rfl)
      intro T H locs ls hV hk hP hD hS hl
      rw [vX3_nextToken_c8] at hV
      rw [kX3_nextToken_c8] at hk
      refine lv_aload_n hx hb dX3_nextToken_8 rfl (lv_at hl 0 rfl) ?_
      refine gf_X3_22 (v := .int (t_begin T)) hx hb hts hown hK hZ hP (0) rfl rfl dX3_nextToken_9 ?_
      refine lv_aload_n hx hb dX3_nextToken_12 rfl (lv_at hl 0 rfl) ?_
      refine gf_X3_15 (v := .int (t_length T)) hx hb hts hown hK hZ hP (0) rfl rfl dX3_nextToken_13 ?_
      refine lv_icmp_ge (tgt := 46) hx hb dX3_nextToken_16 (by decide) (fun c24 => ?_) (fun c24 => ?_)
      · have hV := hV.trans (if_pos c24)
        have hk := hk.1 c24
        exact hc46 T _ _ _ hV hk hP hD hS (lv_sub hl [0] rfl)
      · have hV := hV.trans (if_neg c24)
        have hk := hk.2 c24
        refine lv_aload_n hx hb dX3_nextToken_19 rfl (lv_at hl 0 rfl) ?_
        refine gf_X3_9 (v := .ref (a 1)) hx hb hts hown hK hZ hP (0) rfl rfl dX3_nextToken_20 ?_
        refine lv_aload_n hx hb dX3_nextToken_23 rfl (lv_at hl 0 rfl) ?_
        refine gf_X3_22 (v := .int (t_begin T)) hx hb hts hown hK hZ hP (0) rfl rfl dX3_nextToken_24 ?_
        obtain ⟨h25, hk⟩ := hk
        refine va_bald hx hb hK hP (1) 1 rfl rfl h25 dX3_nextToken_27 ?_
        refine lv_bipush (v := (32 : Int32)) hx hb dX3_nextToken_28 (by decide) ?_
        refine lv_icmp_ne (tgt := 46) hx hb dX3_nextToken_30 (by decide) (fun c26 => ?_) (fun c26 => ?_)
        · have hV := hV.trans (if_neg c26)
          have hk := hk.2 c26
          exact hc46 T _ _ _ hV hk hP hD hS (lv_sub hl [0] rfl)
        · have hV := hV.trans (if_pos c26)
          have hk := hk.1 c26
          refine lv_aload_n hx hb dX3_nextToken_33 rfl (lv_at hl 0 rfl) ?_
          refine lv_dup hx hb dX3_nextToken_34 rfl ?_
          refine gf_X3_22 (v := .int (t_begin T)) hx hb hts hown hK hZ hP (0) rfl rfl dX3_nextToken_35 ?_
          refine lv_iconst (v := (1 : Int32)) hx hb dX3_nextToken_38 (by decide) ?_
          refine lv_iadd hx hb dX3_nextToken_39 ?_
          refine pf_X3_22 (v := .int ((t_begin T) + (1 : Int32))) hx hb hts hown hK hZ hP hD hS (0) rfl rfl rfl (Nat.le_of_ble_eq_true rfl) dX3_nextToken_40 (fun H locs hP hD hS => ?_)
          have hP := jeP (jf23 K a T ((t_begin T) + (1 : Int32))) hP
          have hD := jeD (jf23 K a T ((t_begin T) + (1 : Int32))) hD
          exact hc43 (t_s_begin T ((t_begin T) + (1 : Int32))) _ _ _ hV hk hP hD hS (lv_sub hl [0] rfl)
  have hV := vX3_nextToken.eq_1 T0
  rw [kX3_nextToken] at hk
  refine lv_aload_n hx hb dX3_nextToken_0 rfl (lv_at hl 0 rfl) ?_
  refine lv_aload_n hx hb dX3_nextToken_1 rfl (lv_at hl 0 rfl) ?_
  refine gf_X3_25 (v := .int (t_end T0)) hx hb hts hown hK hZ hP (0) rfl rfl dX3_nextToken_2 ?_
  refine pf_X3_22 (v := .int (t_end T0)) hx hb hts hown hK hZ hP hD hS (0) rfl rfl rfl (Nat.le_of_ble_eq_true rfl) dX3_nextToken_5 (fun H locs hP hD hS => ?_)
  have hP := jeP (jf23 K a T0 (t_end T0)) hP
  have hD := jeD (jf23 K a T0 (t_end T0)) hD
  exact hc8 1024 (t_s_begin T0 (t_end T0)) _ _ _ hV hk hP hD hS (lv_sub hl [0] rfl)
theorem jf27 (K : JK) (a : Nat → Nat) (T : TS) (v : Int32) : (wT K a T).set 0 ((a 0), .inr (2, ([.ref (a 1), .int (t_length T), .int (t_sort T), .int (t_begin T), .int (t_end T), .int (t_number T), .int (t_taken T)] : List Value).set 6 (.int v))) = (wT K a (t_s_taken T v)) := rfl
theorem js28 (K : JK) (a : Nat → Nat) (T : TS) : [0, 1].map (fun i => (wT K a T)[i]?) = (wT K a T).map some := rfl
theorem jh29 (K : JK) (a : Nat → Nat) (T : TS) (Z0 : TS) : (wT K a Z0).map Prod.fst = (wT K a T).map Prod.fst := rfl
theorem jp30 (K : JK) (a : Nat → Nat) (T : TS) (Z0 : TS) : jput (wT K a T) [0, 1] (wT K a Z0) = (wT K a Z0) := rfl
theorem dX3_takeNumber_0 : decode cX3_takeNumber 0 = .ok (.aload_n 0, 1) := by decide +kernel
theorem dX3_takeNumber_1 : decode cX3_takeNumber 1 = .ok (.getfield 19, 3) := by decide +kernel
theorem dX3_takeNumber_4 : decode cX3_takeNumber 4 = .ok (.iconst 2, 1) := by decide +kernel
theorem dX3_takeNumber_5 : decode cX3_takeNumber 5 = .ok (.if_icmp .ne 15, 3) := by decide +kernel
theorem dX3_takeNumber_8 : decode cX3_takeNumber 8 = .ok (.aload_n 0, 1) := by decide +kernel
theorem dX3_takeNumber_9 : decode cX3_takeNumber 9 = .ok (.getfield 28, 3) := by decide +kernel
theorem dX3_takeNumber_12 : decode cX3_takeNumber 12 = .ok (.iload_n 1, 1) := by decide +kernel
theorem dX3_takeNumber_13 : decode cX3_takeNumber 13 = .ok (.iload_n 2, 1) := by decide +kernel
theorem dX3_takeNumber_14 : decode cX3_takeNumber 14 = .ok (.invokestatic 108, 3) := by decide +kernel
theorem dX3_takeNumber_17 : decode cX3_takeNumber 17 = .ok (.ifCond .ne 5, 3) := by decide +kernel
theorem dX3_takeNumber_20 : decode cX3_takeNumber 20 = .ok (.iconst 0, 1) := by decide +kernel
theorem dX3_takeNumber_21 : decode cX3_takeNumber 21 = .ok (.ireturn, 1) := by decide +kernel
theorem dX3_takeNumber_22 : decode cX3_takeNumber 22 = .ok (.aload_n 0, 1) := by decide +kernel
theorem dX3_takeNumber_23 : decode cX3_takeNumber 23 = .ok (.aload_n 0, 1) := by decide +kernel
theorem dX3_takeNumber_24 : decode cX3_takeNumber 24 = .ok (.getfield 28, 3) := by decide +kernel
theorem dX3_takeNumber_27 : decode cX3_takeNumber 27 = .ok (.putfield 31, 3) := by decide +kernel
theorem dX3_takeNumber_30 : decode cX3_takeNumber 30 = .ok (.aload_n 0, 1) := by decide +kernel
theorem dX3_takeNumber_31 : decode cX3_takeNumber 31 = .ok (.invokevirtual 34, 3) := by decide +kernel
theorem dX3_takeNumber_34 : decode cX3_takeNumber 34 = .ok (.iconst 1, 1) := by decide +kernel
theorem dX3_takeNumber_35 : decode cX3_takeNumber 35 = .ok (.ireturn, 1) := by decide +kernel
def rX3_takeNumber : Room := { frames := 2, cells := 0, slots := 0, locals := 40 }
def vX3_takeNumber_c30 (p1 : Int32) (p2 : Int32) (T : TS) : Int32 × TS := ((1 : Int32), (vX3_nextToken T))
def kX3_takeNumber_c30 (p1 : Int32) (p2 : Int32) (T : TS) : Prop := (kX3_nextToken T) ∧ True
def vX3_takeNumber (T0 : TS) (p1 : Int32) (p2 : Int32) : Int32 × TS := if ((t_sort T0) = (2 : Int32)) then (if ((vX4_within (t_number T0) p1 p2) = 0) then ((0 : Int32), T0) else (vX3_takeNumber_c30 p1 p2 (t_s_taken T0 (t_number T0)))) else ((0 : Int32), T0)
def kX3_takeNumber (T0 : TS) (p1 : Int32) (p2 : Int32) : Prop := (((t_sort T0) = (2 : Int32)) → ((((vX4_within (t_number T0) p1 p2) = 0) → True) ∧ (¬ ((vX4_within (t_number T0) p1 p2) = 0) → ((kX3_takeNumber_c30 p1 p2 (t_s_taken T0 (t_number T0))))))) ∧ (¬ ((t_sort T0) = (2 : Int32)) → True)
set_option maxHeartbeats 4000000 in
set_option maxRecDepth 100000 in
theorem hX3_takeNumber (l : Launch) (D : va_G) (K : JK) (G : JG) (a : Nat → Nat) (T0 : TS) (p1 : Int32) (p2 : Int32) (hk : kX3_takeNumber T0 p1 p2) (sz : Nat) : Met l yX3_takeNumber (.code yX3_takeNumber cX3_takeNumber 3 (some .boolean) :: jGW) rX3_takeNumber (jPre D (jT K) G [.ref (a 0), .int p1, .int p2] (wT K a T0) sz) (jQi D (jT K) ((vX3_takeNumber T0 p1 p2).1) (wT K a ((vX3_takeNumber T0 p1 p2).2)) (va_A (wT K a T0) sz)) 0 0 (va_A (wT K a T0) sz) := by
  refine jEi (by decide) (Nat.le_of_ble_eq_true rfl) (fun p e s m below meth c A Q ls hat hP hD hS hl hend => ?_)
  obtain ⟨hx, hb, hml, hown, hts, hK, hZ, hA⟩ := hat
  have hl : lv_has ls 3 [(0, .ref (a 0)), (1, .int p1), (2, .int p2)] := hl
  have hc30 : ∀ (T : TS) (H : Heap) (locs : List Loc) (ls : Array Slot), (vX3_takeNumber T0 p1 p2) = vX3_takeNumber_c30 p1 p2 T → kX3_takeNumber_c30 p1 p2 T → va_P D vwCl (wT K a T) H → va_D A (wT K a T) → va_S A s.heap H locs → lv_has ls 3 [(0, .ref (a 0)), (1, .int p1), (2, .int p2)] → W p l e rX3_takeNumber s m ([.ref (a 0), .int p1, .int p2] : List Value).toArray below meth c H locs 0 0 Q (F0 m 30 ls []) := by
    intro T H locs ls hV hk hP hD hS hl
    rw [vX3_takeNumber_c30] at hV
    rw [kX3_takeNumber_c30] at hk
    refine lv_aload_n hx hb dX3_takeNumber_30 rfl (lv_at hl 0 rfl) ?_
    obtain ⟨h4, hk⟩ := hk
    refine jcv (jrunV (As := []) (rest := []) hx hb hml hown hts hK hZ hA hP hD hS hl.1 mf_X3_nextToken kl_X3_34 ⟨rfl, rfl, Nat.le_of_ble_eq_true rfl, Nat.le_of_ble_eq_true rfl⟩ ⟨Nat.zero_le _, Nat.zero_le _⟩ [0, 1] rfl (js28 K a T) rfl rfl rfl (hX3_nextToken l D K G a T h4 _) rfl rfl (Nat.le_of_ble_eq_true rfl) dX3_takeNumber_31) hA hP hD hS [0, 1] (js28 K a T) (jh29 K a T (vX3_nextToken T)) (fun H locs hP hD hS => ?_)
    have hP := jeP (jp30 K a T (vX3_nextToken T)) hP
    have hD := jeD (jp30 K a T (vX3_nextToken T)) hD
    refine lv_iconst (v := (1 : Int32)) hx hb dX3_takeNumber_34 (by decide) ?_
    exact hend _ _ _ _ _ (by rw [hV]; exact hP) (by rw [hV]; exact hD) hS (by rw [hV]) rfl dX3_takeNumber_35
  have hV := vX3_takeNumber.eq_1 T0 p1 p2
  rw [kX3_takeNumber] at hk
  refine lv_aload_n hx hb dX3_takeNumber_0 rfl (lv_at hl 0 rfl) ?_
  refine gf_X3_19 (v := .int (t_sort T0)) hx hb hts hown hK hZ hP (0) rfl rfl dX3_takeNumber_1 ?_
  refine lv_iconst (v := (2 : Int32)) hx hb dX3_takeNumber_4 (by decide) ?_
  refine lv_icmp_ne (tgt := 20) hx hb dX3_takeNumber_5 (by decide) (fun c5 => ?_) (fun c5 => ?_)
  · have hV := hV.trans (if_neg c5)
    have hk := hk.2 c5
    refine lv_iconst (v := (0 : Int32)) hx hb dX3_takeNumber_20 (by decide) ?_
    exact hend _ _ _ _ _ (by rw [hV]; exact hP) (by rw [hV]; exact hD) hS (by rw [hV]) rfl dX3_takeNumber_21
  · have hV := hV.trans (if_pos c5)
    have hk := hk.1 c5
    refine lv_aload_n hx hb dX3_takeNumber_8 rfl (lv_at hl 0 rfl) ?_
    refine gf_X3_28 (v := .int (t_number T0)) hx hb hts hown hK hZ hP (0) rfl rfl dX3_takeNumber_9 ?_
    refine lv_iload_n hx hb dX3_takeNumber_12 rfl (lv_at hl 1 rfl) ?_
    refine lv_iload_n hx hb dX3_takeNumber_13 rfl (lv_at hl 2 rfl) ?_
    refine jci0 (jrunSN (As := [.int (t_number T0), .int p1, .int p2]) (rest := []) hx hb hml hown hts hK hZ hA hP hD hS hl.1 mf_X4_within kl_X3_108 ⟨rfl, rfl, Nat.le_of_ble_eq_true rfl, Nat.le_of_ble_eq_true rfl⟩ ⟨Nat.zero_le _, Nat.zero_le _⟩ [] rfl rfl (hX4_within l D K G (t_number T0) p1 p2 _) rfl rfl (Nat.le_of_ble_eq_true rfl) dX3_takeNumber_14) hA hP hD hS [] rfl (fun H locs hP hS => ?_)
    refine lv_if_ne (tgt := 22) hx hb dX3_takeNumber_17 (by decide) (fun c6 => ?_) (fun c6 => ?_)
    · have hV := hV.trans (if_neg c6)
      have hk := hk.2 c6
      refine lv_aload_n hx hb dX3_takeNumber_22 rfl (lv_at hl 0 rfl) ?_
      refine lv_aload_n hx hb dX3_takeNumber_23 rfl (lv_at hl 0 rfl) ?_
      refine gf_X3_28 (v := .int (t_number T0)) hx hb hts hown hK hZ hP (0) rfl rfl dX3_takeNumber_24 ?_
      refine pf_X3_31 (v := .int (t_number T0)) hx hb hts hown hK hZ hP hD hS (0) rfl rfl rfl (Nat.le_of_ble_eq_true rfl) dX3_takeNumber_27 (fun H locs hP hD hS => ?_)
      have hP := jeP (jf27 K a T0 (t_number T0)) hP
      have hD := jeD (jf27 K a T0 (t_number T0)) hD
      exact hc30 (t_s_taken T0 (t_number T0)) _ _ _ hV hk hP hD hS (lv_sub hl [0, 1, 2] rfl)
    · have hV := hV.trans (if_pos c6)
      have hk := hk.1 c6
      refine lv_iconst (v := (0 : Int32)) hx hb dX3_takeNumber_20 (by decide) ?_
      exact hend _ _ _ _ _ (by rw [hV]; exact hP) (by rw [hV]; exact hD) hS (by rw [hV]) rfl dX3_takeNumber_21
theorem js31 (K : JK) (a : Nat → Nat) (b : Nat → Nat) (T : TS) (E : ES) : [0, 1].map (fun i => (wT K a T ++ wE K b E)[i]?) = (wT K a T).map some := rfl
theorem jh32 (K : JK) (a : Nat → Nat) (b : Nat → Nat) (T : TS) (E : ES) (Z0 : TS) : (wT K a Z0).map Prod.fst = (wT K a T).map Prod.fst := rfl
theorem jp33 (K : JK) (a : Nat → Nat) (b : Nat → Nat) (T : TS) (E : ES) (Z0 : TS) : jput (wT K a T ++ wE K b E) [0, 1] (wT K a Z0) = (wT K a Z0 ++ wE K b E) := rfl
theorem ja34 (K : JK) (a : Nat → Nat) (b : Nat → Nat) (T : TS) (E : ES) (f : FA) : (wT K a T ++ wE K b E).set 4 ((b 2), .inl (K.1, 6, .inl f)) = (wT K a T ++ wE K b (e_s_list E f)) := rfl
theorem dX3_readBlow_0 : decode cX3_readBlow 0 = .ok (.aload_n 0, 1) := by decide +kernel
theorem dX3_readBlow_1 : decode cX3_readBlow 1 = .ok (.iconst 0, 1) := by decide +kernel
theorem dX3_readBlow_2 : decode cX3_readBlow 2 = .ok (.iconst 5, 1) := by decide +kernel
theorem dX3_readBlow_3 : decode cX3_readBlow 3 = .ok (.invokevirtual 79, 3) := by decide +kernel
theorem dX3_readBlow_6 : decode cX3_readBlow 6 = .ok (.ifCond .ne 5, 3) := by decide +kernel
theorem dX3_readBlow_9 : decode cX3_readBlow 9 = .ok (.iconst 0, 1) := by decide +kernel
theorem dX3_readBlow_10 : decode cX3_readBlow 10 = .ok (.ireturn, 1) := by decide +kernel
theorem dX3_readBlow_11 : decode cX3_readBlow 11 = .ok (.aload_n 0, 1) := by decide +kernel
theorem dX3_readBlow_12 : decode cX3_readBlow 12 = .ok (.getfield 31, 3) := by decide +kernel
theorem dX3_readBlow_15 : decode cX3_readBlow 15 = .ok (.istore_n 2, 1) := by decide +kernel
theorem dX3_readBlow_16 : decode cX3_readBlow 16 = .ok (.aload_n 0, 1) := by decide +kernel
theorem dX3_readBlow_17 : decode cX3_readBlow 17 = .ok (.iconst 0, 1) := by decide +kernel
theorem dX3_readBlow_18 : decode cX3_readBlow 18 = .ok (.bipush 7, 2) := by decide +kernel
theorem dX3_readBlow_20 : decode cX3_readBlow 20 = .ok (.invokevirtual 79, 3) := by decide +kernel
theorem dX3_readBlow_23 : decode cX3_readBlow 23 = .ok (.ifCond .ne 5, 3) := by decide +kernel
theorem dX3_readBlow_26 : decode cX3_readBlow 26 = .ok (.iconst 0, 1) := by decide +kernel
theorem dX3_readBlow_27 : decode cX3_readBlow 27 = .ok (.ireturn, 1) := by decide +kernel
theorem dX3_readBlow_28 : decode cX3_readBlow 28 = .ok (.aload_n 0, 1) := by decide +kernel
theorem dX3_readBlow_29 : decode cX3_readBlow 29 = .ok (.getfield 31, 3) := by decide +kernel
theorem dX3_readBlow_32 : decode cX3_readBlow 32 = .ok (.istore_n 3, 1) := by decide +kernel
theorem dX3_readBlow_33 : decode cX3_readBlow 33 = .ok (.aload_n 0, 1) := by decide +kernel
theorem dX3_readBlow_34 : decode cX3_readBlow 34 = .ok (.iconst 0, 1) := by decide +kernel
theorem dX3_readBlow_35 : decode cX3_readBlow 35 = .ok (.bipush 9, 2) := by decide +kernel
theorem dX3_readBlow_37 : decode cX3_readBlow 37 = .ok (.invokevirtual 79, 3) := by decide +kernel
theorem dX3_readBlow_40 : decode cX3_readBlow 40 = .ok (.ifCond .ne 5, 3) := by decide +kernel
theorem dX3_readBlow_43 : decode cX3_readBlow 43 = .ok (.iconst 0, 1) := by decide +kernel
theorem dX3_readBlow_44 : decode cX3_readBlow 44 = .ok (.ireturn, 1) := by decide +kernel
theorem dX3_readBlow_45 : decode cX3_readBlow 45 = .ok (.aload_n 1, 1) := by decide +kernel
theorem dX3_readBlow_46 : decode cX3_readBlow 46 = .ok (.getfield 102, 3) := by decide +kernel
theorem dX3_readBlow_49 : decode cX3_readBlow 49 = .ok (.iload_n 2, 1) := by decide +kernel
theorem dX3_readBlow_50 : decode cX3_readBlow 50 = .ok (.iload_n 3, 1) := by decide +kernel
theorem dX3_readBlow_51 : decode cX3_readBlow 51 = .ok (.aload_n 0, 1) := by decide +kernel
theorem dX3_readBlow_52 : decode cX3_readBlow 52 = .ok (.getfield 31, 3) := by decide +kernel
theorem dX3_readBlow_55 : decode cX3_readBlow 55 = .ok (.invokestatic 105, 3) := by decide +kernel
theorem dX3_readBlow_58 : decode cX3_readBlow 58 = .ok (.iastore, 1) := by decide +kernel
theorem dX3_readBlow_59 : decode cX3_readBlow 59 = .ok (.iconst 1, 1) := by decide +kernel
theorem dX3_readBlow_60 : decode cX3_readBlow 60 = .ok (.ireturn, 1) := by decide +kernel
def rX3_readBlow : Room := { frames := 3, cells := 0, slots := 0, locals := 62 }
def vX3_readBlow_c40 (T : TS) (E : ES) (x2 : Int32) (x3 : Int32) (y0 : Int32) : Int32 × TS × ES := if (y0 = 0) then ((0 : Int32), T, E) else ((1 : Int32), T, (e_s_list E (upd (e_list E) (x2).toNatClampNeg (vX4_blowOf x3 (t_taken T)))))
def kX3_readBlow_c40 (T : TS) (E : ES) (x2 : Int32) (x3 : Int32) (y0 : Int32) : Prop := ((y0 = 0) → True) ∧ (¬ (y0 = 0) → ((vp_in x2 6) ∧ True))
def vX3_readBlow_c23 (T : TS) (E : ES) (x2 : Int32) (y0 : Int32) : Int32 × TS × ES := if (y0 = 0) then ((0 : Int32), T, E) else (vX3_readBlow_c40 ((vX3_takeNumber T (0 : Int32) (9 : Int32)).2) E x2 (t_taken T) ((vX3_takeNumber T (0 : Int32) (9 : Int32)).1))
def kX3_readBlow_c23 (T : TS) (E : ES) (x2 : Int32) (y0 : Int32) : Prop := ((y0 = 0) → True) ∧ (¬ (y0 = 0) → ((kX3_takeNumber T (0 : Int32) (9 : Int32)) ∧ (kX3_readBlow_c40 ((vX3_takeNumber T (0 : Int32) (9 : Int32)).2) E x2 (t_taken T) ((vX3_takeNumber T (0 : Int32) (9 : Int32)).1))))
def vX3_readBlow_c6 (T : TS) (E : ES) (y0 : Int32) : Int32 × TS × ES := if (y0 = 0) then ((0 : Int32), T, E) else (vX3_readBlow_c23 ((vX3_takeNumber T (0 : Int32) (7 : Int32)).2) E (t_taken T) ((vX3_takeNumber T (0 : Int32) (7 : Int32)).1))
def kX3_readBlow_c6 (T : TS) (E : ES) (y0 : Int32) : Prop := ((y0 = 0) → True) ∧ (¬ (y0 = 0) → ((kX3_takeNumber T (0 : Int32) (7 : Int32)) ∧ (kX3_readBlow_c23 ((vX3_takeNumber T (0 : Int32) (7 : Int32)).2) E (t_taken T) ((vX3_takeNumber T (0 : Int32) (7 : Int32)).1))))
def vX3_readBlow (T0 : TS) (E0 : ES) : Int32 × TS × ES := (vX3_readBlow_c6 ((vX3_takeNumber T0 (0 : Int32) (5 : Int32)).2) E0 ((vX3_takeNumber T0 (0 : Int32) (5 : Int32)).1))
def kX3_readBlow (T0 : TS) (E0 : ES) : Prop := (kX3_takeNumber T0 (0 : Int32) (5 : Int32)) ∧ (kX3_readBlow_c6 ((vX3_takeNumber T0 (0 : Int32) (5 : Int32)).2) E0 ((vX3_takeNumber T0 (0 : Int32) (5 : Int32)).1))
set_option maxHeartbeats 4000000 in
set_option maxRecDepth 100000 in
theorem hX3_readBlow (l : Launch) (D : va_G) (K : JK) (G : JG) (a : Nat → Nat) (b : Nat → Nat) (T0 : TS) (E0 : ES) (hk : kX3_readBlow T0 E0) (sz : Nat) : Met l yX3_readBlow (.code yX3_readBlow cX3_readBlow 4 (some .boolean) :: jGW) rX3_readBlow (jPre D (jT K) G [.ref (a 0), .ref (b 0)] (wT K a T0 ++ wE K b E0) sz) (jQi D (jT K) ((vX3_readBlow T0 E0).1) (wT K a ((vX3_readBlow T0 E0).2.1) ++ wE K b ((vX3_readBlow T0 E0).2.2)) (va_A (wT K a T0 ++ wE K b E0) sz)) 0 0 (va_A (wT K a T0 ++ wE K b E0) sz) := by
  refine jEi (by decide) (Nat.le_of_ble_eq_true rfl) (fun p e s m below meth c A Q ls hat hP hD hS hl hend => ?_)
  obtain ⟨hx, hb, hml, hown, hts, hK, hZ, hA⟩ := hat
  have hl : lv_has ls 4 [(0, .ref (a 0)), (1, .ref (b 0))] := hl
  have hc40 : ∀ (T : TS) (E : ES) (x2 : Int32) (x3 : Int32) (y0 : Int32) (H : Heap) (locs : List Loc) (ls : Array Slot), (vX3_readBlow T0 E0) = vX3_readBlow_c40 T E x2 x3 y0 → kX3_readBlow_c40 T E x2 x3 y0 → va_P D vwCl (wT K a T ++ wE K b E) H → va_D A (wT K a T ++ wE K b E) → va_S A s.heap H locs → lv_has ls 4 [(0, .ref (a 0)), (1, .ref (b 0)), (2, .int x2), (3, .int x3)] → W p l e rX3_readBlow s m ([.ref (a 0), .ref (b 0)] : List Value).toArray below meth c H locs 0 0 Q (F0 m 40 ls [.int y0]) := by
    intro T E x2 x3 y0 H locs ls hV hk hP hD hS hl
    rw [vX3_readBlow_c40] at hV
    rw [kX3_readBlow_c40] at hk
    refine lv_if_ne (tgt := 45) hx hb dX3_readBlow_40 (by decide) (fun c8 => ?_) (fun c8 => ?_)
    · have hV := hV.trans (if_neg c8)
      have hk := hk.2 c8
      refine lv_aload_n hx hb dX3_readBlow_45 rfl (lv_at hl 1 rfl) ?_
      refine gf_X3_102 (v := .ref (b 2)) hx hb hts hown hK hZ hP (2) rfl rfl dX3_readBlow_46 ?_
      refine lv_iload_n hx hb dX3_readBlow_49 rfl (lv_at hl 2 rfl) ?_
      refine lv_iload_n hx hb dX3_readBlow_50 rfl (lv_at hl 3 rfl) ?_
      refine lv_aload_n hx hb dX3_readBlow_51 rfl (lv_at hl 0 rfl) ?_
      refine gf_X3_31 (v := .int (t_taken T)) hx hb hts hown hK hZ hP (0) rfl rfl dX3_readBlow_52 ?_
      refine jci0 (jrunSN (As := [.int x3, .int (t_taken T)]) (rest := [.int x2, .ref (b 2)]) hx hb hml hown hts hK hZ hA hP hD hS hl.1 mf_X4_blowOf kl_X3_105 ⟨rfl, rfl, Nat.le_of_ble_eq_true rfl, Nat.le_of_ble_eq_true rfl⟩ ⟨Nat.zero_le _, Nat.zero_le _⟩ [] rfl rfl (hX4_blowOf l D K G x3 (t_taken T) _) rfl rfl (Nat.le_of_ble_eq_true rfl) dX3_readBlow_55) hA hP hD hS [] rfl (fun H locs hP hS => ?_)
      obtain ⟨h9, hk⟩ := hk
      refine va_iast hx hb hK hP hD hS (4) 0 rfl rfl h9 dX3_readBlow_58 (fun H locs hP hD hS => ?_)
      have hP := jeP (ja34 K a b T E (upd (e_list E) (x2).toNatClampNeg (vX4_blowOf x3 (t_taken T)))) hP
      have hD := jeD (ja34 K a b T E (upd (e_list E) (x2).toNatClampNeg (vX4_blowOf x3 (t_taken T)))) hD
      refine lv_iconst (v := (1 : Int32)) hx hb dX3_readBlow_59 (by decide) ?_
      exact hend _ _ _ _ _ (by rw [hV]; exact hP) (by rw [hV]; exact hD) hS (by rw [hV]) rfl dX3_readBlow_60
    · have hV := hV.trans (if_pos c8)
      have hk := hk.1 c8
      refine lv_iconst (v := (0 : Int32)) hx hb dX3_readBlow_43 (by decide) ?_
      exact hend _ _ _ _ _ (by rw [hV]; exact hP) (by rw [hV]; exact hD) hS (by rw [hV]) rfl dX3_readBlow_44
  have hc23 : ∀ (T : TS) (E : ES) (x2 : Int32) (y0 : Int32) (H : Heap) (locs : List Loc) (ls : Array Slot), (vX3_readBlow T0 E0) = vX3_readBlow_c23 T E x2 y0 → kX3_readBlow_c23 T E x2 y0 → va_P D vwCl (wT K a T ++ wE K b E) H → va_D A (wT K a T ++ wE K b E) → va_S A s.heap H locs → lv_has ls 4 [(0, .ref (a 0)), (1, .ref (b 0)), (2, .int x2)] → W p l e rX3_readBlow s m ([.ref (a 0), .ref (b 0)] : List Value).toArray below meth c H locs 0 0 Q (F0 m 23 ls [.int y0]) := by
    intro T E x2 y0 H locs ls hV hk hP hD hS hl
    rw [vX3_readBlow_c23] at hV
    rw [kX3_readBlow_c23] at hk
    refine lv_if_ne (tgt := 28) hx hb dX3_readBlow_23 (by decide) (fun c10 => ?_) (fun c10 => ?_)
    · have hV := hV.trans (if_neg c10)
      have hk := hk.2 c10
      refine lv_aload_n hx hb dX3_readBlow_28 rfl (lv_at hl 0 rfl) ?_
      refine gf_X3_31 (v := .int (t_taken T)) hx hb hts hown hK hZ hP (0) rfl rfl dX3_readBlow_29 ?_
      refine lv_istore_n (lv' := [(3, .int (t_taken T)), (0, .ref (a 0)), (1, .ref (b 0)), (2, .int x2)]) hx hb dX3_readBlow_32 rfl hl (by decide) rfl (fun ls hl => ?_)
      refine lv_aload_n hx hb dX3_readBlow_33 rfl (lv_at hl 1 rfl) ?_
      refine lv_iconst (v := (0 : Int32)) hx hb dX3_readBlow_34 (by decide) ?_
      refine lv_bipush (v := (9 : Int32)) hx hb dX3_readBlow_35 (by decide) ?_
      obtain ⟨h11, hk⟩ := hk
      refine jci (jrunV (As := [.int (0 : Int32), .int (9 : Int32)]) (rest := []) hx hb hml hown hts hK hZ hA hP hD hS hl.1 mf_X3_takeNumber kl_X3_79 ⟨rfl, rfl, Nat.le_of_ble_eq_true rfl, Nat.le_of_ble_eq_true rfl⟩ ⟨Nat.zero_le _, Nat.zero_le _⟩ [0, 1] rfl (js31 K a b T E) rfl rfl rfl (hX3_takeNumber l D K G a T (0 : Int32) (9 : Int32) h11 _) rfl rfl (Nat.le_of_ble_eq_true rfl) dX3_readBlow_37) hA hP hD hS [0, 1] (js31 K a b T E) (jh32 K a b T E ((vX3_takeNumber T (0 : Int32) (9 : Int32)).2)) (fun H locs hP hD hS => ?_)
      have hP := jeP (jp33 K a b T E ((vX3_takeNumber T (0 : Int32) (9 : Int32)).2)) hP
      have hD := jeD (jp33 K a b T E ((vX3_takeNumber T (0 : Int32) (9 : Int32)).2)) hD
      exact hc40 ((vX3_takeNumber T (0 : Int32) (9 : Int32)).2) E x2 (t_taken T) ((vX3_takeNumber T (0 : Int32) (9 : Int32)).1) _ _ _ hV hk hP hD hS (lv_sub hl [1, 2, 3, 0] rfl)
    · have hV := hV.trans (if_pos c10)
      have hk := hk.1 c10
      refine lv_iconst (v := (0 : Int32)) hx hb dX3_readBlow_26 (by decide) ?_
      exact hend _ _ _ _ _ (by rw [hV]; exact hP) (by rw [hV]; exact hD) hS (by rw [hV]) rfl dX3_readBlow_27
  have hc6 : ∀ (T : TS) (E : ES) (y0 : Int32) (H : Heap) (locs : List Loc) (ls : Array Slot), (vX3_readBlow T0 E0) = vX3_readBlow_c6 T E y0 → kX3_readBlow_c6 T E y0 → va_P D vwCl (wT K a T ++ wE K b E) H → va_D A (wT K a T ++ wE K b E) → va_S A s.heap H locs → lv_has ls 4 [(0, .ref (a 0)), (1, .ref (b 0))] → W p l e rX3_readBlow s m ([.ref (a 0), .ref (b 0)] : List Value).toArray below meth c H locs 0 0 Q (F0 m 6 ls [.int y0]) := by
    intro T E y0 H locs ls hV hk hP hD hS hl
    rw [vX3_readBlow_c6] at hV
    rw [kX3_readBlow_c6] at hk
    refine lv_if_ne (tgt := 11) hx hb dX3_readBlow_6 (by decide) (fun c12 => ?_) (fun c12 => ?_)
    · have hV := hV.trans (if_neg c12)
      have hk := hk.2 c12
      refine lv_aload_n hx hb dX3_readBlow_11 rfl (lv_at hl 0 rfl) ?_
      refine gf_X3_31 (v := .int (t_taken T)) hx hb hts hown hK hZ hP (0) rfl rfl dX3_readBlow_12 ?_
      refine lv_istore_n (lv' := [(2, .int (t_taken T)), (0, .ref (a 0)), (1, .ref (b 0))]) hx hb dX3_readBlow_15 rfl hl (by decide) rfl (fun ls hl => ?_)
      refine lv_aload_n hx hb dX3_readBlow_16 rfl (lv_at hl 1 rfl) ?_
      refine lv_iconst (v := (0 : Int32)) hx hb dX3_readBlow_17 (by decide) ?_
      refine lv_bipush (v := (7 : Int32)) hx hb dX3_readBlow_18 (by decide) ?_
      obtain ⟨h13, hk⟩ := hk
      refine jci (jrunV (As := [.int (0 : Int32), .int (7 : Int32)]) (rest := []) hx hb hml hown hts hK hZ hA hP hD hS hl.1 mf_X3_takeNumber kl_X3_79 ⟨rfl, rfl, Nat.le_of_ble_eq_true rfl, Nat.le_of_ble_eq_true rfl⟩ ⟨Nat.zero_le _, Nat.zero_le _⟩ [0, 1] rfl (js31 K a b T E) rfl rfl rfl (hX3_takeNumber l D K G a T (0 : Int32) (7 : Int32) h13 _) rfl rfl (Nat.le_of_ble_eq_true rfl) dX3_readBlow_20) hA hP hD hS [0, 1] (js31 K a b T E) (jh32 K a b T E ((vX3_takeNumber T (0 : Int32) (7 : Int32)).2)) (fun H locs hP hD hS => ?_)
      have hP := jeP (jp33 K a b T E ((vX3_takeNumber T (0 : Int32) (7 : Int32)).2)) hP
      have hD := jeD (jp33 K a b T E ((vX3_takeNumber T (0 : Int32) (7 : Int32)).2)) hD
      exact hc23 ((vX3_takeNumber T (0 : Int32) (7 : Int32)).2) E (t_taken T) ((vX3_takeNumber T (0 : Int32) (7 : Int32)).1) _ _ _ hV hk hP hD hS (lv_sub hl [1, 2, 0] rfl)
    · have hV := hV.trans (if_pos c12)
      have hk := hk.1 c12
      refine lv_iconst (v := (0 : Int32)) hx hb dX3_readBlow_9 (by decide) ?_
      exact hend _ _ _ _ _ (by rw [hV]; exact hP) (by rw [hV]; exact hD) hS (by rw [hV]) rfl dX3_readBlow_10
  have hV := vX3_readBlow.eq_1 T0 E0
  rw [kX3_readBlow] at hk
  refine lv_aload_n hx hb dX3_readBlow_0 rfl (lv_at hl 0 rfl) ?_
  refine lv_iconst (v := (0 : Int32)) hx hb dX3_readBlow_1 (by decide) ?_
  refine lv_iconst (v := (5 : Int32)) hx hb dX3_readBlow_2 (by decide) ?_
  obtain ⟨h14, hk⟩ := hk
  refine jci (jrunV (As := [.int (0 : Int32), .int (5 : Int32)]) (rest := []) hx hb hml hown hts hK hZ hA hP hD hS hl.1 mf_X3_takeNumber kl_X3_79 ⟨rfl, rfl, Nat.le_of_ble_eq_true rfl, Nat.le_of_ble_eq_true rfl⟩ ⟨Nat.zero_le _, Nat.zero_le _⟩ [0, 1] rfl (js31 K a b T0 E0) rfl rfl rfl (hX3_takeNumber l D K G a T0 (0 : Int32) (5 : Int32) h14 _) rfl rfl (Nat.le_of_ble_eq_true rfl) dX3_readBlow_3) hA hP hD hS [0, 1] (js31 K a b T0 E0) (jh32 K a b T0 E0 ((vX3_takeNumber T0 (0 : Int32) (5 : Int32)).2)) (fun H locs hP hD hS => ?_)
  have hP := jeP (jp33 K a b T0 E0 ((vX3_takeNumber T0 (0 : Int32) (5 : Int32)).2)) hP
  have hD := jeD (jp33 K a b T0 E0 ((vX3_takeNumber T0 (0 : Int32) (5 : Int32)).2)) hD
  exact hc6 ((vX3_takeNumber T0 (0 : Int32) (5 : Int32)).2) E0 ((vX3_takeNumber T0 (0 : Int32) (5 : Int32)).1) _ _ _ hV hk hP hD hS (lv_sub hl [0, 1] rfl)
theorem dX3_wordOfKind_0 : decode cX3_wordOfKind 0 = .ok (.iload_n 0, 1) := by decide +kernel
theorem dX3_wordOfKind_1 : decode cX3_wordOfKind 1 = .ok (.tableswitch 57 1 6 #[39, 42, 45, 48, 51, 54], 39) := by decide +kernel
theorem dX3_wordOfKind_40 : decode cX3_wordOfKind 40 = .ok (.ldc 112, 2) := by decide +kernel
theorem dX3_wordOfKind_42 : decode cX3_wordOfKind 42 = .ok (.areturn, 1) := by decide +kernel
theorem dX3_wordOfKind_43 : decode cX3_wordOfKind 43 = .ok (.ldc 114, 2) := by decide +kernel
theorem dX3_wordOfKind_45 : decode cX3_wordOfKind 45 = .ok (.areturn, 1) := by decide +kernel
theorem dX3_wordOfKind_46 : decode cX3_wordOfKind 46 = .ok (.ldc 116, 2) := by decide +kernel
theorem dX3_wordOfKind_48 : decode cX3_wordOfKind 48 = .ok (.areturn, 1) := by decide +kernel
theorem dX3_wordOfKind_49 : decode cX3_wordOfKind 49 = .ok (.ldc 118, 2) := by decide +kernel
theorem dX3_wordOfKind_51 : decode cX3_wordOfKind 51 = .ok (.areturn, 1) := by decide +kernel
theorem dX3_wordOfKind_52 : decode cX3_wordOfKind 52 = .ok (.ldc 120, 2) := by decide +kernel
theorem dX3_wordOfKind_54 : decode cX3_wordOfKind 54 = .ok (.areturn, 1) := by decide +kernel
theorem dX3_wordOfKind_55 : decode cX3_wordOfKind 55 = .ok (.ldc 122, 2) := by decide +kernel
theorem dX3_wordOfKind_57 : decode cX3_wordOfKind 57 = .ok (.areturn, 1) := by decide +kernel
theorem dX3_wordOfKind_58 : decode cX3_wordOfKind 58 = .ok (.ldc 124, 2) := by decide +kernel
theorem dX3_wordOfKind_60 : decode cX3_wordOfKind 60 = .ok (.areturn, 1) := by decide +kernel
def rX3_wordOfKind : Room := { frames := 0, cells := 0, slots := 0, locals := 0 }
def vX3_wordOfKind (p0 : Int32) : Nat := if (p0 = (1 : Int32)) then 0 else if (p0 = (2 : Int32)) then 1 else if (p0 = (3 : Int32)) then 2 else if (p0 = (4 : Int32)) then 3 else if (p0 = (5 : Int32)) then 4 else if (p0 = (6 : Int32)) then 5 else 6
set_option maxHeartbeats 4000000 in
set_option maxRecDepth 100000 in
theorem hX3_wordOfKind (l : Launch) (D : va_G) (K : JK) (G : JG) (p0 : Int32) (sz : Nat) : Met l yX3_wordOfKind (.code yX3_wordOfKind cX3_wordOfKind 1 (some (.object "java/lang/String")) :: jGW) rX3_wordOfKind (jPre D (jT K) G [.int p0] ([] : va_W) sz) (jQr D (jT K) (G.2.1 (vX3_wordOfKind p0)) ([] : va_W) (va_A ([] : va_W) sz)) 0 0 (va_A ([] : va_W) sz) := by
  refine jEr (Or.inl ⟨_, rfl⟩) (by decide) (Nat.le_of_ble_eq_true rfl) (fun p e s m below meth c A Q ls hat hP hD hS hl hend => ?_)
  obtain ⟨hx, hb, hml, hown, hts, hK, hZ, hA⟩ := hat
  have hl : lv_has ls 1 [(0, .int p0)] := hl
  have hV := vX3_wordOfKind.eq_1 p0
  refine lv_iload_n hx hb dX3_wordOfKind_0 rfl (lv_at hl 0 rfl) ?_
  by_cases c7 : (p0 = (1 : Int32))
  · have hV := hV.trans (if_pos c7)
    refine lv_tableIn (off := 39) (tgt := 40) hx hb dX3_wordOfKind_1 (by rw [c7]; decide) (by rw [c7]; decide) (by rw [c7]; rfl) (by decide) ?_
    refine va_ldcS hx hb hown (hZ.2.2.2.1 0 _ rfl) dX3_wordOfKind_40 ?_
    exact hend _ _ _ _ _ hP hD hS (by rw [hV]) dX3_wordOfKind_42
  · have hV := hV.trans (if_neg c7)
    by_cases c8 : (p0 = (2 : Int32))
    · have hV := hV.trans (if_pos c8)
      refine lv_tableIn (off := 42) (tgt := 43) hx hb dX3_wordOfKind_1 (by rw [c8]; decide) (by rw [c8]; decide) (by rw [c8]; rfl) (by decide) ?_
      refine va_ldcS hx hb hown (hZ.2.2.2.1 1 _ rfl) dX3_wordOfKind_43 ?_
      exact hend _ _ _ _ _ hP hD hS (by rw [hV]) dX3_wordOfKind_45
    · have hV := hV.trans (if_neg c8)
      by_cases c9 : (p0 = (3 : Int32))
      · have hV := hV.trans (if_pos c9)
        refine lv_tableIn (off := 45) (tgt := 46) hx hb dX3_wordOfKind_1 (by rw [c9]; decide) (by rw [c9]; decide) (by rw [c9]; rfl) (by decide) ?_
        refine va_ldcS hx hb hown (hZ.2.2.2.1 2 _ rfl) dX3_wordOfKind_46 ?_
        exact hend _ _ _ _ _ hP hD hS (by rw [hV]) dX3_wordOfKind_48
      · have hV := hV.trans (if_neg c9)
        by_cases c10 : (p0 = (4 : Int32))
        · have hV := hV.trans (if_pos c10)
          refine lv_tableIn (off := 48) (tgt := 49) hx hb dX3_wordOfKind_1 (by rw [c10]; decide) (by rw [c10]; decide) (by rw [c10]; rfl) (by decide) ?_
          refine va_ldcS hx hb hown (hZ.2.2.2.1 3 _ rfl) dX3_wordOfKind_49 ?_
          exact hend _ _ _ _ _ hP hD hS (by rw [hV]) dX3_wordOfKind_51
        · have hV := hV.trans (if_neg c10)
          by_cases c11 : (p0 = (5 : Int32))
          · have hV := hV.trans (if_pos c11)
            refine lv_tableIn (off := 51) (tgt := 52) hx hb dX3_wordOfKind_1 (by rw [c11]; decide) (by rw [c11]; decide) (by rw [c11]; rfl) (by decide) ?_
            refine va_ldcS hx hb hown (hZ.2.2.2.1 4 _ rfl) dX3_wordOfKind_52 ?_
            exact hend _ _ _ _ _ hP hD hS (by rw [hV]) dX3_wordOfKind_54
          · have hV := hV.trans (if_neg c11)
            by_cases c12 : (p0 = (6 : Int32))
            · have hV := hV.trans (if_pos c12)
              refine lv_tableIn (off := 54) (tgt := 55) hx hb dX3_wordOfKind_1 (by rw [c12]; decide) (by rw [c12]; decide) (by rw [c12]; rfl) (by decide) ?_
              refine va_ldcS hx hb hown (hZ.2.2.2.1 5 _ rfl) dX3_wordOfKind_55 ?_
              exact hend _ _ _ _ _ hP hD hS (by rw [hV]) dX3_wordOfKind_57
            · have hV := hV.trans (if_neg c12)
              refine lv_tableOut (tgt := 58) hx hb dX3_wordOfKind_1 (by have n0 := jneL (z := 1) c7 (by decide); have n1 := jneL (z := 2) c8 (by decide); have n2 := jneL (z := 3) c9 (by decide); have n3 := jneL (z := 4) c10 (by decide); have n4 := jneL (z := 5) c11 (by decide); have n5 := jneL (z := 6) c12 (by decide); omega) (by decide) ?_
              refine va_ldcS hx hb hown (hZ.2.2.2.1 6 _ rfl) dX3_wordOfKind_58 ?_
              exact hend _ _ _ _ _ hP hD hS (by rw [hV]) dX3_wordOfKind_60
theorem dX3_wordIs_0 : decode cX3_wordIs 0 = .ok (.aload_n 0, 1) := by decide +kernel
theorem dX3_wordIs_1 : decode cX3_wordIs 1 = .ok (.getfield 19, 3) := by decide +kernel
theorem dX3_wordIs_4 : decode cX3_wordIs 4 = .ok (.iconst 1, 1) := by decide +kernel
theorem dX3_wordIs_5 : decode cX3_wordIs 5 = .ok (.if_icmp .ne 19, 3) := by decide +kernel
theorem dX3_wordIs_8 : decode cX3_wordIs 8 = .ok (.aload_n 0, 1) := by decide +kernel
theorem dX3_wordIs_9 : decode cX3_wordIs 9 = .ok (.getfield 25, 3) := by decide +kernel
theorem dX3_wordIs_12 : decode cX3_wordIs 12 = .ok (.aload_n 0, 1) := by decide +kernel
theorem dX3_wordIs_13 : decode cX3_wordIs 13 = .ok (.getfield 22, 3) := by decide +kernel
theorem dX3_wordIs_16 : decode cX3_wordIs 16 = .ok (.isub, 1) := by decide +kernel
theorem dX3_wordIs_17 : decode cX3_wordIs 17 = .ok (.aload_n 1, 1) := by decide +kernel
theorem dX3_wordIs_18 : decode cX3_wordIs 18 = .ok (.invokevirtual 134, 3) := by decide +kernel
theorem dX3_wordIs_21 : decode cX3_wordIs 21 = .ok (.if_icmp .eq 5, 3) := by decide +kernel
theorem dX3_wordIs_24 : decode cX3_wordIs 24 = .ok (.iconst 0, 1) := by decide +kernel
theorem dX3_wordIs_25 : decode cX3_wordIs 25 = .ok (.ireturn, 1) := by decide +kernel
theorem dX3_wordIs_26 : decode cX3_wordIs 26 = .ok (.iconst 0, 1) := by decide +kernel
theorem dX3_wordIs_27 : decode cX3_wordIs 27 = .ok (.istore_n 2, 1) := by decide +kernel
theorem dX3_wordIs_28 : decode cX3_wordIs 28 = .ok (.iload_n 2, 1) := by decide +kernel
theorem dX3_wordIs_29 : decode cX3_wordIs 29 = .ok (.aload_n 1, 1) := by decide +kernel
theorem dX3_wordIs_30 : decode cX3_wordIs 30 = .ok (.invokevirtual 134, 3) := by decide +kernel
theorem dX3_wordIs_33 : decode cX3_wordIs 33 = .ok (.if_icmp .ge 30, 3) := by decide +kernel
theorem dX3_wordIs_36 : decode cX3_wordIs 36 = .ok (.aload_n 0, 1) := by decide +kernel
theorem dX3_wordIs_37 : decode cX3_wordIs 37 = .ok (.getfield 9, 3) := by decide +kernel
theorem dX3_wordIs_40 : decode cX3_wordIs 40 = .ok (.aload_n 0, 1) := by decide +kernel
theorem dX3_wordIs_41 : decode cX3_wordIs 41 = .ok (.getfield 22, 3) := by decide +kernel
theorem dX3_wordIs_44 : decode cX3_wordIs 44 = .ok (.iload_n 2, 1) := by decide +kernel
theorem dX3_wordIs_45 : decode cX3_wordIs 45 = .ok (.iadd, 1) := by decide +kernel
theorem dX3_wordIs_46 : decode cX3_wordIs 46 = .ok (.baload, 1) := by decide +kernel
theorem dX3_wordIs_47 : decode cX3_wordIs 47 = .ok (.aload_n 1, 1) := by decide +kernel
theorem dX3_wordIs_48 : decode cX3_wordIs 48 = .ok (.iload_n 2, 1) := by decide +kernel
theorem dX3_wordIs_49 : decode cX3_wordIs 49 = .ok (.invokevirtual 139, 3) := by decide +kernel
theorem dX3_wordIs_52 : decode cX3_wordIs 52 = .ok (.if_icmp .eq 5, 3) := by decide +kernel
theorem dX3_wordIs_55 : decode cX3_wordIs 55 = .ok (.iconst 0, 1) := by decide +kernel
theorem dX3_wordIs_56 : decode cX3_wordIs 56 = .ok (.ireturn, 1) := by decide +kernel
theorem dX3_wordIs_57 : decode cX3_wordIs 57 = .ok (.iinc 2 1, 3) := by decide +kernel
theorem dX3_wordIs_60 : decode cX3_wordIs 60 = .ok (.goto (-32), 3) := by decide +kernel
theorem dX3_wordIs_63 : decode cX3_wordIs 63 = .ok (.iconst 1, 1) := by decide +kernel
theorem dX3_wordIs_64 : decode cX3_wordIs 64 = .ok (.ireturn, 1) := by decide +kernel
def rX3_wordIs : Room := { frames := 4, cells := 0, slots := 0, locals := 85 }
def vX3_wordIs_c28 (T0 : TS) (p1 : Nat) : Nat → Int32 → Int32
  | 0, x2 => (0)
  | n + 1, x2 => if ((vJ0_length_8abf5 (p1)) ≤ x2) then (1 : Int32) else if (((t_bytes T0) (((t_begin T0) + x2)).toNatClampNeg) = (vJ0_charAt_5068e (p1) x2)) then (vX3_wordIs_c28 T0 p1 n (x2 + (1 : Int32))) else (0 : Int32)
def kX3_wordIs_c28 (T0 : TS) (p1 : Nat) : Nat → Int32 → Prop
  | 0, _ => False
  | n + 1, x2 => (((vJ0_length_8abf5 (p1)) ≤ x2) → True) ∧ (¬ ((vJ0_length_8abf5 (p1)) ≤ x2) → ((vp_in ((t_begin T0) + x2) 120) ∧ (kJ0_charAt_5068e (p1) x2) ∧ ((((t_bytes T0) (((t_begin T0) + x2)).toNatClampNeg) = (vJ0_charAt_5068e (p1) x2)) → ((kX3_wordIs_c28 T0 p1 n (x2 + (1 : Int32))))) ∧ (¬ (((t_bytes T0) (((t_begin T0) + x2)).toNatClampNeg) = (vJ0_charAt_5068e (p1) x2)) → True)))
def vX3_wordIs (T0 : TS) (p1 : Nat) : Int32 := if ((t_sort T0) = (1 : Int32)) then (if (((t_end T0) - (t_begin T0)) = (vJ0_length_8abf5 (p1))) then (vX3_wordIs_c28 T0 p1 1024 (0 : Int32)) else (0 : Int32)) else (0 : Int32)
def kX3_wordIs (T0 : TS) (p1 : Nat) : Prop := (((t_sort T0) = (1 : Int32)) → (((((t_end T0) - (t_begin T0)) = (vJ0_length_8abf5 (p1))) → ((kX3_wordIs_c28 T0 p1 1024 (0 : Int32)))) ∧ (¬ (((t_end T0) - (t_begin T0)) = (vJ0_length_8abf5 (p1))) → True))) ∧ (¬ ((t_sort T0) = (1 : Int32)) → True)
set_option maxHeartbeats 4000000 in
set_option maxRecDepth 100000 in
theorem hX3_wordIs (l : Launch) (D : va_G) (K : JK) (G : JG) (a : Nat → Nat) (T0 : TS) (p1 : Nat) (hj_p1 : p1 < 15) (hk : kX3_wordIs T0 p1) (sz : Nat) : Met l yX3_wordIs (.code yX3_wordIs cX3_wordIs 3 (some .boolean) :: jGW) rX3_wordIs (jPre D (jT K) G [.ref (a 0), .ref (G.2.1 p1)] (wT K a T0) sz) (jQi D (jT K) (vX3_wordIs T0 p1) (wT K a T0) (va_A (wT K a T0) sz)) 0 0 (va_A (wT K a T0) sz) := by
  refine jEi (by decide) (Nat.le_of_ble_eq_true rfl) (fun p e s m below meth c A Q ls hat hP hD hS hl hend => ?_)
  obtain ⟨hx, hb, hml, hown, hts, hK, hZ, hA⟩ := hat
  have hl : lv_has ls 3 [(0, .ref (a 0)), (1, .ref (G.2.1 p1))] := hl
  have hc28 : ∀ (n : Nat) (x2 : Int32) (H : Heap) (locs : List Loc) (ls : Array Slot), (vX3_wordIs T0 p1) = vX3_wordIs_c28 T0 p1 n x2 → kX3_wordIs_c28 T0 p1 n x2 → va_P D vwCl (wT K a T0) H → va_D A (wT K a T0) → va_S A s.heap H locs → lv_has ls 3 [(0, .ref (a 0)), (1, .ref (G.2.1 p1)), (2, .int x2)] → W p l e rX3_wordIs s m ([.ref (a 0), .ref (G.2.1 p1)] : List Value).toArray below meth c H locs 0 0 Q (F0 m 28 ls []) := by
    intro n
    induction n with
    | zero =>
      intro x2 H locs ls hV hk hP hD hS hl
      exact False.elim hk
    | succ n ih =>
      intro x2 H locs ls hV hk hP hD hS hl
      rw [vX3_wordIs_c28] at hV
      rw [kX3_wordIs_c28] at hk
      refine lv_iload_n hx hb dX3_wordIs_28 rfl (lv_at hl 2 rfl) ?_
      refine lv_aload_n hx hb dX3_wordIs_29 rfl (lv_at hl 1 rfl) ?_
      refine jci0 (jrunVs (As := []) (rest := [.int x2]) hx hb hml hown hts hK hZ hA hP hD hS hl.1 mf_J0_length_8abf5 kl_X3_134 ⟨rfl, rfl, Nat.le_of_ble_eq_true rfl, Nat.le_of_ble_eq_true rfl⟩ ⟨Nat.zero_le _, Nat.zero_le _⟩ [] rfl rfl (vk_recv hZ.2.2.1 hj_p1 hS) (hJ0_length_8abf5 l D K G (p1) hj_p1 _) rfl rfl (Nat.le_of_ble_eq_true rfl) dX3_wordIs_30) hA hP hD hS [] rfl (fun H locs hP hS => ?_)
      refine lv_icmp_ge (tgt := 63) hx hb dX3_wordIs_33 (by decide) (fun c7 => ?_) (fun c7 => ?_)
      · have hV := hV.trans (if_pos c7)
        have hk := hk.1 c7
        refine lv_iconst (v := (1 : Int32)) hx hb dX3_wordIs_63 (by decide) ?_
        exact hend _ _ _ _ _ hP hD hS hV.symm rfl dX3_wordIs_64
      · have hV := hV.trans (if_neg c7)
        have hk := hk.2 c7
        refine lv_aload_n hx hb dX3_wordIs_36 rfl (lv_at hl 0 rfl) ?_
        refine gf_X3_9 (v := .ref (a 1)) hx hb hts hown hK hZ hP (0) rfl rfl dX3_wordIs_37 ?_
        refine lv_aload_n hx hb dX3_wordIs_40 rfl (lv_at hl 0 rfl) ?_
        refine gf_X3_22 (v := .int (t_begin T0)) hx hb hts hown hK hZ hP (0) rfl rfl dX3_wordIs_41 ?_
        refine lv_iload_n hx hb dX3_wordIs_44 rfl (lv_at hl 2 rfl) ?_
        refine lv_iadd hx hb dX3_wordIs_45 ?_
        obtain ⟨h8, hk⟩ := hk
        refine va_bald hx hb hK hP (1) 1 rfl rfl h8 dX3_wordIs_46 ?_
        refine lv_aload_n hx hb dX3_wordIs_47 rfl (lv_at hl 1 rfl) ?_
        refine lv_iload_n hx hb dX3_wordIs_48 rfl (lv_at hl 2 rfl) ?_
        obtain ⟨h9, hk⟩ := hk
        refine jci0 (jrunVs (As := [.int x2]) (rest := [.int ((t_bytes T0) (((t_begin T0) + x2)).toNatClampNeg)]) hx hb hml hown hts hK hZ hA hP hD hS hl.1 mf_J0_charAt_5068e kl_X3_139 ⟨rfl, rfl, Nat.le_of_ble_eq_true rfl, Nat.le_of_ble_eq_true rfl⟩ ⟨Nat.zero_le _, Nat.zero_le _⟩ [] rfl rfl (vk_recv hZ.2.2.1 hj_p1 hS) (hJ0_charAt_5068e l D K G (p1) x2 hj_p1 h9 _) rfl rfl (Nat.le_of_ble_eq_true rfl) dX3_wordIs_49) hA hP hD hS [] rfl (fun H locs hP hS => ?_)
        refine lv_icmp_eq (tgt := 57) hx hb dX3_wordIs_52 (by decide) (fun c10 => ?_) (fun c10 => ?_)
        · have hV := hV.trans (if_pos c10)
          have hk := hk.1 c10
          refine lv_iinc (v := (x2 + (1 : Int32))) (lv' := [(2, .int (x2 + (1 : Int32))), (0, .ref (a 0)), (1, .ref (G.2.1 p1))]) hx hb dX3_wordIs_57 hl (k := 2) rfl rfl (by decide) rfl (fun ls hl => ?_)
          refine lv_goto (tgt := 28) hx hb dX3_wordIs_60 (by decide) ?_
          exact ih (x2 + (1 : Int32)) _ _ _ hV hk hP hD hS (lv_sub hl [1, 2, 0] rfl)
        · have hV := hV.trans (if_neg c10)
          have hk := hk.2 c10
          refine lv_iconst (v := (0 : Int32)) hx hb dX3_wordIs_55 (by decide) ?_
          exact hend _ _ _ _ _ hP hD hS hV.symm rfl dX3_wordIs_56
  have hV := vX3_wordIs.eq_1 T0 p1
  rw [kX3_wordIs] at hk
  refine lv_aload_n hx hb dX3_wordIs_0 rfl (lv_at hl 0 rfl) ?_
  refine gf_X3_19 (v := .int (t_sort T0)) hx hb hts hown hK hZ hP (0) rfl rfl dX3_wordIs_1 ?_
  refine lv_iconst (v := (1 : Int32)) hx hb dX3_wordIs_4 (by decide) ?_
  refine lv_icmp_ne (tgt := 24) hx hb dX3_wordIs_5 (by decide) (fun c11 => ?_) (fun c11 => ?_)
  · have hV := hV.trans (if_neg c11)
    have hk := hk.2 c11
    refine lv_iconst (v := (0 : Int32)) hx hb dX3_wordIs_24 (by decide) ?_
    exact hend _ _ _ _ _ hP hD hS hV.symm rfl dX3_wordIs_25
  · have hV := hV.trans (if_pos c11)
    have hk := hk.1 c11
    refine lv_aload_n hx hb dX3_wordIs_8 rfl (lv_at hl 0 rfl) ?_
    refine gf_X3_25 (v := .int (t_end T0)) hx hb hts hown hK hZ hP (0) rfl rfl dX3_wordIs_9 ?_
    refine lv_aload_n hx hb dX3_wordIs_12 rfl (lv_at hl 0 rfl) ?_
    refine gf_X3_22 (v := .int (t_begin T0)) hx hb hts hown hK hZ hP (0) rfl rfl dX3_wordIs_13 ?_
    refine lv_isub hx hb dX3_wordIs_16 ?_
    refine lv_aload_n hx hb dX3_wordIs_17 rfl (lv_at hl 1 rfl) ?_
    refine jci0 (jrunVs (As := []) (rest := [.int ((t_end T0) - (t_begin T0))]) hx hb hml hown hts hK hZ hA hP hD hS hl.1 mf_J0_length_8abf5 kl_X3_134 ⟨rfl, rfl, Nat.le_of_ble_eq_true rfl, Nat.le_of_ble_eq_true rfl⟩ ⟨Nat.zero_le _, Nat.zero_le _⟩ [] rfl rfl (vk_recv hZ.2.2.1 hj_p1 hS) (hJ0_length_8abf5 l D K G (p1) hj_p1 _) rfl rfl (Nat.le_of_ble_eq_true rfl) dX3_wordIs_18) hA hP hD hS [] rfl (fun H locs hP hS => ?_)
    refine lv_icmp_eq (tgt := 26) hx hb dX3_wordIs_21 (by decide) (fun c12 => ?_) (fun c12 => ?_)
    · have hV := hV.trans (if_pos c12)
      have hk := hk.1 c12
      refine lv_iconst (v := (0 : Int32)) hx hb dX3_wordIs_26 (by decide) ?_
      refine lv_istore_n (lv' := [(2, .int (0 : Int32)), (0, .ref (a 0)), (1, .ref (G.2.1 p1))]) hx hb dX3_wordIs_27 rfl hl (by decide) rfl (fun ls hl => ?_)
      exact hc28 1024 (0 : Int32) _ _ _ hV hk hP hD hS (lv_sub hl [1, 2, 0] rfl)
    · have hV := hV.trans (if_neg c12)
      have hk := hk.2 c12
      refine lv_iconst (v := (0 : Int32)) hx hb dX3_wordIs_24 (by decide) ?_
      exact hend _ _ _ _ _ hP hD hS hV.symm rfl dX3_wordIs_25
theorem dX3_wordOfTrait_0 : decode cX3_wordOfTrait 0 = .ok (.iload_n 0, 1) := by decide +kernel
theorem dX3_wordOfTrait_1 : decode cX3_wordOfTrait 1 = .ok (.tableswitch 44 2 6 #[35, 44, 38, 44, 41], 35) := by decide +kernel
theorem dX3_wordOfTrait_36 : decode cX3_wordOfTrait 36 = .ok (.ldc 126, 2) := by decide +kernel
theorem dX3_wordOfTrait_38 : decode cX3_wordOfTrait 38 = .ok (.areturn, 1) := by decide +kernel
theorem dX3_wordOfTrait_39 : decode cX3_wordOfTrait 39 = .ok (.ldc 128, 2) := by decide +kernel
theorem dX3_wordOfTrait_41 : decode cX3_wordOfTrait 41 = .ok (.areturn, 1) := by decide +kernel
theorem dX3_wordOfTrait_42 : decode cX3_wordOfTrait 42 = .ok (.ldc 130, 2) := by decide +kernel
theorem dX3_wordOfTrait_44 : decode cX3_wordOfTrait 44 = .ok (.areturn, 1) := by decide +kernel
theorem dX3_wordOfTrait_45 : decode cX3_wordOfTrait 45 = .ok (.ldc 132, 2) := by decide +kernel
theorem dX3_wordOfTrait_47 : decode cX3_wordOfTrait 47 = .ok (.areturn, 1) := by decide +kernel
def rX3_wordOfTrait : Room := { frames := 0, cells := 0, slots := 0, locals := 0 }
def vX3_wordOfTrait (p0 : Int32) : Nat := if (p0 = (2 : Int32)) then 7 else if (p0 = (3 : Int32)) then 10 else if (p0 = (4 : Int32)) then 8 else if (p0 = (5 : Int32)) then 10 else if (p0 = (6 : Int32)) then 9 else 10
set_option maxHeartbeats 4000000 in
set_option maxRecDepth 100000 in
theorem hX3_wordOfTrait (l : Launch) (D : va_G) (K : JK) (G : JG) (p0 : Int32) (sz : Nat) : Met l yX3_wordOfTrait (.code yX3_wordOfTrait cX3_wordOfTrait 1 (some (.object "java/lang/String")) :: jGW) rX3_wordOfTrait (jPre D (jT K) G [.int p0] ([] : va_W) sz) (jQr D (jT K) (G.2.1 (vX3_wordOfTrait p0)) ([] : va_W) (va_A ([] : va_W) sz)) 0 0 (va_A ([] : va_W) sz) := by
  refine jEr (Or.inl ⟨_, rfl⟩) (by decide) (Nat.le_of_ble_eq_true rfl) (fun p e s m below meth c A Q ls hat hP hD hS hl hend => ?_)
  obtain ⟨hx, hb, hml, hown, hts, hK, hZ, hA⟩ := hat
  have hl : lv_has ls 1 [(0, .int p0)] := hl
  have hV := vX3_wordOfTrait.eq_1 p0
  refine lv_iload_n hx hb dX3_wordOfTrait_0 rfl (lv_at hl 0 rfl) ?_
  by_cases c6 : (p0 = (2 : Int32))
  · have hV := hV.trans (if_pos c6)
    refine lv_tableIn (off := 35) (tgt := 36) hx hb dX3_wordOfTrait_1 (by rw [c6]; decide) (by rw [c6]; decide) (by rw [c6]; rfl) (by decide) ?_
    refine va_ldcS hx hb hown (hZ.2.2.2.1 7 _ rfl) dX3_wordOfTrait_36 ?_
    exact hend _ _ _ _ _ hP hD hS (by rw [hV]) dX3_wordOfTrait_38
  · have hV := hV.trans (if_neg c6)
    by_cases c7 : (p0 = (3 : Int32))
    · have hV := hV.trans (if_pos c7)
      refine lv_tableIn (off := 44) (tgt := 45) hx hb dX3_wordOfTrait_1 (by rw [c7]; decide) (by rw [c7]; decide) (by rw [c7]; rfl) (by decide) ?_
      refine va_ldcS hx hb hown (hZ.2.2.2.1 10 _ rfl) dX3_wordOfTrait_45 ?_
      exact hend _ _ _ _ _ hP hD hS (by rw [hV]) dX3_wordOfTrait_47
    · have hV := hV.trans (if_neg c7)
      by_cases c8 : (p0 = (4 : Int32))
      · have hV := hV.trans (if_pos c8)
        refine lv_tableIn (off := 38) (tgt := 39) hx hb dX3_wordOfTrait_1 (by rw [c8]; decide) (by rw [c8]; decide) (by rw [c8]; rfl) (by decide) ?_
        refine va_ldcS hx hb hown (hZ.2.2.2.1 8 _ rfl) dX3_wordOfTrait_39 ?_
        exact hend _ _ _ _ _ hP hD hS (by rw [hV]) dX3_wordOfTrait_41
      · have hV := hV.trans (if_neg c8)
        by_cases c9 : (p0 = (5 : Int32))
        · have hV := hV.trans (if_pos c9)
          refine lv_tableIn (off := 44) (tgt := 45) hx hb dX3_wordOfTrait_1 (by rw [c9]; decide) (by rw [c9]; decide) (by rw [c9]; rfl) (by decide) ?_
          refine va_ldcS hx hb hown (hZ.2.2.2.1 10 _ rfl) dX3_wordOfTrait_45 ?_
          exact hend _ _ _ _ _ hP hD hS (by rw [hV]) dX3_wordOfTrait_47
        · have hV := hV.trans (if_neg c9)
          by_cases c10 : (p0 = (6 : Int32))
          · have hV := hV.trans (if_pos c10)
            refine lv_tableIn (off := 41) (tgt := 42) hx hb dX3_wordOfTrait_1 (by rw [c10]; decide) (by rw [c10]; decide) (by rw [c10]; rfl) (by decide) ?_
            refine va_ldcS hx hb hown (hZ.2.2.2.1 9 _ rfl) dX3_wordOfTrait_42 ?_
            exact hend _ _ _ _ _ hP hD hS (by rw [hV]) dX3_wordOfTrait_44
          · have hV := hV.trans (if_neg c10)
            refine lv_tableOut (tgt := 45) hx hb dX3_wordOfTrait_1 (by have n0 := jneL (z := 2) c6 (by decide); have n1 := jneL (z := 3) c7 (by decide); have n2 := jneL (z := 4) c8 (by decide); have n3 := jneL (z := 5) c9 (by decide); have n4 := jneL (z := 6) c10 (by decide); omega) (by decide) ?_
            refine va_ldcS hx hb hown (hZ.2.2.2.1 10 _ rfl) dX3_wordOfTrait_45 ?_
            exact hend _ _ _ _ _ hP hD hS (by rw [hV]) dX3_wordOfTrait_47
theorem dX3_takeWord_0 : decode cX3_takeWord 0 = .ok (.aload_n 0, 1) := by decide +kernel
theorem dX3_takeWord_1 : decode cX3_takeWord 1 = .ok (.aload_n 1, 1) := by decide +kernel
theorem dX3_takeWord_2 : decode cX3_takeWord 2 = .ok (.invokevirtual 45, 3) := by decide +kernel
theorem dX3_takeWord_5 : decode cX3_takeWord 5 = .ok (.ifCond .ne 5, 3) := by decide +kernel
theorem dX3_takeWord_8 : decode cX3_takeWord 8 = .ok (.iconst 0, 1) := by decide +kernel
theorem dX3_takeWord_9 : decode cX3_takeWord 9 = .ok (.ireturn, 1) := by decide +kernel
theorem dX3_takeWord_10 : decode cX3_takeWord 10 = .ok (.aload_n 0, 1) := by decide +kernel
theorem dX3_takeWord_11 : decode cX3_takeWord 11 = .ok (.invokevirtual 34, 3) := by decide +kernel
theorem dX3_takeWord_14 : decode cX3_takeWord 14 = .ok (.iconst 1, 1) := by decide +kernel
theorem dX3_takeWord_15 : decode cX3_takeWord 15 = .ok (.ireturn, 1) := by decide +kernel
def rX3_takeWord : Room := { frames := 5, cells := 0, slots := 0, locals := 107 }
def vX3_takeWord (T0 : TS) (p1 : Nat) : Int32 × TS := if ((vX3_wordIs T0 (p1)) = 0) then ((0 : Int32), T0) else ((1 : Int32), (vX3_nextToken T0))
def kX3_takeWord (T0 : TS) (p1 : Nat) : Prop := (kX3_wordIs T0 (p1)) ∧ (((vX3_wordIs T0 (p1)) = 0) → True) ∧ (¬ ((vX3_wordIs T0 (p1)) = 0) → ((kX3_nextToken T0) ∧ True))
set_option maxHeartbeats 4000000 in
set_option maxRecDepth 100000 in
theorem hX3_takeWord (l : Launch) (D : va_G) (K : JK) (G : JG) (a : Nat → Nat) (T0 : TS) (p1 : Nat) (hj_p1 : p1 < 15) (hk : kX3_takeWord T0 p1) (sz : Nat) : Met l yX3_takeWord (.code yX3_takeWord cX3_takeWord 2 (some .boolean) :: jGW) rX3_takeWord (jPre D (jT K) G [.ref (a 0), .ref (G.2.1 p1)] (wT K a T0) sz) (jQi D (jT K) ((vX3_takeWord T0 p1).1) (wT K a ((vX3_takeWord T0 p1).2)) (va_A (wT K a T0) sz)) 0 0 (va_A (wT K a T0) sz) := by
  refine jEi (by decide) (Nat.le_of_ble_eq_true rfl) (fun p e s m below meth c A Q ls hat hP hD hS hl hend => ?_)
  obtain ⟨hx, hb, hml, hown, hts, hK, hZ, hA⟩ := hat
  have hl : lv_has ls 2 [(0, .ref (a 0)), (1, .ref (G.2.1 p1))] := hl
  have hV := vX3_takeWord.eq_1 T0 p1
  rw [kX3_takeWord] at hk
  refine lv_aload_n hx hb dX3_takeWord_0 rfl (lv_at hl 0 rfl) ?_
  refine lv_aload_n hx hb dX3_takeWord_1 rfl (lv_at hl 1 rfl) ?_
  obtain ⟨h4, hk⟩ := hk
  refine jci0 (jrunV (As := [.ref (G.2.1 p1)]) (rest := []) hx hb hml hown hts hK hZ hA hP hD hS hl.1 mf_X3_wordIs kl_X3_45 ⟨rfl, rfl, Nat.le_of_ble_eq_true rfl, Nat.le_of_ble_eq_true rfl⟩ ⟨Nat.zero_le _, Nat.zero_le _⟩ [0, 1] rfl (js28 K a T0) rfl rfl rfl (hX3_wordIs l D K G a T0 (p1) hj_p1 h4 _) rfl rfl (Nat.le_of_ble_eq_true rfl) dX3_takeWord_2) hA hP hD hS [0, 1] (js28 K a T0) (fun H locs hP hS => ?_)
  refine lv_if_ne (tgt := 10) hx hb dX3_takeWord_5 (by decide) (fun c5 => ?_) (fun c5 => ?_)
  · have hV := hV.trans (if_neg c5)
    have hk := hk.2 c5
    refine lv_aload_n hx hb dX3_takeWord_10 rfl (lv_at hl 0 rfl) ?_
    obtain ⟨h6, hk⟩ := hk
    refine jcv (jrunV (As := []) (rest := []) hx hb hml hown hts hK hZ hA hP hD hS hl.1 mf_X3_nextToken kl_X3_34 ⟨rfl, rfl, Nat.le_of_ble_eq_true rfl, Nat.le_of_ble_eq_true rfl⟩ ⟨Nat.zero_le _, Nat.zero_le _⟩ [0, 1] rfl (js28 K a T0) rfl rfl rfl (hX3_nextToken l D K G a T0 h6 _) rfl rfl (Nat.le_of_ble_eq_true rfl) dX3_takeWord_11) hA hP hD hS [0, 1] (js28 K a T0) (jh29 K a T0 (vX3_nextToken T0)) (fun H locs hP hD hS => ?_)
    have hP := jeP (jp30 K a T0 (vX3_nextToken T0)) hP
    have hD := jeD (jp30 K a T0 (vX3_nextToken T0)) hD
    refine lv_iconst (v := (1 : Int32)) hx hb dX3_takeWord_14 (by decide) ?_
    exact hend _ _ _ _ _ (by rw [hV]; exact hP) (by rw [hV]; exact hD) hS (by rw [hV]) rfl dX3_takeWord_15
  · have hV := hV.trans (if_pos c5)
    have hk := hk.1 c5
    refine lv_iconst (v := (0 : Int32)) hx hb dX3_takeWord_8 (by decide) ?_
    exact hend _ _ _ _ _ (by rw [hV]; exact hP) (by rw [hV]; exact hD) hS (by rw [hV]) rfl dX3_takeWord_9
theorem js35 (K : JK) (a : Nat → Nat) (b : Nat → Nat) (T : TS) (E : ES) : [2, 3, 4, 5, 6].map (fun i => (wT K a T ++ wE K b E)[i]?) = (wE K b E).map some := rfl
theorem jh36 (K : JK) (a : Nat → Nat) (b : Nat → Nat) (T : TS) (E : ES) (Z0 : ES) : (wE K b Z0).map Prod.fst = (wE K b E).map Prod.fst := rfl
theorem jp37 (K : JK) (a : Nat → Nat) (b : Nat → Nat) (T : TS) (E : ES) (Z0 : ES) : jput (wT K a T ++ wE K b E) [2, 3, 4, 5, 6] (wE K b Z0) = (wT K a T ++ wE K b Z0) := rfl
theorem dX3_readThing_0 : decode cX3_readThing 0 = .ok (.aload_n 1, 1) := by decide +kernel
theorem dX3_readThing_1 : decode cX3_readThing 1 = .ok (.getfield 70, 3) := by decide +kernel
theorem dX3_readThing_4 : decode cX3_readThing 4 = .ok (.bipush 8, 2) := by decide +kernel
theorem dX3_readThing_6 : decode cX3_readThing 6 = .ok (.if_icmp .lt 5, 3) := by decide +kernel
theorem dX3_readThing_9 : decode cX3_readThing 9 = .ok (.iconst 0, 1) := by decide +kernel
theorem dX3_readThing_10 : decode cX3_readThing 10 = .ok (.ireturn, 1) := by decide +kernel
theorem dX3_readThing_11 : decode cX3_readThing 11 = .ok (.aload_n 0, 1) := by decide +kernel
theorem dX3_readThing_12 : decode cX3_readThing 12 = .ok (.invokevirtual 34, 3) := by decide +kernel
theorem dX3_readThing_15 : decode cX3_readThing 15 = .ok (.aload_n 0, 1) := by decide +kernel
theorem dX3_readThing_16 : decode cX3_readThing 16 = .ok (.iconst 0, 1) := by decide +kernel
theorem dX3_readThing_17 : decode cX3_readThing 17 = .ok (.getstatic 75, 3) := by decide +kernel
theorem dX3_readThing_20 : decode cX3_readThing 20 = .ok (.iconst 1, 1) := by decide +kernel
theorem dX3_readThing_21 : decode cX3_readThing 21 = .ok (.iaload, 1) := by decide +kernel
theorem dX3_readThing_22 : decode cX3_readThing 22 = .ok (.invokevirtual 79, 3) := by decide +kernel
theorem dX3_readThing_25 : decode cX3_readThing 25 = .ok (.ifCond .ne 5, 3) := by decide +kernel
theorem dX3_readThing_28 : decode cX3_readThing 28 = .ok (.iconst 0, 1) := by decide +kernel
theorem dX3_readThing_29 : decode cX3_readThing 29 = .ok (.ireturn, 1) := by decide +kernel
theorem dX3_readThing_30 : decode cX3_readThing 30 = .ok (.aload_n 1, 1) := by decide +kernel
theorem dX3_readThing_31 : decode cX3_readThing 31 = .ok (.iload_n 2, 1) := by decide +kernel
theorem dX3_readThing_32 : decode cX3_readThing 32 = .ok (.aload_n 0, 1) := by decide +kernel
theorem dX3_readThing_33 : decode cX3_readThing 33 = .ok (.getfield 31, 3) := by decide +kernel
theorem dX3_readThing_36 : decode cX3_readThing 36 = .ok (.invokevirtual 83, 3) := by decide +kernel
theorem dX3_readThing_39 : decode cX3_readThing 39 = .ok (.istore_n 3, 1) := by decide +kernel
theorem dX3_readThing_40 : decode cX3_readThing 40 = .ok (.iconst 2, 1) := by decide +kernel
theorem dX3_readThing_41 : decode cX3_readThing 41 = .ok (.istore 4, 2) := by decide +kernel
theorem dX3_readThing_43 : decode cX3_readThing 43 = .ok (.iload 4, 2) := by decide +kernel
theorem dX3_readThing_45 : decode cX3_readThing 45 = .ok (.bipush 7, 2) := by decide +kernel
theorem dX3_readThing_47 : decode cX3_readThing 47 = .ok (.if_icmp .ge 48, 3) := by decide +kernel
theorem dX3_readThing_50 : decode cX3_readThing 50 = .ok (.aload_n 0, 1) := by decide +kernel
theorem dX3_readThing_51 : decode cX3_readThing 51 = .ok (.iload 4, 2) := by decide +kernel
theorem dX3_readThing_53 : decode cX3_readThing 53 = .ok (.invokestatic 87, 3) := by decide +kernel
theorem dX3_readThing_56 : decode cX3_readThing 56 = .ok (.invokevirtual 55, 3) := by decide +kernel
theorem dX3_readThing_59 : decode cX3_readThing 59 = .ok (.ifCond .eq 30, 3) := by decide +kernel
theorem dX3_readThing_62 : decode cX3_readThing 62 = .ok (.aload_n 0, 1) := by decide +kernel
theorem dX3_readThing_63 : decode cX3_readThing 63 = .ok (.iconst 0, 1) := by decide +kernel
theorem dX3_readThing_64 : decode cX3_readThing 64 = .ok (.getstatic 75, 3) := by decide +kernel
theorem dX3_readThing_67 : decode cX3_readThing 67 = .ok (.iload 4, 2) := by decide +kernel
theorem dX3_readThing_69 : decode cX3_readThing 69 = .ok (.iaload, 1) := by decide +kernel
theorem dX3_readThing_70 : decode cX3_readThing 70 = .ok (.invokevirtual 79, 3) := by decide +kernel
theorem dX3_readThing_73 : decode cX3_readThing 73 = .ok (.ifCond .ne 5, 3) := by decide +kernel
theorem dX3_readThing_76 : decode cX3_readThing 76 = .ok (.iconst 0, 1) := by decide +kernel
theorem dX3_readThing_77 : decode cX3_readThing 77 = .ok (.ireturn, 1) := by decide +kernel
theorem dX3_readThing_78 : decode cX3_readThing 78 = .ok (.aload_n 1, 1) := by decide +kernel
theorem dX3_readThing_79 : decode cX3_readThing 79 = .ok (.iload_n 3, 1) := by decide +kernel
theorem dX3_readThing_80 : decode cX3_readThing 80 = .ok (.iload 4, 2) := by decide +kernel
theorem dX3_readThing_82 : decode cX3_readThing 82 = .ok (.aload_n 0, 1) := by decide +kernel
theorem dX3_readThing_83 : decode cX3_readThing 83 = .ok (.getfield 31, 3) := by decide +kernel
theorem dX3_readThing_86 : decode cX3_readThing 86 = .ok (.invokevirtual 90, 3) := by decide +kernel
theorem dX3_readThing_89 : decode cX3_readThing 89 = .ok (.iinc 4 1, 3) := by decide +kernel
theorem dX3_readThing_92 : decode cX3_readThing 92 = .ok (.goto (-49), 3) := by decide +kernel
theorem dX3_readThing_95 : decode cX3_readThing 95 = .ok (.iconst 1, 1) := by decide +kernel
theorem dX3_readThing_96 : decode cX3_readThing 96 = .ok (.ireturn, 1) := by decide +kernel
def rX3_readThing : Room := { frames := 6, cells := 0, slots := 0, locals := 128 }
def vX3_readThing_c89 (p2 : Int32) (k : TS → ES → Int32 → Int32 → Int32 × TS × ES) (T : TS) (E : ES) (x3 : Int32) (x4 : Int32) : Int32 × TS × ES := (k T E x3 (x4 + (1 : Int32)))
def kX3_readThing_c89 (p2 : Int32) (q : TS → ES → Int32 → Int32 → Prop) (T : TS) (E : ES) (x3 : Int32) (x4 : Int32) : Prop := (q T E x3 (x4 + (1 : Int32)))
def vX3_readThing_c73 (p2 : Int32) (k : TS → ES → Int32 → Int32 → Int32 × TS × ES) (T : TS) (E : ES) (x3 : Int32) (x4 : Int32) (y0 : Int32) : Int32 × TS × ES := if (y0 = 0) then ((0 : Int32), T, E) else (vX3_readThing_c89 p2 k T (vX0_put E x3 x4 (t_taken T)) x3 x4)
def kX3_readThing_c73 (p2 : Int32) (q : TS → ES → Int32 → Int32 → Prop) (T : TS) (E : ES) (x3 : Int32) (x4 : Int32) (y0 : Int32) : Prop := ((y0 = 0) → True) ∧ (¬ (y0 = 0) → ((kX0_put E x3 x4 (t_taken T)) ∧ (kX3_readThing_c89 p2 q T (vX0_put E x3 x4 (t_taken T)) x3 x4)))
def vX3_readThing_c59 (p2 : Int32) (k : TS → ES → Int32 → Int32 → Int32 × TS × ES) (T : TS) (E : ES) (x3 : Int32) (x4 : Int32) (y0 : Int32) : Int32 × TS × ES := if (y0 = 0) then (vX3_readThing_c89 p2 k T E x3 x4) else (vX3_readThing_c73 p2 k ((vX3_takeNumber T (0 : Int32) (jTM.getD (x4).toNatClampNeg 0)).2) E x3 x4 ((vX3_takeNumber T (0 : Int32) (jTM.getD (x4).toNatClampNeg 0)).1))
def kX3_readThing_c59 (p2 : Int32) (q : TS → ES → Int32 → Int32 → Prop) (T : TS) (E : ES) (x3 : Int32) (x4 : Int32) (y0 : Int32) : Prop := ((y0 = 0) → ((kX3_readThing_c89 p2 q T E x3 x4))) ∧ (¬ (y0 = 0) → ((vp_in x4 7) ∧ (kX3_takeNumber T (0 : Int32) (jTM.getD (x4).toNatClampNeg 0)) ∧ (kX3_readThing_c73 p2 q ((vX3_takeNumber T (0 : Int32) (jTM.getD (x4).toNatClampNeg 0)).2) E x3 x4 ((vX3_takeNumber T (0 : Int32) (jTM.getD (x4).toNatClampNeg 0)).1))))
def vX3_readThing_c43 (p2 : Int32) : Nat → TS → ES → Int32 → Int32 → Int32 × TS × ES
  | 0, T, E, x3, x4 => (0, T, E)
  | n + 1, T, E, x3, x4 => if ((7 : Int32) ≤ x4) then ((1 : Int32), T, E) else (vX3_readThing_c59 p2 (fun T E x3 x4 => vX3_readThing_c43 p2 n T E x3 x4) ((vX3_takeWord T ((vX3_wordOfTrait x4))).2) E x3 x4 ((vX3_takeWord T ((vX3_wordOfTrait x4))).1))
def kX3_readThing_c43 (p2 : Int32) : Nat → TS → ES → Int32 → Int32 → Prop
  | 0, _, _, _, _ => False
  | n + 1, T, E, x3, x4 => (((7 : Int32) ≤ x4) → True) ∧ (¬ ((7 : Int32) ≤ x4) → (((vX3_wordOfTrait x4) < 15) ∧ (kX3_takeWord T ((vX3_wordOfTrait x4))) ∧ (kX3_readThing_c59 p2 (fun T E x3 x4 => kX3_readThing_c43 p2 n T E x3 x4) ((vX3_takeWord T ((vX3_wordOfTrait x4))).2) E x3 x4 ((vX3_takeWord T ((vX3_wordOfTrait x4))).1))))
def vX3_readThing_c39 (p2 : Int32) (T : TS) (E : ES) (y0 : Int32) : Int32 × TS × ES := (vX3_readThing_c43 p2 1024 T E y0 (2 : Int32))
def kX3_readThing_c39 (p2 : Int32) (T : TS) (E : ES) (y0 : Int32) : Prop := (kX3_readThing_c43 p2 1024 T E y0 (2 : Int32))
def vX3_readThing_c25 (p2 : Int32) (T : TS) (E : ES) (y0 : Int32) : Int32 × TS × ES := if (y0 = 0) then ((0 : Int32), T, E) else (vX3_readThing_c39 p2 T ((vX0_add E p2 (t_taken T)).2) ((vX0_add E p2 (t_taken T)).1))
def kX3_readThing_c25 (p2 : Int32) (T : TS) (E : ES) (y0 : Int32) : Prop := ((y0 = 0) → True) ∧ (¬ (y0 = 0) → ((kX0_add E p2 (t_taken T)) ∧ (kX3_readThing_c39 p2 T ((vX0_add E p2 (t_taken T)).2) ((vX0_add E p2 (t_taken T)).1))))
def vX3_readThing_c15 (p2 : Int32) (T : TS) (E : ES) : Int32 × TS × ES := (vX3_readThing_c25 p2 ((vX3_takeNumber T (0 : Int32) (jTM.getD ((1 : Int32)).toNatClampNeg 0)).2) E ((vX3_takeNumber T (0 : Int32) (jTM.getD ((1 : Int32)).toNatClampNeg 0)).1))
def kX3_readThing_c15 (p2 : Int32) (T : TS) (E : ES) : Prop := (kX3_takeNumber T (0 : Int32) (jTM.getD ((1 : Int32)).toNatClampNeg 0)) ∧ (kX3_readThing_c25 p2 ((vX3_takeNumber T (0 : Int32) (jTM.getD ((1 : Int32)).toNatClampNeg 0)).2) E ((vX3_takeNumber T (0 : Int32) (jTM.getD ((1 : Int32)).toNatClampNeg 0)).1))
def vX3_readThing (T0 : TS) (E0 : ES) (p2 : Int32) : Int32 × TS × ES := if ((e_things E0) < (8 : Int32)) then (vX3_readThing_c15 p2 (vX3_nextToken T0) E0) else ((0 : Int32), T0, E0)
def kX3_readThing (T0 : TS) (E0 : ES) (p2 : Int32) : Prop := (((e_things E0) < (8 : Int32)) → ((kX3_nextToken T0) ∧ (kX3_readThing_c15 p2 (vX3_nextToken T0) E0))) ∧ (¬ ((e_things E0) < (8 : Int32)) → True)
set_option maxHeartbeats 4000000 in
set_option maxRecDepth 100000 in
theorem hX3_readThing (l : Launch) (D : va_G) (K : JK) (G : JG) (a : Nat → Nat) (b : Nat → Nat) (T0 : TS) (E0 : ES) (p2 : Int32) (hk : kX3_readThing T0 E0 p2) (sz : Nat) : Met l yX3_readThing (.code yX3_readThing cX3_readThing 5 (some .boolean) :: jGW) rX3_readThing (jPre D (jT K) G [.ref (a 0), .ref (b 0), .int p2] (wT K a T0 ++ wE K b E0) sz) (jQi D (jT K) ((vX3_readThing T0 E0 p2).1) (wT K a ((vX3_readThing T0 E0 p2).2.1) ++ wE K b ((vX3_readThing T0 E0 p2).2.2)) (va_A (wT K a T0 ++ wE K b E0) sz)) 0 0 (va_A (wT K a T0 ++ wE K b E0) sz) := by
  refine jEi (by decide) (Nat.le_of_ble_eq_true rfl) (fun p e s m below meth c A Q ls hat hP hD hS hl hend => ?_)
  obtain ⟨hx, hb, hml, hown, hts, hK, hZ, hA⟩ := hat
  have hl : lv_has ls 5 [(0, .ref (a 0)), (1, .ref (b 0)), (2, .int p2)] := hl
  have hc43 : ∀ (n : Nat) (T : TS) (E : ES) (x3 : Int32) (x4 : Int32) (H : Heap) (locs : List Loc) (ls : Array Slot), (vX3_readThing T0 E0 p2) = vX3_readThing_c43 p2 n T E x3 x4 → kX3_readThing_c43 p2 n T E x3 x4 → va_P D vwCl (wT K a T ++ wE K b E) H → va_D A (wT K a T ++ wE K b E) → va_S A s.heap H locs → lv_has ls 5 [(0, .ref (a 0)), (1, .ref (b 0)), (2, .int p2), (3, .int x3), (4, .int x4)] → W p l e rX3_readThing s m ([.ref (a 0), .ref (b 0), .int p2] : List Value).toArray below meth c H locs 0 0 Q (F0 m 43 ls []) := by
    intro n
    induction n with
    | zero =>
      intro T E x3 x4 H locs ls hV hk hP hD hS hl
      exact False.elim hk
    | succ n ih =>
      have hc89 : ∀ (T : TS) (E : ES) (x3 : Int32) (x4 : Int32) (H : Heap) (locs : List Loc) (ls : Array Slot), (vX3_readThing T0 E0 p2) = vX3_readThing_c89 p2 (fun T E x3 x4 => vX3_readThing_c43 p2 n T E x3 x4) T E x3 x4 → kX3_readThing_c89 p2 (fun T E x3 x4 => kX3_readThing_c43 p2 n T E x3 x4) T E x3 x4 → va_P D vwCl (wT K a T ++ wE K b E) H → va_D A (wT K a T ++ wE K b E) → va_S A s.heap H locs → lv_has ls 5 [(0, .ref (a 0)), (1, .ref (b 0)), (2, .int p2), (3, .int x3), (4, .int x4)] → W p l e rX3_readThing s m ([.ref (a 0), .ref (b 0), .int p2] : List Value).toArray below meth c H locs 0 0 Q (F0 m 89 ls []) := by
        intro T E x3 x4 H locs ls hV hk hP hD hS hl
        rw [vX3_readThing_c89] at hV
        rw [kX3_readThing_c89] at hk
        refine lv_iinc (v := (x4 + (1 : Int32))) (lv' := [(4, .int (x4 + (1 : Int32))), (0, .ref (a 0)), (1, .ref (b 0)), (2, .int p2), (3, .int x3)]) hx hb dX3_readThing_89 hl (k := 4) rfl rfl (by decide) rfl (fun ls hl => ?_)
        refine lv_goto (tgt := 43) hx hb dX3_readThing_92 (by decide) ?_
        exact ih T E x3 (x4 + (1 : Int32)) _ _ _ hV hk hP hD hS (lv_sub hl [1, 2, 3, 4, 0] rfl)
      have hc73 : ∀ (T : TS) (E : ES) (x3 : Int32) (x4 : Int32) (y0 : Int32) (H : Heap) (locs : List Loc) (ls : Array Slot), (vX3_readThing T0 E0 p2) = vX3_readThing_c73 p2 (fun T E x3 x4 => vX3_readThing_c43 p2 n T E x3 x4) T E x3 x4 y0 → kX3_readThing_c73 p2 (fun T E x3 x4 => kX3_readThing_c43 p2 n T E x3 x4) T E x3 x4 y0 → va_P D vwCl (wT K a T ++ wE K b E) H → va_D A (wT K a T ++ wE K b E) → va_S A s.heap H locs → lv_has ls 5 [(0, .ref (a 0)), (1, .ref (b 0)), (2, .int p2), (3, .int x3), (4, .int x4)] → W p l e rX3_readThing s m ([.ref (a 0), .ref (b 0), .int p2] : List Value).toArray below meth c H locs 0 0 Q (F0 m 73 ls [.int y0]) := by
        intro T E x3 x4 y0 H locs ls hV hk hP hD hS hl
        rw [vX3_readThing_c73] at hV
        rw [kX3_readThing_c73] at hk
        refine lv_if_ne (tgt := 78) hx hb dX3_readThing_73 (by decide) (fun c14 => ?_) (fun c14 => ?_)
        · have hV := hV.trans (if_neg c14)
          have hk := hk.2 c14
          refine lv_aload_n hx hb dX3_readThing_78 rfl (lv_at hl 1 rfl) ?_
          refine lv_iload_n hx hb dX3_readThing_79 rfl (lv_at hl 3 rfl) ?_
          refine lv_iload hx hb dX3_readThing_80 (lv_at hl 4 rfl) ?_
          refine lv_aload_n hx hb dX3_readThing_82 rfl (lv_at hl 0 rfl) ?_
          refine gf_X3_31 (v := .int (t_taken T)) hx hb hts hown hK hZ hP (0) rfl rfl dX3_readThing_83 ?_
          obtain ⟨h15, hk⟩ := hk
          refine jcv (jrunV (As := [.int x3, .int x4, .int (t_taken T)]) (rest := []) hx hb hml hown hts hK hZ hA hP hD hS hl.1 mf_X0_put kl_X3_90 ⟨rfl, rfl, Nat.le_of_ble_eq_true rfl, Nat.le_of_ble_eq_true rfl⟩ ⟨Nat.zero_le _, Nat.zero_le _⟩ [2, 3, 4, 5, 6] rfl (js35 K a b T E) rfl rfl rfl (hX0_put l D K G b E x3 x4 (t_taken T) h15 _) rfl rfl (Nat.le_of_ble_eq_true rfl) dX3_readThing_86) hA hP hD hS [2, 3, 4, 5, 6] (js35 K a b T E) (jh36 K a b T E (vX0_put E x3 x4 (t_taken T))) (fun H locs hP hD hS => ?_)
          have hP := jeP (jp37 K a b T E (vX0_put E x3 x4 (t_taken T))) hP
          have hD := jeD (jp37 K a b T E (vX0_put E x3 x4 (t_taken T))) hD
          exact hc89 T (vX0_put E x3 x4 (t_taken T)) x3 x4 _ _ _ hV hk hP hD hS (lv_sub hl [0, 1, 2, 3, 4] rfl)
        · have hV := hV.trans (if_pos c14)
          have hk := hk.1 c14
          refine lv_iconst (v := (0 : Int32)) hx hb dX3_readThing_76 (by decide) ?_
          exact hend _ _ _ _ _ (by rw [hV]; exact hP) (by rw [hV]; exact hD) hS (by rw [hV]) rfl dX3_readThing_77
      have hc59 : ∀ (T : TS) (E : ES) (x3 : Int32) (x4 : Int32) (y0 : Int32) (H : Heap) (locs : List Loc) (ls : Array Slot), (vX3_readThing T0 E0 p2) = vX3_readThing_c59 p2 (fun T E x3 x4 => vX3_readThing_c43 p2 n T E x3 x4) T E x3 x4 y0 → kX3_readThing_c59 p2 (fun T E x3 x4 => kX3_readThing_c43 p2 n T E x3 x4) T E x3 x4 y0 → va_P D vwCl (wT K a T ++ wE K b E) H → va_D A (wT K a T ++ wE K b E) → va_S A s.heap H locs → lv_has ls 5 [(0, .ref (a 0)), (1, .ref (b 0)), (2, .int p2), (3, .int x3), (4, .int x4)] → W p l e rX3_readThing s m ([.ref (a 0), .ref (b 0), .int p2] : List Value).toArray below meth c H locs 0 0 Q (F0 m 59 ls [.int y0]) := by
        intro T E x3 x4 y0 H locs ls hV hk hP hD hS hl
        rw [vX3_readThing_c59] at hV
        rw [kX3_readThing_c59] at hk
        refine lv_if_eq (tgt := 89) hx hb dX3_readThing_59 (by decide) (fun c16 => ?_) (fun c16 => ?_)
        · have hV := hV.trans (if_pos c16)
          have hk := hk.1 c16
          exact hc89 T E x3 x4 _ _ _ hV hk hP hD hS (lv_sub hl [0, 1, 2, 3, 4] rfl)
        · have hV := hV.trans (if_neg c16)
          have hk := hk.2 c16
          refine lv_aload_n hx hb dX3_readThing_62 rfl (lv_at hl 0 rfl) ?_
          refine lv_iconst (v := (0 : Int32)) hx hb dX3_readThing_63 (by decide) ?_
          refine gs_X3_75 hx hb hts hown hZ hS dX3_readThing_64 ?_
          refine lv_iload hx hb dX3_readThing_67 (lv_at hl 4 rfl) ?_
          obtain ⟨h17, hk⟩ := hk
          refine va_ti (v := .int (jTM.getD (x4).toNatClampNeg 0)) hx hb (hZ.1 3 _ rfl).2 hS h17 rfl dX3_readThing_69 ?_
          obtain ⟨h18, hk⟩ := hk
          refine jci (jrunV (As := [.int (0 : Int32), .int (jTM.getD (x4).toNatClampNeg 0)]) (rest := []) hx hb hml hown hts hK hZ hA hP hD hS hl.1 mf_X3_takeNumber kl_X3_79 ⟨rfl, rfl, Nat.le_of_ble_eq_true rfl, Nat.le_of_ble_eq_true rfl⟩ ⟨Nat.zero_le _, Nat.zero_le _⟩ [0, 1] rfl (js31 K a b T E) rfl rfl rfl (hX3_takeNumber l D K G a T (0 : Int32) (jTM.getD (x4).toNatClampNeg 0) h18 _) rfl rfl (Nat.le_of_ble_eq_true rfl) dX3_readThing_70) hA hP hD hS [0, 1] (js31 K a b T E) (jh32 K a b T E ((vX3_takeNumber T (0 : Int32) (jTM.getD (x4).toNatClampNeg 0)).2)) (fun H locs hP hD hS => ?_)
          have hP := jeP (jp33 K a b T E ((vX3_takeNumber T (0 : Int32) (jTM.getD (x4).toNatClampNeg 0)).2)) hP
          have hD := jeD (jp33 K a b T E ((vX3_takeNumber T (0 : Int32) (jTM.getD (x4).toNatClampNeg 0)).2)) hD
          exact hc73 ((vX3_takeNumber T (0 : Int32) (jTM.getD (x4).toNatClampNeg 0)).2) E x3 x4 ((vX3_takeNumber T (0 : Int32) (jTM.getD (x4).toNatClampNeg 0)).1) _ _ _ hV hk hP hD hS (lv_sub hl [0, 1, 2, 3, 4] rfl)
      intro T E x3 x4 H locs ls hV hk hP hD hS hl
      rw [vX3_readThing_c43] at hV
      rw [kX3_readThing_c43] at hk
      refine lv_iload hx hb dX3_readThing_43 (lv_at hl 4 rfl) ?_
      refine lv_bipush (v := (7 : Int32)) hx hb dX3_readThing_45 (by decide) ?_
      refine lv_icmp_ge (tgt := 95) hx hb dX3_readThing_47 (by decide) (fun c19 => ?_) (fun c19 => ?_)
      · have hV := hV.trans (if_pos c19)
        have hk := hk.1 c19
        refine lv_iconst (v := (1 : Int32)) hx hb dX3_readThing_95 (by decide) ?_
        exact hend _ _ _ _ _ (by rw [hV]; exact hP) (by rw [hV]; exact hD) hS (by rw [hV]) rfl dX3_readThing_96
      · have hV := hV.trans (if_neg c19)
        have hk := hk.2 c19
        refine lv_aload_n hx hb dX3_readThing_50 rfl (lv_at hl 0 rfl) ?_
        refine lv_iload hx hb dX3_readThing_51 (lv_at hl 4 rfl) ?_
        refine jcr0 (jrunS (As := [.int x4]) (rest := [.ref (a 0)]) hx hb hml hown hts hK hZ hA hP hD hS hl.1 mf_X3_wordOfTrait kl_X3_87 ⟨rfl, rfl, Nat.le_of_ble_eq_true rfl, Nat.le_of_ble_eq_true rfl⟩ ⟨Nat.zero_le _, Nat.zero_le _⟩ [] rfl rfl (hX3_wordOfTrait l D K G x4 _) rfl rfl (Nat.le_of_ble_eq_true rfl) dX3_readThing_53) hA hP hD hS [] rfl (fun H locs hP hS => ?_)
        obtain ⟨h20, hk⟩ := hk
        obtain ⟨h21, hk⟩ := hk
        refine jci (jrunV (As := [.ref (G.2.1 (vX3_wordOfTrait x4))]) (rest := []) hx hb hml hown hts hK hZ hA hP hD hS hl.1 mf_X3_takeWord kl_X3_55 ⟨rfl, rfl, Nat.le_of_ble_eq_true rfl, Nat.le_of_ble_eq_true rfl⟩ ⟨Nat.zero_le _, Nat.zero_le _⟩ [0, 1] rfl (js31 K a b T E) rfl rfl rfl (hX3_takeWord l D K G a T ((vX3_wordOfTrait x4)) h20 h21 _) rfl rfl (Nat.le_of_ble_eq_true rfl) dX3_readThing_56) hA hP hD hS [0, 1] (js31 K a b T E) (jh32 K a b T E ((vX3_takeWord T ((vX3_wordOfTrait x4))).2)) (fun H locs hP hD hS => ?_)
        have hP := jeP (jp33 K a b T E ((vX3_takeWord T ((vX3_wordOfTrait x4))).2)) hP
        have hD := jeD (jp33 K a b T E ((vX3_takeWord T ((vX3_wordOfTrait x4))).2)) hD
        exact hc59 ((vX3_takeWord T ((vX3_wordOfTrait x4))).2) E x3 x4 ((vX3_takeWord T ((vX3_wordOfTrait x4))).1) _ _ _ hV hk hP hD hS (lv_sub hl [0, 1, 2, 3, 4] rfl)
  have hc39 : ∀ (T : TS) (E : ES) (y0 : Int32) (H : Heap) (locs : List Loc) (ls : Array Slot), (vX3_readThing T0 E0 p2) = vX3_readThing_c39 p2 T E y0 → kX3_readThing_c39 p2 T E y0 → va_P D vwCl (wT K a T ++ wE K b E) H → va_D A (wT K a T ++ wE K b E) → va_S A s.heap H locs → lv_has ls 5 [(0, .ref (a 0)), (1, .ref (b 0)), (2, .int p2)] → W p l e rX3_readThing s m ([.ref (a 0), .ref (b 0), .int p2] : List Value).toArray below meth c H locs 0 0 Q (F0 m 39 ls [.int y0]) := by
    intro T E y0 H locs ls hV hk hP hD hS hl
    rw [vX3_readThing_c39] at hV
    rw [kX3_readThing_c39] at hk
    refine lv_istore_n (lv' := [(3, .int y0), (0, .ref (a 0)), (1, .ref (b 0)), (2, .int p2)]) hx hb dX3_readThing_39 rfl hl (by decide) rfl (fun ls hl => ?_)
    refine lv_iconst (v := (2 : Int32)) hx hb dX3_readThing_40 (by decide) ?_
    refine lv_istore (lv' := [(4, .int (2 : Int32)), (3, .int y0), (0, .ref (a 0)), (1, .ref (b 0)), (2, .int p2)]) hx hb dX3_readThing_41 hl (by decide) rfl (fun ls hl => ?_)
    exact hc43 1024 T E y0 (2 : Int32) _ _ _ hV hk hP hD hS (lv_sub hl [2, 3, 4, 1, 0] rfl)
  have hc25 : ∀ (T : TS) (E : ES) (y0 : Int32) (H : Heap) (locs : List Loc) (ls : Array Slot), (vX3_readThing T0 E0 p2) = vX3_readThing_c25 p2 T E y0 → kX3_readThing_c25 p2 T E y0 → va_P D vwCl (wT K a T ++ wE K b E) H → va_D A (wT K a T ++ wE K b E) → va_S A s.heap H locs → lv_has ls 5 [(0, .ref (a 0)), (1, .ref (b 0)), (2, .int p2)] → W p l e rX3_readThing s m ([.ref (a 0), .ref (b 0), .int p2] : List Value).toArray below meth c H locs 0 0 Q (F0 m 25 ls [.int y0]) := by
    intro T E y0 H locs ls hV hk hP hD hS hl
    rw [vX3_readThing_c25] at hV
    rw [kX3_readThing_c25] at hk
    refine lv_if_ne (tgt := 30) hx hb dX3_readThing_25 (by decide) (fun c22 => ?_) (fun c22 => ?_)
    · have hV := hV.trans (if_neg c22)
      have hk := hk.2 c22
      refine lv_aload_n hx hb dX3_readThing_30 rfl (lv_at hl 1 rfl) ?_
      refine lv_iload_n hx hb dX3_readThing_31 rfl (lv_at hl 2 rfl) ?_
      refine lv_aload_n hx hb dX3_readThing_32 rfl (lv_at hl 0 rfl) ?_
      refine gf_X3_31 (v := .int (t_taken T)) hx hb hts hown hK hZ hP (0) rfl rfl dX3_readThing_33 ?_
      obtain ⟨h23, hk⟩ := hk
      refine jci (jrunV (As := [.int p2, .int (t_taken T)]) (rest := []) hx hb hml hown hts hK hZ hA hP hD hS hl.1 mf_X0_add kl_X3_83 ⟨rfl, rfl, Nat.le_of_ble_eq_true rfl, Nat.le_of_ble_eq_true rfl⟩ ⟨Nat.zero_le _, Nat.zero_le _⟩ [2, 3, 4, 5, 6] rfl (js35 K a b T E) rfl rfl rfl (hX0_add l D K G b E p2 (t_taken T) h23 _) rfl rfl (Nat.le_of_ble_eq_true rfl) dX3_readThing_36) hA hP hD hS [2, 3, 4, 5, 6] (js35 K a b T E) (jh36 K a b T E ((vX0_add E p2 (t_taken T)).2)) (fun H locs hP hD hS => ?_)
      have hP := jeP (jp37 K a b T E ((vX0_add E p2 (t_taken T)).2)) hP
      have hD := jeD (jp37 K a b T E ((vX0_add E p2 (t_taken T)).2)) hD
      exact hc39 T ((vX0_add E p2 (t_taken T)).2) ((vX0_add E p2 (t_taken T)).1) _ _ _ hV hk hP hD hS (lv_sub hl [0, 1, 2] rfl)
    · have hV := hV.trans (if_pos c22)
      have hk := hk.1 c22
      refine lv_iconst (v := (0 : Int32)) hx hb dX3_readThing_28 (by decide) ?_
      exact hend _ _ _ _ _ (by rw [hV]; exact hP) (by rw [hV]; exact hD) hS (by rw [hV]) rfl dX3_readThing_29
  have hc15 : ∀ (T : TS) (E : ES) (H : Heap) (locs : List Loc) (ls : Array Slot), (vX3_readThing T0 E0 p2) = vX3_readThing_c15 p2 T E → kX3_readThing_c15 p2 T E → va_P D vwCl (wT K a T ++ wE K b E) H → va_D A (wT K a T ++ wE K b E) → va_S A s.heap H locs → lv_has ls 5 [(0, .ref (a 0)), (1, .ref (b 0)), (2, .int p2)] → W p l e rX3_readThing s m ([.ref (a 0), .ref (b 0), .int p2] : List Value).toArray below meth c H locs 0 0 Q (F0 m 15 ls []) := by
    intro T E H locs ls hV hk hP hD hS hl
    rw [vX3_readThing_c15] at hV
    rw [kX3_readThing_c15] at hk
    refine lv_aload_n hx hb dX3_readThing_15 rfl (lv_at hl 0 rfl) ?_
    refine lv_iconst (v := (0 : Int32)) hx hb dX3_readThing_16 (by decide) ?_
    refine gs_X3_75 hx hb hts hown hZ hS dX3_readThing_17 ?_
    refine lv_iconst (v := (1 : Int32)) hx hb dX3_readThing_20 (by decide) ?_
    refine va_ti (v := .int (jTM.getD ((1 : Int32)).toNatClampNeg 0)) hx hb (hZ.1 3 _ rfl).2 hS (by unfold vp_in; decide) rfl dX3_readThing_21 ?_
    obtain ⟨h24, hk⟩ := hk
    refine jci (jrunV (As := [.int (0 : Int32), .int (jTM.getD ((1 : Int32)).toNatClampNeg 0)]) (rest := []) hx hb hml hown hts hK hZ hA hP hD hS hl.1 mf_X3_takeNumber kl_X3_79 ⟨rfl, rfl, Nat.le_of_ble_eq_true rfl, Nat.le_of_ble_eq_true rfl⟩ ⟨Nat.zero_le _, Nat.zero_le _⟩ [0, 1] rfl (js31 K a b T E) rfl rfl rfl (hX3_takeNumber l D K G a T (0 : Int32) (jTM.getD ((1 : Int32)).toNatClampNeg 0) h24 _) rfl rfl (Nat.le_of_ble_eq_true rfl) dX3_readThing_22) hA hP hD hS [0, 1] (js31 K a b T E) (jh32 K a b T E ((vX3_takeNumber T (0 : Int32) (jTM.getD ((1 : Int32)).toNatClampNeg 0)).2)) (fun H locs hP hD hS => ?_)
    have hP := jeP (jp33 K a b T E ((vX3_takeNumber T (0 : Int32) (jTM.getD ((1 : Int32)).toNatClampNeg 0)).2)) hP
    have hD := jeD (jp33 K a b T E ((vX3_takeNumber T (0 : Int32) (jTM.getD ((1 : Int32)).toNatClampNeg 0)).2)) hD
    exact hc25 ((vX3_takeNumber T (0 : Int32) (jTM.getD ((1 : Int32)).toNatClampNeg 0)).2) E ((vX3_takeNumber T (0 : Int32) (jTM.getD ((1 : Int32)).toNatClampNeg 0)).1) _ _ _ hV hk hP hD hS (lv_sub hl [0, 1, 2] rfl)
  have hV := vX3_readThing.eq_1 T0 E0 p2
  rw [kX3_readThing] at hk
  refine lv_aload_n hx hb dX3_readThing_0 rfl (lv_at hl 1 rfl) ?_
  refine gf_X3_70 (v := .int (e_things E0)) hx hb hts hown hK hZ hP (2) rfl rfl dX3_readThing_1 ?_
  refine lv_bipush (v := (8 : Int32)) hx hb dX3_readThing_4 (by decide) ?_
  refine lv_icmp_lt (tgt := 11) hx hb dX3_readThing_6 (by decide) (fun c25 => ?_) (fun c25 => ?_)
  · have hV := hV.trans (if_pos c25)
    have hk := hk.1 c25
    refine lv_aload_n hx hb dX3_readThing_11 rfl (lv_at hl 0 rfl) ?_
    obtain ⟨h26, hk⟩ := hk
    refine jcv (jrunV (As := []) (rest := []) hx hb hml hown hts hK hZ hA hP hD hS hl.1 mf_X3_nextToken kl_X3_34 ⟨rfl, rfl, Nat.le_of_ble_eq_true rfl, Nat.le_of_ble_eq_true rfl⟩ ⟨Nat.zero_le _, Nat.zero_le _⟩ [0, 1] rfl (js31 K a b T0 E0) rfl rfl rfl (hX3_nextToken l D K G a T0 h26 _) rfl rfl (Nat.le_of_ble_eq_true rfl) dX3_readThing_12) hA hP hD hS [0, 1] (js31 K a b T0 E0) (jh32 K a b T0 E0 (vX3_nextToken T0)) (fun H locs hP hD hS => ?_)
    have hP := jeP (jp33 K a b T0 E0 (vX3_nextToken T0)) hP
    have hD := jeD (jp33 K a b T0 E0 (vX3_nextToken T0)) hD
    exact hc15 (vX3_nextToken T0) E0 _ _ _ hV hk hP hD hS (lv_sub hl [0, 1, 2] rfl)
  · have hV := hV.trans (if_neg c25)
    have hk := hk.2 c25
    refine lv_iconst (v := (0 : Int32)) hx hb dX3_readThing_9 (by decide) ?_
    exact hend _ _ _ _ _ (by rw [hV]; exact hP) (by rw [hV]; exact hD) hS (by rw [hV]) rfl dX3_readThing_10
theorem ja38 (K : JK) (a : Nat → Nat) (b : Nat → Nat) (T : TS) (E : ES) (f : FA) : (wT K a T ++ wE K b E).set 3 ((b 1), .inl (K.1, 7, .inl f)) = (wT K a T ++ wE K b (e_s_home E f)) := rfl
theorem dX3_takeHome_0 : decode cX3_takeHome 0 = .ok (.aload_n 0, 1) := by decide +kernel
theorem dX3_takeHome_1 : decode cX3_takeHome 1 = .ok (.getstatic 94, 3) := by decide +kernel
theorem dX3_takeHome_4 : decode cX3_takeHome 4 = .ok (.iload_n 2, 1) := by decide +kernel
theorem dX3_takeHome_5 : decode cX3_takeHome 5 = .ok (.iaload, 1) := by decide +kernel
theorem dX3_takeHome_6 : decode cX3_takeHome 6 = .ok (.getstatic 97, 3) := by decide +kernel
theorem dX3_takeHome_9 : decode cX3_takeHome 9 = .ok (.iload_n 2, 1) := by decide +kernel
theorem dX3_takeHome_10 : decode cX3_takeHome 10 = .ok (.iaload, 1) := by decide +kernel
theorem dX3_takeHome_11 : decode cX3_takeHome 11 = .ok (.invokevirtual 79, 3) := by decide +kernel
theorem dX3_takeHome_14 : decode cX3_takeHome 14 = .ok (.ifCond .ne 5, 3) := by decide +kernel
theorem dX3_takeHome_17 : decode cX3_takeHome 17 = .ok (.iconst 0, 1) := by decide +kernel
theorem dX3_takeHome_18 : decode cX3_takeHome 18 = .ok (.ireturn, 1) := by decide +kernel
theorem dX3_takeHome_19 : decode cX3_takeHome 19 = .ok (.aload_n 1, 1) := by decide +kernel
theorem dX3_takeHome_20 : decode cX3_takeHome 20 = .ok (.getfield 100, 3) := by decide +kernel
theorem dX3_takeHome_23 : decode cX3_takeHome 23 = .ok (.iload_n 2, 1) := by decide +kernel
theorem dX3_takeHome_24 : decode cX3_takeHome 24 = .ok (.aload_n 0, 1) := by decide +kernel
theorem dX3_takeHome_25 : decode cX3_takeHome 25 = .ok (.getfield 31, 3) := by decide +kernel
theorem dX3_takeHome_28 : decode cX3_takeHome 28 = .ok (.iastore, 1) := by decide +kernel
theorem dX3_takeHome_29 : decode cX3_takeHome 29 = .ok (.iconst 1, 1) := by decide +kernel
theorem dX3_takeHome_30 : decode cX3_takeHome 30 = .ok (.ireturn, 1) := by decide +kernel
def rX3_takeHome : Room := { frames := 3, cells := 0, slots := 0, locals := 62 }
def vX3_takeHome_c14 (p2 : Int32) (T : TS) (E : ES) (y0 : Int32) : Int32 × TS × ES := if (y0 = 0) then ((0 : Int32), T, E) else ((1 : Int32), T, (e_s_home E (upd (e_home E) (p2).toNatClampNeg (t_taken T))))
def kX3_takeHome_c14 (p2 : Int32) (T : TS) (E : ES) (y0 : Int32) : Prop := ((y0 = 0) → True) ∧ (¬ (y0 = 0) → ((vp_in p2 7) ∧ True))
def vX3_takeHome (T0 : TS) (E0 : ES) (p2 : Int32) : Int32 × TS × ES := (vX3_takeHome_c14 p2 ((vX3_takeNumber T0 (jHL.getD (p2).toNatClampNeg 0) (jHM.getD (p2).toNatClampNeg 0)).2) E0 ((vX3_takeNumber T0 (jHL.getD (p2).toNatClampNeg 0) (jHM.getD (p2).toNatClampNeg 0)).1))
def kX3_takeHome (T0 : TS) (E0 : ES) (p2 : Int32) : Prop := (vp_in p2 7) ∧ (vp_in p2 7) ∧ (kX3_takeNumber T0 (jHL.getD (p2).toNatClampNeg 0) (jHM.getD (p2).toNatClampNeg 0)) ∧ (kX3_takeHome_c14 p2 ((vX3_takeNumber T0 (jHL.getD (p2).toNatClampNeg 0) (jHM.getD (p2).toNatClampNeg 0)).2) E0 ((vX3_takeNumber T0 (jHL.getD (p2).toNatClampNeg 0) (jHM.getD (p2).toNatClampNeg 0)).1))
set_option maxHeartbeats 4000000 in
set_option maxRecDepth 100000 in
theorem hX3_takeHome (l : Launch) (D : va_G) (K : JK) (G : JG) (a : Nat → Nat) (b : Nat → Nat) (T0 : TS) (E0 : ES) (p2 : Int32) (hk : kX3_takeHome T0 E0 p2) (sz : Nat) : Met l yX3_takeHome (.code yX3_takeHome cX3_takeHome 3 (some .boolean) :: jGW) rX3_takeHome (jPre D (jT K) G [.ref (a 0), .ref (b 0), .int p2] (wT K a T0 ++ wE K b E0) sz) (jQi D (jT K) ((vX3_takeHome T0 E0 p2).1) (wT K a ((vX3_takeHome T0 E0 p2).2.1) ++ wE K b ((vX3_takeHome T0 E0 p2).2.2)) (va_A (wT K a T0 ++ wE K b E0) sz)) 0 0 (va_A (wT K a T0 ++ wE K b E0) sz) := by
  refine jEi (by decide) (Nat.le_of_ble_eq_true rfl) (fun p e s m below meth c A Q ls hat hP hD hS hl hend => ?_)
  obtain ⟨hx, hb, hml, hown, hts, hK, hZ, hA⟩ := hat
  have hl : lv_has ls 3 [(0, .ref (a 0)), (1, .ref (b 0)), (2, .int p2)] := hl
  have hc14 : ∀ (T : TS) (E : ES) (y0 : Int32) (H : Heap) (locs : List Loc) (ls : Array Slot), (vX3_takeHome T0 E0 p2) = vX3_takeHome_c14 p2 T E y0 → kX3_takeHome_c14 p2 T E y0 → va_P D vwCl (wT K a T ++ wE K b E) H → va_D A (wT K a T ++ wE K b E) → va_S A s.heap H locs → lv_has ls 3 [(0, .ref (a 0)), (1, .ref (b 0)), (2, .int p2)] → W p l e rX3_takeHome s m ([.ref (a 0), .ref (b 0), .int p2] : List Value).toArray below meth c H locs 0 0 Q (F0 m 14 ls [.int y0]) := by
    intro T E y0 H locs ls hV hk hP hD hS hl
    rw [vX3_takeHome_c14] at hV
    rw [kX3_takeHome_c14] at hk
    refine lv_if_ne (tgt := 19) hx hb dX3_takeHome_14 (by decide) (fun c6 => ?_) (fun c6 => ?_)
    · have hV := hV.trans (if_neg c6)
      have hk := hk.2 c6
      refine lv_aload_n hx hb dX3_takeHome_19 rfl (lv_at hl 1 rfl) ?_
      refine gf_X3_100 (v := .ref (b 1)) hx hb hts hown hK hZ hP (2) rfl rfl dX3_takeHome_20 ?_
      refine lv_iload_n hx hb dX3_takeHome_23 rfl (lv_at hl 2 rfl) ?_
      refine lv_aload_n hx hb dX3_takeHome_24 rfl (lv_at hl 0 rfl) ?_
      refine gf_X3_31 (v := .int (t_taken T)) hx hb hts hown hK hZ hP (0) rfl rfl dX3_takeHome_25 ?_
      obtain ⟨h7, hk⟩ := hk
      refine va_iast hx hb hK hP hD hS (3) 0 rfl rfl h7 dX3_takeHome_28 (fun H locs hP hD hS => ?_)
      have hP := jeP (ja38 K a b T E (upd (e_home E) (p2).toNatClampNeg (t_taken T))) hP
      have hD := jeD (ja38 K a b T E (upd (e_home E) (p2).toNatClampNeg (t_taken T))) hD
      refine lv_iconst (v := (1 : Int32)) hx hb dX3_takeHome_29 (by decide) ?_
      exact hend _ _ _ _ _ (by rw [hV]; exact hP) (by rw [hV]; exact hD) hS (by rw [hV]) rfl dX3_takeHome_30
    · have hV := hV.trans (if_pos c6)
      have hk := hk.1 c6
      refine lv_iconst (v := (0 : Int32)) hx hb dX3_takeHome_17 (by decide) ?_
      exact hend _ _ _ _ _ (by rw [hV]; exact hP) (by rw [hV]; exact hD) hS (by rw [hV]) rfl dX3_takeHome_18
  have hV := vX3_takeHome.eq_1 T0 E0 p2
  rw [kX3_takeHome] at hk
  refine lv_aload_n hx hb dX3_takeHome_0 rfl (lv_at hl 0 rfl) ?_
  refine gs_X3_94 hx hb hts hown hZ hS dX3_takeHome_1 ?_
  refine lv_iload_n hx hb dX3_takeHome_4 rfl (lv_at hl 2 rfl) ?_
  obtain ⟨h8, hk⟩ := hk
  refine va_ti (v := .int (jHL.getD (p2).toNatClampNeg 0)) hx hb (hZ.1 1 _ rfl).2 hS h8 rfl dX3_takeHome_5 ?_
  refine gs_X3_97 hx hb hts hown hZ hS dX3_takeHome_6 ?_
  refine lv_iload_n hx hb dX3_takeHome_9 rfl (lv_at hl 2 rfl) ?_
  obtain ⟨h9, hk⟩ := hk
  refine va_ti (v := .int (jHM.getD (p2).toNatClampNeg 0)) hx hb (hZ.1 2 _ rfl).2 hS h9 rfl dX3_takeHome_10 ?_
  obtain ⟨h10, hk⟩ := hk
  refine jci (jrunV (As := [.int (jHL.getD (p2).toNatClampNeg 0), .int (jHM.getD (p2).toNatClampNeg 0)]) (rest := []) hx hb hml hown hts hK hZ hA hP hD hS hl.1 mf_X3_takeNumber kl_X3_79 ⟨rfl, rfl, Nat.le_of_ble_eq_true rfl, Nat.le_of_ble_eq_true rfl⟩ ⟨Nat.zero_le _, Nat.zero_le _⟩ [0, 1] rfl (js31 K a b T0 E0) rfl rfl rfl (hX3_takeNumber l D K G a T0 (jHL.getD (p2).toNatClampNeg 0) (jHM.getD (p2).toNatClampNeg 0) h10 _) rfl rfl (Nat.le_of_ble_eq_true rfl) dX3_takeHome_11) hA hP hD hS [0, 1] (js31 K a b T0 E0) (jh32 K a b T0 E0 ((vX3_takeNumber T0 (jHL.getD (p2).toNatClampNeg 0) (jHM.getD (p2).toNatClampNeg 0)).2)) (fun H locs hP hD hS => ?_)
  have hP := jeP (jp33 K a b T0 E0 ((vX3_takeNumber T0 (jHL.getD (p2).toNatClampNeg 0) (jHM.getD (p2).toNatClampNeg 0)).2)) hP
  have hD := jeD (jp33 K a b T0 E0 ((vX3_takeNumber T0 (jHL.getD (p2).toNatClampNeg 0) (jHM.getD (p2).toNatClampNeg 0)).2)) hD
  exact hc14 ((vX3_takeNumber T0 (jHL.getD (p2).toNatClampNeg 0) (jHM.getD (p2).toNatClampNeg 0)).2) E0 ((vX3_takeNumber T0 (jHL.getD (p2).toNatClampNeg 0) (jHM.getD (p2).toNatClampNeg 0)).1) _ _ _ hV hk hP hD hS (lv_sub hl [0, 1, 2] rfl)
theorem js39 (K : JK) (a : Nat → Nat) (b : Nat → Nat) (T : TS) (E : ES) : [0, 1, 2, 3, 4, 5, 6].map (fun i => (wT K a T ++ wE K b E)[i]?) = (wT K a T ++ wE K b E).map some := rfl
theorem jh40 (K : JK) (a : Nat → Nat) (b : Nat → Nat) (T : TS) (E : ES) (Z0 : TS) (Z1 : ES) : (wT K a Z0 ++ wE K b Z1).map Prod.fst = (wT K a T ++ wE K b E).map Prod.fst := rfl
theorem jp41 (K : JK) (a : Nat → Nat) (b : Nat → Nat) (T : TS) (E : ES) (Z0 : TS) (Z1 : ES) : jput (wT K a T ++ wE K b E) [0, 1, 2, 3, 4, 5, 6] (wT K a Z0 ++ wE K b Z1) = (wT K a Z0 ++ wE K b Z1) := rfl
theorem dX3_readItem_0 : decode cX3_readItem 0 = .ok (.iconst 0, 1) := by decide +kernel
theorem dX3_readItem_1 : decode cX3_readItem 1 = .ok (.istore_n 2, 1) := by decide +kernel
theorem dX3_readItem_2 : decode cX3_readItem 2 = .ok (.iload_n 2, 1) := by decide +kernel
theorem dX3_readItem_3 : decode cX3_readItem 3 = .ok (.bipush 7, 2) := by decide +kernel
theorem dX3_readItem_5 : decode cX3_readItem 5 = .ok (.if_icmp .ge 27, 3) := by decide +kernel
theorem dX3_readItem_8 : decode cX3_readItem 8 = .ok (.aload_n 0, 1) := by decide +kernel
theorem dX3_readItem_9 : decode cX3_readItem 9 = .ok (.iload_n 2, 1) := by decide +kernel
theorem dX3_readItem_10 : decode cX3_readItem 10 = .ok (.invokestatic 41, 3) := by decide +kernel
theorem dX3_readItem_13 : decode cX3_readItem 13 = .ok (.invokevirtual 45, 3) := by decide +kernel
theorem dX3_readItem_16 : decode cX3_readItem 16 = .ok (.ifCond .eq 10, 3) := by decide +kernel
theorem dX3_readItem_19 : decode cX3_readItem 19 = .ok (.aload_n 0, 1) := by decide +kernel
theorem dX3_readItem_20 : decode cX3_readItem 20 = .ok (.aload_n 1, 1) := by decide +kernel
theorem dX3_readItem_21 : decode cX3_readItem 21 = .ok (.iload_n 2, 1) := by decide +kernel
theorem dX3_readItem_22 : decode cX3_readItem 22 = .ok (.invokevirtual 49, 3) := by decide +kernel
theorem dX3_readItem_25 : decode cX3_readItem 25 = .ok (.ireturn, 1) := by decide +kernel
theorem dX3_readItem_26 : decode cX3_readItem 26 = .ok (.iinc 2 1, 3) := by decide +kernel
theorem dX3_readItem_29 : decode cX3_readItem 29 = .ok (.goto (-27), 3) := by decide +kernel
theorem dX3_readItem_32 : decode cX3_readItem 32 = .ok (.aload_n 0, 1) := by decide +kernel
theorem dX3_readItem_33 : decode cX3_readItem 33 = .ok (.ldc 53, 2) := by decide +kernel
theorem dX3_readItem_35 : decode cX3_readItem 35 = .ok (.invokevirtual 55, 3) := by decide +kernel
theorem dX3_readItem_38 : decode cX3_readItem 38 = .ok (.ifCond .eq 27, 3) := by decide +kernel
theorem dX3_readItem_41 : decode cX3_readItem 41 = .ok (.aload_n 0, 1) := by decide +kernel
theorem dX3_readItem_42 : decode cX3_readItem 42 = .ok (.aload_n 1, 1) := by decide +kernel
theorem dX3_readItem_43 : decode cX3_readItem 43 = .ok (.iconst 0, 1) := by decide +kernel
theorem dX3_readItem_44 : decode cX3_readItem 44 = .ok (.invokevirtual 58, 3) := by decide +kernel
theorem dX3_readItem_47 : decode cX3_readItem 47 = .ok (.ifCond .eq 16, 3) := by decide +kernel
theorem dX3_readItem_50 : decode cX3_readItem 50 = .ok (.aload_n 0, 1) := by decide +kernel
theorem dX3_readItem_51 : decode cX3_readItem 51 = .ok (.aload_n 1, 1) := by decide +kernel
theorem dX3_readItem_52 : decode cX3_readItem 52 = .ok (.iconst 1, 1) := by decide +kernel
theorem dX3_readItem_53 : decode cX3_readItem 53 = .ok (.invokevirtual 58, 3) := by decide +kernel
theorem dX3_readItem_56 : decode cX3_readItem 56 = .ok (.ifCond .eq 7, 3) := by decide +kernel
theorem dX3_readItem_59 : decode cX3_readItem 59 = .ok (.iconst 1, 1) := by decide +kernel
theorem dX3_readItem_60 : decode cX3_readItem 60 = .ok (.goto 4, 3) := by decide +kernel
theorem dX3_readItem_63 : decode cX3_readItem 63 = .ok (.iconst 0, 1) := by decide +kernel
theorem dX3_readItem_64 : decode cX3_readItem 64 = .ok (.ireturn, 1) := by decide +kernel
theorem dX3_readItem_65 : decode cX3_readItem 65 = .ok (.aload_n 0, 1) := by decide +kernel
theorem dX3_readItem_66 : decode cX3_readItem 66 = .ok (.ldc 61, 2) := by decide +kernel
theorem dX3_readItem_68 : decode cX3_readItem 68 = .ok (.invokevirtual 55, 3) := by decide +kernel
theorem dX3_readItem_71 : decode cX3_readItem 71 = .ok (.ifCond .eq 28, 3) := by decide +kernel
theorem dX3_readItem_74 : decode cX3_readItem 74 = .ok (.aload_n 0, 1) := by decide +kernel
theorem dX3_readItem_75 : decode cX3_readItem 75 = .ok (.aload_n 1, 1) := by decide +kernel
theorem dX3_readItem_76 : decode cX3_readItem 76 = .ok (.iconst 5, 1) := by decide +kernel
theorem dX3_readItem_77 : decode cX3_readItem 77 = .ok (.invokevirtual 58, 3) := by decide +kernel
theorem dX3_readItem_80 : decode cX3_readItem 80 = .ok (.ifCond .eq 17, 3) := by decide +kernel
theorem dX3_readItem_83 : decode cX3_readItem 83 = .ok (.aload_n 0, 1) := by decide +kernel
theorem dX3_readItem_84 : decode cX3_readItem 84 = .ok (.aload_n 1, 1) := by decide +kernel
theorem dX3_readItem_85 : decode cX3_readItem 85 = .ok (.bipush 6, 2) := by decide +kernel
theorem dX3_readItem_87 : decode cX3_readItem 87 = .ok (.invokevirtual 58, 3) := by decide +kernel
theorem dX3_readItem_90 : decode cX3_readItem 90 = .ok (.ifCond .eq 7, 3) := by decide +kernel
theorem dX3_readItem_93 : decode cX3_readItem 93 = .ok (.iconst 1, 1) := by decide +kernel
theorem dX3_readItem_94 : decode cX3_readItem 94 = .ok (.goto 4, 3) := by decide +kernel
theorem dX3_readItem_97 : decode cX3_readItem 97 = .ok (.iconst 0, 1) := by decide +kernel
theorem dX3_readItem_98 : decode cX3_readItem 98 = .ok (.ireturn, 1) := by decide +kernel
theorem dX3_readItem_99 : decode cX3_readItem 99 = .ok (.aload_n 0, 1) := by decide +kernel
theorem dX3_readItem_100 : decode cX3_readItem 100 = .ok (.ldc 63, 2) := by decide +kernel
theorem dX3_readItem_102 : decode cX3_readItem 102 = .ok (.invokevirtual 55, 3) := by decide +kernel
theorem dX3_readItem_105 : decode cX3_readItem 105 = .ok (.ifCond .eq 10, 3) := by decide +kernel
theorem dX3_readItem_108 : decode cX3_readItem 108 = .ok (.aload_n 0, 1) := by decide +kernel
theorem dX3_readItem_109 : decode cX3_readItem 109 = .ok (.aload_n 1, 1) := by decide +kernel
theorem dX3_readItem_110 : decode cX3_readItem 110 = .ok (.iconst 4, 1) := by decide +kernel
theorem dX3_readItem_111 : decode cX3_readItem 111 = .ok (.invokevirtual 58, 3) := by decide +kernel
theorem dX3_readItem_114 : decode cX3_readItem 114 = .ok (.ireturn, 1) := by decide +kernel
theorem dX3_readItem_115 : decode cX3_readItem 115 = .ok (.aload_n 0, 1) := by decide +kernel
theorem dX3_readItem_116 : decode cX3_readItem 116 = .ok (.ldc 65, 2) := by decide +kernel
theorem dX3_readItem_118 : decode cX3_readItem 118 = .ok (.invokevirtual 55, 3) := by decide +kernel
theorem dX3_readItem_121 : decode cX3_readItem 121 = .ok (.ifCond .eq 15, 3) := by decide +kernel
theorem dX3_readItem_124 : decode cX3_readItem 124 = .ok (.aload_n 0, 1) := by decide +kernel
theorem dX3_readItem_125 : decode cX3_readItem 125 = .ok (.aload_n 1, 1) := by decide +kernel
theorem dX3_readItem_126 : decode cX3_readItem 126 = .ok (.invokevirtual 67, 3) := by decide +kernel
theorem dX3_readItem_129 : decode cX3_readItem 129 = .ok (.ifCond .eq 7, 3) := by decide +kernel
theorem dX3_readItem_132 : decode cX3_readItem 132 = .ok (.iconst 1, 1) := by decide +kernel
theorem dX3_readItem_133 : decode cX3_readItem 133 = .ok (.goto 4, 3) := by decide +kernel
theorem dX3_readItem_136 : decode cX3_readItem 136 = .ok (.iconst 0, 1) := by decide +kernel
theorem dX3_readItem_137 : decode cX3_readItem 137 = .ok (.ireturn, 1) := by decide +kernel
def rX3_readItem : Room := { frames := 7, cells := 0, slots := 0, locals := 152 }
def vX3_readItem_c129 (T : TS) (E : ES) (y0 : Int32) : Int32 × TS × ES := if (y0 = 0) then ((0 : Int32), T, E) else ((1 : Int32), T, E)
def vX3_readItem_c121 (T : TS) (E : ES) (y0 : Int32) : Int32 × TS × ES := if (y0 = 0) then ((0 : Int32), T, E) else (vX3_readItem_c129 ((vX3_readBlow T E).2.1) ((vX3_readBlow T E).2.2) ((vX3_readBlow T E).1))
def kX3_readItem_c121 (T : TS) (E : ES) (y0 : Int32) : Prop := ((y0 = 0) → True) ∧ (¬ (y0 = 0) → ((kX3_readBlow T E) ∧ True))
def vX3_readItem_c105 (T : TS) (E : ES) (y0 : Int32) : Int32 × TS × ES := if (y0 = 0) then (vX3_readItem_c121 ((vX3_takeWord T (14)).2) E ((vX3_takeWord T (14)).1)) else (((vX3_takeHome T E (4 : Int32)).1), ((vX3_takeHome T E (4 : Int32)).2.1), ((vX3_takeHome T E (4 : Int32)).2.2))
def kX3_readItem_c105 (T : TS) (E : ES) (y0 : Int32) : Prop := ((y0 = 0) → ((kX3_takeWord T (14)) ∧ (kX3_readItem_c121 ((vX3_takeWord T (14)).2) E ((vX3_takeWord T (14)).1)))) ∧ (¬ (y0 = 0) → ((kX3_takeHome T E (4 : Int32)) ∧ (((vX3_takeHome T E (4 : Int32)).1) = 0 ∨ ((vX3_takeHome T E (4 : Int32)).1) = 1) ∧ True))
def vX3_readItem_c90 (T : TS) (E : ES) (y0 : Int32) : Int32 × TS × ES := if (y0 = 0) then ((0 : Int32), T, E) else ((1 : Int32), T, E)
def vX3_readItem_c80 (T : TS) (E : ES) (y0 : Int32) : Int32 × TS × ES := if (y0 = 0) then ((0 : Int32), T, E) else (vX3_readItem_c90 ((vX3_takeHome T E (6 : Int32)).2.1) ((vX3_takeHome T E (6 : Int32)).2.2) ((vX3_takeHome T E (6 : Int32)).1))
def kX3_readItem_c80 (T : TS) (E : ES) (y0 : Int32) : Prop := ((y0 = 0) → True) ∧ (¬ (y0 = 0) → ((kX3_takeHome T E (6 : Int32)) ∧ True))
def vX3_readItem_c71 (T : TS) (E : ES) (y0 : Int32) : Int32 × TS × ES := if (y0 = 0) then (vX3_readItem_c105 ((vX3_takeWord T (13)).2) E ((vX3_takeWord T (13)).1)) else (vX3_readItem_c80 ((vX3_takeHome T E (5 : Int32)).2.1) ((vX3_takeHome T E (5 : Int32)).2.2) ((vX3_takeHome T E (5 : Int32)).1))
def kX3_readItem_c71 (T : TS) (E : ES) (y0 : Int32) : Prop := ((y0 = 0) → ((kX3_takeWord T (13)) ∧ (kX3_readItem_c105 ((vX3_takeWord T (13)).2) E ((vX3_takeWord T (13)).1)))) ∧ (¬ (y0 = 0) → ((kX3_takeHome T E (5 : Int32)) ∧ (kX3_readItem_c80 ((vX3_takeHome T E (5 : Int32)).2.1) ((vX3_takeHome T E (5 : Int32)).2.2) ((vX3_takeHome T E (5 : Int32)).1))))
def vX3_readItem_c56 (T : TS) (E : ES) (y0 : Int32) : Int32 × TS × ES := if (y0 = 0) then ((0 : Int32), T, E) else ((1 : Int32), T, E)
def vX3_readItem_c47 (T : TS) (E : ES) (y0 : Int32) : Int32 × TS × ES := if (y0 = 0) then ((0 : Int32), T, E) else (vX3_readItem_c56 ((vX3_takeHome T E (1 : Int32)).2.1) ((vX3_takeHome T E (1 : Int32)).2.2) ((vX3_takeHome T E (1 : Int32)).1))
def kX3_readItem_c47 (T : TS) (E : ES) (y0 : Int32) : Prop := ((y0 = 0) → True) ∧ (¬ (y0 = 0) → ((kX3_takeHome T E (1 : Int32)) ∧ True))
def vX3_readItem_c38 (T : TS) (E : ES) (y0 : Int32) : Int32 × TS × ES := if (y0 = 0) then (vX3_readItem_c71 ((vX3_takeWord T (12)).2) E ((vX3_takeWord T (12)).1)) else (vX3_readItem_c47 ((vX3_takeHome T E (0 : Int32)).2.1) ((vX3_takeHome T E (0 : Int32)).2.2) ((vX3_takeHome T E (0 : Int32)).1))
def kX3_readItem_c38 (T : TS) (E : ES) (y0 : Int32) : Prop := ((y0 = 0) → ((kX3_takeWord T (12)) ∧ (kX3_readItem_c71 ((vX3_takeWord T (12)).2) E ((vX3_takeWord T (12)).1)))) ∧ (¬ (y0 = 0) → ((kX3_takeHome T E (0 : Int32)) ∧ (kX3_readItem_c47 ((vX3_takeHome T E (0 : Int32)).2.1) ((vX3_takeHome T E (0 : Int32)).2.2) ((vX3_takeHome T E (0 : Int32)).1))))
def vX3_readItem_c2 : Nat → TS → ES → Int32 → Int32 × TS × ES
  | 0, T, E, x2 => (0, T, E)
  | n + 1, T, E, x2 => if ((7 : Int32) ≤ x2) then (vX3_readItem_c38 ((vX3_takeWord T (11)).2) E ((vX3_takeWord T (11)).1)) else if ((vX3_wordIs T ((vX3_wordOfKind x2))) = 0) then (vX3_readItem_c2 n T E (x2 + (1 : Int32))) else (((vX3_readThing T E x2).1), ((vX3_readThing T E x2).2.1), ((vX3_readThing T E x2).2.2))
def kX3_readItem_c2 : Nat → TS → ES → Int32 → Prop
  | 0, _, _, _ => False
  | n + 1, T, E, x2 => (((7 : Int32) ≤ x2) → ((kX3_takeWord T (11)) ∧ (kX3_readItem_c38 ((vX3_takeWord T (11)).2) E ((vX3_takeWord T (11)).1)))) ∧ (¬ ((7 : Int32) ≤ x2) → (((vX3_wordOfKind x2) < 15) ∧ (kX3_wordIs T ((vX3_wordOfKind x2))) ∧ (((vX3_wordIs T ((vX3_wordOfKind x2))) = 0) → ((kX3_readItem_c2 n T E (x2 + (1 : Int32))))) ∧ (¬ ((vX3_wordIs T ((vX3_wordOfKind x2))) = 0) → ((kX3_readThing T E x2) ∧ (((vX3_readThing T E x2).1) = 0 ∨ ((vX3_readThing T E x2).1) = 1) ∧ True))))
def vX3_readItem (T0 : TS) (E0 : ES) : Int32 × TS × ES := (vX3_readItem_c2 1024 T0 E0 (0 : Int32))
def kX3_readItem (T0 : TS) (E0 : ES) : Prop := (kX3_readItem_c2 1024 T0 E0 (0 : Int32))
set_option maxHeartbeats 4000000 in
set_option maxRecDepth 100000 in
theorem hX3_readItem (l : Launch) (D : va_G) (K : JK) (G : JG) (a : Nat → Nat) (b : Nat → Nat) (T0 : TS) (E0 : ES) (hk : kX3_readItem T0 E0) (sz : Nat) : Met l yX3_readItem (.code yX3_readItem cX3_readItem 3 (some .boolean) :: jGW) rX3_readItem (jPre D (jT K) G [.ref (a 0), .ref (b 0)] (wT K a T0 ++ wE K b E0) sz) (jQi D (jT K) ((vX3_readItem T0 E0).1) (wT K a ((vX3_readItem T0 E0).2.1) ++ wE K b ((vX3_readItem T0 E0).2.2)) (va_A (wT K a T0 ++ wE K b E0) sz)) 0 0 (va_A (wT K a T0 ++ wE K b E0) sz) := by
  refine jEi (by decide) (Nat.le_of_ble_eq_true rfl) (fun p e s m below meth c A Q ls hat hP hD hS hl hend => ?_)
  obtain ⟨hx, hb, hml, hown, hts, hK, hZ, hA⟩ := hat
  have hl : lv_has ls 3 [(0, .ref (a 0)), (1, .ref (b 0))] := hl
  have hc129 : ∀ (T : TS) (E : ES) (y0 : Int32) (H : Heap) (locs : List Loc) (ls : Array Slot), (vX3_readItem T0 E0) = vX3_readItem_c129 T E y0 → va_P D vwCl (wT K a T ++ wE K b E) H → va_D A (wT K a T ++ wE K b E) → va_S A s.heap H locs → lv_has ls 3 [(0, .ref (a 0)), (1, .ref (b 0))] → W p l e rX3_readItem s m ([.ref (a 0), .ref (b 0)] : List Value).toArray below meth c H locs 0 0 Q (F0 m 129 ls [.int y0]) := by
    intro T E y0 H locs ls hV hP hD hS hl
    rw [vX3_readItem_c129] at hV
    refine lv_if_eq (tgt := 136) hx hb dX3_readItem_129 (by decide) (fun c27 => ?_) (fun c27 => ?_)
    · have hV := hV.trans (if_pos c27)
      refine lv_iconst (v := (0 : Int32)) hx hb dX3_readItem_136 (by decide) ?_
      exact hend _ _ _ _ _ (by rw [hV]; exact hP) (by rw [hV]; exact hD) hS (by rw [hV]) rfl dX3_readItem_137
    · have hV := hV.trans (if_neg c27)
      refine lv_iconst (v := (1 : Int32)) hx hb dX3_readItem_132 (by decide) ?_
      refine lv_goto (tgt := 137) hx hb dX3_readItem_133 (by decide) ?_
      exact hend _ _ _ _ _ (by rw [hV]; exact hP) (by rw [hV]; exact hD) hS (by rw [hV]) rfl dX3_readItem_137
  have hc121 : ∀ (T : TS) (E : ES) (y0 : Int32) (H : Heap) (locs : List Loc) (ls : Array Slot), (vX3_readItem T0 E0) = vX3_readItem_c121 T E y0 → kX3_readItem_c121 T E y0 → va_P D vwCl (wT K a T ++ wE K b E) H → va_D A (wT K a T ++ wE K b E) → va_S A s.heap H locs → lv_has ls 3 [(0, .ref (a 0)), (1, .ref (b 0))] → W p l e rX3_readItem s m ([.ref (a 0), .ref (b 0)] : List Value).toArray below meth c H locs 0 0 Q (F0 m 121 ls [.int y0]) := by
    intro T E y0 H locs ls hV hk hP hD hS hl
    rw [vX3_readItem_c121] at hV
    rw [kX3_readItem_c121] at hk
    refine lv_if_eq (tgt := 136) hx hb dX3_readItem_121 (by decide) (fun c28 => ?_) (fun c28 => ?_)
    · have hV := hV.trans (if_pos c28)
      have hk := hk.1 c28
      refine lv_iconst (v := (0 : Int32)) hx hb dX3_readItem_136 (by decide) ?_
      exact hend _ _ _ _ _ (by rw [hV]; exact hP) (by rw [hV]; exact hD) hS (by rw [hV]) rfl dX3_readItem_137
    · have hV := hV.trans (if_neg c28)
      have hk := hk.2 c28
      refine lv_aload_n hx hb dX3_readItem_124 rfl (lv_at hl 0 rfl) ?_
      refine lv_aload_n hx hb dX3_readItem_125 rfl (lv_at hl 1 rfl) ?_
      obtain ⟨h29, hk⟩ := hk
      refine jci (jrunV (As := [.ref (b 0)]) (rest := []) hx hb hml hown hts hK hZ hA hP hD hS hl.1 mf_X3_readBlow kl_X3_67 ⟨rfl, rfl, Nat.le_of_ble_eq_true rfl, Nat.le_of_ble_eq_true rfl⟩ ⟨Nat.zero_le _, Nat.zero_le _⟩ [0, 1, 2, 3, 4, 5, 6] rfl (js39 K a b T E) rfl rfl rfl (hX3_readBlow l D K G a b T E h29 _) rfl rfl (Nat.le_of_ble_eq_true rfl) dX3_readItem_126) hA hP hD hS [0, 1, 2, 3, 4, 5, 6] (js39 K a b T E) (jh40 K a b T E ((vX3_readBlow T E).2.1) ((vX3_readBlow T E).2.2)) (fun H locs hP hD hS => ?_)
      have hP := jeP (jp41 K a b T E ((vX3_readBlow T E).2.1) ((vX3_readBlow T E).2.2)) hP
      have hD := jeD (jp41 K a b T E ((vX3_readBlow T E).2.1) ((vX3_readBlow T E).2.2)) hD
      exact hc129 ((vX3_readBlow T E).2.1) ((vX3_readBlow T E).2.2) ((vX3_readBlow T E).1) _ _ _ hV hP hD hS (lv_sub hl [0, 1] rfl)
  have hc105 : ∀ (T : TS) (E : ES) (y0 : Int32) (H : Heap) (locs : List Loc) (ls : Array Slot), (vX3_readItem T0 E0) = vX3_readItem_c105 T E y0 → kX3_readItem_c105 T E y0 → va_P D vwCl (wT K a T ++ wE K b E) H → va_D A (wT K a T ++ wE K b E) → va_S A s.heap H locs → lv_has ls 3 [(0, .ref (a 0)), (1, .ref (b 0))] → W p l e rX3_readItem s m ([.ref (a 0), .ref (b 0)] : List Value).toArray below meth c H locs 0 0 Q (F0 m 105 ls [.int y0]) := by
    intro T E y0 H locs ls hV hk hP hD hS hl
    rw [vX3_readItem_c105] at hV
    rw [kX3_readItem_c105] at hk
    refine lv_if_eq (tgt := 115) hx hb dX3_readItem_105 (by decide) (fun c30 => ?_) (fun c30 => ?_)
    · have hV := hV.trans (if_pos c30)
      have hk := hk.1 c30
      refine lv_aload_n hx hb dX3_readItem_115 rfl (lv_at hl 0 rfl) ?_
      refine va_ldcS hx hb hown (hZ.2.2.2.1 14 _ rfl) dX3_readItem_116 ?_
      obtain ⟨h31, hk⟩ := hk
      refine jci (jrunV (As := [.ref (G.2.1 14)]) (rest := []) hx hb hml hown hts hK hZ hA hP hD hS hl.1 mf_X3_takeWord kl_X3_55 ⟨rfl, rfl, Nat.le_of_ble_eq_true rfl, Nat.le_of_ble_eq_true rfl⟩ ⟨Nat.zero_le _, Nat.zero_le _⟩ [0, 1] rfl (js31 K a b T E) rfl rfl rfl (hX3_takeWord l D K G a T (14) (by decide) h31 _) rfl rfl (Nat.le_of_ble_eq_true rfl) dX3_readItem_118) hA hP hD hS [0, 1] (js31 K a b T E) (jh32 K a b T E ((vX3_takeWord T (14)).2)) (fun H locs hP hD hS => ?_)
      have hP := jeP (jp33 K a b T E ((vX3_takeWord T (14)).2)) hP
      have hD := jeD (jp33 K a b T E ((vX3_takeWord T (14)).2)) hD
      exact hc121 ((vX3_takeWord T (14)).2) E ((vX3_takeWord T (14)).1) _ _ _ hV hk hP hD hS (lv_sub hl [0, 1] rfl)
    · have hV := hV.trans (if_neg c30)
      have hk := hk.2 c30
      refine lv_aload_n hx hb dX3_readItem_108 rfl (lv_at hl 0 rfl) ?_
      refine lv_aload_n hx hb dX3_readItem_109 rfl (lv_at hl 1 rfl) ?_
      refine lv_iconst (v := (4 : Int32)) hx hb dX3_readItem_110 (by decide) ?_
      obtain ⟨h32, hk⟩ := hk
      refine jci (jrunV (As := [.ref (b 0), .int (4 : Int32)]) (rest := []) hx hb hml hown hts hK hZ hA hP hD hS hl.1 mf_X3_takeHome kl_X3_58 ⟨rfl, rfl, Nat.le_of_ble_eq_true rfl, Nat.le_of_ble_eq_true rfl⟩ ⟨Nat.zero_le _, Nat.zero_le _⟩ [0, 1, 2, 3, 4, 5, 6] rfl (js39 K a b T E) rfl rfl rfl (hX3_takeHome l D K G a b T E (4 : Int32) h32 _) rfl rfl (Nat.le_of_ble_eq_true rfl) dX3_readItem_111) hA hP hD hS [0, 1, 2, 3, 4, 5, 6] (js39 K a b T E) (jh40 K a b T E ((vX3_takeHome T E (4 : Int32)).2.1) ((vX3_takeHome T E (4 : Int32)).2.2)) (fun H locs hP hD hS => ?_)
      have hP := jeP (jp41 K a b T E ((vX3_takeHome T E (4 : Int32)).2.1) ((vX3_takeHome T E (4 : Int32)).2.2)) hP
      have hD := jeD (jp41 K a b T E ((vX3_takeHome T E (4 : Int32)).2.1) ((vX3_takeHome T E (4 : Int32)).2.2)) hD
      obtain ⟨h33, hk⟩ := hk
      exact hend _ _ _ _ _ (by rw [hV]; exact hP) (by rw [hV]; exact hD) hS (by rw [hV]) (jnb h33) dX3_readItem_114
  have hc90 : ∀ (T : TS) (E : ES) (y0 : Int32) (H : Heap) (locs : List Loc) (ls : Array Slot), (vX3_readItem T0 E0) = vX3_readItem_c90 T E y0 → va_P D vwCl (wT K a T ++ wE K b E) H → va_D A (wT K a T ++ wE K b E) → va_S A s.heap H locs → lv_has ls 3 [(0, .ref (a 0)), (1, .ref (b 0))] → W p l e rX3_readItem s m ([.ref (a 0), .ref (b 0)] : List Value).toArray below meth c H locs 0 0 Q (F0 m 90 ls [.int y0]) := by
    intro T E y0 H locs ls hV hP hD hS hl
    rw [vX3_readItem_c90] at hV
    refine lv_if_eq (tgt := 97) hx hb dX3_readItem_90 (by decide) (fun c34 => ?_) (fun c34 => ?_)
    · have hV := hV.trans (if_pos c34)
      refine lv_iconst (v := (0 : Int32)) hx hb dX3_readItem_97 (by decide) ?_
      exact hend _ _ _ _ _ (by rw [hV]; exact hP) (by rw [hV]; exact hD) hS (by rw [hV]) rfl dX3_readItem_98
    · have hV := hV.trans (if_neg c34)
      refine lv_iconst (v := (1 : Int32)) hx hb dX3_readItem_93 (by decide) ?_
      refine lv_goto (tgt := 98) hx hb dX3_readItem_94 (by decide) ?_
      exact hend _ _ _ _ _ (by rw [hV]; exact hP) (by rw [hV]; exact hD) hS (by rw [hV]) rfl dX3_readItem_98
  have hc80 : ∀ (T : TS) (E : ES) (y0 : Int32) (H : Heap) (locs : List Loc) (ls : Array Slot), (vX3_readItem T0 E0) = vX3_readItem_c80 T E y0 → kX3_readItem_c80 T E y0 → va_P D vwCl (wT K a T ++ wE K b E) H → va_D A (wT K a T ++ wE K b E) → va_S A s.heap H locs → lv_has ls 3 [(0, .ref (a 0)), (1, .ref (b 0))] → W p l e rX3_readItem s m ([.ref (a 0), .ref (b 0)] : List Value).toArray below meth c H locs 0 0 Q (F0 m 80 ls [.int y0]) := by
    intro T E y0 H locs ls hV hk hP hD hS hl
    rw [vX3_readItem_c80] at hV
    rw [kX3_readItem_c80] at hk
    refine lv_if_eq (tgt := 97) hx hb dX3_readItem_80 (by decide) (fun c35 => ?_) (fun c35 => ?_)
    · have hV := hV.trans (if_pos c35)
      have hk := hk.1 c35
      refine lv_iconst (v := (0 : Int32)) hx hb dX3_readItem_97 (by decide) ?_
      exact hend _ _ _ _ _ (by rw [hV]; exact hP) (by rw [hV]; exact hD) hS (by rw [hV]) rfl dX3_readItem_98
    · have hV := hV.trans (if_neg c35)
      have hk := hk.2 c35
      refine lv_aload_n hx hb dX3_readItem_83 rfl (lv_at hl 0 rfl) ?_
      refine lv_aload_n hx hb dX3_readItem_84 rfl (lv_at hl 1 rfl) ?_
      refine lv_bipush (v := (6 : Int32)) hx hb dX3_readItem_85 (by decide) ?_
      obtain ⟨h36, hk⟩ := hk
      refine jci (jrunV (As := [.ref (b 0), .int (6 : Int32)]) (rest := []) hx hb hml hown hts hK hZ hA hP hD hS hl.1 mf_X3_takeHome kl_X3_58 ⟨rfl, rfl, Nat.le_of_ble_eq_true rfl, Nat.le_of_ble_eq_true rfl⟩ ⟨Nat.zero_le _, Nat.zero_le _⟩ [0, 1, 2, 3, 4, 5, 6] rfl (js39 K a b T E) rfl rfl rfl (hX3_takeHome l D K G a b T E (6 : Int32) h36 _) rfl rfl (Nat.le_of_ble_eq_true rfl) dX3_readItem_87) hA hP hD hS [0, 1, 2, 3, 4, 5, 6] (js39 K a b T E) (jh40 K a b T E ((vX3_takeHome T E (6 : Int32)).2.1) ((vX3_takeHome T E (6 : Int32)).2.2)) (fun H locs hP hD hS => ?_)
      have hP := jeP (jp41 K a b T E ((vX3_takeHome T E (6 : Int32)).2.1) ((vX3_takeHome T E (6 : Int32)).2.2)) hP
      have hD := jeD (jp41 K a b T E ((vX3_takeHome T E (6 : Int32)).2.1) ((vX3_takeHome T E (6 : Int32)).2.2)) hD
      exact hc90 ((vX3_takeHome T E (6 : Int32)).2.1) ((vX3_takeHome T E (6 : Int32)).2.2) ((vX3_takeHome T E (6 : Int32)).1) _ _ _ hV hP hD hS (lv_sub hl [0, 1] rfl)
  have hc71 : ∀ (T : TS) (E : ES) (y0 : Int32) (H : Heap) (locs : List Loc) (ls : Array Slot), (vX3_readItem T0 E0) = vX3_readItem_c71 T E y0 → kX3_readItem_c71 T E y0 → va_P D vwCl (wT K a T ++ wE K b E) H → va_D A (wT K a T ++ wE K b E) → va_S A s.heap H locs → lv_has ls 3 [(0, .ref (a 0)), (1, .ref (b 0))] → W p l e rX3_readItem s m ([.ref (a 0), .ref (b 0)] : List Value).toArray below meth c H locs 0 0 Q (F0 m 71 ls [.int y0]) := by
    intro T E y0 H locs ls hV hk hP hD hS hl
    rw [vX3_readItem_c71] at hV
    rw [kX3_readItem_c71] at hk
    refine lv_if_eq (tgt := 99) hx hb dX3_readItem_71 (by decide) (fun c37 => ?_) (fun c37 => ?_)
    · have hV := hV.trans (if_pos c37)
      have hk := hk.1 c37
      refine lv_aload_n hx hb dX3_readItem_99 rfl (lv_at hl 0 rfl) ?_
      refine va_ldcS hx hb hown (hZ.2.2.2.1 13 _ rfl) dX3_readItem_100 ?_
      obtain ⟨h38, hk⟩ := hk
      refine jci (jrunV (As := [.ref (G.2.1 13)]) (rest := []) hx hb hml hown hts hK hZ hA hP hD hS hl.1 mf_X3_takeWord kl_X3_55 ⟨rfl, rfl, Nat.le_of_ble_eq_true rfl, Nat.le_of_ble_eq_true rfl⟩ ⟨Nat.zero_le _, Nat.zero_le _⟩ [0, 1] rfl (js31 K a b T E) rfl rfl rfl (hX3_takeWord l D K G a T (13) (by decide) h38 _) rfl rfl (Nat.le_of_ble_eq_true rfl) dX3_readItem_102) hA hP hD hS [0, 1] (js31 K a b T E) (jh32 K a b T E ((vX3_takeWord T (13)).2)) (fun H locs hP hD hS => ?_)
      have hP := jeP (jp33 K a b T E ((vX3_takeWord T (13)).2)) hP
      have hD := jeD (jp33 K a b T E ((vX3_takeWord T (13)).2)) hD
      exact hc105 ((vX3_takeWord T (13)).2) E ((vX3_takeWord T (13)).1) _ _ _ hV hk hP hD hS (lv_sub hl [0, 1] rfl)
    · have hV := hV.trans (if_neg c37)
      have hk := hk.2 c37
      refine lv_aload_n hx hb dX3_readItem_74 rfl (lv_at hl 0 rfl) ?_
      refine lv_aload_n hx hb dX3_readItem_75 rfl (lv_at hl 1 rfl) ?_
      refine lv_iconst (v := (5 : Int32)) hx hb dX3_readItem_76 (by decide) ?_
      obtain ⟨h39, hk⟩ := hk
      refine jci (jrunV (As := [.ref (b 0), .int (5 : Int32)]) (rest := []) hx hb hml hown hts hK hZ hA hP hD hS hl.1 mf_X3_takeHome kl_X3_58 ⟨rfl, rfl, Nat.le_of_ble_eq_true rfl, Nat.le_of_ble_eq_true rfl⟩ ⟨Nat.zero_le _, Nat.zero_le _⟩ [0, 1, 2, 3, 4, 5, 6] rfl (js39 K a b T E) rfl rfl rfl (hX3_takeHome l D K G a b T E (5 : Int32) h39 _) rfl rfl (Nat.le_of_ble_eq_true rfl) dX3_readItem_77) hA hP hD hS [0, 1, 2, 3, 4, 5, 6] (js39 K a b T E) (jh40 K a b T E ((vX3_takeHome T E (5 : Int32)).2.1) ((vX3_takeHome T E (5 : Int32)).2.2)) (fun H locs hP hD hS => ?_)
      have hP := jeP (jp41 K a b T E ((vX3_takeHome T E (5 : Int32)).2.1) ((vX3_takeHome T E (5 : Int32)).2.2)) hP
      have hD := jeD (jp41 K a b T E ((vX3_takeHome T E (5 : Int32)).2.1) ((vX3_takeHome T E (5 : Int32)).2.2)) hD
      exact hc80 ((vX3_takeHome T E (5 : Int32)).2.1) ((vX3_takeHome T E (5 : Int32)).2.2) ((vX3_takeHome T E (5 : Int32)).1) _ _ _ hV hk hP hD hS (lv_sub hl [0, 1] rfl)
  have hc56 : ∀ (T : TS) (E : ES) (y0 : Int32) (H : Heap) (locs : List Loc) (ls : Array Slot), (vX3_readItem T0 E0) = vX3_readItem_c56 T E y0 → va_P D vwCl (wT K a T ++ wE K b E) H → va_D A (wT K a T ++ wE K b E) → va_S A s.heap H locs → lv_has ls 3 [(0, .ref (a 0)), (1, .ref (b 0))] → W p l e rX3_readItem s m ([.ref (a 0), .ref (b 0)] : List Value).toArray below meth c H locs 0 0 Q (F0 m 56 ls [.int y0]) := by
    intro T E y0 H locs ls hV hP hD hS hl
    rw [vX3_readItem_c56] at hV
    refine lv_if_eq (tgt := 63) hx hb dX3_readItem_56 (by decide) (fun c40 => ?_) (fun c40 => ?_)
    · have hV := hV.trans (if_pos c40)
      refine lv_iconst (v := (0 : Int32)) hx hb dX3_readItem_63 (by decide) ?_
      exact hend _ _ _ _ _ (by rw [hV]; exact hP) (by rw [hV]; exact hD) hS (by rw [hV]) rfl dX3_readItem_64
    · have hV := hV.trans (if_neg c40)
      refine lv_iconst (v := (1 : Int32)) hx hb dX3_readItem_59 (by decide) ?_
      refine lv_goto (tgt := 64) hx hb dX3_readItem_60 (by decide) ?_
      exact hend _ _ _ _ _ (by rw [hV]; exact hP) (by rw [hV]; exact hD) hS (by rw [hV]) rfl dX3_readItem_64
  have hc47 : ∀ (T : TS) (E : ES) (y0 : Int32) (H : Heap) (locs : List Loc) (ls : Array Slot), (vX3_readItem T0 E0) = vX3_readItem_c47 T E y0 → kX3_readItem_c47 T E y0 → va_P D vwCl (wT K a T ++ wE K b E) H → va_D A (wT K a T ++ wE K b E) → va_S A s.heap H locs → lv_has ls 3 [(0, .ref (a 0)), (1, .ref (b 0))] → W p l e rX3_readItem s m ([.ref (a 0), .ref (b 0)] : List Value).toArray below meth c H locs 0 0 Q (F0 m 47 ls [.int y0]) := by
    intro T E y0 H locs ls hV hk hP hD hS hl
    rw [vX3_readItem_c47] at hV
    rw [kX3_readItem_c47] at hk
    refine lv_if_eq (tgt := 63) hx hb dX3_readItem_47 (by decide) (fun c41 => ?_) (fun c41 => ?_)
    · have hV := hV.trans (if_pos c41)
      have hk := hk.1 c41
      refine lv_iconst (v := (0 : Int32)) hx hb dX3_readItem_63 (by decide) ?_
      exact hend _ _ _ _ _ (by rw [hV]; exact hP) (by rw [hV]; exact hD) hS (by rw [hV]) rfl dX3_readItem_64
    · have hV := hV.trans (if_neg c41)
      have hk := hk.2 c41
      refine lv_aload_n hx hb dX3_readItem_50 rfl (lv_at hl 0 rfl) ?_
      refine lv_aload_n hx hb dX3_readItem_51 rfl (lv_at hl 1 rfl) ?_
      refine lv_iconst (v := (1 : Int32)) hx hb dX3_readItem_52 (by decide) ?_
      obtain ⟨h42, hk⟩ := hk
      refine jci (jrunV (As := [.ref (b 0), .int (1 : Int32)]) (rest := []) hx hb hml hown hts hK hZ hA hP hD hS hl.1 mf_X3_takeHome kl_X3_58 ⟨rfl, rfl, Nat.le_of_ble_eq_true rfl, Nat.le_of_ble_eq_true rfl⟩ ⟨Nat.zero_le _, Nat.zero_le _⟩ [0, 1, 2, 3, 4, 5, 6] rfl (js39 K a b T E) rfl rfl rfl (hX3_takeHome l D K G a b T E (1 : Int32) h42 _) rfl rfl (Nat.le_of_ble_eq_true rfl) dX3_readItem_53) hA hP hD hS [0, 1, 2, 3, 4, 5, 6] (js39 K a b T E) (jh40 K a b T E ((vX3_takeHome T E (1 : Int32)).2.1) ((vX3_takeHome T E (1 : Int32)).2.2)) (fun H locs hP hD hS => ?_)
      have hP := jeP (jp41 K a b T E ((vX3_takeHome T E (1 : Int32)).2.1) ((vX3_takeHome T E (1 : Int32)).2.2)) hP
      have hD := jeD (jp41 K a b T E ((vX3_takeHome T E (1 : Int32)).2.1) ((vX3_takeHome T E (1 : Int32)).2.2)) hD
      exact hc56 ((vX3_takeHome T E (1 : Int32)).2.1) ((vX3_takeHome T E (1 : Int32)).2.2) ((vX3_takeHome T E (1 : Int32)).1) _ _ _ hV hP hD hS (lv_sub hl [0, 1] rfl)
  have hc38 : ∀ (T : TS) (E : ES) (y0 : Int32) (H : Heap) (locs : List Loc) (ls : Array Slot), (vX3_readItem T0 E0) = vX3_readItem_c38 T E y0 → kX3_readItem_c38 T E y0 → va_P D vwCl (wT K a T ++ wE K b E) H → va_D A (wT K a T ++ wE K b E) → va_S A s.heap H locs → lv_has ls 3 [(0, .ref (a 0)), (1, .ref (b 0))] → W p l e rX3_readItem s m ([.ref (a 0), .ref (b 0)] : List Value).toArray below meth c H locs 0 0 Q (F0 m 38 ls [.int y0]) := by
    intro T E y0 H locs ls hV hk hP hD hS hl
    rw [vX3_readItem_c38] at hV
    rw [kX3_readItem_c38] at hk
    refine lv_if_eq (tgt := 65) hx hb dX3_readItem_38 (by decide) (fun c43 => ?_) (fun c43 => ?_)
    · have hV := hV.trans (if_pos c43)
      have hk := hk.1 c43
      refine lv_aload_n hx hb dX3_readItem_65 rfl (lv_at hl 0 rfl) ?_
      refine va_ldcS hx hb hown (hZ.2.2.2.1 12 _ rfl) dX3_readItem_66 ?_
      obtain ⟨h44, hk⟩ := hk
      refine jci (jrunV (As := [.ref (G.2.1 12)]) (rest := []) hx hb hml hown hts hK hZ hA hP hD hS hl.1 mf_X3_takeWord kl_X3_55 ⟨rfl, rfl, Nat.le_of_ble_eq_true rfl, Nat.le_of_ble_eq_true rfl⟩ ⟨Nat.zero_le _, Nat.zero_le _⟩ [0, 1] rfl (js31 K a b T E) rfl rfl rfl (hX3_takeWord l D K G a T (12) (by decide) h44 _) rfl rfl (Nat.le_of_ble_eq_true rfl) dX3_readItem_68) hA hP hD hS [0, 1] (js31 K a b T E) (jh32 K a b T E ((vX3_takeWord T (12)).2)) (fun H locs hP hD hS => ?_)
      have hP := jeP (jp33 K a b T E ((vX3_takeWord T (12)).2)) hP
      have hD := jeD (jp33 K a b T E ((vX3_takeWord T (12)).2)) hD
      exact hc71 ((vX3_takeWord T (12)).2) E ((vX3_takeWord T (12)).1) _ _ _ hV hk hP hD hS (lv_sub hl [0, 1] rfl)
    · have hV := hV.trans (if_neg c43)
      have hk := hk.2 c43
      refine lv_aload_n hx hb dX3_readItem_41 rfl (lv_at hl 0 rfl) ?_
      refine lv_aload_n hx hb dX3_readItem_42 rfl (lv_at hl 1 rfl) ?_
      refine lv_iconst (v := (0 : Int32)) hx hb dX3_readItem_43 (by decide) ?_
      obtain ⟨h45, hk⟩ := hk
      refine jci (jrunV (As := [.ref (b 0), .int (0 : Int32)]) (rest := []) hx hb hml hown hts hK hZ hA hP hD hS hl.1 mf_X3_takeHome kl_X3_58 ⟨rfl, rfl, Nat.le_of_ble_eq_true rfl, Nat.le_of_ble_eq_true rfl⟩ ⟨Nat.zero_le _, Nat.zero_le _⟩ [0, 1, 2, 3, 4, 5, 6] rfl (js39 K a b T E) rfl rfl rfl (hX3_takeHome l D K G a b T E (0 : Int32) h45 _) rfl rfl (Nat.le_of_ble_eq_true rfl) dX3_readItem_44) hA hP hD hS [0, 1, 2, 3, 4, 5, 6] (js39 K a b T E) (jh40 K a b T E ((vX3_takeHome T E (0 : Int32)).2.1) ((vX3_takeHome T E (0 : Int32)).2.2)) (fun H locs hP hD hS => ?_)
      have hP := jeP (jp41 K a b T E ((vX3_takeHome T E (0 : Int32)).2.1) ((vX3_takeHome T E (0 : Int32)).2.2)) hP
      have hD := jeD (jp41 K a b T E ((vX3_takeHome T E (0 : Int32)).2.1) ((vX3_takeHome T E (0 : Int32)).2.2)) hD
      exact hc47 ((vX3_takeHome T E (0 : Int32)).2.1) ((vX3_takeHome T E (0 : Int32)).2.2) ((vX3_takeHome T E (0 : Int32)).1) _ _ _ hV hk hP hD hS (lv_sub hl [0, 1] rfl)
  have hc2 : ∀ (n : Nat) (T : TS) (E : ES) (x2 : Int32) (H : Heap) (locs : List Loc) (ls : Array Slot), (vX3_readItem T0 E0) = vX3_readItem_c2 n T E x2 → kX3_readItem_c2 n T E x2 → va_P D vwCl (wT K a T ++ wE K b E) H → va_D A (wT K a T ++ wE K b E) → va_S A s.heap H locs → lv_has ls 3 [(0, .ref (a 0)), (1, .ref (b 0)), (2, .int x2)] → W p l e rX3_readItem s m ([.ref (a 0), .ref (b 0)] : List Value).toArray below meth c H locs 0 0 Q (F0 m 2 ls []) := by
    intro n
    induction n with
    | zero =>
      intro T E x2 H locs ls hV hk hP hD hS hl
      exact False.elim hk
    | succ n ih =>
      intro T E x2 H locs ls hV hk hP hD hS hl
      rw [vX3_readItem_c2] at hV
      rw [kX3_readItem_c2] at hk
      refine lv_iload_n hx hb dX3_readItem_2 rfl (lv_at hl 2 rfl) ?_
      refine lv_bipush (v := (7 : Int32)) hx hb dX3_readItem_3 (by decide) ?_
      refine lv_icmp_ge (tgt := 32) hx hb dX3_readItem_5 (by decide) (fun c46 => ?_) (fun c46 => ?_)
      · have hV := hV.trans (if_pos c46)
        have hk := hk.1 c46
        refine lv_aload_n hx hb dX3_readItem_32 rfl (lv_at hl 0 rfl) ?_
        refine va_ldcS hx hb hown (hZ.2.2.2.1 11 _ rfl) dX3_readItem_33 ?_
        obtain ⟨h47, hk⟩ := hk
        refine jci (jrunV (As := [.ref (G.2.1 11)]) (rest := []) hx hb hml hown hts hK hZ hA hP hD hS hl.1 mf_X3_takeWord kl_X3_55 ⟨rfl, rfl, Nat.le_of_ble_eq_true rfl, Nat.le_of_ble_eq_true rfl⟩ ⟨Nat.zero_le _, Nat.zero_le _⟩ [0, 1] rfl (js31 K a b T E) rfl rfl rfl (hX3_takeWord l D K G a T (11) (by decide) h47 _) rfl rfl (Nat.le_of_ble_eq_true rfl) dX3_readItem_35) hA hP hD hS [0, 1] (js31 K a b T E) (jh32 K a b T E ((vX3_takeWord T (11)).2)) (fun H locs hP hD hS => ?_)
        have hP := jeP (jp33 K a b T E ((vX3_takeWord T (11)).2)) hP
        have hD := jeD (jp33 K a b T E ((vX3_takeWord T (11)).2)) hD
        exact hc38 ((vX3_takeWord T (11)).2) E ((vX3_takeWord T (11)).1) _ _ _ hV hk hP hD hS (lv_sub hl [0, 1] rfl)
      · have hV := hV.trans (if_neg c46)
        have hk := hk.2 c46
        refine lv_aload_n hx hb dX3_readItem_8 rfl (lv_at hl 0 rfl) ?_
        refine lv_iload_n hx hb dX3_readItem_9 rfl (lv_at hl 2 rfl) ?_
        refine jcr0 (jrunS (As := [.int x2]) (rest := [.ref (a 0)]) hx hb hml hown hts hK hZ hA hP hD hS hl.1 mf_X3_wordOfKind kl_X3_41 ⟨rfl, rfl, Nat.le_of_ble_eq_true rfl, Nat.le_of_ble_eq_true rfl⟩ ⟨Nat.zero_le _, Nat.zero_le _⟩ [] rfl rfl (hX3_wordOfKind l D K G x2 _) rfl rfl (Nat.le_of_ble_eq_true rfl) dX3_readItem_10) hA hP hD hS [] rfl (fun H locs hP hS => ?_)
        obtain ⟨h48, hk⟩ := hk
        obtain ⟨h49, hk⟩ := hk
        refine jci0 (jrunV (As := [.ref (G.2.1 (vX3_wordOfKind x2))]) (rest := []) hx hb hml hown hts hK hZ hA hP hD hS hl.1 mf_X3_wordIs kl_X3_45 ⟨rfl, rfl, Nat.le_of_ble_eq_true rfl, Nat.le_of_ble_eq_true rfl⟩ ⟨Nat.zero_le _, Nat.zero_le _⟩ [0, 1] rfl (js31 K a b T E) rfl rfl rfl (hX3_wordIs l D K G a T ((vX3_wordOfKind x2)) h48 h49 _) rfl rfl (Nat.le_of_ble_eq_true rfl) dX3_readItem_13) hA hP hD hS [0, 1] (js31 K a b T E) (fun H locs hP hS => ?_)
        refine lv_if_eq (tgt := 26) hx hb dX3_readItem_16 (by decide) (fun c50 => ?_) (fun c50 => ?_)
        · have hV := hV.trans (if_pos c50)
          have hk := hk.1 c50
          refine lv_iinc (v := (x2 + (1 : Int32))) (lv' := [(2, .int (x2 + (1 : Int32))), (0, .ref (a 0)), (1, .ref (b 0))]) hx hb dX3_readItem_26 hl (k := 2) rfl rfl (by decide) rfl (fun ls hl => ?_)
          refine lv_goto (tgt := 2) hx hb dX3_readItem_29 (by decide) ?_
          exact ih T E (x2 + (1 : Int32)) _ _ _ hV hk hP hD hS (lv_sub hl [1, 2, 0] rfl)
        · have hV := hV.trans (if_neg c50)
          have hk := hk.2 c50
          refine lv_aload_n hx hb dX3_readItem_19 rfl (lv_at hl 0 rfl) ?_
          refine lv_aload_n hx hb dX3_readItem_20 rfl (lv_at hl 1 rfl) ?_
          refine lv_iload_n hx hb dX3_readItem_21 rfl (lv_at hl 2 rfl) ?_
          obtain ⟨h51, hk⟩ := hk
          refine jci (jrunV (As := [.ref (b 0), .int x2]) (rest := []) hx hb hml hown hts hK hZ hA hP hD hS hl.1 mf_X3_readThing kl_X3_49 ⟨rfl, rfl, Nat.le_of_ble_eq_true rfl, Nat.le_of_ble_eq_true rfl⟩ ⟨Nat.zero_le _, Nat.zero_le _⟩ [0, 1, 2, 3, 4, 5, 6] rfl (js39 K a b T E) rfl rfl rfl (hX3_readThing l D K G a b T E x2 h51 _) rfl rfl (Nat.le_of_ble_eq_true rfl) dX3_readItem_22) hA hP hD hS [0, 1, 2, 3, 4, 5, 6] (js39 K a b T E) (jh40 K a b T E ((vX3_readThing T E x2).2.1) ((vX3_readThing T E x2).2.2)) (fun H locs hP hD hS => ?_)
          have hP := jeP (jp41 K a b T E ((vX3_readThing T E x2).2.1) ((vX3_readThing T E x2).2.2)) hP
          have hD := jeD (jp41 K a b T E ((vX3_readThing T E x2).2.1) ((vX3_readThing T E x2).2.2)) hD
          obtain ⟨h52, hk⟩ := hk
          exact hend _ _ _ _ _ (by rw [hV]; exact hP) (by rw [hV]; exact hD) hS (by rw [hV]) (jnb h52) dX3_readItem_25
  have hV := vX3_readItem.eq_1 T0 E0
  rw [kX3_readItem] at hk
  refine lv_iconst (v := (0 : Int32)) hx hb dX3_readItem_0 (by decide) ?_
  refine lv_istore_n (lv' := [(2, .int (0 : Int32)), (0, .ref (a 0)), (1, .ref (b 0))]) hx hb dX3_readItem_1 rfl hl (by decide) rfl (fun ls hl => ?_)
  exact hc2 1024 T0 E0 (0 : Int32) _ _ _ hV hk hP hD hS (lv_sub hl [1, 2, 0] rfl)
theorem jf42 (K : JK) (a : Nat → Nat) (b : Nat → Nat) (T : TS) (E : ES) (v : Int32) : (wT K a T ++ wE K b E).set 0 ((a 0), .inr (2, ([.ref (a 1), .int (t_length T), .int (t_sort T), .int (t_begin T), .int (t_end T), .int (t_number T), .int (t_taken T)] : List Value).set 4 (.int v))) = (wT K a (t_s_end T v) ++ wE K b E) := rfl
theorem dX3_readItems_0 : decode cX3_readItems 0 = .ok (.aload_n 0, 1) := by decide +kernel
theorem dX3_readItems_1 : decode cX3_readItems 1 = .ok (.iconst 0, 1) := by decide +kernel
theorem dX3_readItems_2 : decode cX3_readItems 2 = .ok (.putfield 25, 3) := by decide +kernel
theorem dX3_readItems_5 : decode cX3_readItems 5 = .ok (.aload_n 0, 1) := by decide +kernel
theorem dX3_readItems_6 : decode cX3_readItems 6 = .ok (.invokevirtual 34, 3) := by decide +kernel
theorem dX3_readItems_9 : decode cX3_readItems 9 = .ok (.iconst 1, 1) := by decide +kernel
theorem dX3_readItems_10 : decode cX3_readItems 10 = .ok (.istore_n 2, 1) := by decide +kernel
theorem dX3_readItems_11 : decode cX3_readItems 11 = .ok (.iload_n 2, 1) := by decide +kernel
theorem dX3_readItems_12 : decode cX3_readItems 12 = .ok (.bipush 120, 2) := by decide +kernel
theorem dX3_readItems_14 : decode cX3_readItems 14 = .ok (.if_icmp .gt 52, 3) := by decide +kernel
theorem dX3_readItems_17 : decode cX3_readItems 17 = .ok (.aload_n 0, 1) := by decide +kernel
theorem dX3_readItems_18 : decode cX3_readItems 18 = .ok (.aload_n 1, 1) := by decide +kernel
theorem dX3_readItems_19 : decode cX3_readItems 19 = .ok (.invokevirtual 37, 3) := by decide +kernel
theorem dX3_readItems_22 : decode cX3_readItems 22 = .ok (.ifCond .ne 10, 3) := by decide +kernel
theorem dX3_readItems_25 : decode cX3_readItems 25 = .ok (.iconst (-1), 1) := by decide +kernel
theorem dX3_readItems_26 : decode cX3_readItems 26 = .ok (.aload_n 0, 1) := by decide +kernel
theorem dX3_readItems_27 : decode cX3_readItems 27 = .ok (.getfield 22, 3) := by decide +kernel
theorem dX3_readItems_30 : decode cX3_readItems 30 = .ok (.isub, 1) := by decide +kernel
theorem dX3_readItems_31 : decode cX3_readItems 31 = .ok (.ireturn, 1) := by decide +kernel
theorem dX3_readItems_32 : decode cX3_readItems 32 = .ok (.aload_n 0, 1) := by decide +kernel
theorem dX3_readItems_33 : decode cX3_readItems 33 = .ok (.getfield 19, 3) := by decide +kernel
theorem dX3_readItems_36 : decode cX3_readItems 36 = .ok (.ifCond .ne 5, 3) := by decide +kernel
theorem dX3_readItems_39 : decode cX3_readItems 39 = .ok (.iload_n 2, 1) := by decide +kernel
theorem dX3_readItems_40 : decode cX3_readItems 40 = .ok (.ireturn, 1) := by decide +kernel
theorem dX3_readItems_41 : decode cX3_readItems 41 = .ok (.aload_n 0, 1) := by decide +kernel
theorem dX3_readItems_42 : decode cX3_readItems 42 = .ok (.getfield 19, 3) := by decide +kernel
theorem dX3_readItems_45 : decode cX3_readItems 45 = .ok (.iconst 3, 1) := by decide +kernel
theorem dX3_readItems_46 : decode cX3_readItems 46 = .ok (.if_icmp .eq 10, 3) := by decide +kernel
theorem dX3_readItems_49 : decode cX3_readItems 49 = .ok (.iconst (-1), 1) := by decide +kernel
theorem dX3_readItems_50 : decode cX3_readItems 50 = .ok (.aload_n 0, 1) := by decide +kernel
theorem dX3_readItems_51 : decode cX3_readItems 51 = .ok (.getfield 22, 3) := by decide +kernel
theorem dX3_readItems_54 : decode cX3_readItems 54 = .ok (.isub, 1) := by decide +kernel
theorem dX3_readItems_55 : decode cX3_readItems 55 = .ok (.ireturn, 1) := by decide +kernel
theorem dX3_readItems_56 : decode cX3_readItems 56 = .ok (.aload_n 0, 1) := by decide +kernel
theorem dX3_readItems_57 : decode cX3_readItems 57 = .ok (.invokevirtual 34, 3) := by decide +kernel
theorem dX3_readItems_60 : decode cX3_readItems 60 = .ok (.iinc 2 1, 3) := by decide +kernel
theorem dX3_readItems_63 : decode cX3_readItems 63 = .ok (.goto (-52), 3) := by decide +kernel
theorem dX3_readItems_66 : decode cX3_readItems 66 = .ok (.iconst (-1), 1) := by decide +kernel
theorem dX3_readItems_67 : decode cX3_readItems 67 = .ok (.aload_n 0, 1) := by decide +kernel
theorem dX3_readItems_68 : decode cX3_readItems 68 = .ok (.getfield 22, 3) := by decide +kernel
theorem dX3_readItems_71 : decode cX3_readItems 71 = .ok (.isub, 1) := by decide +kernel
theorem dX3_readItems_72 : decode cX3_readItems 72 = .ok (.ireturn, 1) := by decide +kernel
def rX3_readItems : Room := { frames := 8, cells := 0, slots := 0, locals := 174 }
def vX3_readItems_c60 (k : TS → ES → Int32 → Int32 × TS × ES) (T : TS) (E : ES) (x2 : Int32) : Int32 × TS × ES := (k T E (x2 + (1 : Int32)))
def kX3_readItems_c60 (q : TS → ES → Int32 → Prop) (T : TS) (E : ES) (x2 : Int32) : Prop := (q T E (x2 + (1 : Int32)))
def vX3_readItems_c22 (k : TS → ES → Int32 → Int32 × TS × ES) (T : TS) (E : ES) (x2 : Int32) (y0 : Int32) : Int32 × TS × ES := if (y0 = 0) then (((-1 : Int32) - (t_begin T)), T, E) else if ((t_sort T) = 0) then (x2, T, E) else if ((t_sort T) = (3 : Int32)) then (vX3_readItems_c60 k (vX3_nextToken T) E x2) else (((-1 : Int32) - (t_begin T)), T, E)
def kX3_readItems_c22 (q : TS → ES → Int32 → Prop) (T : TS) (E : ES) (x2 : Int32) (y0 : Int32) : Prop := ((y0 = 0) → True) ∧ (¬ (y0 = 0) → ((((t_sort T) = 0) → True) ∧ (¬ ((t_sort T) = 0) → ((((t_sort T) = (3 : Int32)) → ((kX3_nextToken T) ∧ (kX3_readItems_c60 q (vX3_nextToken T) E x2))) ∧ (¬ ((t_sort T) = (3 : Int32)) → True)))))
def vX3_readItems_c11 : Nat → TS → ES → Int32 → Int32 × TS × ES
  | 0, T, E, x2 => (0, T, E)
  | n + 1, T, E, x2 => if ((120 : Int32) < x2) then (((-1 : Int32) - (t_begin T)), T, E) else (vX3_readItems_c22 (fun T E x2 => vX3_readItems_c11 n T E x2) ((vX3_readItem T E).2.1) ((vX3_readItem T E).2.2) x2 ((vX3_readItem T E).1))
def kX3_readItems_c11 : Nat → TS → ES → Int32 → Prop
  | 0, _, _, _ => False
  | n + 1, T, E, x2 => (((120 : Int32) < x2) → True) ∧ (¬ ((120 : Int32) < x2) → ((kX3_readItem T E) ∧ (kX3_readItems_c22 (fun T E x2 => kX3_readItems_c11 n T E x2) ((vX3_readItem T E).2.1) ((vX3_readItem T E).2.2) x2 ((vX3_readItem T E).1))))
def vX3_readItems_c9 (T : TS) (E : ES) : Int32 × TS × ES := (vX3_readItems_c11 1024 T E (1 : Int32))
def kX3_readItems_c9 (T : TS) (E : ES) : Prop := (kX3_readItems_c11 1024 T E (1 : Int32))
def vX3_readItems_c5 (T : TS) (E : ES) : Int32 × TS × ES := (vX3_readItems_c9 (vX3_nextToken T) E)
def kX3_readItems_c5 (T : TS) (E : ES) : Prop := (kX3_nextToken T) ∧ (kX3_readItems_c9 (vX3_nextToken T) E)
def vX3_readItems (T0 : TS) (E0 : ES) : Int32 × TS × ES := (vX3_readItems_c5 (t_s_end T0 (0 : Int32)) E0)
def kX3_readItems (T0 : TS) (E0 : ES) : Prop := (kX3_readItems_c5 (t_s_end T0 (0 : Int32)) E0)
set_option maxHeartbeats 4000000 in
set_option maxRecDepth 100000 in
theorem hX3_readItems (l : Launch) (D : va_G) (K : JK) (G : JG) (a : Nat → Nat) (b : Nat → Nat) (T0 : TS) (E0 : ES) (hk : kX3_readItems T0 E0) (sz : Nat) : Met l yX3_readItems (.code yX3_readItems cX3_readItems 3 (some .int) :: jGW) rX3_readItems (jPre D (jT K) G [.ref (a 0), .ref (b 0)] (wT K a T0 ++ wE K b E0) sz) (jQi D (jT K) ((vX3_readItems T0 E0).1) (wT K a ((vX3_readItems T0 E0).2.1) ++ wE K b ((vX3_readItems T0 E0).2.2)) (va_A (wT K a T0 ++ wE K b E0) sz)) 0 0 (va_A (wT K a T0 ++ wE K b E0) sz) := by
  refine jEi (by decide) (Nat.le_of_ble_eq_true rfl) (fun p e s m below meth c A Q ls hat hP hD hS hl hend => ?_)
  obtain ⟨hx, hb, hml, hown, hts, hK, hZ, hA⟩ := hat
  have hl : lv_has ls 3 [(0, .ref (a 0)), (1, .ref (b 0))] := hl
  have hc11 : ∀ (n : Nat) (T : TS) (E : ES) (x2 : Int32) (H : Heap) (locs : List Loc) (ls : Array Slot), (vX3_readItems T0 E0) = vX3_readItems_c11 n T E x2 → kX3_readItems_c11 n T E x2 → va_P D vwCl (wT K a T ++ wE K b E) H → va_D A (wT K a T ++ wE K b E) → va_S A s.heap H locs → lv_has ls 3 [(0, .ref (a 0)), (1, .ref (b 0)), (2, .int x2)] → W p l e rX3_readItems s m ([.ref (a 0), .ref (b 0)] : List Value).toArray below meth c H locs 0 0 Q (F0 m 11 ls []) := by
    intro n
    induction n with
    | zero =>
      intro T E x2 H locs ls hV hk hP hD hS hl
      exact False.elim hk
    | succ n ih =>
      have hc60 : ∀ (T : TS) (E : ES) (x2 : Int32) (H : Heap) (locs : List Loc) (ls : Array Slot), (vX3_readItems T0 E0) = vX3_readItems_c60 (fun T E x2 => vX3_readItems_c11 n T E x2) T E x2 → kX3_readItems_c60 (fun T E x2 => kX3_readItems_c11 n T E x2) T E x2 → va_P D vwCl (wT K a T ++ wE K b E) H → va_D A (wT K a T ++ wE K b E) → va_S A s.heap H locs → lv_has ls 3 [(0, .ref (a 0)), (1, .ref (b 0)), (2, .int x2)] → W p l e rX3_readItems s m ([.ref (a 0), .ref (b 0)] : List Value).toArray below meth c H locs 0 0 Q (F0 m 60 ls []) := by
        intro T E x2 H locs ls hV hk hP hD hS hl
        rw [vX3_readItems_c60] at hV
        rw [kX3_readItems_c60] at hk
        refine lv_iinc (v := (x2 + (1 : Int32))) (lv' := [(2, .int (x2 + (1 : Int32))), (0, .ref (a 0)), (1, .ref (b 0))]) hx hb dX3_readItems_60 hl (k := 2) rfl rfl (by decide) rfl (fun ls hl => ?_)
        refine lv_goto (tgt := 11) hx hb dX3_readItems_63 (by decide) ?_
        exact ih T E (x2 + (1 : Int32)) _ _ _ hV hk hP hD hS (lv_sub hl [1, 2, 0] rfl)
      have hc22 : ∀ (T : TS) (E : ES) (x2 : Int32) (y0 : Int32) (H : Heap) (locs : List Loc) (ls : Array Slot), (vX3_readItems T0 E0) = vX3_readItems_c22 (fun T E x2 => vX3_readItems_c11 n T E x2) T E x2 y0 → kX3_readItems_c22 (fun T E x2 => kX3_readItems_c11 n T E x2) T E x2 y0 → va_P D vwCl (wT K a T ++ wE K b E) H → va_D A (wT K a T ++ wE K b E) → va_S A s.heap H locs → lv_has ls 3 [(0, .ref (a 0)), (1, .ref (b 0)), (2, .int x2)] → W p l e rX3_readItems s m ([.ref (a 0), .ref (b 0)] : List Value).toArray below meth c H locs 0 0 Q (F0 m 22 ls [.int y0]) := by
        intro T E x2 y0 H locs ls hV hk hP hD hS hl
        rw [vX3_readItems_c22] at hV
        rw [kX3_readItems_c22] at hk
        refine lv_if_ne (tgt := 32) hx hb dX3_readItems_22 (by decide) (fun c8 => ?_) (fun c8 => ?_)
        · have hV := hV.trans (if_neg c8)
          have hk := hk.2 c8
          refine lv_aload_n hx hb dX3_readItems_32 rfl (lv_at hl 0 rfl) ?_
          refine gf_X3_19 (v := .int (t_sort T)) hx hb hts hown hK hZ hP (0) rfl rfl dX3_readItems_33 ?_
          refine lv_if_ne (tgt := 41) hx hb dX3_readItems_36 (by decide) (fun c9 => ?_) (fun c9 => ?_)
          · have hV := hV.trans (if_neg c9)
            have hk := hk.2 c9
            refine lv_aload_n hx hb dX3_readItems_41 rfl (lv_at hl 0 rfl) ?_
            refine gf_X3_19 (v := .int (t_sort T)) hx hb hts hown hK hZ hP (0) rfl rfl dX3_readItems_42 ?_
            refine lv_iconst (v := (3 : Int32)) hx hb dX3_readItems_45 (by decide) ?_
            refine lv_icmp_eq (tgt := 56) hx hb dX3_readItems_46 (by decide) (fun c10 => ?_) (fun c10 => ?_)
            · have hV := hV.trans (if_pos c10)
              have hk := hk.1 c10
              refine lv_aload_n hx hb dX3_readItems_56 rfl (lv_at hl 0 rfl) ?_
              obtain ⟨h11, hk⟩ := hk
              refine jcv (jrunV (As := []) (rest := []) hx hb hml hown hts hK hZ hA hP hD hS hl.1 mf_X3_nextToken kl_X3_34 ⟨rfl, rfl, Nat.le_of_ble_eq_true rfl, Nat.le_of_ble_eq_true rfl⟩ ⟨Nat.zero_le _, Nat.zero_le _⟩ [0, 1] rfl (js31 K a b T E) rfl rfl rfl (hX3_nextToken l D K G a T h11 _) rfl rfl (Nat.le_of_ble_eq_true rfl) dX3_readItems_57) hA hP hD hS [0, 1] (js31 K a b T E) (jh32 K a b T E (vX3_nextToken T)) (fun H locs hP hD hS => ?_)
              have hP := jeP (jp33 K a b T E (vX3_nextToken T)) hP
              have hD := jeD (jp33 K a b T E (vX3_nextToken T)) hD
              exact hc60 (vX3_nextToken T) E x2 _ _ _ hV hk hP hD hS (lv_sub hl [0, 1, 2] rfl)
            · have hV := hV.trans (if_neg c10)
              have hk := hk.2 c10
              refine lv_iconst (v := (-1 : Int32)) hx hb dX3_readItems_49 (by decide) ?_
              refine lv_aload_n hx hb dX3_readItems_50 rfl (lv_at hl 0 rfl) ?_
              refine gf_X3_22 (v := .int (t_begin T)) hx hb hts hown hK hZ hP (0) rfl rfl dX3_readItems_51 ?_
              refine lv_isub hx hb dX3_readItems_54 ?_
              exact hend _ _ _ _ _ (by rw [hV]; exact hP) (by rw [hV]; exact hD) hS (by rw [hV]) rfl dX3_readItems_55
          · have hV := hV.trans (if_pos c9)
            have hk := hk.1 c9
            refine lv_iload_n hx hb dX3_readItems_39 rfl (lv_at hl 2 rfl) ?_
            exact hend _ _ _ _ _ (by rw [hV]; exact hP) (by rw [hV]; exact hD) hS (by rw [hV]) rfl dX3_readItems_40
        · have hV := hV.trans (if_pos c8)
          have hk := hk.1 c8
          refine lv_iconst (v := (-1 : Int32)) hx hb dX3_readItems_25 (by decide) ?_
          refine lv_aload_n hx hb dX3_readItems_26 rfl (lv_at hl 0 rfl) ?_
          refine gf_X3_22 (v := .int (t_begin T)) hx hb hts hown hK hZ hP (0) rfl rfl dX3_readItems_27 ?_
          refine lv_isub hx hb dX3_readItems_30 ?_
          exact hend _ _ _ _ _ (by rw [hV]; exact hP) (by rw [hV]; exact hD) hS (by rw [hV]) rfl dX3_readItems_31
      intro T E x2 H locs ls hV hk hP hD hS hl
      rw [vX3_readItems_c11] at hV
      rw [kX3_readItems_c11] at hk
      refine lv_iload_n hx hb dX3_readItems_11 rfl (lv_at hl 2 rfl) ?_
      refine lv_bipush (v := (120 : Int32)) hx hb dX3_readItems_12 (by decide) ?_
      refine lv_icmp_gt (tgt := 66) hx hb dX3_readItems_14 (by decide) (fun c12 => ?_) (fun c12 => ?_)
      · have hV := hV.trans (if_pos c12)
        have hk := hk.1 c12
        refine lv_iconst (v := (-1 : Int32)) hx hb dX3_readItems_66 (by decide) ?_
        refine lv_aload_n hx hb dX3_readItems_67 rfl (lv_at hl 0 rfl) ?_
        refine gf_X3_22 (v := .int (t_begin T)) hx hb hts hown hK hZ hP (0) rfl rfl dX3_readItems_68 ?_
        refine lv_isub hx hb dX3_readItems_71 ?_
        exact hend _ _ _ _ _ (by rw [hV]; exact hP) (by rw [hV]; exact hD) hS (by rw [hV]) rfl dX3_readItems_72
      · have hV := hV.trans (if_neg c12)
        have hk := hk.2 c12
        refine lv_aload_n hx hb dX3_readItems_17 rfl (lv_at hl 0 rfl) ?_
        refine lv_aload_n hx hb dX3_readItems_18 rfl (lv_at hl 1 rfl) ?_
        obtain ⟨h13, hk⟩ := hk
        refine jci (jrunV (As := [.ref (b 0)]) (rest := []) hx hb hml hown hts hK hZ hA hP hD hS hl.1 mf_X3_readItem kl_X3_37 ⟨rfl, rfl, Nat.le_of_ble_eq_true rfl, Nat.le_of_ble_eq_true rfl⟩ ⟨Nat.zero_le _, Nat.zero_le _⟩ [0, 1, 2, 3, 4, 5, 6] rfl (js39 K a b T E) rfl rfl rfl (hX3_readItem l D K G a b T E h13 _) rfl rfl (Nat.le_of_ble_eq_true rfl) dX3_readItems_19) hA hP hD hS [0, 1, 2, 3, 4, 5, 6] (js39 K a b T E) (jh40 K a b T E ((vX3_readItem T E).2.1) ((vX3_readItem T E).2.2)) (fun H locs hP hD hS => ?_)
        have hP := jeP (jp41 K a b T E ((vX3_readItem T E).2.1) ((vX3_readItem T E).2.2)) hP
        have hD := jeD (jp41 K a b T E ((vX3_readItem T E).2.1) ((vX3_readItem T E).2.2)) hD
        exact hc22 ((vX3_readItem T E).2.1) ((vX3_readItem T E).2.2) x2 ((vX3_readItem T E).1) _ _ _ hV hk hP hD hS (lv_sub hl [0, 1, 2] rfl)
  have hc9 : ∀ (T : TS) (E : ES) (H : Heap) (locs : List Loc) (ls : Array Slot), (vX3_readItems T0 E0) = vX3_readItems_c9 T E → kX3_readItems_c9 T E → va_P D vwCl (wT K a T ++ wE K b E) H → va_D A (wT K a T ++ wE K b E) → va_S A s.heap H locs → lv_has ls 3 [(0, .ref (a 0)), (1, .ref (b 0))] → W p l e rX3_readItems s m ([.ref (a 0), .ref (b 0)] : List Value).toArray below meth c H locs 0 0 Q (F0 m 9 ls []) := by
    intro T E H locs ls hV hk hP hD hS hl
    rw [vX3_readItems_c9] at hV
    rw [kX3_readItems_c9] at hk
    refine lv_iconst (v := (1 : Int32)) hx hb dX3_readItems_9 (by decide) ?_
    refine lv_istore_n (lv' := [(2, .int (1 : Int32)), (0, .ref (a 0)), (1, .ref (b 0))]) hx hb dX3_readItems_10 rfl hl (by decide) rfl (fun ls hl => ?_)
    exact hc11 1024 T E (1 : Int32) _ _ _ hV hk hP hD hS (lv_sub hl [1, 2, 0] rfl)
  have hc5 : ∀ (T : TS) (E : ES) (H : Heap) (locs : List Loc) (ls : Array Slot), (vX3_readItems T0 E0) = vX3_readItems_c5 T E → kX3_readItems_c5 T E → va_P D vwCl (wT K a T ++ wE K b E) H → va_D A (wT K a T ++ wE K b E) → va_S A s.heap H locs → lv_has ls 3 [(0, .ref (a 0)), (1, .ref (b 0))] → W p l e rX3_readItems s m ([.ref (a 0), .ref (b 0)] : List Value).toArray below meth c H locs 0 0 Q (F0 m 5 ls []) := by
    intro T E H locs ls hV hk hP hD hS hl
    rw [vX3_readItems_c5] at hV
    rw [kX3_readItems_c5] at hk
    refine lv_aload_n hx hb dX3_readItems_5 rfl (lv_at hl 0 rfl) ?_
    obtain ⟨h14, hk⟩ := hk
    refine jcv (jrunV (As := []) (rest := []) hx hb hml hown hts hK hZ hA hP hD hS hl.1 mf_X3_nextToken kl_X3_34 ⟨rfl, rfl, Nat.le_of_ble_eq_true rfl, Nat.le_of_ble_eq_true rfl⟩ ⟨Nat.zero_le _, Nat.zero_le _⟩ [0, 1] rfl (js31 K a b T E) rfl rfl rfl (hX3_nextToken l D K G a T h14 _) rfl rfl (Nat.le_of_ble_eq_true rfl) dX3_readItems_6) hA hP hD hS [0, 1] (js31 K a b T E) (jh32 K a b T E (vX3_nextToken T)) (fun H locs hP hD hS => ?_)
    have hP := jeP (jp33 K a b T E (vX3_nextToken T)) hP
    have hD := jeD (jp33 K a b T E (vX3_nextToken T)) hD
    exact hc9 (vX3_nextToken T) E _ _ _ hV hk hP hD hS (lv_sub hl [0, 1] rfl)
  have hV := vX3_readItems.eq_1 T0 E0
  rw [kX3_readItems] at hk
  refine lv_aload_n hx hb dX3_readItems_0 rfl (lv_at hl 0 rfl) ?_
  refine lv_iconst (v := (0 : Int32)) hx hb dX3_readItems_1 (by decide) ?_
  refine pf_X3_25 (v := .int (0 : Int32)) hx hb hts hown hK hZ hP hD hS (0) rfl rfl rfl (Nat.le_of_ble_eq_true rfl) dX3_readItems_2 (fun H locs hP hD hS => ?_)
  have hP := jeP (jf42 K a b T0 E0 (0 : Int32)) hP
  have hD := jeD (jf42 K a b T0 E0 (0 : Int32)) hD
  exact hc5 (t_s_end T0 (0 : Int32)) E0 _ _ _ hV hk hP hD hS (lv_sub hl [0, 1] rfl)
