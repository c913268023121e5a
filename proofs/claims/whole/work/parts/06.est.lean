theorem ja1 (K : JK) (a : Nat → Nat) (E : ES) (f : FA) : (wE K a E).set 3 ((a 3), .inl (K.1, 56, .inl f)) = (wE K a (e_s_traits E f)) := rfl
theorem dX0_put_0 : decode cX0_put 0 = .ok (.aload_n 0, 1) := by decide +kernel
theorem dX0_put_1 : decode cX0_put 1 = .ok (.getfield 26, 3) := by decide +kernel
theorem dX0_put_4 : decode cX0_put 4 = .ok (.iload_n 1, 1) := by decide +kernel
theorem dX0_put_5 : decode cX0_put 5 = .ok (.bipush 7, 2) := by decide +kernel
theorem dX0_put_7 : decode cX0_put 7 = .ok (.imul, 1) := by decide +kernel
theorem dX0_put_8 : decode cX0_put 8 = .ok (.iload_n 2, 1) := by decide +kernel
theorem dX0_put_9 : decode cX0_put 9 = .ok (.iadd, 1) := by decide +kernel
theorem dX0_put_10 : decode cX0_put 10 = .ok (.iload_n 3, 1) := by decide +kernel
theorem dX0_put_11 : decode cX0_put 11 = .ok (.iastore, 1) := by decide +kernel
theorem dX0_put_12 : decode cX0_put 12 = .ok (.return_, 1) := by decide +kernel
def rX0_put : Room := { frames := 0, cells := 0, slots := 0, locals := 0 }
def vX0_put (E0 : ES) (p1 : Int32) (p2 : Int32) (p3 : Int32) : ES := (e_s_traits E0 (upd (e_traits E0) (((p1 * (7 : Int32)) + p2)).toNatClampNeg p3))
def kX0_put (E0 : ES) (p1 : Int32) (p2 : Int32) (p3 : Int32) : Prop := (vp_in ((p1 * (7 : Int32)) + p2) 56) ∧ True
set_option maxHeartbeats 4000000 in
set_option maxRecDepth 100000 in
theorem hX0_put (l : Launch) (D : va_G) (K : JK) (G : JG) (a : Nat → Nat) (E0 : ES) (p1 : Int32) (p2 : Int32) (p3 : Int32) (hk : kX0_put E0 p1 p2 p3) (sz : Nat) : Met l yX0_put (.code yX0_put cX0_put 4 none :: jGW) rX0_put (jPre D (jT K) G [.ref (a 0), .int p1, .int p2, .int p3] (wE K a E0) sz) (jQv D (jT K) (wE K a (vX0_put E0 p1 p2 p3)) (va_A (wE K a E0) sz)) 0 0 (va_A (wE K a E0) sz) := by
  refine jEv (by decide) (Nat.le_of_ble_eq_true rfl) (fun p e s m below meth c A Q ls hat hP hD hS hl hend => ?_)
  obtain ⟨hx, hb, hml, hown, hts, hK, hZ, hA⟩ := hat
  have hl : lv_has ls 4 [(0, .ref (a 0)), (1, .int p1), (2, .int p2), (3, .int p3)] := hl
  have hV := vX0_put.eq_1 E0 p1 p2 p3
  rw [kX0_put] at hk
  refine lv_aload_n hx hb dX0_put_0 rfl (lv_at hl 0 rfl) ?_
  refine gf_X0_26 (v := .ref (a 3)) hx hb hts hown hK hZ hP (0) rfl rfl dX0_put_1 ?_
  refine lv_iload_n hx hb dX0_put_4 rfl (lv_at hl 1 rfl) ?_
  refine lv_bipush (v := (7 : Int32)) hx hb dX0_put_5 (by decide) ?_
  refine lv_imul hx hb dX0_put_7 ?_
  refine lv_iload_n hx hb dX0_put_8 rfl (lv_at hl 2 rfl) ?_
  refine lv_iadd hx hb dX0_put_9 ?_
  refine lv_iload_n hx hb dX0_put_10 rfl (lv_at hl 3 rfl) ?_
  obtain ⟨h2, hk⟩ := hk
  refine va_iast hx hb hK hP hD hS (3) 0 rfl rfl h2 dX0_put_11 (fun H locs hP hD hS => ?_)
  have hP := jeP (ja1 K a E0 (upd (e_traits E0) (((p1 * (7 : Int32)) + p2)).toNatClampNeg p3)) hP
  have hD := jeD (ja1 K a E0 (upd (e_traits E0) (((p1 * (7 : Int32)) + p2)).toNatClampNeg p3)) hD
  exact hend _ _ _ _ (by rw [hV]; exact hP) (by rw [hV]; exact hD) hS dX0_put_12
theorem jf2 (K : JK) (a : Nat → Nat) (E : ES) (v : Int32) : (wE K a E).set 0 ((a 0), .inr (0, ([.ref (a 1), .ref (a 2), .ref (a 3), .ref (a 4), .int (e_things E), .int (e_day E), .int (e_z E)] : List Value).set 4 (.int v))) = (wE K a (e_s_things E v)) := rfl
theorem js3 (K : JK) (a : Nat → Nat) (E : ES) : [0, 1, 2, 3, 4].map (fun i => (wE K a E)[i]?) = (wE K a E).map some := rfl
theorem jh4 (K : JK) (a : Nat → Nat) (E : ES) (Z0 : ES) : (wE K a Z0).map Prod.fst = (wE K a E).map Prod.fst := rfl
theorem jp5 (K : JK) (a : Nat → Nat) (E : ES) (Z0 : ES) : jput (wE K a E) [0, 1, 2, 3, 4] (wE K a Z0) = (wE K a Z0) := rfl
theorem dX0_add_0 : decode cX0_add 0 = .ok (.aload_n 0, 1) := by decide +kernel
theorem dX0_add_1 : decode cX0_add 1 = .ok (.getfield 32, 3) := by decide +kernel
theorem dX0_add_4 : decode cX0_add 4 = .ok (.bipush 8, 2) := by decide +kernel
theorem dX0_add_6 : decode cX0_add 6 = .ok (.if_icmp .lt 5, 3) := by decide +kernel
theorem dX0_add_9 : decode cX0_add 9 = .ok (.iconst (-1), 1) := by decide +kernel
theorem dX0_add_10 : decode cX0_add 10 = .ok (.ireturn, 1) := by decide +kernel
theorem dX0_add_11 : decode cX0_add 11 = .ok (.aload_n 0, 1) := by decide +kernel
theorem dX0_add_12 : decode cX0_add 12 = .ok (.getfield 32, 3) := by decide +kernel
theorem dX0_add_15 : decode cX0_add 15 = .ok (.istore_n 3, 1) := by decide +kernel
theorem dX0_add_16 : decode cX0_add 16 = .ok (.aload_n 0, 1) := by decide +kernel
theorem dX0_add_17 : decode cX0_add 17 = .ok (.dup, 1) := by decide +kernel
theorem dX0_add_18 : decode cX0_add 18 = .ok (.getfield 32, 3) := by decide +kernel
theorem dX0_add_21 : decode cX0_add 21 = .ok (.iconst 1, 1) := by decide +kernel
theorem dX0_add_22 : decode cX0_add 22 = .ok (.iadd, 1) := by decide +kernel
theorem dX0_add_23 : decode cX0_add 23 = .ok (.putfield 32, 3) := by decide +kernel
theorem dX0_add_26 : decode cX0_add 26 = .ok (.aload_n 0, 1) := by decide +kernel
theorem dX0_add_27 : decode cX0_add 27 = .ok (.iload_n 3, 1) := by decide +kernel
theorem dX0_add_28 : decode cX0_add 28 = .ok (.iconst 0, 1) := by decide +kernel
theorem dX0_add_29 : decode cX0_add 29 = .ok (.iload_n 1, 1) := by decide +kernel
theorem dX0_add_30 : decode cX0_add 30 = .ok (.invokevirtual 54, 3) := by decide +kernel
theorem dX0_add_33 : decode cX0_add 33 = .ok (.aload_n 0, 1) := by decide +kernel
theorem dX0_add_34 : decode cX0_add 34 = .ok (.iload_n 3, 1) := by decide +kernel
theorem dX0_add_35 : decode cX0_add 35 = .ok (.iconst 1, 1) := by decide +kernel
theorem dX0_add_36 : decode cX0_add 36 = .ok (.iload_n 2, 1) := by decide +kernel
theorem dX0_add_37 : decode cX0_add 37 = .ok (.invokevirtual 54, 3) := by decide +kernel
theorem dX0_add_40 : decode cX0_add 40 = .ok (.aload_n 0, 1) := by decide +kernel
theorem dX0_add_41 : decode cX0_add 41 = .ok (.iload_n 3, 1) := by decide +kernel
theorem dX0_add_42 : decode cX0_add 42 = .ok (.iconst 2, 1) := by decide +kernel
theorem dX0_add_43 : decode cX0_add 43 = .ok (.iconst 0, 1) := by decide +kernel
theorem dX0_add_44 : decode cX0_add 44 = .ok (.invokevirtual 54, 3) := by decide +kernel
theorem dX0_add_47 : decode cX0_add 47 = .ok (.aload_n 0, 1) := by decide +kernel
theorem dX0_add_48 : decode cX0_add 48 = .ok (.iload_n 3, 1) := by decide +kernel
theorem dX0_add_49 : decode cX0_add 49 = .ok (.iconst 3, 1) := by decide +kernel
theorem dX0_add_50 : decode cX0_add 50 = .ok (.bipush 99, 2) := by decide +kernel
theorem dX0_add_52 : decode cX0_add 52 = .ok (.invokevirtual 54, 3) := by decide +kernel
theorem dX0_add_55 : decode cX0_add 55 = .ok (.aload_n 0, 1) := by decide +kernel
theorem dX0_add_56 : decode cX0_add 56 = .ok (.iload_n 3, 1) := by decide +kernel
theorem dX0_add_57 : decode cX0_add 57 = .ok (.iconst 4, 1) := by decide +kernel
theorem dX0_add_58 : decode cX0_add 58 = .ok (.bipush 99, 2) := by decide +kernel
theorem dX0_add_60 : decode cX0_add 60 = .ok (.invokevirtual 54, 3) := by decide +kernel
theorem dX0_add_63 : decode cX0_add 63 = .ok (.aload_n 0, 1) := by decide +kernel
theorem dX0_add_64 : decode cX0_add 64 = .ok (.iload_n 3, 1) := by decide +kernel
theorem dX0_add_65 : decode cX0_add 65 = .ok (.iconst 5, 1) := by decide +kernel
theorem dX0_add_66 : decode cX0_add 66 = .ok (.iconst 0, 1) := by decide +kernel
theorem dX0_add_67 : decode cX0_add 67 = .ok (.invokevirtual 54, 3) := by decide +kernel
theorem dX0_add_70 : decode cX0_add 70 = .ok (.aload_n 0, 1) := by decide +kernel
theorem dX0_add_71 : decode cX0_add 71 = .ok (.iload_n 3, 1) := by decide +kernel
theorem dX0_add_72 : decode cX0_add 72 = .ok (.bipush 6, 2) := by decide +kernel
theorem dX0_add_74 : decode cX0_add 74 = .ok (.iconst 0, 1) := by decide +kernel
theorem dX0_add_75 : decode cX0_add 75 = .ok (.invokevirtual 54, 3) := by decide +kernel
theorem dX0_add_78 : decode cX0_add 78 = .ok (.iload_n 3, 1) := by decide +kernel
theorem dX0_add_79 : decode cX0_add 79 = .ok (.ireturn, 1) := by decide +kernel
def rX0_add : Room := { frames := 1, cells := 0, slots := 0, locals := 23 }
def vX0_add_c70 (p1 : Int32) (p2 : Int32) (E : ES) (x3 : Int32) : Int32 × ES := (x3, (vX0_put E x3 (6 : Int32) (0 : Int32)))
def kX0_add_c70 (p1 : Int32) (p2 : Int32) (E : ES) (x3 : Int32) : Prop := (kX0_put E x3 (6 : Int32) (0 : Int32)) ∧ True
def vX0_add_c63 (p1 : Int32) (p2 : Int32) (E : ES) (x3 : Int32) : Int32 × ES := (vX0_add_c70 p1 p2 (vX0_put E x3 (5 : Int32) (0 : Int32)) x3)
def kX0_add_c63 (p1 : Int32) (p2 : Int32) (E : ES) (x3 : Int32) : Prop := (kX0_put E x3 (5 : Int32) (0 : Int32)) ∧ (kX0_add_c70 p1 p2 (vX0_put E x3 (5 : Int32) (0 : Int32)) x3)
def vX0_add_c55 (p1 : Int32) (p2 : Int32) (E : ES) (x3 : Int32) : Int32 × ES := (vX0_add_c63 p1 p2 (vX0_put E x3 (4 : Int32) (99 : Int32)) x3)
def kX0_add_c55 (p1 : Int32) (p2 : Int32) (E : ES) (x3 : Int32) : Prop := (kX0_put E x3 (4 : Int32) (99 : Int32)) ∧ (kX0_add_c63 p1 p2 (vX0_put E x3 (4 : Int32) (99 : Int32)) x3)
def vX0_add_c47 (p1 : Int32) (p2 : Int32) (E : ES) (x3 : Int32) : Int32 × ES := (vX0_add_c55 p1 p2 (vX0_put E x3 (3 : Int32) (99 : Int32)) x3)
def kX0_add_c47 (p1 : Int32) (p2 : Int32) (E : ES) (x3 : Int32) : Prop := (kX0_put E x3 (3 : Int32) (99 : Int32)) ∧ (kX0_add_c55 p1 p2 (vX0_put E x3 (3 : Int32) (99 : Int32)) x3)
def vX0_add_c40 (p1 : Int32) (p2 : Int32) (E : ES) (x3 : Int32) : Int32 × ES := (vX0_add_c47 p1 p2 (vX0_put E x3 (2 : Int32) (0 : Int32)) x3)
def kX0_add_c40 (p1 : Int32) (p2 : Int32) (E : ES) (x3 : Int32) : Prop := (kX0_put E x3 (2 : Int32) (0 : Int32)) ∧ (kX0_add_c47 p1 p2 (vX0_put E x3 (2 : Int32) (0 : Int32)) x3)
def vX0_add_c33 (p1 : Int32) (p2 : Int32) (E : ES) (x3 : Int32) : Int32 × ES := (vX0_add_c40 p1 p2 (vX0_put E x3 (1 : Int32) p2) x3)
def kX0_add_c33 (p1 : Int32) (p2 : Int32) (E : ES) (x3 : Int32) : Prop := (kX0_put E x3 (1 : Int32) p2) ∧ (kX0_add_c40 p1 p2 (vX0_put E x3 (1 : Int32) p2) x3)
def vX0_add_c26 (p1 : Int32) (p2 : Int32) (E : ES) (x3 : Int32) : Int32 × ES := (vX0_add_c33 p1 p2 (vX0_put E x3 (0 : Int32) p1) x3)
def kX0_add_c26 (p1 : Int32) (p2 : Int32) (E : ES) (x3 : Int32) : Prop := (kX0_put E x3 (0 : Int32) p1) ∧ (kX0_add_c33 p1 p2 (vX0_put E x3 (0 : Int32) p1) x3)
def vX0_add (E0 : ES) (p1 : Int32) (p2 : Int32) : Int32 × ES := if ((e_things E0) < (8 : Int32)) then (vX0_add_c26 p1 p2 (e_s_things E0 ((e_things E0) + (1 : Int32))) (e_things E0)) else ((-1 : Int32), E0)
def kX0_add (E0 : ES) (p1 : Int32) (p2 : Int32) : Prop := (((e_things E0) < (8 : Int32)) → ((kX0_add_c26 p1 p2 (e_s_things E0 ((e_things E0) + (1 : Int32))) (e_things E0)))) ∧ (¬ ((e_things E0) < (8 : Int32)) → True)
set_option maxHeartbeats 4000000 in
set_option maxRecDepth 100000 in
theorem hX0_add (l : Launch) (D : va_G) (K : JK) (G : JG) (a : Nat → Nat) (E0 : ES) (p1 : Int32) (p2 : Int32) (hk : kX0_add E0 p1 p2) (sz : Nat) : Met l yX0_add (.code yX0_add cX0_add 4 (some .int) :: jGW) rX0_add (jPre D (jT K) G [.ref (a 0), .int p1, .int p2] (wE K a E0) sz) (jQi D (jT K) ((vX0_add E0 p1 p2).1) (wE K a ((vX0_add E0 p1 p2).2)) (va_A (wE K a E0) sz)) 0 0 (va_A (wE K a E0) sz) := by
  refine jEi (by decide) (Nat.le_of_ble_eq_true rfl) (fun p e s m below meth c A Q ls hat hP hD hS hl hend => ?_)
  obtain ⟨hx, hb, hml, hown, hts, hK, hZ, hA⟩ := hat
  have hl : lv_has ls 4 [(0, .ref (a 0)), (1, .int p1), (2, .int p2)] := hl
  have hc70 : ∀ (E : ES) (x3 : Int32) (H : Heap) (locs : List Loc) (ls : Array Slot), (vX0_add E0 p1 p2) = vX0_add_c70 p1 p2 E x3 → kX0_add_c70 p1 p2 E x3 → va_P D vwCl (wE K a E) H → va_D A (wE K a E) → va_S A s.heap H locs → lv_has ls 4 [(0, .ref (a 0)), (1, .int p1), (2, .int p2), (3, .int x3)] → W p l e rX0_add s m ([.ref (a 0), .int p1, .int p2] : List Value).toArray below meth c H locs 0 0 Q (F0 m 70 ls []) := by
    intro E x3 H locs ls hV hk hP hD hS hl
    rw [vX0_add_c70] at hV
    rw [kX0_add_c70] at hk
    refine lv_aload_n hx hb dX0_add_70 rfl (lv_at hl 0 rfl) ?_
    refine lv_iload_n hx hb dX0_add_71 rfl (lv_at hl 3 rfl) ?_
    refine lv_bipush (v := (6 : Int32)) hx hb dX0_add_72 (by decide) ?_
    refine lv_iconst (v := (0 : Int32)) hx hb dX0_add_74 (by decide) ?_
    obtain ⟨h9, hk⟩ := hk
    refine jcv (jrunV (As := [.int x3, .int (6 : Int32), .int (0 : Int32)]) (rest := []) hx hb hml hown hts hK hZ hA hP hD hS hl.1 mf_X0_put kl_X0_54 ⟨rfl, rfl, Nat.le_of_ble_eq_true rfl, Nat.le_of_ble_eq_true rfl⟩ ⟨Nat.zero_le _, Nat.zero_le _⟩ [0, 1, 2, 3, 4] rfl (js3 K a E) rfl rfl rfl (hX0_put l D K G a E x3 (6 : Int32) (0 : Int32) h9 _) rfl rfl (Nat.le_of_ble_eq_true rfl) dX0_add_75) hA hP hD hS [0, 1, 2, 3, 4] (js3 K a E) (jh4 K a E (vX0_put E x3 (6 : Int32) (0 : Int32))) (fun H locs hP hD hS => ?_)
    have hP := jeP (jp5 K a E (vX0_put E x3 (6 : Int32) (0 : Int32))) hP
    have hD := jeD (jp5 K a E (vX0_put E x3 (6 : Int32) (0 : Int32))) hD
    refine lv_iload_n hx hb dX0_add_78 rfl (lv_at hl 3 rfl) ?_
    exact hend _ _ _ _ _ (by rw [hV]; exact hP) (by rw [hV]; exact hD) hS (by rw [hV]) rfl dX0_add_79
  have hc63 : ∀ (E : ES) (x3 : Int32) (H : Heap) (locs : List Loc) (ls : Array Slot), (vX0_add E0 p1 p2) = vX0_add_c63 p1 p2 E x3 → kX0_add_c63 p1 p2 E x3 → va_P D vwCl (wE K a E) H → va_D A (wE K a E) → va_S A s.heap H locs → lv_has ls 4 [(0, .ref (a 0)), (1, .int p1), (2, .int p2), (3, .int x3)] → W p l e rX0_add s m ([.ref (a 0), .int p1, .int p2] : List Value).toArray below meth c H locs 0 0 Q (F0 m 63 ls []) := by
    intro E x3 H locs ls hV hk hP hD hS hl
    rw [vX0_add_c63] at hV
    rw [kX0_add_c63] at hk
    refine lv_aload_n hx hb dX0_add_63 rfl (lv_at hl 0 rfl) ?_
    refine lv_iload_n hx hb dX0_add_64 rfl (lv_at hl 3 rfl) ?_
    refine lv_iconst (v := (5 : Int32)) hx hb dX0_add_65 (by decide) ?_
    refine lv_iconst (v := (0 : Int32)) hx hb dX0_add_66 (by decide) ?_
    obtain ⟨h10, hk⟩ := hk
    refine jcv (jrunV (As := [.int x3, .int (5 : Int32), .int (0 : Int32)]) (rest := []) hx hb hml hown hts hK hZ hA hP hD hS hl.1 mf_X0_put kl_X0_54 ⟨rfl, rfl, Nat.le_of_ble_eq_true rfl, Nat.le_of_ble_eq_true rfl⟩ ⟨Nat.zero_le _, Nat.zero_le _⟩ [0, 1, 2, 3, 4] rfl (js3 K a E) rfl rfl rfl (hX0_put l D K G a E x3 (5 : Int32) (0 : Int32) h10 _) rfl rfl (Nat.le_of_ble_eq_true rfl) dX0_add_67) hA hP hD hS [0, 1, 2, 3, 4] (js3 K a E) (jh4 K a E (vX0_put E x3 (5 : Int32) (0 : Int32))) (fun H locs hP hD hS => ?_)
    have hP := jeP (jp5 K a E (vX0_put E x3 (5 : Int32) (0 : Int32))) hP
    have hD := jeD (jp5 K a E (vX0_put E x3 (5 : Int32) (0 : Int32))) hD
    exact hc70 (vX0_put E x3 (5 : Int32) (0 : Int32)) x3 _ _ _ hV hk hP hD hS (lv_sub hl [0, 1, 2, 3] rfl)
  have hc55 : ∀ (E : ES) (x3 : Int32) (H : Heap) (locs : List Loc) (ls : Array Slot), (vX0_add E0 p1 p2) = vX0_add_c55 p1 p2 E x3 → kX0_add_c55 p1 p2 E x3 → va_P D vwCl (wE K a E) H → va_D A (wE K a E) → va_S A s.heap H locs → lv_has ls 4 [(0, .ref (a 0)), (1, .int p1), (2, .int p2), (3, .int x3)] → W p l e rX0_add s m ([.ref (a 0), .int p1, .int p2] : List Value).toArray below meth c H locs 0 0 Q (F0 m 55 ls []) := by
    intro E x3 H locs ls hV hk hP hD hS hl
    rw [vX0_add_c55] at hV
    rw [kX0_add_c55] at hk
    refine lv_aload_n hx hb dX0_add_55 rfl (lv_at hl 0 rfl) ?_
    refine lv_iload_n hx hb dX0_add_56 rfl (lv_at hl 3 rfl) ?_
    refine lv_iconst (v := (4 : Int32)) hx hb dX0_add_57 (by decide) ?_
    refine lv_bipush (v := (99 : Int32)) hx hb dX0_add_58 (by decide) ?_
    obtain ⟨h11, hk⟩ := hk
    refine jcv (jrunV (As := [.int x3, .int (4 : Int32), .int (99 : Int32)]) (rest := []) hx hb hml hown hts hK hZ hA hP hD hS hl.1 mf_X0_put kl_X0_54 ⟨rfl, rfl, Nat.le_of_ble_eq_true rfl, Nat.le_of_ble_eq_true rfl⟩ ⟨Nat.zero_le _, Nat.zero_le _⟩ [0, 1, 2, 3, 4] rfl (js3 K a E) rfl rfl rfl (hX0_put l D K G a E x3 (4 : Int32) (99 : Int32) h11 _) rfl rfl (Nat.le_of_ble_eq_true rfl) dX0_add_60) hA hP hD hS [0, 1, 2, 3, 4] (js3 K a E) (jh4 K a E (vX0_put E x3 (4 : Int32) (99 : Int32))) (fun H locs hP hD hS => ?_)
    have hP := jeP (jp5 K a E (vX0_put E x3 (4 : Int32) (99 : Int32))) hP
    have hD := jeD (jp5 K a E (vX0_put E x3 (4 : Int32) (99 : Int32))) hD
    exact hc63 (vX0_put E x3 (4 : Int32) (99 : Int32)) x3 _ _ _ hV hk hP hD hS (lv_sub hl [0, 1, 2, 3] rfl)
  have hc47 : ∀ (E : ES) (x3 : Int32) (H : Heap) (locs : List Loc) (ls : Array Slot), (vX0_add E0 p1 p2) = vX0_add_c47 p1 p2 E x3 → kX0_add_c47 p1 p2 E x3 → va_P D vwCl (wE K a E) H → va_D A (wE K a E) → va_S A s.heap H locs → lv_has ls 4 [(0, .ref (a 0)), (1, .int p1), (2, .int p2), (3, .int x3)] → W p l e rX0_add s m ([.ref (a 0), .int p1, .int p2] : List Value).toArray below meth c H locs 0 0 Q (F0 m 47 ls []) := by
    intro E x3 H locs ls hV hk hP hD hS hl
    rw [vX0_add_c47] at hV
    rw [kX0_add_c47] at hk
    refine lv_aload_n hx hb dX0_add_47 rfl (lv_at hl 0 rfl) ?_
    refine lv_iload_n hx hb dX0_add_48 rfl (lv_at hl 3 rfl) ?_
    refine lv_iconst (v := (3 : Int32)) hx hb dX0_add_49 (by decide) ?_
    refine lv_bipush (v := (99 : Int32)) hx hb dX0_add_50 (by decide) ?_
    obtain ⟨h12, hk⟩ := hk
    refine jcv (jrunV (As := [.int x3, .int (3 : Int32), .int (99 : Int32)]) (rest := []) hx hb hml hown hts hK hZ hA hP hD hS hl.1 mf_X0_put kl_X0_54 ⟨rfl, rfl, Nat.le_of_ble_eq_true rfl, Nat.le_of_ble_eq_true rfl⟩ ⟨Nat.zero_le _, Nat.zero_le _⟩ [0, 1, 2, 3, 4] rfl (js3 K a E) rfl rfl rfl (hX0_put l D K G a E x3 (3 : Int32) (99 : Int32) h12 _) rfl rfl (Nat.le_of_ble_eq_true rfl) dX0_add_52) hA hP hD hS [0, 1, 2, 3, 4] (js3 K a E) (jh4 K a E (vX0_put E x3 (3 : Int32) (99 : Int32))) (fun H locs hP hD hS => ?_)
    have hP := jeP (jp5 K a E (vX0_put E x3 (3 : Int32) (99 : Int32))) hP
    have hD := jeD (jp5 K a E (vX0_put E x3 (3 : Int32) (99 : Int32))) hD
    exact hc55 (vX0_put E x3 (3 : Int32) (99 : Int32)) x3 _ _ _ hV hk hP hD hS (lv_sub hl [0, 1, 2, 3] rfl)
  have hc40 : ∀ (E : ES) (x3 : Int32) (H : Heap) (locs : List Loc) (ls : Array Slot), (vX0_add E0 p1 p2) = vX0_add_c40 p1 p2 E x3 → kX0_add_c40 p1 p2 E x3 → va_P D vwCl (wE K a E) H → va_D A (wE K a E) → va_S A s.heap H locs → lv_has ls 4 [(0, .ref (a 0)), (1, .int p1), (2, .int p2), (3, .int x3)] → W p l e rX0_add s m ([.ref (a 0), .int p1, .int p2] : List Value).toArray below meth c H locs 0 0 Q (F0 m 40 ls []) := by
    intro E x3 H locs ls hV hk hP hD hS hl
    rw [vX0_add_c40] at hV
    rw [kX0_add_c40] at hk
    refine lv_aload_n hx hb dX0_add_40 rfl (lv_at hl 0 rfl) ?_
    refine lv_iload_n hx hb dX0_add_41 rfl (lv_at hl 3 rfl) ?_
    refine lv_iconst (v := (2 : Int32)) hx hb dX0_add_42 (by decide) ?_
    refine lv_iconst (v := (0 : Int32)) hx hb dX0_add_43 (by decide) ?_
    obtain ⟨h13, hk⟩ := hk
    refine jcv (jrunV (As := [.int x3, .int (2 : Int32), .int (0 : Int32)]) (rest := []) hx hb hml hown hts hK hZ hA hP hD hS hl.1 mf_X0_put kl_X0_54 ⟨rfl, rfl, Nat.le_of_ble_eq_true rfl, Nat.le_of_ble_eq_true rfl⟩ ⟨Nat.zero_le _, Nat.zero_le _⟩ [0, 1, 2, 3, 4] rfl (js3 K a E) rfl rfl rfl (hX0_put l D K G a E x3 (2 : Int32) (0 : Int32) h13 _) rfl rfl (Nat.le_of_ble_eq_true rfl) dX0_add_44) hA hP hD hS [0, 1, 2, 3, 4] (js3 K a E) (jh4 K a E (vX0_put E x3 (2 : Int32) (0 : Int32))) (fun H locs hP hD hS => ?_)
    have hP := jeP (jp5 K a E (vX0_put E x3 (2 : Int32) (0 : Int32))) hP
    have hD := jeD (jp5 K a E (vX0_put E x3 (2 : Int32) (0 : Int32))) hD
    exact hc47 (vX0_put E x3 (2 : Int32) (0 : Int32)) x3 _ _ _ hV hk hP hD hS (lv_sub hl [0, 1, 2, 3] rfl)
  have hc33 : ∀ (E : ES) (x3 : Int32) (H : Heap) (locs : List Loc) (ls : Array Slot), (vX0_add E0 p1 p2) = vX0_add_c33 p1 p2 E x3 → kX0_add_c33 p1 p2 E x3 → va_P D vwCl (wE K a E) H → va_D A (wE K a E) → va_S A s.heap H locs → lv_has ls 4 [(0, .ref (a 0)), (1, .int p1), (2, .int p2), (3, .int x3)] → W p l e rX0_add s m ([.ref (a 0), .int p1, .int p2] : List Value).toArray below meth c H locs 0 0 Q (F0 m 33 ls []) := by
    intro E x3 H locs ls hV hk hP hD hS hl
    rw [vX0_add_c33] at hV
    rw [kX0_add_c33] at hk
    refine lv_aload_n hx hb dX0_add_33 rfl (lv_at hl 0 rfl) ?_
    refine lv_iload_n hx hb dX0_add_34 rfl (lv_at hl 3 rfl) ?_
    refine lv_iconst (v := (1 : Int32)) hx hb dX0_add_35 (by decide) ?_
    refine lv_iload_n hx hb dX0_add_36 rfl (lv_at hl 2 rfl) ?_
    obtain ⟨h14, hk⟩ := hk
    refine jcv (jrunV (As := [.int x3, .int (1 : Int32), .int p2]) (rest := []) hx hb hml hown hts hK hZ hA hP hD hS hl.1 mf_X0_put kl_X0_54 ⟨rfl, rfl, Nat.le_of_ble_eq_true rfl, Nat.le_of_ble_eq_true rfl⟩ ⟨Nat.zero_le _, Nat.zero_le _⟩ [0, 1, 2, 3, 4] rfl (js3 K a E) rfl rfl rfl (hX0_put l D K G a E x3 (1 : Int32) p2 h14 _) rfl rfl (Nat.le_of_ble_eq_true rfl) dX0_add_37) hA hP hD hS [0, 1, 2, 3, 4] (js3 K a E) (jh4 K a E (vX0_put E x3 (1 : Int32) p2)) (fun H locs hP hD hS => ?_)
    have hP := jeP (jp5 K a E (vX0_put E x3 (1 : Int32) p2)) hP
    have hD := jeD (jp5 K a E (vX0_put E x3 (1 : Int32) p2)) hD
    exact hc40 (vX0_put E x3 (1 : Int32) p2) x3 _ _ _ hV hk hP hD hS (lv_sub hl [0, 1, 2, 3] rfl)
  have hc26 : ∀ (E : ES) (x3 : Int32) (H : Heap) (locs : List Loc) (ls : Array Slot), (vX0_add E0 p1 p2) = vX0_add_c26 p1 p2 E x3 → kX0_add_c26 p1 p2 E x3 → va_P D vwCl (wE K a E) H → va_D A (wE K a E) → va_S A s.heap H locs → lv_has ls 4 [(0, .ref (a 0)), (1, .int p1), (2, .int p2), (3, .int x3)] → W p l e rX0_add s m ([.ref (a 0), .int p1, .int p2] : List Value).toArray below meth c H locs 0 0 Q (F0 m 26 ls []) := by
    intro E x3 H locs ls hV hk hP hD hS hl
    rw [vX0_add_c26] at hV
    rw [kX0_add_c26] at hk
    refine lv_aload_n hx hb dX0_add_26 rfl (lv_at hl 0 rfl) ?_
    refine lv_iload_n hx hb dX0_add_27 rfl (lv_at hl 3 rfl) ?_
    refine lv_iconst (v := (0 : Int32)) hx hb dX0_add_28 (by decide) ?_
    refine lv_iload_n hx hb dX0_add_29 rfl (lv_at hl 1 rfl) ?_
    obtain ⟨h15, hk⟩ := hk
    refine jcv (jrunV (As := [.int x3, .int (0 : Int32), .int p1]) (rest := []) hx hb hml hown hts hK hZ hA hP hD hS hl.1 mf_X0_put kl_X0_54 ⟨rfl, rfl, Nat.le_of_ble_eq_true rfl, Nat.le_of_ble_eq_true rfl⟩ ⟨Nat.zero_le _, Nat.zero_le _⟩ [0, 1, 2, 3, 4] rfl (js3 K a E) rfl rfl rfl (hX0_put l D K G a E x3 (0 : Int32) p1 h15 _) rfl rfl (Nat.le_of_ble_eq_true rfl) dX0_add_30) hA hP hD hS [0, 1, 2, 3, 4] (js3 K a E) (jh4 K a E (vX0_put E x3 (0 : Int32) p1)) (fun H locs hP hD hS => ?_)
    have hP := jeP (jp5 K a E (vX0_put E x3 (0 : Int32) p1)) hP
    have hD := jeD (jp5 K a E (vX0_put E x3 (0 : Int32) p1)) hD
    exact hc33 (vX0_put E x3 (0 : Int32) p1) x3 _ _ _ hV hk hP hD hS (lv_sub hl [0, 1, 2, 3] rfl)
  have hV := vX0_add.eq_1 E0 p1 p2
  rw [kX0_add] at hk
  refine lv_aload_n hx hb dX0_add_0 rfl (lv_at hl 0 rfl) ?_
  refine gf_X0_32 (v := .int (e_things E0)) hx hb hts hown hK hZ hP (0) rfl rfl dX0_add_1 ?_
  refine lv_bipush (v := (8 : Int32)) hx hb dX0_add_4 (by decide) ?_
  refine lv_icmp_lt (tgt := 11) hx hb dX0_add_6 (by decide) (fun c16 => ?_) (fun c16 => ?_)
  · have hV := hV.trans (if_pos c16)
    have hk := hk.1 c16
    refine lv_aload_n hx hb dX0_add_11 rfl (lv_at hl 0 rfl) ?_
    refine gf_X0_32 (v := .int (e_things E0)) hx hb hts hown hK hZ hP (0) rfl rfl dX0_add_12 ?_
    refine lv_istore_n (lv' := [(3, .int (e_things E0)), (0, .ref (a 0)), (1, .int p1), (2, .int p2)]) hx hb dX0_add_15 rfl hl (by decide) rfl (fun ls hl => ?_)
    refine lv_aload_n hx hb dX0_add_16 rfl (lv_at hl 1 rfl) ?_
    refine lv_dup hx hb dX0_add_17 rfl ?_
    refine gf_X0_32 (v := .int (e_things E0)) hx hb hts hown hK hZ hP (0) rfl rfl dX0_add_18 ?_
    refine lv_iconst (v := (1 : Int32)) hx hb dX0_add_21 (by decide) ?_
    refine lv_iadd hx hb dX0_add_22 ?_
    refine pf_X0_32 (v := .int ((e_things E0) + (1 : Int32))) hx hb hts hown hK hZ hP hD hS (0) rfl rfl rfl (Nat.le_of_ble_eq_true rfl) dX0_add_23 (fun H locs hP hD hS => ?_)
    have hP := jeP (jf2 K a E0 ((e_things E0) + (1 : Int32))) hP
    have hD := jeD (jf2 K a E0 ((e_things E0) + (1 : Int32))) hD
    exact hc26 (e_s_things E0 ((e_things E0) + (1 : Int32))) (e_things E0) _ _ _ hV hk hP hD hS (lv_sub hl [1, 2, 3, 0] rfl)
  · have hV := hV.trans (if_neg c16)
    have hk := hk.2 c16
    refine lv_iconst (v := (-1 : Int32)) hx hb dX0_add_9 (by decide) ?_
    exact hend _ _ _ _ _ (by rw [hV]; exact hP) (by rw [hV]; exact hD) hS (by rw [hV]) rfl dX0_add_10
theorem dX0_trait_0 : decode cX0_trait 0 = .ok (.aload_n 0, 1) := by decide +kernel
theorem dX0_trait_1 : decode cX0_trait 1 = .ok (.getfield 26, 3) := by decide +kernel
theorem dX0_trait_4 : decode cX0_trait 4 = .ok (.iload_n 1, 1) := by decide +kernel
theorem dX0_trait_5 : decode cX0_trait 5 = .ok (.bipush 7, 2) := by decide +kernel
theorem dX0_trait_7 : decode cX0_trait 7 = .ok (.imul, 1) := by decide +kernel
theorem dX0_trait_8 : decode cX0_trait 8 = .ok (.iload_n 2, 1) := by decide +kernel
theorem dX0_trait_9 : decode cX0_trait 9 = .ok (.iadd, 1) := by decide +kernel
theorem dX0_trait_10 : decode cX0_trait 10 = .ok (.iaload, 1) := by decide +kernel
theorem dX0_trait_11 : decode cX0_trait 11 = .ok (.ireturn, 1) := by decide +kernel
def rX0_trait : Room := { frames := 0, cells := 0, slots := 0, locals := 0 }
def vX0_trait (E0 : ES) (p1 : Int32) (p2 : Int32) : Int32 := ((e_traits E0) (((p1 * (7 : Int32)) + p2)).toNatClampNeg)
def kX0_trait (E0 : ES) (p1 : Int32) (p2 : Int32) : Prop := (vp_in ((p1 * (7 : Int32)) + p2) 56) ∧ True
set_option maxHeartbeats 4000000 in
set_option maxRecDepth 100000 in
theorem hX0_trait (l : Launch) (D : va_G) (K : JK) (G : JG) (a : Nat → Nat) (E0 : ES) (p1 : Int32) (p2 : Int32) (hk : kX0_trait E0 p1 p2) (sz : Nat) : Met l yX0_trait (.code yX0_trait cX0_trait 3 (some .int) :: jGW) rX0_trait (jPre D (jT K) G [.ref (a 0), .int p1, .int p2] (wE K a E0) sz) (jQi D (jT K) (vX0_trait E0 p1 p2) (wE K a E0) (va_A (wE K a E0) sz)) 0 0 (va_A (wE K a E0) sz) := by
  refine jEi (by decide) (Nat.le_of_ble_eq_true rfl) (fun p e s m below meth c A Q ls hat hP hD hS hl hend => ?_)
  obtain ⟨hx, hb, hml, hown, hts, hK, hZ, hA⟩ := hat
  have hl : lv_has ls 3 [(0, .ref (a 0)), (1, .int p1), (2, .int p2)] := hl
  have hV := vX0_trait.eq_1 E0 p1 p2
  rw [kX0_trait] at hk
  refine lv_aload_n hx hb dX0_trait_0 rfl (lv_at hl 0 rfl) ?_
  refine gf_X0_26 (v := .ref (a 3)) hx hb hts hown hK hZ hP (0) rfl rfl dX0_trait_1 ?_
  refine lv_iload_n hx hb dX0_trait_4 rfl (lv_at hl 1 rfl) ?_
  refine lv_bipush (v := (7 : Int32)) hx hb dX0_trait_5 (by decide) ?_
  refine lv_imul hx hb dX0_trait_7 ?_
  refine lv_iload_n hx hb dX0_trait_8 rfl (lv_at hl 2 rfl) ?_
  refine lv_iadd hx hb dX0_trait_9 ?_
  obtain ⟨h2, hk⟩ := hk
  refine va_iald hx hb hK hP (3) 0 rfl rfl h2 dX0_trait_10 ?_
  exact hend _ _ _ _ _ hP hD hS hV.symm rfl dX0_trait_11
theorem dX0_fair_0 : decode cX0_fair 0 = .ok (.aload_n 0, 1) := by decide +kernel
theorem dX0_fair_1 : decode cX0_fair 1 = .ok (.iload_n 1, 1) := by decide +kernel
theorem dX0_fair_2 : decode cX0_fair 2 = .ok (.iconst 0, 1) := by decide +kernel
theorem dX0_fair_3 : decode cX0_fair 3 = .ok (.invokevirtual 58, 3) := by decide +kernel
theorem dX0_fair_6 : decode cX0_fair 6 = .ok (.aload_n 0, 1) := by decide +kernel
theorem dX0_fair_7 : decode cX0_fair 7 = .ok (.iload_n 1, 1) := by decide +kernel
theorem dX0_fair_8 : decode cX0_fair 8 = .ok (.iconst 5, 1) := by decide +kernel
theorem dX0_fair_9 : decode cX0_fair 9 = .ok (.invokevirtual 58, 3) := by decide +kernel
theorem dX0_fair_12 : decode cX0_fair 12 = .ok (.aload_n 0, 1) := by decide +kernel
theorem dX0_fair_13 : decode cX0_fair 13 = .ok (.getfield 18, 3) := by decide +kernel
theorem dX0_fair_16 : decode cX0_fair 16 = .ok (.iconst 1, 1) := by decide +kernel
theorem dX0_fair_17 : decode cX0_fair 17 = .ok (.iaload, 1) := by decide +kernel
theorem dX0_fair_18 : decode cX0_fair 18 = .ok (.invokestatic 87, 3) := by decide +kernel
theorem dX0_fair_21 : decode cX0_fair 21 = .ok (.ireturn, 1) := by decide +kernel
def rX0_fair : Room := { frames := 1, cells := 0, slots := 0, locals := 22 }
def vX0_fair (E0 : ES) (p1 : Int32) : Int32 := (vX1_fair (vX0_trait E0 p1 (0 : Int32)) (vX0_trait E0 p1 (5 : Int32)) ((e_home E0) ((1 : Int32)).toNatClampNeg))
def kX0_fair (E0 : ES) (p1 : Int32) : Prop := (kX0_trait E0 p1 (0 : Int32)) ∧ (kX0_trait E0 p1 (5 : Int32)) ∧ True
set_option maxHeartbeats 4000000 in
set_option maxRecDepth 100000 in
theorem hX0_fair (l : Launch) (D : va_G) (K : JK) (G : JG) (a : Nat → Nat) (E0 : ES) (p1 : Int32) (hk : kX0_fair E0 p1) (sz : Nat) : Met l yX0_fair (.code yX0_fair cX0_fair 2 (some .int) :: jGW) rX0_fair (jPre D (jT K) G [.ref (a 0), .int p1] (wE K a E0) sz) (jQi D (jT K) (vX0_fair E0 p1) (wE K a E0) (va_A (wE K a E0) sz)) 0 0 (va_A (wE K a E0) sz) := by
  refine jEi (by decide) (Nat.le_of_ble_eq_true rfl) (fun p e s m below meth c A Q ls hat hP hD hS hl hend => ?_)
  obtain ⟨hx, hb, hml, hown, hts, hK, hZ, hA⟩ := hat
  have hl : lv_has ls 2 [(0, .ref (a 0)), (1, .int p1)] := hl
  have hV := vX0_fair.eq_1 E0 p1
  rw [kX0_fair] at hk
  refine lv_aload_n hx hb dX0_fair_0 rfl (lv_at hl 0 rfl) ?_
  refine lv_iload_n hx hb dX0_fair_1 rfl (lv_at hl 1 rfl) ?_
  refine lv_iconst (v := (0 : Int32)) hx hb dX0_fair_2 (by decide) ?_
  obtain ⟨h3, hk⟩ := hk
  refine jci0 (jrunV (As := [.int p1, .int (0 : Int32)]) (rest := []) hx hb hml hown hts hK hZ hA hP hD hS hl.1 mf_X0_trait kl_X0_58 ⟨rfl, rfl, Nat.le_of_ble_eq_true rfl, Nat.le_of_ble_eq_true rfl⟩ ⟨Nat.zero_le _, Nat.zero_le _⟩ [0, 1, 2, 3, 4] rfl (js3 K a E0) rfl rfl rfl (hX0_trait l D K G a E0 p1 (0 : Int32) h3 _) rfl rfl (Nat.le_of_ble_eq_true rfl) dX0_fair_3) hA hP hD hS [0, 1, 2, 3, 4] (js3 K a E0) (fun H locs hP hS => ?_)
  refine lv_aload_n hx hb dX0_fair_6 rfl (lv_at hl 0 rfl) ?_
  refine lv_iload_n hx hb dX0_fair_7 rfl (lv_at hl 1 rfl) ?_
  refine lv_iconst (v := (5 : Int32)) hx hb dX0_fair_8 (by decide) ?_
  obtain ⟨h4, hk⟩ := hk
  refine jci0 (jrunV (As := [.int p1, .int (5 : Int32)]) (rest := [.int (vX0_trait E0 p1 (0 : Int32))]) hx hb hml hown hts hK hZ hA hP hD hS hl.1 mf_X0_trait kl_X0_58 ⟨rfl, rfl, Nat.le_of_ble_eq_true rfl, Nat.le_of_ble_eq_true rfl⟩ ⟨Nat.zero_le _, Nat.zero_le _⟩ [0, 1, 2, 3, 4] rfl (js3 K a E0) rfl rfl rfl (hX0_trait l D K G a E0 p1 (5 : Int32) h4 _) rfl rfl (Nat.le_of_ble_eq_true rfl) dX0_fair_9) hA hP hD hS [0, 1, 2, 3, 4] (js3 K a E0) (fun H locs hP hS => ?_)
  refine lv_aload_n hx hb dX0_fair_12 rfl (lv_at hl 0 rfl) ?_
  refine gf_X0_18 (v := .ref (a 1)) hx hb hts hown hK hZ hP (0) rfl rfl dX0_fair_13 ?_
  refine lv_iconst (v := (1 : Int32)) hx hb dX0_fair_16 (by decide) ?_
  refine va_iald hx hb hK hP (1) 0 rfl rfl (by unfold vp_in; decide) dX0_fair_17 ?_
  refine jci0 (jrunS (As := [.int (vX0_trait E0 p1 (0 : Int32)), .int (vX0_trait E0 p1 (5 : Int32)), .int ((e_home E0) ((1 : Int32)).toNatClampNeg)]) (rest := []) hx hb hml hown hts hK hZ hA hP hD hS hl.1 mf_X1_fair kl_X0_87 ⟨rfl, rfl, Nat.le_of_ble_eq_true rfl, Nat.le_of_ble_eq_true rfl⟩ ⟨Nat.zero_le _, Nat.zero_le _⟩ [] rfl rfl (hX1_fair l D K G (vX0_trait E0 p1 (0 : Int32)) (vX0_trait E0 p1 (5 : Int32)) ((e_home E0) ((1 : Int32)).toNatClampNeg) _) rfl rfl (Nat.le_of_ble_eq_true rfl) dX0_fair_18) hA hP hD hS [] rfl (fun H locs hP hS => ?_)
  exact hend _ _ _ _ _ hP hD hS hV.symm rfl dX0_fair_21
theorem dX0_worse_0 : decode cX0_worse 0 = .ok (.iconst 0, 1) := by decide +kernel
theorem dX0_worse_1 : decode cX0_worse 1 = .ok (.aload_n 0, 1) := by decide +kernel
theorem dX0_worse_2 : decode cX0_worse 2 = .ok (.iload_n 1, 1) := by decide +kernel
theorem dX0_worse_3 : decode cX0_worse 3 = .ok (.iconst 3, 1) := by decide +kernel
theorem dX0_worse_4 : decode cX0_worse 4 = .ok (.invokevirtual 58, 3) := by decide +kernel
theorem dX0_worse_7 : decode cX0_worse 7 = .ok (.aload_n 0, 1) := by decide +kernel
theorem dX0_worse_8 : decode cX0_worse 8 = .ok (.iload_n 1, 1) := by decide +kernel
theorem dX0_worse_9 : decode cX0_worse 9 = .ok (.iconst 4, 1) := by decide +kernel
theorem dX0_worse_10 : decode cX0_worse 10 = .ok (.invokevirtual 58, 3) := by decide +kernel
theorem dX0_worse_13 : decode cX0_worse 13 = .ok (.isub, 1) := by decide +kernel
theorem dX0_worse_14 : decode cX0_worse 14 = .ok (.aload_n 0, 1) := by decide +kernel
theorem dX0_worse_15 : decode cX0_worse 15 = .ok (.iload_n 1, 1) := by decide +kernel
theorem dX0_worse_16 : decode cX0_worse 16 = .ok (.invokevirtual 71, 3) := by decide +kernel
theorem dX0_worse_19 : decode cX0_worse 19 = .ok (.isub, 1) := by decide +kernel
theorem dX0_worse_20 : decode cX0_worse 20 = .ok (.invokestatic 92, 3) := by decide +kernel
theorem dX0_worse_23 : decode cX0_worse 23 = .ok (.ireturn, 1) := by decide +kernel
def rX0_worse : Room := { frames := 2, cells := 0, slots := 0, locals := 43 }
def vX0_worse (E0 : ES) (p1 : Int32) : Int32 := (jmax (0 : Int32) (((vX0_trait E0 p1 (3 : Int32)) - (vX0_trait E0 p1 (4 : Int32))) - (vX0_fair E0 p1)))
def kX0_worse (E0 : ES) (p1 : Int32) : Prop := (kX0_trait E0 p1 (3 : Int32)) ∧ (kX0_trait E0 p1 (4 : Int32)) ∧ (kX0_fair E0 p1) ∧ True
set_option maxHeartbeats 4000000 in
set_option maxRecDepth 100000 in
theorem hX0_worse (l : Launch) (D : va_G) (K : JK) (G : JG) (a : Nat → Nat) (E0 : ES) (p1 : Int32) (hk : kX0_worse E0 p1) (sz : Nat) : Met l yX0_worse (.code yX0_worse cX0_worse 2 (some .int) :: jGW) rX0_worse (jPre D (jT K) G [.ref (a 0), .int p1] (wE K a E0) sz) (jQi D (jT K) (vX0_worse E0 p1) (wE K a E0) (va_A (wE K a E0) sz)) 0 0 (va_A (wE K a E0) sz) := by
  refine jEi (by decide) (Nat.le_of_ble_eq_true rfl) (fun p e s m below meth c A Q ls hat hP hD hS hl hend => ?_)
  obtain ⟨hx, hb, hml, hown, hts, hK, hZ, hA⟩ := hat
  have hl : lv_has ls 2 [(0, .ref (a 0)), (1, .int p1)] := hl
  have hV := vX0_worse.eq_1 E0 p1
  rw [kX0_worse] at hk
  refine lv_iconst (v := (0 : Int32)) hx hb dX0_worse_0 (by decide) ?_
  refine lv_aload_n hx hb dX0_worse_1 rfl (lv_at hl 0 rfl) ?_
  refine lv_iload_n hx hb dX0_worse_2 rfl (lv_at hl 1 rfl) ?_
  refine lv_iconst (v := (3 : Int32)) hx hb dX0_worse_3 (by decide) ?_
  obtain ⟨h4, hk⟩ := hk
  refine jci0 (jrunV (As := [.int p1, .int (3 : Int32)]) (rest := [.int (0 : Int32)]) hx hb hml hown hts hK hZ hA hP hD hS hl.1 mf_X0_trait kl_X0_58 ⟨rfl, rfl, Nat.le_of_ble_eq_true rfl, Nat.le_of_ble_eq_true rfl⟩ ⟨Nat.zero_le _, Nat.zero_le _⟩ [0, 1, 2, 3, 4] rfl (js3 K a E0) rfl rfl rfl (hX0_trait l D K G a E0 p1 (3 : Int32) h4 _) rfl rfl (Nat.le_of_ble_eq_true rfl) dX0_worse_4) hA hP hD hS [0, 1, 2, 3, 4] (js3 K a E0) (fun H locs hP hS => ?_)
  refine lv_aload_n hx hb dX0_worse_7 rfl (lv_at hl 0 rfl) ?_
  refine lv_iload_n hx hb dX0_worse_8 rfl (lv_at hl 1 rfl) ?_
  refine lv_iconst (v := (4 : Int32)) hx hb dX0_worse_9 (by decide) ?_
  obtain ⟨h5, hk⟩ := hk
  refine jci0 (jrunV (As := [.int p1, .int (4 : Int32)]) (rest := [.int (vX0_trait E0 p1 (3 : Int32)), .int (0 : Int32)]) hx hb hml hown hts hK hZ hA hP hD hS hl.1 mf_X0_trait kl_X0_58 ⟨rfl, rfl, Nat.le_of_ble_eq_true rfl, Nat.le_of_ble_eq_true rfl⟩ ⟨Nat.zero_le _, Nat.zero_le _⟩ [0, 1, 2, 3, 4] rfl (js3 K a E0) rfl rfl rfl (hX0_trait l D K G a E0 p1 (4 : Int32) h5 _) rfl rfl (Nat.le_of_ble_eq_true rfl) dX0_worse_10) hA hP hD hS [0, 1, 2, 3, 4] (js3 K a E0) (fun H locs hP hS => ?_)
  refine lv_isub hx hb dX0_worse_13 ?_
  refine lv_aload_n hx hb dX0_worse_14 rfl (lv_at hl 0 rfl) ?_
  refine lv_iload_n hx hb dX0_worse_15 rfl (lv_at hl 1 rfl) ?_
  obtain ⟨h6, hk⟩ := hk
  refine jci0 (jrunV (As := [.int p1]) (rest := [.int ((vX0_trait E0 p1 (3 : Int32)) - (vX0_trait E0 p1 (4 : Int32))), .int (0 : Int32)]) hx hb hml hown hts hK hZ hA hP hD hS hl.1 mf_X0_fair kl_X0_71 ⟨rfl, rfl, Nat.le_of_ble_eq_true rfl, Nat.le_of_ble_eq_true rfl⟩ ⟨Nat.zero_le _, Nat.zero_le _⟩ [0, 1, 2, 3, 4] rfl (js3 K a E0) rfl rfl rfl (hX0_fair l D K G a E0 p1 h6 _) rfl rfl (Nat.le_of_ble_eq_true rfl) dX0_worse_16) hA hP hD hS [0, 1, 2, 3, 4] (js3 K a E0) (fun H locs hP hS => ?_)
  refine lv_isub hx hb dX0_worse_19 ?_
  refine mmax_X0_92 hx hb (hml.trans hl.1.symm) hts hown (Nat.le_of_ble_eq_true rfl) (Nat.le_of_ble_eq_true rfl) (Nat.zero_le _) (Nat.zero_le _) dX0_worse_20 ?_
  exact hend _ _ _ _ _ hP hD hS hV.symm rfl dX0_worse_23
theorem dX0_awardOf_0 : decode cX0_awardOf 0 = .ok (.aload_n 0, 1) := by decide +kernel
theorem dX0_awardOf_1 : decode cX0_awardOf 1 = .ok (.getfield 18, 3) := by decide +kernel
theorem dX0_awardOf_4 : decode cX0_awardOf 4 = .ok (.iconst 4, 1) := by decide +kernel
theorem dX0_awardOf_5 : decode cX0_awardOf 5 = .ok (.iaload, 1) := by decide +kernel
theorem dX0_awardOf_6 : decode cX0_awardOf 6 = .ok (.istore 4, 2) := by decide +kernel
theorem dX0_awardOf_8 : decode cX0_awardOf 8 = .ok (.aload_n 0, 1) := by decide +kernel
theorem dX0_awardOf_9 : decode cX0_awardOf 9 = .ok (.getfield 18, 3) := by decide +kernel
theorem dX0_awardOf_12 : decode cX0_awardOf 12 = .ok (.iconst 3, 1) := by decide +kernel
theorem dX0_awardOf_13 : decode cX0_awardOf 13 = .ok (.iaload, 1) := by decide +kernel
theorem dX0_awardOf_14 : decode cX0_awardOf 14 = .ok (.ifCond .ne 13, 3) := by decide +kernel
theorem dX0_awardOf_17 : decode cX0_awardOf 17 = .ok (.iload 4, 2) := by decide +kernel
theorem dX0_awardOf_19 : decode cX0_awardOf 19 = .ok (.iconst 1, 1) := by decide +kernel
theorem dX0_awardOf_20 : decode cX0_awardOf 20 = .ok (.if_icmp .eq 7, 3) := by decide +kernel
theorem dX0_awardOf_23 : decode cX0_awardOf 23 = .ok (.iconst 1, 1) := by decide +kernel
theorem dX0_awardOf_24 : decode cX0_awardOf 24 = .ok (.goto 4, 3) := by decide +kernel
theorem dX0_awardOf_27 : decode cX0_awardOf 27 = .ok (.iconst 0, 1) := by decide +kernel
theorem dX0_awardOf_28 : decode cX0_awardOf 28 = .ok (.istore 5, 2) := by decide +kernel
theorem dX0_awardOf_30 : decode cX0_awardOf 30 = .ok (.aload_n 0, 1) := by decide +kernel
theorem dX0_awardOf_31 : decode cX0_awardOf 31 = .ok (.getfield 18, 3) := by decide +kernel
theorem dX0_awardOf_34 : decode cX0_awardOf 34 = .ok (.iconst 2, 1) := by decide +kernel
theorem dX0_awardOf_35 : decode cX0_awardOf 35 = .ok (.iaload, 1) := by decide +kernel
theorem dX0_awardOf_36 : decode cX0_awardOf 36 = .ok (.ifCond .eq 14, 3) := by decide +kernel
theorem dX0_awardOf_39 : decode cX0_awardOf 39 = .ok (.iload 5, 2) := by decide +kernel
theorem dX0_awardOf_41 : decode cX0_awardOf 41 = .ok (.ifCond .ne 9, 3) := by decide +kernel
theorem dX0_awardOf_44 : decode cX0_awardOf 44 = .ok (.iload 4, 2) := by decide +kernel
theorem dX0_awardOf_46 : decode cX0_awardOf 46 = .ok (.iconst 2, 1) := by decide +kernel
theorem dX0_awardOf_47 : decode cX0_awardOf 47 = .ok (.if_icmp .ne 5, 3) := by decide +kernel
theorem dX0_awardOf_50 : decode cX0_awardOf 50 = .ok (.iconst 0, 1) := by decide +kernel
theorem dX0_awardOf_51 : decode cX0_awardOf 51 = .ok (.ireturn, 1) := by decide +kernel
theorem dX0_awardOf_52 : decode cX0_awardOf 52 = .ok (.iload_n 3, 1) := by decide +kernel
theorem dX0_awardOf_53 : decode cX0_awardOf 53 = .ok (.iload_n 1, 1) := by decide +kernel
theorem dX0_awardOf_54 : decode cX0_awardOf 54 = .ok (.invokestatic 100, 3) := by decide +kernel
theorem dX0_awardOf_57 : decode cX0_awardOf 57 = .ok (.istore 6, 2) := by decide +kernel
theorem dX0_awardOf_59 : decode cX0_awardOf 59 = .ok (.iload 4, 2) := by decide +kernel
theorem dX0_awardOf_61 : decode cX0_awardOf 61 = .ok (.iconst 1, 1) := by decide +kernel
theorem dX0_awardOf_62 : decode cX0_awardOf 62 = .ok (.if_icmp .ne 8, 3) := by decide +kernel
theorem dX0_awardOf_65 : decode cX0_awardOf 65 = .ok (.iload 6, 2) := by decide +kernel
theorem dX0_awardOf_67 : decode cX0_awardOf 67 = .ok (.goto 14, 3) := by decide +kernel
theorem dX0_awardOf_70 : decode cX0_awardOf 70 = .ok (.iload 6, 2) := by decide +kernel
theorem dX0_awardOf_72 : decode cX0_awardOf 72 = .ok (.iload_n 1, 1) := by decide +kernel
theorem dX0_awardOf_73 : decode cX0_awardOf 73 = .ok (.iload_n 2, 1) := by decide +kernel
theorem dX0_awardOf_74 : decode cX0_awardOf 74 = .ok (.imul, 1) := by decide +kernel
theorem dX0_awardOf_75 : decode cX0_awardOf 75 = .ok (.bipush 100, 2) := by decide +kernel
theorem dX0_awardOf_77 : decode cX0_awardOf 77 = .ok (.idiv, 1) := by decide +kernel
theorem dX0_awardOf_78 : decode cX0_awardOf 78 = .ok (.invokestatic 100, 3) := by decide +kernel
theorem dX0_awardOf_81 : decode cX0_awardOf 81 = .ok (.ireturn, 1) := by decide +kernel
def rX0_awardOf : Room := { frames := 1, cells := 0, slots := 0, locals := 13 }
def vX0_awardOf_c28 (E0 : ES) (p1 : Int32) (p2 : Int32) (p3 : Int32) (x4 : Int32) (y0 : Int32) : Int32 := if (((e_home E0) ((2 : Int32)).toNatClampNeg) = 0) then (0 : Int32) else if (y0 = 0) then (if (x4 = (2 : Int32)) then (0 : Int32) else if (x4 = (1 : Int32)) then (jmin p3 p1) else (jmin (jmin p3 p1) ((p1 * p2) / (100 : Int32)))) else (0 : Int32)
def vX0_awardOf_c27 (E0 : ES) (p1 : Int32) (p2 : Int32) (p3 : Int32) (x4 : Int32) : Int32 := (vX0_awardOf_c28 E0 p1 p2 p3 x4 (0 : Int32))
def vX0_awardOf (E0 : ES) (p1 : Int32) (p2 : Int32) (p3 : Int32) : Int32 := if (((e_home E0) ((3 : Int32)).toNatClampNeg) = 0) then (if (((e_home E0) ((4 : Int32)).toNatClampNeg) = (1 : Int32)) then (vX0_awardOf_c27 E0 p1 p2 p3 ((e_home E0) ((4 : Int32)).toNatClampNeg)) else (vX0_awardOf_c28 E0 p1 p2 p3 ((e_home E0) ((4 : Int32)).toNatClampNeg) (1 : Int32))) else (vX0_awardOf_c27 E0 p1 p2 p3 ((e_home E0) ((4 : Int32)).toNatClampNeg))
set_option maxHeartbeats 4000000 in
set_option maxRecDepth 100000 in
theorem hX0_awardOf (l : Launch) (D : va_G) (K : JK) (G : JG) (a : Nat → Nat) (E0 : ES) (p1 : Int32) (p2 : Int32) (p3 : Int32) (sz : Nat) : Met l yX0_awardOf (.code yX0_awardOf cX0_awardOf 7 (some .int) :: jGW) rX0_awardOf (jPre D (jT K) G [.ref (a 0), .int p1, .int p2, .int p3] (wE K a E0) sz) (jQi D (jT K) (vX0_awardOf E0 p1 p2 p3) (wE K a E0) (va_A (wE K a E0) sz)) 0 0 (va_A (wE K a E0) sz) := by
  refine jEi (by decide) (Nat.le_of_ble_eq_true rfl) (fun p e s m below meth c A Q ls hat hP hD hS hl hend => ?_)
  obtain ⟨hx, hb, hml, hown, hts, hK, hZ, hA⟩ := hat
  have hl : lv_has ls 7 [(0, .ref (a 0)), (1, .int p1), (2, .int p2), (3, .int p3)] := hl
  have hc28 : ∀ (x4 : Int32) (y0 : Int32) (H : Heap) (locs : List Loc) (ls : Array Slot), (vX0_awardOf E0 p1 p2 p3) = vX0_awardOf_c28 E0 p1 p2 p3 x4 y0 → va_P D vwCl (wE K a E0) H → va_D A (wE K a E0) → va_S A s.heap H locs → lv_has ls 7 [(0, .ref (a 0)), (1, .int p1), (2, .int p2), (3, .int p3), (4, .int x4)] → W p l e rX0_awardOf s m ([.ref (a 0), .int p1, .int p2, .int p3] : List Value).toArray below meth c H locs 0 0 Q (F0 m 28 ls [.int y0]) := by
    intro x4 y0 H locs ls hV hP hD hS hl
    rw [vX0_awardOf_c28] at hV
    refine lv_istore (lv' := [(5, .int y0), (0, .ref (a 0)), (1, .int p1), (2, .int p2), (3, .int p3), (4, .int x4)]) hx hb dX0_awardOf_28 hl (by decide) rfl (fun ls hl => ?_)
    refine lv_aload_n hx hb dX0_awardOf_30 rfl (lv_at hl 1 rfl) ?_
    refine gf_X0_18 (v := .ref (a 1)) hx hb hts hown hK hZ hP (0) rfl rfl dX0_awardOf_31 ?_
    refine lv_iconst (v := (2 : Int32)) hx hb dX0_awardOf_34 (by decide) ?_
    refine va_iald hx hb hK hP (1) 0 rfl rfl (by unfold vp_in; decide) dX0_awardOf_35 ?_
    refine lv_if_eq (tgt := 50) hx hb dX0_awardOf_36 (by decide) (fun c7 => ?_) (fun c7 => ?_)
    · have hV := hV.trans (if_pos c7)
      refine lv_iconst (v := (0 : Int32)) hx hb dX0_awardOf_50 (by decide) ?_
      exact hend _ _ _ _ _ hP hD hS hV.symm rfl dX0_awardOf_51
    · have hV := hV.trans (if_neg c7)
      refine lv_iload hx hb dX0_awardOf_39 (lv_at hl 0 rfl) ?_
      refine lv_if_ne (tgt := 50) hx hb dX0_awardOf_41 (by decide) (fun c8 => ?_) (fun c8 => ?_)
      · have hV := hV.trans (if_neg c8)
        refine lv_iconst (v := (0 : Int32)) hx hb dX0_awardOf_50 (by decide) ?_
        exact hend _ _ _ _ _ hP hD hS hV.symm rfl dX0_awardOf_51
      · have hV := hV.trans (if_pos c8)
        refine lv_iload hx hb dX0_awardOf_44 (lv_at hl 5 rfl) ?_
        refine lv_iconst (v := (2 : Int32)) hx hb dX0_awardOf_46 (by decide) ?_
        refine lv_icmp_ne (tgt := 52) hx hb dX0_awardOf_47 (by decide) (fun c9 => ?_) (fun c9 => ?_)
        · have hV := hV.trans (if_neg c9)
          refine lv_iload_n hx hb dX0_awardOf_52 rfl (lv_at hl 4 rfl) ?_
          refine lv_iload_n hx hb dX0_awardOf_53 rfl (lv_at hl 2 rfl) ?_
          refine mmin_X0_100 hx hb (hml.trans hl.1.symm) hts hown (Nat.le_of_ble_eq_true rfl) (Nat.le_of_ble_eq_true rfl) (Nat.zero_le _) (Nat.zero_le _) dX0_awardOf_54 ?_
          refine lv_istore (lv' := [(6, .int (jmin p3 p1)), (5, .int y0), (0, .ref (a 0)), (1, .int p1), (2, .int p2), (3, .int p3), (4, .int x4)]) hx hb dX0_awardOf_57 hl (by decide) rfl (fun ls hl => ?_)
          refine lv_iload hx hb dX0_awardOf_59 (lv_at hl 6 rfl) ?_
          refine lv_iconst (v := (1 : Int32)) hx hb dX0_awardOf_61 (by decide) ?_
          refine lv_icmp_ne (tgt := 70) hx hb dX0_awardOf_62 (by decide) (fun c10 => ?_) (fun c10 => ?_)
          · have hV := hV.trans (if_neg c10)
            refine lv_iload hx hb dX0_awardOf_70 (lv_at hl 0 rfl) ?_
            refine lv_iload_n hx hb dX0_awardOf_72 rfl (lv_at hl 3 rfl) ?_
            refine lv_iload_n hx hb dX0_awardOf_73 rfl (lv_at hl 4 rfl) ?_
            refine lv_imul hx hb dX0_awardOf_74 ?_
            refine lv_bipush (v := (100 : Int32)) hx hb dX0_awardOf_75 (by decide) ?_
            refine lv_idiv hx hb dX0_awardOf_77 (by decide) ?_
            refine mmin_X0_100 hx hb (hml.trans hl.1.symm) hts hown (Nat.le_of_ble_eq_true rfl) (Nat.le_of_ble_eq_true rfl) (Nat.zero_le _) (Nat.zero_le _) dX0_awardOf_78 ?_
            exact hend _ _ _ _ _ hP hD hS hV.symm rfl dX0_awardOf_81
          · have hV := hV.trans (if_pos c10)
            refine lv_iload hx hb dX0_awardOf_65 (lv_at hl 0 rfl) ?_
            refine lv_goto (tgt := 81) hx hb dX0_awardOf_67 (by decide) ?_
            exact hend _ _ _ _ _ hP hD hS hV.symm rfl dX0_awardOf_81
        · have hV := hV.trans (if_pos c9)
          refine lv_iconst (v := (0 : Int32)) hx hb dX0_awardOf_50 (by decide) ?_
          exact hend _ _ _ _ _ hP hD hS hV.symm rfl dX0_awardOf_51
  have hc27 : ∀ (x4 : Int32) (H : Heap) (locs : List Loc) (ls : Array Slot), (vX0_awardOf E0 p1 p2 p3) = vX0_awardOf_c27 E0 p1 p2 p3 x4 → va_P D vwCl (wE K a E0) H → va_D A (wE K a E0) → va_S A s.heap H locs → lv_has ls 7 [(0, .ref (a 0)), (1, .int p1), (2, .int p2), (3, .int p3), (4, .int x4)] → W p l e rX0_awardOf s m ([.ref (a 0), .int p1, .int p2, .int p3] : List Value).toArray below meth c H locs 0 0 Q (F0 m 27 ls []) := by
    intro x4 H locs ls hV hP hD hS hl
    rw [vX0_awardOf_c27] at hV
    refine lv_iconst (v := (0 : Int32)) hx hb dX0_awardOf_27 (by decide) ?_
    exact hc28 x4 (0 : Int32) _ _ _ hV hP hD hS (lv_sub hl [0, 1, 2, 3, 4] rfl)
  have hV := vX0_awardOf.eq_1 E0 p1 p2 p3
  refine lv_aload_n hx hb dX0_awardOf_0 rfl (lv_at hl 0 rfl) ?_
  refine gf_X0_18 (v := .ref (a 1)) hx hb hts hown hK hZ hP (0) rfl rfl dX0_awardOf_1 ?_
  refine lv_iconst (v := (4 : Int32)) hx hb dX0_awardOf_4 (by decide) ?_
  refine va_iald hx hb hK hP (1) 0 rfl rfl (by unfold vp_in; decide) dX0_awardOf_5 ?_
  refine lv_istore (lv' := [(4, .int ((e_home E0) ((4 : Int32)).toNatClampNeg)), (0, .ref (a 0)), (1, .int p1), (2, .int p2), (3, .int p3)]) hx hb dX0_awardOf_6 hl (by decide) rfl (fun ls hl => ?_)
  refine lv_aload_n hx hb dX0_awardOf_8 rfl (lv_at hl 1 rfl) ?_
  refine gf_X0_18 (v := .ref (a 1)) hx hb hts hown hK hZ hP (0) rfl rfl dX0_awardOf_9 ?_
  refine lv_iconst (v := (3 : Int32)) hx hb dX0_awardOf_12 (by decide) ?_
  refine va_iald hx hb hK hP (1) 0 rfl rfl (by unfold vp_in; decide) dX0_awardOf_13 ?_
  refine lv_if_ne (tgt := 27) hx hb dX0_awardOf_14 (by decide) (fun c11 => ?_) (fun c11 => ?_)
  · have hV := hV.trans (if_neg c11)
    exact hc27 ((e_home E0) ((4 : Int32)).toNatClampNeg) _ _ _ hV hP hD hS (lv_sub hl [1, 2, 3, 4, 0] rfl)
  · have hV := hV.trans (if_pos c11)
    refine lv_iload hx hb dX0_awardOf_17 (lv_at hl 0 rfl) ?_
    refine lv_iconst (v := (1 : Int32)) hx hb dX0_awardOf_19 (by decide) ?_
    refine lv_icmp_eq (tgt := 27) hx hb dX0_awardOf_20 (by decide) (fun c12 => ?_) (fun c12 => ?_)
    · have hV := hV.trans (if_pos c12)
      exact hc27 ((e_home E0) ((4 : Int32)).toNatClampNeg) _ _ _ hV hP hD hS (lv_sub hl [1, 2, 3, 4, 0] rfl)
    · have hV := hV.trans (if_neg c12)
      refine lv_iconst (v := (1 : Int32)) hx hb dX0_awardOf_23 (by decide) ?_
      refine lv_goto (tgt := 28) hx hb dX0_awardOf_24 (by decide) ?_
      exact hc28 ((e_home E0) ((4 : Int32)).toNatClampNeg) (1 : Int32) _ _ _ hV hP hD hS (lv_sub hl [1, 2, 3, 4, 0] rfl)
theorem dX0_award_0 : decode cX0_award 0 = .ok (.aload_n 0, 1) := by decide +kernel
theorem dX0_award_1 : decode cX0_award 1 = .ok (.iload_n 1, 1) := by decide +kernel
theorem dX0_award_2 : decode cX0_award 2 = .ok (.iconst 0, 1) := by decide +kernel
theorem dX0_award_3 : decode cX0_award 3 = .ok (.invokevirtual 58, 3) := by decide +kernel
theorem dX0_award_6 : decode cX0_award 6 = .ok (.aload_n 0, 1) := by decide +kernel
theorem dX0_award_7 : decode cX0_award 7 = .ok (.iload_n 1, 1) := by decide +kernel
theorem dX0_award_8 : decode cX0_award 8 = .ok (.iconst 1, 1) := by decide +kernel
theorem dX0_award_9 : decode cX0_award 9 = .ok (.invokevirtual 58, 3) := by decide +kernel
theorem dX0_award_12 : decode cX0_award 12 = .ok (.aload_n 0, 1) := by decide +kernel
theorem dX0_award_13 : decode cX0_award 13 = .ok (.iload_n 1, 1) := by decide +kernel
theorem dX0_award_14 : decode cX0_award 14 = .ok (.iconst 2, 1) := by decide +kernel
theorem dX0_award_15 : decode cX0_award 15 = .ok (.invokevirtual 58, 3) := by decide +kernel
theorem dX0_award_18 : decode cX0_award 18 = .ok (.invokestatic 84, 3) := by decide +kernel
theorem dX0_award_21 : decode cX0_award 21 = .ok (.istore_n 2, 1) := by decide +kernel
theorem dX0_award_22 : decode cX0_award 22 = .ok (.aload_n 0, 1) := by decide +kernel
theorem dX0_award_23 : decode cX0_award 23 = .ok (.iload_n 2, 1) := by decide +kernel
theorem dX0_award_24 : decode cX0_award 24 = .ok (.aload_n 0, 1) := by decide +kernel
theorem dX0_award_25 : decode cX0_award 25 = .ok (.iload_n 1, 1) := by decide +kernel
theorem dX0_award_26 : decode cX0_award 26 = .ok (.invokevirtual 74, 3) := by decide +kernel
theorem dX0_award_29 : decode cX0_award 29 = .ok (.aload_n 0, 1) := by decide +kernel
theorem dX0_award_30 : decode cX0_award 30 = .ok (.iload_n 1, 1) := by decide +kernel
theorem dX0_award_31 : decode cX0_award 31 = .ok (.bipush 6, 2) := by decide +kernel
theorem dX0_award_33 : decode cX0_award 33 = .ok (.invokevirtual 58, 3) := by decide +kernel
theorem dX0_award_36 : decode cX0_award 36 = .ok (.invokevirtual 97, 3) := by decide +kernel
theorem dX0_award_39 : decode cX0_award 39 = .ok (.ireturn, 1) := by decide +kernel
def rX0_award : Room := { frames := 3, cells := 0, slots := 0, locals := 64 }
def vX0_award (E0 : ES) (p1 : Int32) : Int32 := (vX0_awardOf E0 (vX1_worth (vX0_trait E0 p1 (0 : Int32)) (vX0_trait E0 p1 (1 : Int32)) (vX0_trait E0 p1 (2 : Int32))) (vX0_worse E0 p1) (vX0_trait E0 p1 (6 : Int32)))
def kX0_award (E0 : ES) (p1 : Int32) : Prop := (kX0_trait E0 p1 (0 : Int32)) ∧ (kX0_trait E0 p1 (1 : Int32)) ∧ (kX0_trait E0 p1 (2 : Int32)) ∧ (kX1_worth (vX0_trait E0 p1 (0 : Int32)) (vX0_trait E0 p1 (1 : Int32)) (vX0_trait E0 p1 (2 : Int32))) ∧ (kX0_worse E0 p1) ∧ (kX0_trait E0 p1 (6 : Int32)) ∧ True
set_option maxHeartbeats 4000000 in
set_option maxRecDepth 100000 in
theorem hX0_award (l : Launch) (D : va_G) (K : JK) (G : JG) (a : Nat → Nat) (E0 : ES) (p1 : Int32) (hk : kX0_award E0 p1) (sz : Nat) : Met l yX0_award (.code yX0_award cX0_award 3 (some .int) :: jGW) rX0_award (jPre D (jT K) G [.ref (a 0), .int p1] (wE K a E0) sz) (jQi D (jT K) (vX0_award E0 p1) (wE K a E0) (va_A (wE K a E0) sz)) 0 0 (va_A (wE K a E0) sz) := by
  refine jEi (by decide) (Nat.le_of_ble_eq_true rfl) (fun p e s m below meth c A Q ls hat hP hD hS hl hend => ?_)
  obtain ⟨hx, hb, hml, hown, hts, hK, hZ, hA⟩ := hat
  have hl : lv_has ls 3 [(0, .ref (a 0)), (1, .int p1)] := hl
  have hV := vX0_award.eq_1 E0 p1
  rw [kX0_award] at hk
  refine lv_aload_n hx hb dX0_award_0 rfl (lv_at hl 0 rfl) ?_
  refine lv_iload_n hx hb dX0_award_1 rfl (lv_at hl 1 rfl) ?_
  refine lv_iconst (v := (0 : Int32)) hx hb dX0_award_2 (by decide) ?_
  obtain ⟨h7, hk⟩ := hk
  refine jci0 (jrunV (As := [.int p1, .int (0 : Int32)]) (rest := []) hx hb hml hown hts hK hZ hA hP hD hS hl.1 mf_X0_trait kl_X0_58 ⟨rfl, rfl, Nat.le_of_ble_eq_true rfl, Nat.le_of_ble_eq_true rfl⟩ ⟨Nat.zero_le _, Nat.zero_le _⟩ [0, 1, 2, 3, 4] rfl (js3 K a E0) rfl rfl rfl (hX0_trait l D K G a E0 p1 (0 : Int32) h7 _) rfl rfl (Nat.le_of_ble_eq_true rfl) dX0_award_3) hA hP hD hS [0, 1, 2, 3, 4] (js3 K a E0) (fun H locs hP hS => ?_)
  refine lv_aload_n hx hb dX0_award_6 rfl (lv_at hl 0 rfl) ?_
  refine lv_iload_n hx hb dX0_award_7 rfl (lv_at hl 1 rfl) ?_
  refine lv_iconst (v := (1 : Int32)) hx hb dX0_award_8 (by decide) ?_
  obtain ⟨h8, hk⟩ := hk
  refine jci0 (jrunV (As := [.int p1, .int (1 : Int32)]) (rest := [.int (vX0_trait E0 p1 (0 : Int32))]) hx hb hml hown hts hK hZ hA hP hD hS hl.1 mf_X0_trait kl_X0_58 ⟨rfl, rfl, Nat.le_of_ble_eq_true rfl, Nat.le_of_ble_eq_true rfl⟩ ⟨Nat.zero_le _, Nat.zero_le _⟩ [0, 1, 2, 3, 4] rfl (js3 K a E0) rfl rfl rfl (hX0_trait l D K G a E0 p1 (1 : Int32) h8 _) rfl rfl (Nat.le_of_ble_eq_true rfl) dX0_award_9) hA hP hD hS [0, 1, 2, 3, 4] (js3 K a E0) (fun H locs hP hS => ?_)
  refine lv_aload_n hx hb dX0_award_12 rfl (lv_at hl 0 rfl) ?_
  refine lv_iload_n hx hb dX0_award_13 rfl (lv_at hl 1 rfl) ?_
  refine lv_iconst (v := (2 : Int32)) hx hb dX0_award_14 (by decide) ?_
  obtain ⟨h9, hk⟩ := hk
  refine jci0 (jrunV (As := [.int p1, .int (2 : Int32)]) (rest := [.int (vX0_trait E0 p1 (1 : Int32)), .int (vX0_trait E0 p1 (0 : Int32))]) hx hb hml hown hts hK hZ hA hP hD hS hl.1 mf_X0_trait kl_X0_58 ⟨rfl, rfl, Nat.le_of_ble_eq_true rfl, Nat.le_of_ble_eq_true rfl⟩ ⟨Nat.zero_le _, Nat.zero_le _⟩ [0, 1, 2, 3, 4] rfl (js3 K a E0) rfl rfl rfl (hX0_trait l D K G a E0 p1 (2 : Int32) h9 _) rfl rfl (Nat.le_of_ble_eq_true rfl) dX0_award_15) hA hP hD hS [0, 1, 2, 3, 4] (js3 K a E0) (fun H locs hP hS => ?_)
  obtain ⟨h10, hk⟩ := hk
  refine jci0 (jrunS (As := [.int (vX0_trait E0 p1 (0 : Int32)), .int (vX0_trait E0 p1 (1 : Int32)), .int (vX0_trait E0 p1 (2 : Int32))]) (rest := []) hx hb hml hown hts hK hZ hA hP hD hS hl.1 mf_X1_worth kl_X0_84 ⟨rfl, rfl, Nat.le_of_ble_eq_true rfl, Nat.le_of_ble_eq_true rfl⟩ ⟨Nat.zero_le _, Nat.zero_le _⟩ [] rfl rfl (hX1_worth l D K G (vX0_trait E0 p1 (0 : Int32)) (vX0_trait E0 p1 (1 : Int32)) (vX0_trait E0 p1 (2 : Int32)) h10 _) rfl rfl (Nat.le_of_ble_eq_true rfl) dX0_award_18) hA hP hD hS [] rfl (fun H locs hP hS => ?_)
  refine lv_istore_n (lv' := [(2, .int (vX1_worth (vX0_trait E0 p1 (0 : Int32)) (vX0_trait E0 p1 (1 : Int32)) (vX0_trait E0 p1 (2 : Int32)))), (0, .ref (a 0)), (1, .int p1)]) hx hb dX0_award_21 rfl hl (by decide) rfl (fun ls hl => ?_)
  refine lv_aload_n hx hb dX0_award_22 rfl (lv_at hl 1 rfl) ?_
  refine lv_iload_n hx hb dX0_award_23 rfl (lv_at hl 0 rfl) ?_
  refine lv_aload_n hx hb dX0_award_24 rfl (lv_at hl 1 rfl) ?_
  refine lv_iload_n hx hb dX0_award_25 rfl (lv_at hl 2 rfl) ?_
  obtain ⟨h11, hk⟩ := hk
  refine jci0 (jrunV (As := [.int p1]) (rest := [.int (vX1_worth (vX0_trait E0 p1 (0 : Int32)) (vX0_trait E0 p1 (1 : Int32)) (vX0_trait E0 p1 (2 : Int32))), .ref (a 0)]) hx hb hml hown hts hK hZ hA hP hD hS hl.1 mf_X0_worse kl_X0_74 ⟨rfl, rfl, Nat.le_of_ble_eq_true rfl, Nat.le_of_ble_eq_true rfl⟩ ⟨Nat.zero_le _, Nat.zero_le _⟩ [0, 1, 2, 3, 4] rfl (js3 K a E0) rfl rfl rfl (hX0_worse l D K G a E0 p1 h11 _) rfl rfl (Nat.le_of_ble_eq_true rfl) dX0_award_26) hA hP hD hS [0, 1, 2, 3, 4] (js3 K a E0) (fun H locs hP hS => ?_)
  refine lv_aload_n hx hb dX0_award_29 rfl (lv_at hl 1 rfl) ?_
  refine lv_iload_n hx hb dX0_award_30 rfl (lv_at hl 2 rfl) ?_
  refine lv_bipush (v := (6 : Int32)) hx hb dX0_award_31 (by decide) ?_
  obtain ⟨h12, hk⟩ := hk
  refine jci0 (jrunV (As := [.int p1, .int (6 : Int32)]) (rest := [.int (vX0_worse E0 p1), .int (vX1_worth (vX0_trait E0 p1 (0 : Int32)) (vX0_trait E0 p1 (1 : Int32)) (vX0_trait E0 p1 (2 : Int32))), .ref (a 0)]) hx hb hml hown hts hK hZ hA hP hD hS hl.1 mf_X0_trait kl_X0_58 ⟨rfl, rfl, Nat.le_of_ble_eq_true rfl, Nat.le_of_ble_eq_true rfl⟩ ⟨Nat.zero_le _, Nat.zero_le _⟩ [0, 1, 2, 3, 4] rfl (js3 K a E0) rfl rfl rfl (hX0_trait l D K G a E0 p1 (6 : Int32) h12 _) rfl rfl (Nat.le_of_ble_eq_true rfl) dX0_award_33) hA hP hD hS [0, 1, 2, 3, 4] (js3 K a E0) (fun H locs hP hS => ?_)
  refine jci0 (jrunV (As := [.int (vX1_worth (vX0_trait E0 p1 (0 : Int32)) (vX0_trait E0 p1 (1 : Int32)) (vX0_trait E0 p1 (2 : Int32))), .int (vX0_worse E0 p1), .int (vX0_trait E0 p1 (6 : Int32))]) (rest := []) hx hb hml hown hts hK hZ hA hP hD hS hl.1 mf_X0_awardOf kl_X0_97 ⟨rfl, rfl, Nat.le_of_ble_eq_true rfl, Nat.le_of_ble_eq_true rfl⟩ ⟨Nat.zero_le _, Nat.zero_le _⟩ [0, 1, 2, 3, 4] rfl (js3 K a E0) rfl rfl rfl (hX0_awardOf l D K G a E0 (vX1_worth (vX0_trait E0 p1 (0 : Int32)) (vX0_trait E0 p1 (1 : Int32)) (vX0_trait E0 p1 (2 : Int32))) (vX0_worse E0 p1) (vX0_trait E0 p1 (6 : Int32)) _) rfl rfl (Nat.le_of_ble_eq_true rfl) dX0_award_36) hA hP hD hS [0, 1, 2, 3, 4] (js3 K a E0) (fun H locs hP hS => ?_)
  exact hend _ _ _ _ _ hP hD hS hV.symm rfl dX0_award_39
theorem dX0_offersMeet_0 : decode cX0_offersMeet 0 = .ok (.aload_n 0, 1) := by decide +kernel
theorem dX0_offersMeet_1 : decode cX0_offersMeet 1 = .ok (.getfield 18, 3) := by decide +kernel
theorem dX0_offersMeet_4 : decode cX0_offersMeet 4 = .ok (.iconst 5, 1) := by decide +kernel
theorem dX0_offersMeet_5 : decode cX0_offersMeet 5 = .ok (.iaload, 1) := by decide +kernel
theorem dX0_offersMeet_6 : decode cX0_offersMeet 6 = .ok (.ifCond .le 23, 3) := by decide +kernel
theorem dX0_offersMeet_9 : decode cX0_offersMeet 9 = .ok (.aload_n 0, 1) := by decide +kernel
theorem dX0_offersMeet_10 : decode cX0_offersMeet 10 = .ok (.getfield 18, 3) := by decide +kernel
theorem dX0_offersMeet_13 : decode cX0_offersMeet 13 = .ok (.bipush 6, 2) := by decide +kernel
theorem dX0_offersMeet_15 : decode cX0_offersMeet 15 = .ok (.iaload, 1) := by decide +kernel
theorem dX0_offersMeet_16 : decode cX0_offersMeet 16 = .ok (.aload_n 0, 1) := by decide +kernel
theorem dX0_offersMeet_17 : decode cX0_offersMeet 17 = .ok (.getfield 18, 3) := by decide +kernel
theorem dX0_offersMeet_20 : decode cX0_offersMeet 20 = .ok (.iconst 5, 1) := by decide +kernel
theorem dX0_offersMeet_21 : decode cX0_offersMeet 21 = .ok (.iaload, 1) := by decide +kernel
theorem dX0_offersMeet_22 : decode cX0_offersMeet 22 = .ok (.if_icmp .lt 7, 3) := by decide +kernel
theorem dX0_offersMeet_25 : decode cX0_offersMeet 25 = .ok (.iconst 1, 1) := by decide +kernel
theorem dX0_offersMeet_26 : decode cX0_offersMeet 26 = .ok (.goto 4, 3) := by decide +kernel
theorem dX0_offersMeet_29 : decode cX0_offersMeet 29 = .ok (.iconst 0, 1) := by decide +kernel
theorem dX0_offersMeet_30 : decode cX0_offersMeet 30 = .ok (.ireturn, 1) := by decide +kernel
def rX0_offersMeet : Room := { frames := 0, cells := 0, slots := 0, locals := 0 }
def vX0_offersMeet (E0 : ES) : Int32 := if (((e_home E0) ((5 : Int32)).toNatClampNeg) ≤ 0) then (0 : Int32) else if (((e_home E0) ((6 : Int32)).toNatClampNeg) < ((e_home E0) ((5 : Int32)).toNatClampNeg)) then (0 : Int32) else (1 : Int32)
set_option maxHeartbeats 4000000 in
set_option maxRecDepth 100000 in
theorem hX0_offersMeet (l : Launch) (D : va_G) (K : JK) (G : JG) (a : Nat → Nat) (E0 : ES) (sz : Nat) : Met l yX0_offersMeet (.code yX0_offersMeet cX0_offersMeet 1 (some .boolean) :: jGW) rX0_offersMeet (jPre D (jT K) G [.ref (a 0)] (wE K a E0) sz) (jQi D (jT K) (vX0_offersMeet E0) (wE K a E0) (va_A (wE K a E0) sz)) 0 0 (va_A (wE K a E0) sz) := by
  refine jEi (by decide) (Nat.le_of_ble_eq_true rfl) (fun p e s m below meth c A Q ls hat hP hD hS hl hend => ?_)
  obtain ⟨hx, hb, hml, hown, hts, hK, hZ, hA⟩ := hat
  have hl : lv_has ls 1 [(0, .ref (a 0))] := hl
  have hV := vX0_offersMeet.eq_1 E0
  refine lv_aload_n hx hb dX0_offersMeet_0 rfl (lv_at hl 0 rfl) ?_
  refine gf_X0_18 (v := .ref (a 1)) hx hb hts hown hK hZ hP (0) rfl rfl dX0_offersMeet_1 ?_
  refine lv_iconst (v := (5 : Int32)) hx hb dX0_offersMeet_4 (by decide) ?_
  refine va_iald hx hb hK hP (1) 0 rfl rfl (by unfold vp_in; decide) dX0_offersMeet_5 ?_
  refine lv_if_le (tgt := 29) hx hb dX0_offersMeet_6 (by decide) (fun c3 => ?_) (fun c3 => ?_)
  · have hV := hV.trans (if_pos c3)
    refine lv_iconst (v := (0 : Int32)) hx hb dX0_offersMeet_29 (by decide) ?_
    exact hend _ _ _ _ _ hP hD hS hV.symm rfl dX0_offersMeet_30
  · have hV := hV.trans (if_neg c3)
    refine lv_aload_n hx hb dX0_offersMeet_9 rfl (lv_at hl 0 rfl) ?_
    refine gf_X0_18 (v := .ref (a 1)) hx hb hts hown hK hZ hP (0) rfl rfl dX0_offersMeet_10 ?_
    refine lv_bipush (v := (6 : Int32)) hx hb dX0_offersMeet_13 (by decide) ?_
    refine va_iald hx hb hK hP (1) 0 rfl rfl (by unfold vp_in; decide) dX0_offersMeet_15 ?_
    refine lv_aload_n hx hb dX0_offersMeet_16 rfl (lv_at hl 0 rfl) ?_
    refine gf_X0_18 (v := .ref (a 1)) hx hb hts hown hK hZ hP (0) rfl rfl dX0_offersMeet_17 ?_
    refine lv_iconst (v := (5 : Int32)) hx hb dX0_offersMeet_20 (by decide) ?_
    refine va_iald hx hb hK hP (1) 0 rfl rfl (by unfold vp_in; decide) dX0_offersMeet_21 ?_
    refine lv_icmp_lt (tgt := 29) hx hb dX0_offersMeet_22 (by decide) (fun c4 => ?_) (fun c4 => ?_)
    · have hV := hV.trans (if_pos c4)
      refine lv_iconst (v := (0 : Int32)) hx hb dX0_offersMeet_29 (by decide) ?_
      exact hend _ _ _ _ _ hP hD hS hV.symm rfl dX0_offersMeet_30
    · have hV := hV.trans (if_neg c4)
      refine lv_iconst (v := (1 : Int32)) hx hb dX0_offersMeet_25 (by decide) ?_
      refine lv_goto (tgt := 30) hx hb dX0_offersMeet_26 (by decide) ?_
      exact hend _ _ _ _ _ hP hD hS hV.symm rfl dX0_offersMeet_30
theorem dX0_awardedOf_0 : decode cX0_awardedOf 0 = .ok (.aload_n 0, 1) := by decide +kernel
theorem dX0_awardedOf_1 : decode cX0_awardedOf 1 = .ok (.invokevirtual 106, 3) := by decide +kernel
theorem dX0_awardedOf_4 : decode cX0_awardedOf 4 = .ok (.ifCond .eq 22, 3) := by decide +kernel
theorem dX0_awardedOf_7 : decode cX0_awardedOf 7 = .ok (.aload_n 0, 1) := by decide +kernel
theorem dX0_awardedOf_8 : decode cX0_awardedOf 8 = .ok (.getfield 18, 3) := by decide +kernel
theorem dX0_awardedOf_11 : decode cX0_awardedOf 11 = .ok (.iconst 5, 1) := by decide +kernel
theorem dX0_awardedOf_12 : decode cX0_awardedOf 12 = .ok (.iaload, 1) := by decide +kernel
theorem dX0_awardedOf_13 : decode cX0_awardedOf 13 = .ok (.aload_n 0, 1) := by decide +kernel
theorem dX0_awardedOf_14 : decode cX0_awardedOf 14 = .ok (.getfield 18, 3) := by decide +kernel
theorem dX0_awardedOf_17 : decode cX0_awardedOf 17 = .ok (.bipush 6, 2) := by decide +kernel
theorem dX0_awardedOf_19 : decode cX0_awardedOf 19 = .ok (.iaload, 1) := by decide +kernel
theorem dX0_awardedOf_20 : decode cX0_awardedOf 20 = .ok (.iadd, 1) := by decide +kernel
theorem dX0_awardedOf_21 : decode cX0_awardedOf 21 = .ok (.iconst 2, 1) := by decide +kernel
theorem dX0_awardedOf_22 : decode cX0_awardedOf 22 = .ok (.idiv, 1) := by decide +kernel
theorem dX0_awardedOf_23 : decode cX0_awardedOf 23 = .ok (.goto 4, 3) := by decide +kernel
theorem dX0_awardedOf_26 : decode cX0_awardedOf 26 = .ok (.iload_n 1, 1) := by decide +kernel
theorem dX0_awardedOf_27 : decode cX0_awardedOf 27 = .ok (.istore_n 2, 1) := by decide +kernel
theorem dX0_awardedOf_28 : decode cX0_awardedOf 28 = .ok (.iload_n 2, 1) := by decide +kernel
theorem dX0_awardedOf_29 : decode cX0_awardedOf 29 = .ok (.aload_n 0, 1) := by decide +kernel
theorem dX0_awardedOf_30 : decode cX0_awardedOf 30 = .ok (.getfield 18, 3) := by decide +kernel
theorem dX0_awardedOf_33 : decode cX0_awardedOf 33 = .ok (.iconst 0, 1) := by decide +kernel
theorem dX0_awardedOf_34 : decode cX0_awardedOf 34 = .ok (.iaload, 1) := by decide +kernel
theorem dX0_awardedOf_35 : decode cX0_awardedOf 35 = .ok (.invokestatic 100, 3) := by decide +kernel
theorem dX0_awardedOf_38 : decode cX0_awardedOf 38 = .ok (.ireturn, 1) := by decide +kernel
def rX0_awardedOf : Room := { frames := 1, cells := 0, slots := 0, locals := 20 }
def vX0_awardedOf_c27 (E0 : ES) (p1 : Int32) (y0 : Int32) : Int32 := (jmin y0 ((e_home E0) ((0 : Int32)).toNatClampNeg))
def vX0_awardedOf (E0 : ES) (p1 : Int32) : Int32 := if ((vX0_offersMeet E0) = 0) then (vX0_awardedOf_c27 E0 p1 p1) else (vX0_awardedOf_c27 E0 p1 ((((e_home E0) ((5 : Int32)).toNatClampNeg) + ((e_home E0) ((6 : Int32)).toNatClampNeg)) / (2 : Int32)))
set_option maxHeartbeats 4000000 in
set_option maxRecDepth 100000 in
theorem hX0_awardedOf (l : Launch) (D : va_G) (K : JK) (G : JG) (a : Nat → Nat) (E0 : ES) (p1 : Int32) (sz : Nat) : Met l yX0_awardedOf (.code yX0_awardedOf cX0_awardedOf 3 (some .int) :: jGW) rX0_awardedOf (jPre D (jT K) G [.ref (a 0), .int p1] (wE K a E0) sz) (jQi D (jT K) (vX0_awardedOf E0 p1) (wE K a E0) (va_A (wE K a E0) sz)) 0 0 (va_A (wE K a E0) sz) := by
  refine jEi (by decide) (Nat.le_of_ble_eq_true rfl) (fun p e s m below meth c A Q ls hat hP hD hS hl hend => ?_)
  obtain ⟨hx, hb, hml, hown, hts, hK, hZ, hA⟩ := hat
  have hl : lv_has ls 3 [(0, .ref (a 0)), (1, .int p1)] := hl
  have hc27 : ∀ (y0 : Int32) (H : Heap) (locs : List Loc) (ls : Array Slot), (vX0_awardedOf E0 p1) = vX0_awardedOf_c27 E0 p1 y0 → va_P D vwCl (wE K a E0) H → va_D A (wE K a E0) → va_S A s.heap H locs → lv_has ls 3 [(0, .ref (a 0)), (1, .int p1)] → W p l e rX0_awardedOf s m ([.ref (a 0), .int p1] : List Value).toArray below meth c H locs 0 0 Q (F0 m 27 ls [.int y0]) := by
    intro y0 H locs ls hV hP hD hS hl
    rw [vX0_awardedOf_c27] at hV
    refine lv_istore_n (lv' := [(2, .int y0), (0, .ref (a 0)), (1, .int p1)]) hx hb dX0_awardedOf_27 rfl hl (by decide) rfl (fun ls hl => ?_)
    refine lv_iload_n hx hb dX0_awardedOf_28 rfl (lv_at hl 0 rfl) ?_
    refine lv_aload_n hx hb dX0_awardedOf_29 rfl (lv_at hl 1 rfl) ?_
    refine gf_X0_18 (v := .ref (a 1)) hx hb hts hown hK hZ hP (0) rfl rfl dX0_awardedOf_30 ?_
    refine lv_iconst (v := (0 : Int32)) hx hb dX0_awardedOf_33 (by decide) ?_
    refine va_iald hx hb hK hP (1) 0 rfl rfl (by unfold vp_in; decide) dX0_awardedOf_34 ?_
    refine mmin_X0_100 hx hb (hml.trans hl.1.symm) hts hown (Nat.le_of_ble_eq_true rfl) (Nat.le_of_ble_eq_true rfl) (Nat.zero_le _) (Nat.zero_le _) dX0_awardedOf_35 ?_
    exact hend _ _ _ _ _ hP hD hS hV.symm rfl dX0_awardedOf_38
  have hV := vX0_awardedOf.eq_1 E0 p1
  refine lv_aload_n hx hb dX0_awardedOf_0 rfl (lv_at hl 0 rfl) ?_
  refine jci0 (jrunV (As := []) (rest := []) hx hb hml hown hts hK hZ hA hP hD hS hl.1 mf_X0_offersMeet kl_X0_106 ⟨rfl, rfl, Nat.le_of_ble_eq_true rfl, Nat.le_of_ble_eq_true rfl⟩ ⟨Nat.zero_le _, Nat.zero_le _⟩ [0, 1, 2, 3, 4] rfl (js3 K a E0) rfl rfl rfl (hX0_offersMeet l D K G a E0 _) rfl rfl (Nat.le_of_ble_eq_true rfl) dX0_awardedOf_1) hA hP hD hS [0, 1, 2, 3, 4] (js3 K a E0) (fun H locs hP hS => ?_)
  refine lv_if_eq (tgt := 26) hx hb dX0_awardedOf_4 (by decide) (fun c2 => ?_) (fun c2 => ?_)
  · have hV := hV.trans (if_pos c2)
    refine lv_iload_n hx hb dX0_awardedOf_26 rfl (lv_at hl 1 rfl) ?_
    exact hc27 p1 _ _ _ hV hP hD hS (lv_sub hl [0, 1] rfl)
  · have hV := hV.trans (if_neg c2)
    refine lv_aload_n hx hb dX0_awardedOf_7 rfl (lv_at hl 0 rfl) ?_
    refine gf_X0_18 (v := .ref (a 1)) hx hb hts hown hK hZ hP (0) rfl rfl dX0_awardedOf_8 ?_
    refine lv_iconst (v := (5 : Int32)) hx hb dX0_awardedOf_11 (by decide) ?_
    refine va_iald hx hb hK hP (1) 0 rfl rfl (by unfold vp_in; decide) dX0_awardedOf_12 ?_
    refine lv_aload_n hx hb dX0_awardedOf_13 rfl (lv_at hl 0 rfl) ?_
    refine gf_X0_18 (v := .ref (a 1)) hx hb hts hown hK hZ hP (0) rfl rfl dX0_awardedOf_14 ?_
    refine lv_bipush (v := (6 : Int32)) hx hb dX0_awardedOf_17 (by decide) ?_
    refine va_iald hx hb hK hP (1) 0 rfl rfl (by unfold vp_in; decide) dX0_awardedOf_19 ?_
    refine lv_iadd hx hb dX0_awardedOf_20 ?_
    refine lv_iconst (v := (2 : Int32)) hx hb dX0_awardedOf_21 (by decide) ?_
    refine lv_idiv hx hb dX0_awardedOf_22 (by decide) ?_
    refine lv_goto (tgt := 27) hx hb dX0_awardedOf_23 (by decide) ?_
    exact hc27 ((((e_home E0) ((5 : Int32)).toNatClampNeg) + ((e_home E0) ((6 : Int32)).toNatClampNeg)) / (2 : Int32)) _ _ _ hV hP hD hS (lv_sub hl [0, 1] rfl)
theorem dX0_awarded_0 : decode cX0_awarded 0 = .ok (.iconst 0, 1) := by decide +kernel
theorem dX0_awarded_1 : decode cX0_awarded 1 = .ok (.istore_n 1, 1) := by decide +kernel
theorem dX0_awarded_2 : decode cX0_awarded 2 = .ok (.iconst 0, 1) := by decide +kernel
theorem dX0_awarded_3 : decode cX0_awarded 3 = .ok (.istore_n 2, 1) := by decide +kernel
theorem dX0_awarded_4 : decode cX0_awarded 4 = .ok (.iload_n 2, 1) := by decide +kernel
theorem dX0_awarded_5 : decode cX0_awarded 5 = .ok (.aload_n 0, 1) := by decide +kernel
theorem dX0_awarded_6 : decode cX0_awarded 6 = .ok (.getfield 32, 3) := by decide +kernel
theorem dX0_awarded_9 : decode cX0_awarded 9 = .ok (.if_icmp .ge 17, 3) := by decide +kernel
theorem dX0_awarded_12 : decode cX0_awarded 12 = .ok (.iload_n 1, 1) := by decide +kernel
theorem dX0_awarded_13 : decode cX0_awarded 13 = .ok (.aload_n 0, 1) := by decide +kernel
theorem dX0_awarded_14 : decode cX0_awarded 14 = .ok (.iload_n 2, 1) := by decide +kernel
theorem dX0_awarded_15 : decode cX0_awarded 15 = .ok (.invokevirtual 77, 3) := by decide +kernel
theorem dX0_awarded_18 : decode cX0_awarded 18 = .ok (.iadd, 1) := by decide +kernel
theorem dX0_awarded_19 : decode cX0_awarded 19 = .ok (.istore_n 1, 1) := by decide +kernel
theorem dX0_awarded_20 : decode cX0_awarded 20 = .ok (.iinc 2 1, 3) := by decide +kernel
theorem dX0_awarded_23 : decode cX0_awarded 23 = .ok (.goto (-19), 3) := by decide +kernel
theorem dX0_awarded_26 : decode cX0_awarded 26 = .ok (.aload_n 0, 1) := by decide +kernel
theorem dX0_awarded_27 : decode cX0_awarded 27 = .ok (.iload_n 1, 1) := by decide +kernel
theorem dX0_awarded_28 : decode cX0_awarded 28 = .ok (.invokevirtual 103, 3) := by decide +kernel
theorem dX0_awarded_31 : decode cX0_awarded 31 = .ok (.ireturn, 1) := by decide +kernel
def rX0_awarded : Room := { frames := 4, cells := 0, slots := 0, locals := 86 }
def vX0_awarded_c4 (E0 : ES) : Nat → Int32 → Int32 → Int32
  | 0, x1, x2 => (0)
  | n + 1, x1, x2 => if ((e_things E0) ≤ x2) then (vX0_awardedOf E0 x1) else (vX0_awarded_c4 E0 n (x1 + (vX0_award E0 x2)) (x2 + (1 : Int32)))
def kX0_awarded_c4 (E0 : ES) : Nat → Int32 → Int32 → Prop
  | 0, _, _ => False
  | n + 1, x1, x2 => (((e_things E0) ≤ x2) → True) ∧ (¬ ((e_things E0) ≤ x2) → ((kX0_award E0 x2) ∧ (kX0_awarded_c4 E0 n (x1 + (vX0_award E0 x2)) (x2 + (1 : Int32)))))
def vX0_awarded (E0 : ES) : Int32 := (vX0_awarded_c4 E0 1024 (0 : Int32) (0 : Int32))
def kX0_awarded (E0 : ES) : Prop := (kX0_awarded_c4 E0 1024 (0 : Int32) (0 : Int32))
set_option maxHeartbeats 4000000 in
set_option maxRecDepth 100000 in
theorem hX0_awarded (l : Launch) (D : va_G) (K : JK) (G : JG) (a : Nat → Nat) (E0 : ES) (hk : kX0_awarded E0) (sz : Nat) : Met l yX0_awarded (.code yX0_awarded cX0_awarded 3 (some .int) :: jGW) rX0_awarded (jPre D (jT K) G [.ref (a 0)] (wE K a E0) sz) (jQi D (jT K) (vX0_awarded E0) (wE K a E0) (va_A (wE K a E0) sz)) 0 0 (va_A (wE K a E0) sz) := by
  refine jEi (by decide) (Nat.le_of_ble_eq_true rfl) (fun p e s m below meth c A Q ls hat hP hD hS hl hend => ?_)
  obtain ⟨hx, hb, hml, hown, hts, hK, hZ, hA⟩ := hat
  have hl : lv_has ls 3 [(0, .ref (a 0))] := hl
  have hc4 : ∀ (n : Nat) (x1 : Int32) (x2 : Int32) (H : Heap) (locs : List Loc) (ls : Array Slot), (vX0_awarded E0) = vX0_awarded_c4 E0 n x1 x2 → kX0_awarded_c4 E0 n x1 x2 → va_P D vwCl (wE K a E0) H → va_D A (wE K a E0) → va_S A s.heap H locs → lv_has ls 3 [(0, .ref (a 0)), (1, .int x1), (2, .int x2)] → W p l e rX0_awarded s m ([.ref (a 0)] : List Value).toArray below meth c H locs 0 0 Q (F0 m 4 ls []) := by
    intro n
    induction n with
    | zero =>
      intro x1 x2 H locs ls hV hk hP hD hS hl
      exact False.elim hk
    | succ n ih =>
      intro x1 x2 H locs ls hV hk hP hD hS hl
      rw [vX0_awarded_c4] at hV
      rw [kX0_awarded_c4] at hk
      refine lv_iload_n hx hb dX0_awarded_4 rfl (lv_at hl 2 rfl) ?_
      refine lv_aload_n hx hb dX0_awarded_5 rfl (lv_at hl 0 rfl) ?_
      refine gf_X0_32 (v := .int (e_things E0)) hx hb hts hown hK hZ hP (0) rfl rfl dX0_awarded_6 ?_
      refine lv_icmp_ge (tgt := 26) hx hb dX0_awarded_9 (by decide) (fun c3 => ?_) (fun c3 => ?_)
      · have hV := hV.trans (if_pos c3)
        have hk := hk.1 c3
        refine lv_aload_n hx hb dX0_awarded_26 rfl (lv_at hl 0 rfl) ?_
        refine lv_iload_n hx hb dX0_awarded_27 rfl (lv_at hl 1 rfl) ?_
        refine jci0 (jrunV (As := [.int x1]) (rest := []) hx hb hml hown hts hK hZ hA hP hD hS hl.1 mf_X0_awardedOf kl_X0_103 ⟨rfl, rfl, Nat.le_of_ble_eq_true rfl, Nat.le_of_ble_eq_true rfl⟩ ⟨Nat.zero_le _, Nat.zero_le _⟩ [0, 1, 2, 3, 4] rfl (js3 K a E0) rfl rfl rfl (hX0_awardedOf l D K G a E0 x1 _) rfl rfl (Nat.le_of_ble_eq_true rfl) dX0_awarded_28) hA hP hD hS [0, 1, 2, 3, 4] (js3 K a E0) (fun H locs hP hS => ?_)
        exact hend _ _ _ _ _ hP hD hS hV.symm rfl dX0_awarded_31
      · have hV := hV.trans (if_neg c3)
        have hk := hk.2 c3
        refine lv_iload_n hx hb dX0_awarded_12 rfl (lv_at hl 1 rfl) ?_
        refine lv_aload_n hx hb dX0_awarded_13 rfl (lv_at hl 0 rfl) ?_
        refine lv_iload_n hx hb dX0_awarded_14 rfl (lv_at hl 2 rfl) ?_
        obtain ⟨h4, hk⟩ := hk
        refine jci0 (jrunV (As := [.int x2]) (rest := [.int x1]) hx hb hml hown hts hK hZ hA hP hD hS hl.1 mf_X0_award kl_X0_77 ⟨rfl, rfl, Nat.le_of_ble_eq_true rfl, Nat.le_of_ble_eq_true rfl⟩ ⟨Nat.zero_le _, Nat.zero_le _⟩ [0, 1, 2, 3, 4] rfl (js3 K a E0) rfl rfl rfl (hX0_award l D K G a E0 x2 h4 _) rfl rfl (Nat.le_of_ble_eq_true rfl) dX0_awarded_15) hA hP hD hS [0, 1, 2, 3, 4] (js3 K a E0) (fun H locs hP hS => ?_)
        refine lv_iadd hx hb dX0_awarded_18 ?_
        refine lv_istore_n (lv' := [(1, .int (x1 + (vX0_award E0 x2))), (0, .ref (a 0)), (2, .int x2)]) hx hb dX0_awarded_19 rfl hl (by decide) rfl (fun ls hl => ?_)
        refine lv_iinc (v := (x2 + (1 : Int32))) (lv' := [(2, .int (x2 + (1 : Int32))), (1, .int (x1 + (vX0_award E0 x2))), (0, .ref (a 0))]) hx hb dX0_awarded_20 hl (k := 2) rfl rfl (by decide) rfl (fun ls hl => ?_)
        refine lv_goto (tgt := 4) hx hb dX0_awarded_23 (by decide) ?_
        exact ih (x1 + (vX0_award E0 x2)) (x2 + (1 : Int32)) _ _ _ hV hk hP hD hS (lv_sub hl [2, 1, 0] rfl)
  have hV := vX0_awarded.eq_1 E0
  rw [kX0_awarded] at hk
  refine lv_iconst (v := (0 : Int32)) hx hb dX0_awarded_0 (by decide) ?_
  refine lv_istore_n (lv' := [(1, .int (0 : Int32)), (0, .ref (a 0))]) hx hb dX0_awarded_1 rfl hl (by decide) rfl (fun ls hl => ?_)
  refine lv_iconst (v := (0 : Int32)) hx hb dX0_awarded_2 (by decide) ?_
  refine lv_istore_n (lv' := [(2, .int (0 : Int32)), (1, .int (0 : Int32)), (0, .ref (a 0))]) hx hb dX0_awarded_3 rfl hl (by decide) rfl (fun ls hl => ?_)
  exact hc4 1024 (0 : Int32) (0 : Int32) _ _ _ hV hk hP hD hS (lv_sub hl [2, 1, 0] rfl)
theorem ja6 (K : JK) (a : Nat → Nat) (b : Nat → Nat) (E : ES) (Eb : ES) (f : FA) : (wE K a E ++ wE K b Eb).set 1 ((a 1), .inl (K.1, 7, .inl f)) = (wE K a (e_s_home E f) ++ wE K b Eb) := rfl
theorem ja7 (K : JK) (a : Nat → Nat) (b : Nat → Nat) (E : ES) (Eb : ES) (f : FA) : (wE K a E ++ wE K b Eb).set 2 ((a 2), .inl (K.1, 6, .inl f)) = (wE K a (e_s_list E f) ++ wE K b Eb) := rfl
theorem ja8 (K : JK) (a : Nat → Nat) (b : Nat → Nat) (E : ES) (Eb : ES) (f : FA) : (wE K a E ++ wE K b Eb).set 3 ((a 3), .inl (K.1, 56, .inl f)) = (wE K a (e_s_traits E f) ++ wE K b Eb) := rfl
theorem ja9 (K : JK) (a : Nat → Nat) (b : Nat → Nat) (E : ES) (Eb : ES) (f : FA) : (wE K a E ++ wE K b Eb).set 4 ((a 4), .inl (K.1, 10, .inl f)) = (wE K a (e_s_spots E f) ++ wE K b Eb) := rfl
theorem jf10 (K : JK) (a : Nat → Nat) (b : Nat → Nat) (E : ES) (Eb : ES) (v : Int32) : (wE K a E ++ wE K b Eb).set 0 ((a 0), .inr (0, ([.ref (a 1), .ref (a 2), .ref (a 3), .ref (a 4), .int (e_things E), .int (e_day E), .int (e_z E)] : List Value).set 4 (.int v))) = (wE K a (e_s_things E v) ++ wE K b Eb) := rfl
theorem jf11 (K : JK) (a : Nat → Nat) (b : Nat → Nat) (E : ES) (Eb : ES) (v : Int32) : (wE K a E ++ wE K b Eb).set 0 ((a 0), .inr (0, ([.ref (a 1), .ref (a 2), .ref (a 3), .ref (a 4), .int (e_things E), .int (e_day E), .int (e_z E)] : List Value).set 5 (.int v))) = (wE K a (e_s_day E v) ++ wE K b Eb) := rfl
theorem jf12 (K : JK) (a : Nat → Nat) (b : Nat → Nat) (E : ES) (Eb : ES) (v : Int32) : (wE K a E ++ wE K b Eb).set 0 ((a 0), .inr (0, ([.ref (a 1), .ref (a 2), .ref (a 3), .ref (a 4), .int (e_things E), .int (e_day E), .int (e_z E)] : List Value).set 6 (.int v))) = (wE K a (e_s_z E v) ++ wE K b Eb) := rfl
theorem dX0_become_0 : decode cX0_become 0 = .ok (.aload_n 1, 1) := by decide +kernel
theorem dX0_become_1 : decode cX0_become 1 = .ok (.getfield 18, 3) := by decide +kernel
theorem dX0_become_4 : decode cX0_become 4 = .ok (.iconst 0, 1) := by decide +kernel
theorem dX0_become_5 : decode cX0_become 5 = .ok (.aload_n 0, 1) := by decide +kernel
theorem dX0_become_6 : decode cX0_become 6 = .ok (.getfield 18, 3) := by decide +kernel
theorem dX0_become_9 : decode cX0_become 9 = .ok (.iconst 0, 1) := by decide +kernel
theorem dX0_become_10 : decode cX0_become 10 = .ok (.bipush 7, 2) := by decide +kernel
theorem dX0_become_12 : decode cX0_become 12 = .ok (.invokestatic 48, 3) := by decide +kernel
theorem dX0_become_15 : decode cX0_become 15 = .ok (.aload_n 1, 1) := by decide +kernel
theorem dX0_become_16 : decode cX0_become 16 = .ok (.getfield 23, 3) := by decide +kernel
theorem dX0_become_19 : decode cX0_become 19 = .ok (.iconst 0, 1) := by decide +kernel
theorem dX0_become_20 : decode cX0_become 20 = .ok (.aload_n 0, 1) := by decide +kernel
theorem dX0_become_21 : decode cX0_become 21 = .ok (.getfield 23, 3) := by decide +kernel
theorem dX0_become_24 : decode cX0_become 24 = .ok (.iconst 0, 1) := by decide +kernel
theorem dX0_become_25 : decode cX0_become 25 = .ok (.bipush 6, 2) := by decide +kernel
theorem dX0_become_27 : decode cX0_become 27 = .ok (.invokestatic 48, 3) := by decide +kernel
theorem dX0_become_30 : decode cX0_become 30 = .ok (.aload_n 1, 1) := by decide +kernel
theorem dX0_become_31 : decode cX0_become 31 = .ok (.getfield 26, 3) := by decide +kernel
theorem dX0_become_34 : decode cX0_become 34 = .ok (.iconst 0, 1) := by decide +kernel
theorem dX0_become_35 : decode cX0_become 35 = .ok (.aload_n 0, 1) := by decide +kernel
theorem dX0_become_36 : decode cX0_become 36 = .ok (.getfield 26, 3) := by decide +kernel
theorem dX0_become_39 : decode cX0_become 39 = .ok (.iconst 0, 1) := by decide +kernel
theorem dX0_become_40 : decode cX0_become 40 = .ok (.aload_n 1, 1) := by decide +kernel
theorem dX0_become_41 : decode cX0_become 41 = .ok (.getfield 32, 3) := by decide +kernel
theorem dX0_become_44 : decode cX0_become 44 = .ok (.bipush 7, 2) := by decide +kernel
theorem dX0_become_46 : decode cX0_become 46 = .ok (.imul, 1) := by decide +kernel
theorem dX0_become_47 : decode cX0_become 47 = .ok (.invokestatic 48, 3) := by decide +kernel
theorem dX0_become_50 : decode cX0_become 50 = .ok (.aload_n 1, 1) := by decide +kernel
theorem dX0_become_51 : decode cX0_become 51 = .ok (.getfield 29, 3) := by decide +kernel
theorem dX0_become_54 : decode cX0_become 54 = .ok (.iconst 0, 1) := by decide +kernel
theorem dX0_become_55 : decode cX0_become 55 = .ok (.aload_n 0, 1) := by decide +kernel
theorem dX0_become_56 : decode cX0_become 56 = .ok (.getfield 29, 3) := by decide +kernel
theorem dX0_become_59 : decode cX0_become 59 = .ok (.iconst 0, 1) := by decide +kernel
theorem dX0_become_60 : decode cX0_become 60 = .ok (.bipush 10, 2) := by decide +kernel
theorem dX0_become_62 : decode cX0_become 62 = .ok (.invokestatic 48, 3) := by decide +kernel
theorem dX0_become_65 : decode cX0_become 65 = .ok (.aload_n 0, 1) := by decide +kernel
theorem dX0_become_66 : decode cX0_become 66 = .ok (.aload_n 1, 1) := by decide +kernel
theorem dX0_become_67 : decode cX0_become 67 = .ok (.getfield 32, 3) := by decide +kernel
theorem dX0_become_70 : decode cX0_become 70 = .ok (.putfield 32, 3) := by decide +kernel
theorem dX0_become_73 : decode cX0_become 73 = .ok (.aload_n 0, 1) := by decide +kernel
theorem dX0_become_74 : decode cX0_become 74 = .ok (.aload_n 1, 1) := by decide +kernel
theorem dX0_become_75 : decode cX0_become 75 = .ok (.getfield 36, 3) := by decide +kernel
theorem dX0_become_78 : decode cX0_become 78 = .ok (.putfield 36, 3) := by decide +kernel
theorem dX0_become_81 : decode cX0_become 81 = .ok (.aload_n 0, 1) := by decide +kernel
theorem dX0_become_82 : decode cX0_become 82 = .ok (.aload_n 1, 1) := by decide +kernel
theorem dX0_become_83 : decode cX0_become 83 = .ok (.getfield 39, 3) := by decide +kernel
theorem dX0_become_86 : decode cX0_become 86 = .ok (.putfield 39, 3) := by decide +kernel
theorem dX0_become_89 : decode cX0_become 89 = .ok (.return_, 1) := by decide +kernel
def rX0_become : Room := { frames := 1, cells := 0, slots := 0, locals := 18 }
def vX0_become_c81 (Eb0 : ES) (E : ES) : ES := (e_s_z E (e_z Eb0))
def vX0_become_c73 (Eb0 : ES) (E : ES) : ES := (vX0_become_c81 Eb0 (e_s_day E (e_day Eb0)))
def vX0_become_c65 (Eb0 : ES) (E : ES) : ES := (vX0_become_c73 Eb0 (e_s_things E (e_things Eb0)))
def vX0_become_c50 (Eb0 : ES) (E : ES) : ES := (vX0_become_c65 Eb0 (e_s_spots E (va_cpy (e_spots Eb0) (e_spots E) ((0 : Int32)).toNatClampNeg ((0 : Int32)).toNatClampNeg ((10 : Int32)).toNatClampNeg)))
def kX0_become_c50 (Eb0 : ES) (E : ES) : Prop := (jcpok (0 : Int32) (0 : Int32) (10 : Int32) 10 10) ∧ True
def vX0_become_c30 (Eb0 : ES) (E : ES) : ES := (vX0_become_c50 Eb0 (e_s_traits E (va_cpy (e_traits Eb0) (e_traits E) ((0 : Int32)).toNatClampNeg ((0 : Int32)).toNatClampNeg (((e_things Eb0) * (7 : Int32))).toNatClampNeg)))
def kX0_become_c30 (Eb0 : ES) (E : ES) : Prop := (jcpok (0 : Int32) (0 : Int32) ((e_things Eb0) * (7 : Int32)) 56 56) ∧ (kX0_become_c50 Eb0 (e_s_traits E (va_cpy (e_traits Eb0) (e_traits E) ((0 : Int32)).toNatClampNeg ((0 : Int32)).toNatClampNeg (((e_things Eb0) * (7 : Int32))).toNatClampNeg)))
def vX0_become_c15 (Eb0 : ES) (E : ES) : ES := (vX0_become_c30 Eb0 (e_s_list E (va_cpy (e_list Eb0) (e_list E) ((0 : Int32)).toNatClampNeg ((0 : Int32)).toNatClampNeg ((6 : Int32)).toNatClampNeg)))
def kX0_become_c15 (Eb0 : ES) (E : ES) : Prop := (jcpok (0 : Int32) (0 : Int32) (6 : Int32) 6 6) ∧ (kX0_become_c30 Eb0 (e_s_list E (va_cpy (e_list Eb0) (e_list E) ((0 : Int32)).toNatClampNeg ((0 : Int32)).toNatClampNeg ((6 : Int32)).toNatClampNeg)))
def vX0_become (E0 : ES) (Eb0 : ES) : ES := (vX0_become_c15 Eb0 (e_s_home E0 (va_cpy (e_home Eb0) (e_home E0) ((0 : Int32)).toNatClampNeg ((0 : Int32)).toNatClampNeg ((7 : Int32)).toNatClampNeg)))
def kX0_become (E0 : ES) (Eb0 : ES) : Prop := (jcpok (0 : Int32) (0 : Int32) (7 : Int32) 7 7) ∧ (kX0_become_c15 Eb0 (e_s_home E0 (va_cpy (e_home Eb0) (e_home E0) ((0 : Int32)).toNatClampNeg ((0 : Int32)).toNatClampNeg ((7 : Int32)).toNatClampNeg)))
set_option maxHeartbeats 4000000 in
set_option maxRecDepth 100000 in
theorem hX0_become (l : Launch) (D : va_G) (K : JK) (G : JG) (a : Nat → Nat) (b : Nat → Nat) (E0 : ES) (Eb0 : ES) (hk : kX0_become E0 Eb0) (sz : Nat) : Met l yX0_become (.code yX0_become cX0_become 2 none :: jGW) rX0_become (jPre D (jT K) G [.ref (a 0), .ref (b 0)] (wE K a E0 ++ wE K b Eb0) sz) (jQv D (jT K) (wE K a (vX0_become E0 Eb0) ++ wE K b Eb0) (va_A (wE K a E0 ++ wE K b Eb0) sz)) 0 0 (va_A (wE K a E0 ++ wE K b Eb0) sz) := by
  refine jEv (by decide) (Nat.le_of_ble_eq_true rfl) (fun p e s m below meth c A Q ls hat hP hD hS hl hend => ?_)
  obtain ⟨hx, hb, hml, hown, hts, hK, hZ, hA⟩ := hat
  have hl : lv_has ls 2 [(0, .ref (a 0)), (1, .ref (b 0))] := hl
  have hc81 : ∀ (E : ES) (H : Heap) (locs : List Loc) (ls : Array Slot), (vX0_become E0 Eb0) = vX0_become_c81 Eb0 E → va_P D vwCl (wE K a E ++ wE K b Eb0) H → va_D A (wE K a E ++ wE K b Eb0) → va_S A s.heap H locs → lv_has ls 2 [(0, .ref (a 0)), (1, .ref (b 0))] → W p l e rX0_become s m ([.ref (a 0), .ref (b 0)] : List Value).toArray below meth c H locs 0 0 Q (F0 m 81 ls []) := by
    intro E H locs ls hV hP hD hS hl
    rw [vX0_become_c81] at hV
    refine lv_aload_n hx hb dX0_become_81 rfl (lv_at hl 0 rfl) ?_
    refine lv_aload_n hx hb dX0_become_82 rfl (lv_at hl 1 rfl) ?_
    refine gf_X0_39 (v := .int (e_z Eb0)) hx hb hts hown hK hZ hP (5) rfl rfl dX0_become_83 ?_
    refine pf_X0_39 (v := .int (e_z Eb0)) hx hb hts hown hK hZ hP hD hS (0) rfl rfl rfl (Nat.le_of_ble_eq_true rfl) dX0_become_86 (fun H locs hP hD hS => ?_)
    have hP := jeP (jf12 K a b E Eb0 (e_z Eb0)) hP
    have hD := jeD (jf12 K a b E Eb0 (e_z Eb0)) hD
    exact hend _ _ _ _ (by rw [hV]; exact hP) (by rw [hV]; exact hD) hS dX0_become_89
  have hc73 : ∀ (E : ES) (H : Heap) (locs : List Loc) (ls : Array Slot), (vX0_become E0 Eb0) = vX0_become_c73 Eb0 E → va_P D vwCl (wE K a E ++ wE K b Eb0) H → va_D A (wE K a E ++ wE K b Eb0) → va_S A s.heap H locs → lv_has ls 2 [(0, .ref (a 0)), (1, .ref (b 0))] → W p l e rX0_become s m ([.ref (a 0), .ref (b 0)] : List Value).toArray below meth c H locs 0 0 Q (F0 m 73 ls []) := by
    intro E H locs ls hV hP hD hS hl
    rw [vX0_become_c73] at hV
    refine lv_aload_n hx hb dX0_become_73 rfl (lv_at hl 0 rfl) ?_
    refine lv_aload_n hx hb dX0_become_74 rfl (lv_at hl 1 rfl) ?_
    refine gf_X0_36 (v := .int (e_day Eb0)) hx hb hts hown hK hZ hP (5) rfl rfl dX0_become_75 ?_
    refine pf_X0_36 (v := .int (e_day Eb0)) hx hb hts hown hK hZ hP hD hS (0) rfl rfl rfl (Nat.le_of_ble_eq_true rfl) dX0_become_78 (fun H locs hP hD hS => ?_)
    have hP := jeP (jf11 K a b E Eb0 (e_day Eb0)) hP
    have hD := jeD (jf11 K a b E Eb0 (e_day Eb0)) hD
    exact hc81 (e_s_day E (e_day Eb0)) _ _ _ hV hP hD hS (lv_sub hl [0, 1] rfl)
  have hc65 : ∀ (E : ES) (H : Heap) (locs : List Loc) (ls : Array Slot), (vX0_become E0 Eb0) = vX0_become_c65 Eb0 E → va_P D vwCl (wE K a E ++ wE K b Eb0) H → va_D A (wE K a E ++ wE K b Eb0) → va_S A s.heap H locs → lv_has ls 2 [(0, .ref (a 0)), (1, .ref (b 0))] → W p l e rX0_become s m ([.ref (a 0), .ref (b 0)] : List Value).toArray below meth c H locs 0 0 Q (F0 m 65 ls []) := by
    intro E H locs ls hV hP hD hS hl
    rw [vX0_become_c65] at hV
    refine lv_aload_n hx hb dX0_become_65 rfl (lv_at hl 0 rfl) ?_
    refine lv_aload_n hx hb dX0_become_66 rfl (lv_at hl 1 rfl) ?_
    refine gf_X0_32 (v := .int (e_things Eb0)) hx hb hts hown hK hZ hP (5) rfl rfl dX0_become_67 ?_
    refine pf_X0_32 (v := .int (e_things Eb0)) hx hb hts hown hK hZ hP hD hS (0) rfl rfl rfl (Nat.le_of_ble_eq_true rfl) dX0_become_70 (fun H locs hP hD hS => ?_)
    have hP := jeP (jf10 K a b E Eb0 (e_things Eb0)) hP
    have hD := jeD (jf10 K a b E Eb0 (e_things Eb0)) hD
    exact hc73 (e_s_things E (e_things Eb0)) _ _ _ hV hP hD hS (lv_sub hl [0, 1] rfl)
  have hc50 : ∀ (E : ES) (H : Heap) (locs : List Loc) (ls : Array Slot), (vX0_become E0 Eb0) = vX0_become_c50 Eb0 E → kX0_become_c50 Eb0 E → va_P D vwCl (wE K a E ++ wE K b Eb0) H → va_D A (wE K a E ++ wE K b Eb0) → va_S A s.heap H locs → lv_has ls 2 [(0, .ref (a 0)), (1, .ref (b 0))] → W p l e rX0_become s m ([.ref (a 0), .ref (b 0)] : List Value).toArray below meth c H locs 0 0 Q (F0 m 50 ls []) := by
    intro E H locs ls hV hk hP hD hS hl
    rw [vX0_become_c50] at hV
    rw [kX0_become_c50] at hk
    refine lv_aload_n hx hb dX0_become_50 rfl (lv_at hl 1 rfl) ?_
    refine gf_X0_29 (v := .ref (b 4)) hx hb hts hown hK hZ hP (5) rfl rfl dX0_become_51 ?_
    refine lv_iconst (v := (0 : Int32)) hx hb dX0_become_54 (by decide) ?_
    refine lv_aload_n hx hb dX0_become_55 rfl (lv_at hl 0 rfl) ?_
    refine gf_X0_29 (v := .ref (a 4)) hx hb hts hown hK hZ hP (0) rfl rfl dX0_become_56 ?_
    refine lv_iconst (v := (0 : Int32)) hx hb dX0_become_59 (by decide) ?_
    refine lv_bipush (v := (10 : Int32)) hx hb dX0_become_60 (by decide) ?_
    obtain ⟨h5, hk⟩ := hk
    refine va_copyi (sp := (0 : Int32)) (dp := (0 : Int32)) (n := (10 : Int32)) hx hb (hml.trans hl.1.symm) hown (hts _ kac_X0) (hts _ kac_nat) (hts _ kac_stat) (hts _ kac_ini) hK hP hD hS (9) (4) 0 0 rfl rfl rfl rfl rfl h5.1 h5.2.1 h5.2.2.1 h5.2.2.2.1 h5.2.2.2.2 (fun _ _ => rfl) (Nat.le_of_ble_eq_true rfl) (Nat.le_of_ble_eq_true rfl) dX0_become_62 (fun H locs hP hD hS => ?_)
    have hP := jeP (ja9 K a b E Eb0 (va_cpy (e_spots Eb0) (e_spots E) ((0 : Int32)).toNatClampNeg ((0 : Int32)).toNatClampNeg ((10 : Int32)).toNatClampNeg)) hP
    have hD := jeD (ja9 K a b E Eb0 (va_cpy (e_spots Eb0) (e_spots E) ((0 : Int32)).toNatClampNeg ((0 : Int32)).toNatClampNeg ((10 : Int32)).toNatClampNeg)) hD
    exact hc65 (e_s_spots E (va_cpy (e_spots Eb0) (e_spots E) ((0 : Int32)).toNatClampNeg ((0 : Int32)).toNatClampNeg ((10 : Int32)).toNatClampNeg)) _ _ _ hV hP hD hS (lv_sub hl [0, 1] rfl)
  have hc30 : ∀ (E : ES) (H : Heap) (locs : List Loc) (ls : Array Slot), (vX0_become E0 Eb0) = vX0_become_c30 Eb0 E → kX0_become_c30 Eb0 E → va_P D vwCl (wE K a E ++ wE K b Eb0) H → va_D A (wE K a E ++ wE K b Eb0) → va_S A s.heap H locs → lv_has ls 2 [(0, .ref (a 0)), (1, .ref (b 0))] → W p l e rX0_become s m ([.ref (a 0), .ref (b 0)] : List Value).toArray below meth c H locs 0 0 Q (F0 m 30 ls []) := by
    intro E H locs ls hV hk hP hD hS hl
    rw [vX0_become_c30] at hV
    rw [kX0_become_c30] at hk
    refine lv_aload_n hx hb dX0_become_30 rfl (lv_at hl 1 rfl) ?_
    refine gf_X0_26 (v := .ref (b 3)) hx hb hts hown hK hZ hP (5) rfl rfl dX0_become_31 ?_
    refine lv_iconst (v := (0 : Int32)) hx hb dX0_become_34 (by decide) ?_
    refine lv_aload_n hx hb dX0_become_35 rfl (lv_at hl 0 rfl) ?_
    refine gf_X0_26 (v := .ref (a 3)) hx hb hts hown hK hZ hP (0) rfl rfl dX0_become_36 ?_
    refine lv_iconst (v := (0 : Int32)) hx hb dX0_become_39 (by decide) ?_
    refine lv_aload_n hx hb dX0_become_40 rfl (lv_at hl 1 rfl) ?_
    refine gf_X0_32 (v := .int (e_things Eb0)) hx hb hts hown hK hZ hP (5) rfl rfl dX0_become_41 ?_
    refine lv_bipush (v := (7 : Int32)) hx hb dX0_become_44 (by decide) ?_
    refine lv_imul hx hb dX0_become_46 ?_
    obtain ⟨h6, hk⟩ := hk
    refine va_copyi (sp := (0 : Int32)) (dp := (0 : Int32)) (n := ((e_things Eb0) * (7 : Int32))) hx hb (hml.trans hl.1.symm) hown (hts _ kac_X0) (hts _ kac_nat) (hts _ kac_stat) (hts _ kac_ini) hK hP hD hS (8) (3) 0 0 rfl rfl rfl rfl rfl h6.1 h6.2.1 h6.2.2.1 h6.2.2.2.1 h6.2.2.2.2 (fun _ _ => rfl) (Nat.le_of_ble_eq_true rfl) (Nat.le_of_ble_eq_true rfl) dX0_become_47 (fun H locs hP hD hS => ?_)
    have hP := jeP (ja8 K a b E Eb0 (va_cpy (e_traits Eb0) (e_traits E) ((0 : Int32)).toNatClampNeg ((0 : Int32)).toNatClampNeg (((e_things Eb0) * (7 : Int32))).toNatClampNeg)) hP
    have hD := jeD (ja8 K a b E Eb0 (va_cpy (e_traits Eb0) (e_traits E) ((0 : Int32)).toNatClampNeg ((0 : Int32)).toNatClampNeg (((e_things Eb0) * (7 : Int32))).toNatClampNeg)) hD
    exact hc50 (e_s_traits E (va_cpy (e_traits Eb0) (e_traits E) ((0 : Int32)).toNatClampNeg ((0 : Int32)).toNatClampNeg (((e_things Eb0) * (7 : Int32))).toNatClampNeg)) _ _ _ hV hk hP hD hS (lv_sub hl [0, 1] rfl)
  have hc15 : ∀ (E : ES) (H : Heap) (locs : List Loc) (ls : Array Slot), (vX0_become E0 Eb0) = vX0_become_c15 Eb0 E → kX0_become_c15 Eb0 E → va_P D vwCl (wE K a E ++ wE K b Eb0) H → va_D A (wE K a E ++ wE K b Eb0) → va_S A s.heap H locs → lv_has ls 2 [(0, .ref (a 0)), (1, .ref (b 0))] → W p l e rX0_become s m ([.ref (a 0), .ref (b 0)] : List Value).toArray below meth c H locs 0 0 Q (F0 m 15 ls []) := by
    intro E H locs ls hV hk hP hD hS hl
    rw [vX0_become_c15] at hV
    rw [kX0_become_c15] at hk
    refine lv_aload_n hx hb dX0_become_15 rfl (lv_at hl 1 rfl) ?_
    refine gf_X0_23 (v := .ref (b 2)) hx hb hts hown hK hZ hP (5) rfl rfl dX0_become_16 ?_
    refine lv_iconst (v := (0 : Int32)) hx hb dX0_become_19 (by decide) ?_
    refine lv_aload_n hx hb dX0_become_20 rfl (lv_at hl 0 rfl) ?_
    refine gf_X0_23 (v := .ref (a 2)) hx hb hts hown hK hZ hP (0) rfl rfl dX0_become_21 ?_
    refine lv_iconst (v := (0 : Int32)) hx hb dX0_become_24 (by decide) ?_
    refine lv_bipush (v := (6 : Int32)) hx hb dX0_become_25 (by decide) ?_
    obtain ⟨h7, hk⟩ := hk
    refine va_copyi (sp := (0 : Int32)) (dp := (0 : Int32)) (n := (6 : Int32)) hx hb (hml.trans hl.1.symm) hown (hts _ kac_X0) (hts _ kac_nat) (hts _ kac_stat) (hts _ kac_ini) hK hP hD hS (7) (2) 0 0 rfl rfl rfl rfl rfl h7.1 h7.2.1 h7.2.2.1 h7.2.2.2.1 h7.2.2.2.2 (fun _ _ => rfl) (Nat.le_of_ble_eq_true rfl) (Nat.le_of_ble_eq_true rfl) dX0_become_27 (fun H locs hP hD hS => ?_)
    have hP := jeP (ja7 K a b E Eb0 (va_cpy (e_list Eb0) (e_list E) ((0 : Int32)).toNatClampNeg ((0 : Int32)).toNatClampNeg ((6 : Int32)).toNatClampNeg)) hP
    have hD := jeD (ja7 K a b E Eb0 (va_cpy (e_list Eb0) (e_list E) ((0 : Int32)).toNatClampNeg ((0 : Int32)).toNatClampNeg ((6 : Int32)).toNatClampNeg)) hD
    exact hc30 (e_s_list E (va_cpy (e_list Eb0) (e_list E) ((0 : Int32)).toNatClampNeg ((0 : Int32)).toNatClampNeg ((6 : Int32)).toNatClampNeg)) _ _ _ hV hk hP hD hS (lv_sub hl [0, 1] rfl)
  have hV := vX0_become.eq_1 E0 Eb0
  rw [kX0_become] at hk
  refine lv_aload_n hx hb dX0_become_0 rfl (lv_at hl 1 rfl) ?_
  refine gf_X0_18 (v := .ref (b 1)) hx hb hts hown hK hZ hP (5) rfl rfl dX0_become_1 ?_
  refine lv_iconst (v := (0 : Int32)) hx hb dX0_become_4 (by decide) ?_
  refine lv_aload_n hx hb dX0_become_5 rfl (lv_at hl 0 rfl) ?_
  refine gf_X0_18 (v := .ref (a 1)) hx hb hts hown hK hZ hP (0) rfl rfl dX0_become_6 ?_
  refine lv_iconst (v := (0 : Int32)) hx hb dX0_become_9 (by decide) ?_
  refine lv_bipush (v := (7 : Int32)) hx hb dX0_become_10 (by decide) ?_
  obtain ⟨h8, hk⟩ := hk
  refine va_copyi (sp := (0 : Int32)) (dp := (0 : Int32)) (n := (7 : Int32)) hx hb (hml.trans hl.1.symm) hown (hts _ kac_X0) (hts _ kac_nat) (hts _ kac_stat) (hts _ kac_ini) hK hP hD hS (6) (1) 0 0 rfl rfl rfl rfl rfl h8.1 h8.2.1 h8.2.2.1 h8.2.2.2.1 h8.2.2.2.2 (fun _ _ => rfl) (Nat.le_of_ble_eq_true rfl) (Nat.le_of_ble_eq_true rfl) dX0_become_12 (fun H locs hP hD hS => ?_)
  have hP := jeP (ja6 K a b E0 Eb0 (va_cpy (e_home Eb0) (e_home E0) ((0 : Int32)).toNatClampNeg ((0 : Int32)).toNatClampNeg ((7 : Int32)).toNatClampNeg)) hP
  have hD := jeD (ja6 K a b E0 Eb0 (va_cpy (e_home Eb0) (e_home E0) ((0 : Int32)).toNatClampNeg ((0 : Int32)).toNatClampNeg ((7 : Int32)).toNatClampNeg)) hD
  exact hc15 (e_s_home E0 (va_cpy (e_home Eb0) (e_home E0) ((0 : Int32)).toNatClampNeg ((0 : Int32)).toNatClampNeg ((7 : Int32)).toNatClampNeg)) _ _ _ hV hk hP hD hS (lv_sub hl [0, 1] rfl)
theorem jf13 (K : JK) (a : Nat → Nat) (E : ES) (v : Int32) : (wE K a E).set 0 ((a 0), .inr (0, ([.ref (a 1), .ref (a 2), .ref (a 3), .ref (a 4), .int (e_things E), .int (e_day E), .int (e_z E)] : List Value).set 6 (.int v))) = (wE K a (e_s_z E v)) := rfl
theorem dX0_draw_0 : decode cX0_draw 0 = .ok (.aload_n 0, 1) := by decide +kernel
theorem dX0_draw_1 : decode cX0_draw 1 = .ok (.aload_n 0, 1) := by decide +kernel
theorem dX0_draw_2 : decode cX0_draw 2 = .ok (.getfield 39, 3) := by decide +kernel
theorem dX0_draw_5 : decode cX0_draw 5 = .ok (.ldc 113, 2) := by decide +kernel
theorem dX0_draw_7 : decode cX0_draw 7 = .ok (.imul, 1) := by decide +kernel
theorem dX0_draw_8 : decode cX0_draw 8 = .ok (.sipush 12345, 3) := by decide +kernel
theorem dX0_draw_11 : decode cX0_draw 11 = .ok (.iadd, 1) := by decide +kernel
theorem dX0_draw_12 : decode cX0_draw 12 = .ok (.putfield 39, 3) := by decide +kernel
theorem dX0_draw_15 : decode cX0_draw 15 = .ok (.aload_n 0, 1) := by decide +kernel
theorem dX0_draw_16 : decode cX0_draw 16 = .ok (.getfield 39, 3) := by decide +kernel
theorem dX0_draw_19 : decode cX0_draw 19 = .ok (.bipush 8, 2) := by decide +kernel
theorem dX0_draw_21 : decode cX0_draw 21 = .ok (.iushr, 1) := by decide +kernel
theorem dX0_draw_22 : decode cX0_draw 22 = .ok (.ireturn, 1) := by decide +kernel
def rX0_draw : Room := { frames := 0, cells := 0, slots := 0, locals := 0 }
def vX0_draw_c15 (E : ES) : Int32 × ES := ((jushr (e_z E) (8 : Int32)), E)
def vX0_draw (E0 : ES) : Int32 × ES := (vX0_draw_c15 (e_s_z E0 (((e_z E0) * (1103515245 : Int32)) + (12345 : Int32))))
set_option maxHeartbeats 4000000 in
set_option maxRecDepth 100000 in
theorem hX0_draw (l : Launch) (D : va_G) (K : JK) (G : JG) (a : Nat → Nat) (E0 : ES) (sz : Nat) : Met l yX0_draw (.code yX0_draw cX0_draw 1 (some .int) :: jGW) rX0_draw (jPre D (jT K) G [.ref (a 0)] (wE K a E0) sz) (jQi D (jT K) ((vX0_draw E0).1) (wE K a ((vX0_draw E0).2)) (va_A (wE K a E0) sz)) 0 0 (va_A (wE K a E0) sz) := by
  refine jEi (by decide) (Nat.le_of_ble_eq_true rfl) (fun p e s m below meth c A Q ls hat hP hD hS hl hend => ?_)
  obtain ⟨hx, hb, hml, hown, hts, hK, hZ, hA⟩ := hat
  have hl : lv_has ls 1 [(0, .ref (a 0))] := hl
  have hc15 : ∀ (E : ES) (H : Heap) (locs : List Loc) (ls : Array Slot), (vX0_draw E0) = vX0_draw_c15 E → va_P D vwCl (wE K a E) H → va_D A (wE K a E) → va_S A s.heap H locs → lv_has ls 1 [(0, .ref (a 0))] → W p l e rX0_draw s m ([.ref (a 0)] : List Value).toArray below meth c H locs 0 0 Q (F0 m 15 ls []) := by
    intro E H locs ls hV hP hD hS hl
    rw [vX0_draw_c15] at hV
    refine lv_aload_n hx hb dX0_draw_15 rfl (lv_at hl 0 rfl) ?_
    refine gf_X0_39 (v := .int (e_z E)) hx hb hts hown hK hZ hP (0) rfl rfl dX0_draw_16 ?_
    refine lv_bipush (v := (8 : Int32)) hx hb dX0_draw_19 (by decide) ?_
    refine j_iushr hx hb dX0_draw_21 ?_
    exact hend _ _ _ _ _ (by rw [hV]; exact hP) (by rw [hV]; exact hD) hS (by rw [hV]) rfl dX0_draw_22
  have hV := vX0_draw.eq_1 E0
  refine lv_aload_n hx hb dX0_draw_0 rfl (lv_at hl 0 rfl) ?_
  refine lv_aload_n hx hb dX0_draw_1 rfl (lv_at hl 0 rfl) ?_
  refine gf_X0_39 (v := .int (e_z E0)) hx hb hts hown hK hZ hP (0) rfl rfl dX0_draw_2 ?_
  refine lv_ldc (v := (1103515245 : Int32)) hx hb hown (hts _ kc_X0_113) dX0_draw_5 ?_
  refine lv_imul hx hb dX0_draw_7 ?_
  refine lv_sipush (v := (12345 : Int32)) hx hb dX0_draw_8 (by decide) ?_
  refine lv_iadd hx hb dX0_draw_11 ?_
  refine pf_X0_39 (v := .int (((e_z E0) * (1103515245 : Int32)) + (12345 : Int32))) hx hb hts hown hK hZ hP hD hS (0) rfl rfl rfl (Nat.le_of_ble_eq_true rfl) dX0_draw_12 (fun H locs hP hD hS => ?_)
  have hP := jeP (jf13 K a E0 (((e_z E0) * (1103515245 : Int32)) + (12345 : Int32))) hP
  have hD := jeD (jf13 K a E0 (((e_z E0) * (1103515245 : Int32)) + (12345 : Int32))) hD
  exact hc15 (e_s_z E0 (((e_z E0) * (1103515245 : Int32)) + (12345 : Int32))) _ _ _ hV hP hD hS (lv_sub hl [0] rfl)
theorem dX0_heldSpots_0 : decode cX0_heldSpots 0 = .ok (.iconst 0, 1) := by decide +kernel
theorem dX0_heldSpots_1 : decode cX0_heldSpots 1 = .ok (.istore_n 1, 1) := by decide +kernel
theorem dX0_heldSpots_2 : decode cX0_heldSpots 2 = .ok (.iconst 0, 1) := by decide +kernel
theorem dX0_heldSpots_3 : decode cX0_heldSpots 3 = .ok (.istore_n 2, 1) := by decide +kernel
theorem dX0_heldSpots_4 : decode cX0_heldSpots 4 = .ok (.iload_n 2, 1) := by decide +kernel
theorem dX0_heldSpots_5 : decode cX0_heldSpots 5 = .ok (.bipush 10, 2) := by decide +kernel
theorem dX0_heldSpots_7 : decode cX0_heldSpots 7 = .ok (.if_icmp .ge 22, 3) := by decide +kernel
theorem dX0_heldSpots_10 : decode cX0_heldSpots 10 = .ok (.aload_n 0, 1) := by decide +kernel
theorem dX0_heldSpots_11 : decode cX0_heldSpots 11 = .ok (.getfield 29, 3) := by decide +kernel
theorem dX0_heldSpots_14 : decode cX0_heldSpots 14 = .ok (.iload_n 2, 1) := by decide +kernel
theorem dX0_heldSpots_15 : decode cX0_heldSpots 15 = .ok (.iaload, 1) := by decide +kernel
theorem dX0_heldSpots_16 : decode cX0_heldSpots 16 = .ok (.iconst (-1), 1) := by decide +kernel
theorem dX0_heldSpots_17 : decode cX0_heldSpots 17 = .ok (.if_icmp .eq 6, 3) := by decide +kernel
theorem dX0_heldSpots_20 : decode cX0_heldSpots 20 = .ok (.iinc 1 1, 3) := by decide +kernel
theorem dX0_heldSpots_23 : decode cX0_heldSpots 23 = .ok (.iinc 2 1, 3) := by decide +kernel
theorem dX0_heldSpots_26 : decode cX0_heldSpots 26 = .ok (.goto (-22), 3) := by decide +kernel
theorem dX0_heldSpots_29 : decode cX0_heldSpots 29 = .ok (.iload_n 1, 1) := by decide +kernel
theorem dX0_heldSpots_30 : decode cX0_heldSpots 30 = .ok (.ireturn, 1) := by decide +kernel
def rX0_heldSpots : Room := { frames := 0, cells := 0, slots := 0, locals := 0 }
def vX0_heldSpots_c23 (E0 : ES) (k : Int32 → Int32 → Int32) (x1 : Int32) (x2 : Int32) : Int32 := (k x1 (x2 + (1 : Int32)))
def kX0_heldSpots_c23 (E0 : ES) (q : Int32 → Int32 → Prop) (x1 : Int32) (x2 : Int32) : Prop := (q x1 (x2 + (1 : Int32)))
def vX0_heldSpots_c4 (E0 : ES) : Nat → Int32 → Int32 → Int32
  | 0, x1, x2 => (0)
  | n + 1, x1, x2 => if ((10 : Int32) ≤ x2) then x1 else if (((e_spots E0) (x2).toNatClampNeg) = (-1 : Int32)) then (vX0_heldSpots_c23 E0 (fun x1 x2 => vX0_heldSpots_c4 E0 n x1 x2) x1 x2) else (vX0_heldSpots_c23 E0 (fun x1 x2 => vX0_heldSpots_c4 E0 n x1 x2) (x1 + (1 : Int32)) x2)
def kX0_heldSpots_c4 (E0 : ES) : Nat → Int32 → Int32 → Prop
  | 0, _, _ => False
  | n + 1, x1, x2 => (((10 : Int32) ≤ x2) → True) ∧ (¬ ((10 : Int32) ≤ x2) → ((vp_in x2 10) ∧ ((((e_spots E0) (x2).toNatClampNeg) = (-1 : Int32)) → ((kX0_heldSpots_c23 E0 (fun x1 x2 => kX0_heldSpots_c4 E0 n x1 x2) x1 x2))) ∧ (¬ (((e_spots E0) (x2).toNatClampNeg) = (-1 : Int32)) → ((kX0_heldSpots_c23 E0 (fun x1 x2 => kX0_heldSpots_c4 E0 n x1 x2) (x1 + (1 : Int32)) x2)))))
def vX0_heldSpots (E0 : ES) : Int32 := (vX0_heldSpots_c4 E0 1024 (0 : Int32) (0 : Int32))
def kX0_heldSpots (E0 : ES) : Prop := (kX0_heldSpots_c4 E0 1024 (0 : Int32) (0 : Int32))
set_option maxHeartbeats 4000000 in
set_option maxRecDepth 100000 in
theorem hX0_heldSpots (l : Launch) (D : va_G) (K : JK) (G : JG) (a : Nat → Nat) (E0 : ES) (hk : kX0_heldSpots E0) (sz : Nat) : Met l yX0_heldSpots (.code yX0_heldSpots cX0_heldSpots 3 (some .int) :: jGW) rX0_heldSpots (jPre D (jT K) G [.ref (a 0)] (wE K a E0) sz) (jQi D (jT K) (vX0_heldSpots E0) (wE K a E0) (va_A (wE K a E0) sz)) 0 0 (va_A (wE K a E0) sz) := by
  refine jEi (by decide) (Nat.le_of_ble_eq_true rfl) (fun p e s m below meth c A Q ls hat hP hD hS hl hend => ?_)
  obtain ⟨hx, hb, hml, hown, hts, hK, hZ, hA⟩ := hat
  have hl : lv_has ls 3 [(0, .ref (a 0))] := hl
  have hc4 : ∀ (n : Nat) (x1 : Int32) (x2 : Int32) (H : Heap) (locs : List Loc) (ls : Array Slot), (vX0_heldSpots E0) = vX0_heldSpots_c4 E0 n x1 x2 → kX0_heldSpots_c4 E0 n x1 x2 → va_P D vwCl (wE K a E0) H → va_D A (wE K a E0) → va_S A s.heap H locs → lv_has ls 3 [(0, .ref (a 0)), (1, .int x1), (2, .int x2)] → W p l e rX0_heldSpots s m ([.ref (a 0)] : List Value).toArray below meth c H locs 0 0 Q (F0 m 4 ls []) := by
    intro n
    induction n with
    | zero =>
      intro x1 x2 H locs ls hV hk hP hD hS hl
      exact False.elim hk
    | succ n ih =>
      have hc23 : ∀ (x1 : Int32) (x2 : Int32) (H : Heap) (locs : List Loc) (ls : Array Slot), (vX0_heldSpots E0) = vX0_heldSpots_c23 E0 (fun x1 x2 => vX0_heldSpots_c4 E0 n x1 x2) x1 x2 → kX0_heldSpots_c23 E0 (fun x1 x2 => kX0_heldSpots_c4 E0 n x1 x2) x1 x2 → va_P D vwCl (wE K a E0) H → va_D A (wE K a E0) → va_S A s.heap H locs → lv_has ls 3 [(0, .ref (a 0)), (1, .int x1), (2, .int x2)] → W p l e rX0_heldSpots s m ([.ref (a 0)] : List Value).toArray below meth c H locs 0 0 Q (F0 m 23 ls []) := by
        intro x1 x2 H locs ls hV hk hP hD hS hl
        rw [vX0_heldSpots_c23] at hV
        rw [kX0_heldSpots_c23] at hk
        refine lv_iinc (v := (x2 + (1 : Int32))) (lv' := [(2, .int (x2 + (1 : Int32))), (0, .ref (a 0)), (1, .int x1)]) hx hb dX0_heldSpots_23 hl (k := 2) rfl rfl (by decide) rfl (fun ls hl => ?_)
        refine lv_goto (tgt := 4) hx hb dX0_heldSpots_26 (by decide) ?_
        exact ih x1 (x2 + (1 : Int32)) _ _ _ hV hk hP hD hS (lv_sub hl [1, 2, 0] rfl)
      intro x1 x2 H locs ls hV hk hP hD hS hl
      rw [vX0_heldSpots_c4] at hV
      rw [kX0_heldSpots_c4] at hk
      refine lv_iload_n hx hb dX0_heldSpots_4 rfl (lv_at hl 2 rfl) ?_
      refine lv_bipush (v := (10 : Int32)) hx hb dX0_heldSpots_5 (by decide) ?_
      refine lv_icmp_ge (tgt := 29) hx hb dX0_heldSpots_7 (by decide) (fun c4 => ?_) (fun c4 => ?_)
      · have hV := hV.trans (if_pos c4)
        have hk := hk.1 c4
        refine lv_iload_n hx hb dX0_heldSpots_29 rfl (lv_at hl 1 rfl) ?_
        exact hend _ _ _ _ _ hP hD hS hV.symm rfl dX0_heldSpots_30
      · have hV := hV.trans (if_neg c4)
        have hk := hk.2 c4
        refine lv_aload_n hx hb dX0_heldSpots_10 rfl (lv_at hl 0 rfl) ?_
        refine gf_X0_29 (v := .ref (a 4)) hx hb hts hown hK hZ hP (0) rfl rfl dX0_heldSpots_11 ?_
        refine lv_iload_n hx hb dX0_heldSpots_14 rfl (lv_at hl 2 rfl) ?_
        obtain ⟨h5, hk⟩ := hk
        refine va_iald hx hb hK hP (4) 0 rfl rfl h5 dX0_heldSpots_15 ?_
        refine lv_iconst (v := (-1 : Int32)) hx hb dX0_heldSpots_16 (by decide) ?_
        refine lv_icmp_eq (tgt := 23) hx hb dX0_heldSpots_17 (by decide) (fun c6 => ?_) (fun c6 => ?_)
        · have hV := hV.trans (if_pos c6)
          have hk := hk.1 c6
          exact hc23 x1 x2 _ _ _ hV hk hP hD hS (lv_sub hl [0, 1, 2] rfl)
        · have hV := hV.trans (if_neg c6)
          have hk := hk.2 c6
          refine lv_iinc (v := (x1 + (1 : Int32))) (lv' := [(1, .int (x1 + (1 : Int32))), (0, .ref (a 0)), (2, .int x2)]) hx hb dX0_heldSpots_20 hl (k := 1) rfl rfl (by decide) rfl (fun ls hl => ?_)
          exact hc23 (x1 + (1 : Int32)) x2 _ _ _ hV hk hP hD hS (lv_sub hl [1, 0, 2] rfl)
  have hV := vX0_heldSpots.eq_1 E0
  rw [kX0_heldSpots] at hk
  refine lv_iconst (v := (0 : Int32)) hx hb dX0_heldSpots_0 (by decide) ?_
  refine lv_istore_n (lv' := [(1, .int (0 : Int32)), (0, .ref (a 0))]) hx hb dX0_heldSpots_1 rfl hl (by decide) rfl (fun ls hl => ?_)
  refine lv_iconst (v := (0 : Int32)) hx hb dX0_heldSpots_2 (by decide) ?_
  refine lv_istore_n (lv' := [(2, .int (0 : Int32)), (1, .int (0 : Int32)), (0, .ref (a 0))]) hx hb dX0_heldSpots_3 rfl hl (by decide) rfl (fun ls hl => ?_)
  exact hc4 1024 (0 : Int32) (0 : Int32) _ _ _ hV hk hP hD hS (lv_sub hl [2, 1, 0] rfl)
theorem dX0_hurt_0 : decode cX0_hurt 0 = .ok (.aload_n 0, 1) := by decide +kernel
theorem dX0_hurt_1 : decode cX0_hurt 1 = .ok (.iload_n 1, 1) := by decide +kernel
theorem dX0_hurt_2 : decode cX0_hurt 2 = .ok (.iconst 0, 1) := by decide +kernel
theorem dX0_hurt_3 : decode cX0_hurt 3 = .ok (.invokevirtual 58, 3) := by decide +kernel
theorem dX0_hurt_6 : decode cX0_hurt 6 = .ok (.iload_n 2, 1) := by decide +kernel
theorem dX0_hurt_7 : decode cX0_hurt 7 = .ok (.aload_n 0, 1) := by decide +kernel
theorem dX0_hurt_8 : decode cX0_hurt 8 = .ok (.getfield 18, 3) := by decide +kernel
theorem dX0_hurt_11 : decode cX0_hurt 11 = .ok (.iconst 1, 1) := by decide +kernel
theorem dX0_hurt_12 : decode cX0_hurt 12 = .ok (.iaload, 1) := by decide +kernel
theorem dX0_hurt_13 : decode cX0_hurt 13 = .ok (.invokestatic 89, 3) := by decide +kernel
theorem dX0_hurt_16 : decode cX0_hurt 16 = .ok (.ireturn, 1) := by decide +kernel
def rX0_hurt : Room := { frames := 1, cells := 0, slots := 0, locals := 22 }
def vX0_hurt (E0 : ES) (p1 : Int32) (p2 : Int32) : Int32 := (vX1_hurt (vX0_trait E0 p1 (0 : Int32)) p2 ((e_home E0) ((1 : Int32)).toNatClampNeg))
def kX0_hurt (E0 : ES) (p1 : Int32) (p2 : Int32) : Prop := (kX0_trait E0 p1 (0 : Int32)) ∧ True
set_option maxHeartbeats 4000000 in
set_option maxRecDepth 100000 in
theorem hX0_hurt (l : Launch) (D : va_G) (K : JK) (G : JG) (a : Nat → Nat) (E0 : ES) (p1 : Int32) (p2 : Int32) (hk : kX0_hurt E0 p1 p2) (sz : Nat) : Met l yX0_hurt (.code yX0_hurt cX0_hurt 3 (some .int) :: jGW) rX0_hurt (jPre D (jT K) G [.ref (a 0), .int p1, .int p2] (wE K a E0) sz) (jQi D (jT K) (vX0_hurt E0 p1 p2) (wE K a E0) (va_A (wE K a E0) sz)) 0 0 (va_A (wE K a E0) sz) := by
  refine jEi (by decide) (Nat.le_of_ble_eq_true rfl) (fun p e s m below meth c A Q ls hat hP hD hS hl hend => ?_)
  obtain ⟨hx, hb, hml, hown, hts, hK, hZ, hA⟩ := hat
  have hl : lv_has ls 3 [(0, .ref (a 0)), (1, .int p1), (2, .int p2)] := hl
  have hV := vX0_hurt.eq_1 E0 p1 p2
  rw [kX0_hurt] at hk
  refine lv_aload_n hx hb dX0_hurt_0 rfl (lv_at hl 0 rfl) ?_
  refine lv_iload_n hx hb dX0_hurt_1 rfl (lv_at hl 1 rfl) ?_
  refine lv_iconst (v := (0 : Int32)) hx hb dX0_hurt_2 (by decide) ?_
  obtain ⟨h2, hk⟩ := hk
  refine jci0 (jrunV (As := [.int p1, .int (0 : Int32)]) (rest := []) hx hb hml hown hts hK hZ hA hP hD hS hl.1 mf_X0_trait kl_X0_58 ⟨rfl, rfl, Nat.le_of_ble_eq_true rfl, Nat.le_of_ble_eq_true rfl⟩ ⟨Nat.zero_le _, Nat.zero_le _⟩ [0, 1, 2, 3, 4] rfl (js3 K a E0) rfl rfl rfl (hX0_trait l D K G a E0 p1 (0 : Int32) h2 _) rfl rfl (Nat.le_of_ble_eq_true rfl) dX0_hurt_3) hA hP hD hS [0, 1, 2, 3, 4] (js3 K a E0) (fun H locs hP hS => ?_)
  refine lv_iload_n hx hb dX0_hurt_6 rfl (lv_at hl 2 rfl) ?_
  refine lv_aload_n hx hb dX0_hurt_7 rfl (lv_at hl 0 rfl) ?_
  refine gf_X0_18 (v := .ref (a 1)) hx hb hts hown hK hZ hP (0) rfl rfl dX0_hurt_8 ?_
  refine lv_iconst (v := (1 : Int32)) hx hb dX0_hurt_11 (by decide) ?_
  refine va_iald hx hb hK hP (1) 0 rfl rfl (by unfold vp_in; decide) dX0_hurt_12 ?_
  refine jci0 (jrunS (As := [.int (vX0_trait E0 p1 (0 : Int32)), .int p2, .int ((e_home E0) ((1 : Int32)).toNatClampNeg)]) (rest := []) hx hb hml hown hts hK hZ hA hP hD hS hl.1 mf_X1_hurt kl_X0_89 ⟨rfl, rfl, Nat.le_of_ble_eq_true rfl, Nat.le_of_ble_eq_true rfl⟩ ⟨Nat.zero_le _, Nat.zero_le _⟩ [] rfl rfl (hX1_hurt l D K G (vX0_trait E0 p1 (0 : Int32)) p2 ((e_home E0) ((1 : Int32)).toNatClampNeg) _) rfl rfl (Nat.le_of_ble_eq_true rfl) dX0_hurt_13) hA hP hD hS [] rfl (fun H locs hP hS => ?_)
  exact hend _ _ _ _ _ hP hD hS hV.symm rfl dX0_hurt_16
theorem dX0_lower_0 : decode cX0_lower 0 = .ok (.aload_n 0, 1) := by decide +kernel
theorem dX0_lower_1 : decode cX0_lower 1 = .ok (.iload_n 1, 1) := by decide +kernel
theorem dX0_lower_2 : decode cX0_lower 2 = .ok (.iconst 4, 1) := by decide +kernel
theorem dX0_lower_3 : decode cX0_lower 3 = .ok (.iconst 0, 1) := by decide +kernel
theorem dX0_lower_4 : decode cX0_lower 4 = .ok (.aload_n 0, 1) := by decide +kernel
theorem dX0_lower_5 : decode cX0_lower 5 = .ok (.iload_n 1, 1) := by decide +kernel
theorem dX0_lower_6 : decode cX0_lower 6 = .ok (.iconst 4, 1) := by decide +kernel
theorem dX0_lower_7 : decode cX0_lower 7 = .ok (.invokevirtual 58, 3) := by decide +kernel
theorem dX0_lower_10 : decode cX0_lower 10 = .ok (.iload_n 2, 1) := by decide +kernel
theorem dX0_lower_11 : decode cX0_lower 11 = .ok (.isub, 1) := by decide +kernel
theorem dX0_lower_12 : decode cX0_lower 12 = .ok (.invokestatic 92, 3) := by decide +kernel
theorem dX0_lower_15 : decode cX0_lower 15 = .ok (.invokevirtual 54, 3) := by decide +kernel
theorem dX0_lower_18 : decode cX0_lower 18 = .ok (.return_, 1) := by decide +kernel
def rX0_lower : Room := { frames := 1, cells := 0, slots := 0, locals := 23 }
def vX0_lower (E0 : ES) (p1 : Int32) (p2 : Int32) : ES := (vX0_put E0 p1 (4 : Int32) (jmax (0 : Int32) ((vX0_trait E0 p1 (4 : Int32)) - p2)))
def kX0_lower (E0 : ES) (p1 : Int32) (p2 : Int32) : Prop := (kX0_trait E0 p1 (4 : Int32)) ∧ (kX0_put E0 p1 (4 : Int32) (jmax (0 : Int32) ((vX0_trait E0 p1 (4 : Int32)) - p2))) ∧ True
set_option maxHeartbeats 4000000 in
set_option maxRecDepth 100000 in
theorem hX0_lower (l : Launch) (D : va_G) (K : JK) (G : JG) (a : Nat → Nat) (E0 : ES) (p1 : Int32) (p2 : Int32) (hk : kX0_lower E0 p1 p2) (sz : Nat) : Met l yX0_lower (.code yX0_lower cX0_lower 3 none :: jGW) rX0_lower (jPre D (jT K) G [.ref (a 0), .int p1, .int p2] (wE K a E0) sz) (jQv D (jT K) (wE K a (vX0_lower E0 p1 p2)) (va_A (wE K a E0) sz)) 0 0 (va_A (wE K a E0) sz) := by
  refine jEv (by decide) (Nat.le_of_ble_eq_true rfl) (fun p e s m below meth c A Q ls hat hP hD hS hl hend => ?_)
  obtain ⟨hx, hb, hml, hown, hts, hK, hZ, hA⟩ := hat
  have hl : lv_has ls 3 [(0, .ref (a 0)), (1, .int p1), (2, .int p2)] := hl
  have hV := vX0_lower.eq_1 E0 p1 p2
  rw [kX0_lower] at hk
  refine lv_aload_n hx hb dX0_lower_0 rfl (lv_at hl 0 rfl) ?_
  refine lv_iload_n hx hb dX0_lower_1 rfl (lv_at hl 1 rfl) ?_
  refine lv_iconst (v := (4 : Int32)) hx hb dX0_lower_2 (by decide) ?_
  refine lv_iconst (v := (0 : Int32)) hx hb dX0_lower_3 (by decide) ?_
  refine lv_aload_n hx hb dX0_lower_4 rfl (lv_at hl 0 rfl) ?_
  refine lv_iload_n hx hb dX0_lower_5 rfl (lv_at hl 1 rfl) ?_
  refine lv_iconst (v := (4 : Int32)) hx hb dX0_lower_6 (by decide) ?_
  obtain ⟨h3, hk⟩ := hk
  refine jci0 (jrunV (As := [.int p1, .int (4 : Int32)]) (rest := [.int (0 : Int32), .int (4 : Int32), .int p1, .ref (a 0)]) hx hb hml hown hts hK hZ hA hP hD hS hl.1 mf_X0_trait kl_X0_58 ⟨rfl, rfl, Nat.le_of_ble_eq_true rfl, Nat.le_of_ble_eq_true rfl⟩ ⟨Nat.zero_le _, Nat.zero_le _⟩ [0, 1, 2, 3, 4] rfl (js3 K a E0) rfl rfl rfl (hX0_trait l D K G a E0 p1 (4 : Int32) h3 _) rfl rfl (Nat.le_of_ble_eq_true rfl) dX0_lower_7) hA hP hD hS [0, 1, 2, 3, 4] (js3 K a E0) (fun H locs hP hS => ?_)
  refine lv_iload_n hx hb dX0_lower_10 rfl (lv_at hl 2 rfl) ?_
  refine lv_isub hx hb dX0_lower_11 ?_
  refine mmax_X0_92 hx hb (hml.trans hl.1.symm) hts hown (Nat.le_of_ble_eq_true rfl) (Nat.le_of_ble_eq_true rfl) (Nat.zero_le _) (Nat.zero_le _) dX0_lower_12 ?_
  obtain ⟨h4, hk⟩ := hk
  refine jcv (jrunV (As := [.int p1, .int (4 : Int32), .int (jmax (0 : Int32) ((vX0_trait E0 p1 (4 : Int32)) - p2))]) (rest := []) hx hb hml hown hts hK hZ hA hP hD hS hl.1 mf_X0_put kl_X0_54 ⟨rfl, rfl, Nat.le_of_ble_eq_true rfl, Nat.le_of_ble_eq_true rfl⟩ ⟨Nat.zero_le _, Nat.zero_le _⟩ [0, 1, 2, 3, 4] rfl (js3 K a E0) rfl rfl rfl (hX0_put l D K G a E0 p1 (4 : Int32) (jmax (0 : Int32) ((vX0_trait E0 p1 (4 : Int32)) - p2)) h4 _) rfl rfl (Nat.le_of_ble_eq_true rfl) dX0_lower_15) hA hP hD hS [0, 1, 2, 3, 4] (js3 K a E0) (jh4 K a E0 (vX0_put E0 p1 (4 : Int32) (jmax (0 : Int32) ((vX0_trait E0 p1 (4 : Int32)) - p2)))) (fun H locs hP hD hS => ?_)
  have hP := jeP (jp5 K a E0 (vX0_put E0 p1 (4 : Int32) (jmax (0 : Int32) ((vX0_trait E0 p1 (4 : Int32)) - p2)))) hP
  have hD := jeD (jp5 K a E0 (vX0_put E0 p1 (4 : Int32) (jmax (0 : Int32) ((vX0_trait E0 p1 (4 : Int32)) - p2)))) hD
  exact hend _ _ _ _ (by rw [hV]; exact hP) (by rw [hV]; exact hD) hS dX0_lower_18
theorem jf14 (K : JK) (a : Nat → Nat) (E : ES) (v : Int32) : (wE K a E).set 0 ((a 0), .inr (0, ([.ref (a 1), .ref (a 2), .ref (a 3), .ref (a 4), .int (e_things E), .int (e_day E), .int (e_z E)] : List Value).set 5 (.int v))) = (wE K a (e_s_day E v)) := rfl
theorem dX0_passDay_0 : decode cX0_passDay 0 = .ok (.aload_n 0, 1) := by decide +kernel
theorem dX0_passDay_1 : decode cX0_passDay 1 = .ok (.getfield 23, 3) := by decide +kernel
theorem dX0_passDay_4 : decode cX0_passDay 4 = .ok (.aload_n 0, 1) := by decide +kernel
theorem dX0_passDay_5 : decode cX0_passDay 5 = .ok (.getfield 36, 3) := by decide +kernel
theorem dX0_passDay_8 : decode cX0_passDay 8 = .ok (.bipush 6, 2) := by decide +kernel
theorem dX0_passDay_10 : decode cX0_passDay 10 = .ok (.irem, 1) := by decide +kernel
theorem dX0_passDay_11 : decode cX0_passDay 11 = .ok (.iaload, 1) := by decide +kernel
theorem dX0_passDay_12 : decode cX0_passDay 12 = .ok (.istore_n 1, 1) := by decide +kernel
theorem dX0_passDay_13 : decode cX0_passDay 13 = .ok (.iload_n 1, 1) := by decide +kernel
theorem dX0_passDay_14 : decode cX0_passDay 14 = .ok (.invokestatic 117, 3) := by decide +kernel
theorem dX0_passDay_17 : decode cX0_passDay 17 = .ok (.istore_n 2, 1) := by decide +kernel
theorem dX0_passDay_18 : decode cX0_passDay 18 = .ok (.iload_n 2, 1) := by decide +kernel
theorem dX0_passDay_19 : decode cX0_passDay 19 = .ok (.aload_n 0, 1) := by decide +kernel
theorem dX0_passDay_20 : decode cX0_passDay 20 = .ok (.getfield 32, 3) := by decide +kernel
theorem dX0_passDay_23 : decode cX0_passDay 23 = .ok (.if_icmp .ge 17, 3) := by decide +kernel
theorem dX0_passDay_26 : decode cX0_passDay 26 = .ok (.aload_n 0, 1) := by decide +kernel
theorem dX0_passDay_27 : decode cX0_passDay 27 = .ok (.iload_n 2, 1) := by decide +kernel
theorem dX0_passDay_28 : decode cX0_passDay 28 = .ok (.aload_n 0, 1) := by decide +kernel
theorem dX0_passDay_29 : decode cX0_passDay 29 = .ok (.iload_n 2, 1) := by decide +kernel
theorem dX0_passDay_30 : decode cX0_passDay 30 = .ok (.iload_n 1, 1) := by decide +kernel
theorem dX0_passDay_31 : decode cX0_passDay 31 = .ok (.invokestatic 120, 3) := by decide +kernel
theorem dX0_passDay_34 : decode cX0_passDay 34 = .ok (.invokevirtual 123, 3) := by decide +kernel
theorem dX0_passDay_37 : decode cX0_passDay 37 = .ok (.invokevirtual 125, 3) := by decide +kernel
theorem dX0_passDay_40 : decode cX0_passDay 40 = .ok (.aload_n 0, 1) := by decide +kernel
theorem dX0_passDay_41 : decode cX0_passDay 41 = .ok (.getfield 36, 3) := by decide +kernel
theorem dX0_passDay_44 : decode cX0_passDay 44 = .ok (.bipush 10, 2) := by decide +kernel
theorem dX0_passDay_46 : decode cX0_passDay 46 = .ok (.irem, 1) := by decide +kernel
theorem dX0_passDay_47 : decode cX0_passDay 47 = .ok (.bipush 9, 2) := by decide +kernel
theorem dX0_passDay_49 : decode cX0_passDay 49 = .ok (.if_icmp .ne 7, 3) := by decide +kernel
theorem dX0_passDay_52 : decode cX0_passDay 52 = .ok (.iconst 1, 1) := by decide +kernel
theorem dX0_passDay_53 : decode cX0_passDay 53 = .ok (.goto 4, 3) := by decide +kernel
theorem dX0_passDay_56 : decode cX0_passDay 56 = .ok (.iconst 0, 1) := by decide +kernel
theorem dX0_passDay_57 : decode cX0_passDay 57 = .ok (.istore_n 3, 1) := by decide +kernel
theorem dX0_passDay_58 : decode cX0_passDay 58 = .ok (.iconst 0, 1) := by decide +kernel
theorem dX0_passDay_59 : decode cX0_passDay 59 = .ok (.istore 4, 2) := by decide +kernel
theorem dX0_passDay_61 : decode cX0_passDay 61 = .ok (.iload 4, 2) := by decide +kernel
theorem dX0_passDay_63 : decode cX0_passDay 63 = .ok (.aload_n 0, 1) := by decide +kernel
theorem dX0_passDay_64 : decode cX0_passDay 64 = .ok (.getfield 32, 3) := by decide +kernel
theorem dX0_passDay_67 : decode cX0_passDay 67 = .ok (.if_icmp .ge 64, 3) := by decide +kernel
theorem dX0_passDay_70 : decode cX0_passDay 70 = .ok (.aload_n 0, 1) := by decide +kernel
theorem dX0_passDay_71 : decode cX0_passDay 71 = .ok (.iload 4, 2) := by decide +kernel
theorem dX0_passDay_73 : decode cX0_passDay 73 = .ok (.iconst 2, 1) := by decide +kernel
theorem dX0_passDay_74 : decode cX0_passDay 74 = .ok (.sipush 9999, 3) := by decide +kernel
theorem dX0_passDay_77 : decode cX0_passDay 77 = .ok (.aload_n 0, 1) := by decide +kernel
theorem dX0_passDay_78 : decode cX0_passDay 78 = .ok (.iload 4, 2) := by decide +kernel
theorem dX0_passDay_80 : decode cX0_passDay 80 = .ok (.iconst 2, 1) := by decide +kernel
theorem dX0_passDay_81 : decode cX0_passDay 81 = .ok (.invokevirtual 58, 3) := by decide +kernel
theorem dX0_passDay_84 : decode cX0_passDay 84 = .ok (.iconst 1, 1) := by decide +kernel
theorem dX0_passDay_85 : decode cX0_passDay 85 = .ok (.iadd, 1) := by decide +kernel
theorem dX0_passDay_86 : decode cX0_passDay 86 = .ok (.invokestatic 100, 3) := by decide +kernel
theorem dX0_passDay_89 : decode cX0_passDay 89 = .ok (.invokevirtual 54, 3) := by decide +kernel
theorem dX0_passDay_92 : decode cX0_passDay 92 = .ok (.aload_n 0, 1) := by decide +kernel
theorem dX0_passDay_93 : decode cX0_passDay 93 = .ok (.iload 4, 2) := by decide +kernel
theorem dX0_passDay_95 : decode cX0_passDay 95 = .ok (.iconst 5, 1) := by decide +kernel
theorem dX0_passDay_96 : decode cX0_passDay 96 = .ok (.sipush 9999, 3) := by decide +kernel
theorem dX0_passDay_99 : decode cX0_passDay 99 = .ok (.aload_n 0, 1) := by decide +kernel
theorem dX0_passDay_100 : decode cX0_passDay 100 = .ok (.iload 4, 2) := by decide +kernel
theorem dX0_passDay_102 : decode cX0_passDay 102 = .ok (.iconst 5, 1) := by decide +kernel
theorem dX0_passDay_103 : decode cX0_passDay 103 = .ok (.invokevirtual 58, 3) := by decide +kernel
theorem dX0_passDay_106 : decode cX0_passDay 106 = .ok (.iconst 1, 1) := by decide +kernel
theorem dX0_passDay_107 : decode cX0_passDay 107 = .ok (.iadd, 1) := by decide +kernel
theorem dX0_passDay_108 : decode cX0_passDay 108 = .ok (.invokestatic 100, 3) := by decide +kernel
theorem dX0_passDay_111 : decode cX0_passDay 111 = .ok (.invokevirtual 54, 3) := by decide +kernel
theorem dX0_passDay_114 : decode cX0_passDay 114 = .ok (.iload_n 3, 1) := by decide +kernel
theorem dX0_passDay_115 : decode cX0_passDay 115 = .ok (.ifCond .eq 10, 3) := by decide +kernel
theorem dX0_passDay_118 : decode cX0_passDay 118 = .ok (.aload_n 0, 1) := by decide +kernel
theorem dX0_passDay_119 : decode cX0_passDay 119 = .ok (.iload 4, 2) := by decide +kernel
theorem dX0_passDay_121 : decode cX0_passDay 121 = .ok (.iconst 1, 1) := by decide +kernel
theorem dX0_passDay_122 : decode cX0_passDay 122 = .ok (.invokevirtual 125, 3) := by decide +kernel
theorem dX0_passDay_125 : decode cX0_passDay 125 = .ok (.iinc 4 1, 3) := by decide +kernel
theorem dX0_passDay_128 : decode cX0_passDay 128 = .ok (.goto (-67), 3) := by decide +kernel
theorem dX0_passDay_131 : decode cX0_passDay 131 = .ok (.aload_n 0, 1) := by decide +kernel
theorem dX0_passDay_132 : decode cX0_passDay 132 = .ok (.ldc 129, 2) := by decide +kernel
theorem dX0_passDay_134 : decode cX0_passDay 134 = .ok (.aload_n 0, 1) := by decide +kernel
theorem dX0_passDay_135 : decode cX0_passDay 135 = .ok (.getfield 36, 3) := by decide +kernel
theorem dX0_passDay_138 : decode cX0_passDay 138 = .ok (.iconst 1, 1) := by decide +kernel
theorem dX0_passDay_139 : decode cX0_passDay 139 = .ok (.iadd, 1) := by decide +kernel
theorem dX0_passDay_140 : decode cX0_passDay 140 = .ok (.invokestatic 100, 3) := by decide +kernel
theorem dX0_passDay_143 : decode cX0_passDay 143 = .ok (.putfield 36, 3) := by decide +kernel
theorem dX0_passDay_146 : decode cX0_passDay 146 = .ok (.return_, 1) := by decide +kernel
def rX0_passDay : Room := { frames := 2, cells := 0, slots := 0, locals := 45 }
def vX0_passDay_c125 (k : ES → Int32 → Int32 → ES) (E : ES) (x3 : Int32) (x4 : Int32) : ES := (k E x3 (x4 + (1 : Int32)))
def kX0_passDay_c125 (q : ES → Int32 → Int32 → Prop) (E : ES) (x3 : Int32) (x4 : Int32) : Prop := (q E x3 (x4 + (1 : Int32)))
def vX0_passDay_c114 (k : ES → Int32 → Int32 → ES) (E : ES) (x3 : Int32) (x4 : Int32) : ES := if (x3 = 0) then (vX0_passDay_c125 k E x3 x4) else (vX0_passDay_c125 k (vX0_lower E x4 (1 : Int32)) x3 x4)
def kX0_passDay_c114 (q : ES → Int32 → Int32 → Prop) (E : ES) (x3 : Int32) (x4 : Int32) : Prop := ((x3 = 0) → ((kX0_passDay_c125 q E x3 x4))) ∧ (¬ (x3 = 0) → ((kX0_lower E x4 (1 : Int32)) ∧ (kX0_passDay_c125 q (vX0_lower E x4 (1 : Int32)) x3 x4)))
def vX0_passDay_c92 (k : ES → Int32 → Int32 → ES) (E : ES) (x3 : Int32) (x4 : Int32) : ES := (vX0_passDay_c114 k (vX0_put E x4 (5 : Int32) (jmin (9999 : Int32) ((vX0_trait E x4 (5 : Int32)) + (1 : Int32)))) x3 x4)
def kX0_passDay_c92 (q : ES → Int32 → Int32 → Prop) (E : ES) (x3 : Int32) (x4 : Int32) : Prop := (kX0_trait E x4 (5 : Int32)) ∧ (kX0_put E x4 (5 : Int32) (jmin (9999 : Int32) ((vX0_trait E x4 (5 : Int32)) + (1 : Int32)))) ∧ (kX0_passDay_c114 q (vX0_put E x4 (5 : Int32) (jmin (9999 : Int32) ((vX0_trait E x4 (5 : Int32)) + (1 : Int32)))) x3 x4)
def vX0_passDay_c61 : Nat → ES → Int32 → Int32 → ES
  | 0, E, x3, x4 => (E)
  | n + 1, E, x3, x4 => if ((e_things E) ≤ x4) then (e_s_day E (jmin (99999 : Int32) ((e_day E) + (1 : Int32)))) else (vX0_passDay_c92 (fun E x3 x4 => vX0_passDay_c61 n E x3 x4) (vX0_put E x4 (2 : Int32) (jmin (9999 : Int32) ((vX0_trait E x4 (2 : Int32)) + (1 : Int32)))) x3 x4)
def kX0_passDay_c61 : Nat → ES → Int32 → Int32 → Prop
  | 0, _, _, _ => False
  | n + 1, E, x3, x4 => (((e_things E) ≤ x4) → True) ∧ (¬ ((e_things E) ≤ x4) → ((kX0_trait E x4 (2 : Int32)) ∧ (kX0_put E x4 (2 : Int32) (jmin (9999 : Int32) ((vX0_trait E x4 (2 : Int32)) + (1 : Int32)))) ∧ (kX0_passDay_c92 (fun E x3 x4 => kX0_passDay_c61 n E x3 x4) (vX0_put E x4 (2 : Int32) (jmin (9999 : Int32) ((vX0_trait E x4 (2 : Int32)) + (1 : Int32)))) x3 x4)))
def vX0_passDay_c57 (E : ES) (y0 : Int32) : ES := (vX0_passDay_c61 1024 E y0 (0 : Int32))
def kX0_passDay_c57 (E : ES) (y0 : Int32) : Prop := (kX0_passDay_c61 1024 E y0 (0 : Int32))
def vX0_passDay_c40 (E : ES) : ES := if ((jrem (e_day E) (10 : Int32)) = (9 : Int32)) then (vX0_passDay_c57 E (1 : Int32)) else (vX0_passDay_c57 E (0 : Int32))
def kX0_passDay_c40 (E : ES) : Prop := (((jrem (e_day E) (10 : Int32)) = (9 : Int32)) → ((kX0_passDay_c57 E (1 : Int32)))) ∧ (¬ ((jrem (e_day E) (10 : Int32)) = (9 : Int32)) → ((kX0_passDay_c57 E (0 : Int32))))
def vX0_passDay (E0 : ES) : ES := if ((e_things E0) ≤ (vX4_thingOfBlow ((e_list E0) ((jrem (e_day E0) (6 : Int32))).toNatClampNeg))) then (vX0_passDay_c40 E0) else (vX0_passDay_c40 (vX0_lower E0 (vX4_thingOfBlow ((e_list E0) ((jrem (e_day E0) (6 : Int32))).toNatClampNeg)) (vX0_hurt E0 (vX4_thingOfBlow ((e_list E0) ((jrem (e_day E0) (6 : Int32))).toNatClampNeg)) (vX4_forceOfBlow ((e_list E0) ((jrem (e_day E0) (6 : Int32))).toNatClampNeg)))))
def kX0_passDay (E0 : ES) : Prop := (vp_in (jrem (e_day E0) (6 : Int32)) 6) ∧ (((e_things E0) ≤ (vX4_thingOfBlow ((e_list E0) ((jrem (e_day E0) (6 : Int32))).toNatClampNeg))) → ((kX0_passDay_c40 E0))) ∧ (¬ ((e_things E0) ≤ (vX4_thingOfBlow ((e_list E0) ((jrem (e_day E0) (6 : Int32))).toNatClampNeg))) → ((kX0_hurt E0 (vX4_thingOfBlow ((e_list E0) ((jrem (e_day E0) (6 : Int32))).toNatClampNeg)) (vX4_forceOfBlow ((e_list E0) ((jrem (e_day E0) (6 : Int32))).toNatClampNeg))) ∧ (kX0_lower E0 (vX4_thingOfBlow ((e_list E0) ((jrem (e_day E0) (6 : Int32))).toNatClampNeg)) (vX0_hurt E0 (vX4_thingOfBlow ((e_list E0) ((jrem (e_day E0) (6 : Int32))).toNatClampNeg)) (vX4_forceOfBlow ((e_list E0) ((jrem (e_day E0) (6 : Int32))).toNatClampNeg)))) ∧ (kX0_passDay_c40 (vX0_lower E0 (vX4_thingOfBlow ((e_list E0) ((jrem (e_day E0) (6 : Int32))).toNatClampNeg)) (vX0_hurt E0 (vX4_thingOfBlow ((e_list E0) ((jrem (e_day E0) (6 : Int32))).toNatClampNeg)) (vX4_forceOfBlow ((e_list E0) ((jrem (e_day E0) (6 : Int32))).toNatClampNeg)))))))
set_option maxHeartbeats 4000000 in
set_option maxRecDepth 100000 in
theorem hX0_passDay (l : Launch) (D : va_G) (K : JK) (G : JG) (a : Nat → Nat) (E0 : ES) (hk : kX0_passDay E0) (sz : Nat) : Met l yX0_passDay (.code yX0_passDay cX0_passDay 5 none :: jGW) rX0_passDay (jPre D (jT K) G [.ref (a 0)] (wE K a E0) sz) (jQv D (jT K) (wE K a (vX0_passDay E0)) (va_A (wE K a E0) sz)) 0 0 (va_A (wE K a E0) sz) := by
  refine jEv (by decide) (Nat.le_of_ble_eq_true rfl) (fun p e s m below meth c A Q ls hat hP hD hS hl hend => ?_)
  obtain ⟨hx, hb, hml, hown, hts, hK, hZ, hA⟩ := hat
  have hl : lv_has ls 5 [(0, .ref (a 0))] := hl
  have hc61 : ∀ (n : Nat) (E : ES) (x3 : Int32) (x4 : Int32) (H : Heap) (locs : List Loc) (ls : Array Slot), (vX0_passDay E0) = vX0_passDay_c61 n E x3 x4 → kX0_passDay_c61 n E x3 x4 → va_P D vwCl (wE K a E) H → va_D A (wE K a E) → va_S A s.heap H locs → lv_has ls 5 [(0, .ref (a 0)), (3, .int x3), (4, .int x4)] → W p l e rX0_passDay s m ([.ref (a 0)] : List Value).toArray below meth c H locs 0 0 Q (F0 m 61 ls []) := by
    intro n
    induction n with
    | zero =>
      intro E x3 x4 H locs ls hV hk hP hD hS hl
      exact False.elim hk
    | succ n ih =>
      have hc125 : ∀ (E : ES) (x3 : Int32) (x4 : Int32) (H : Heap) (locs : List Loc) (ls : Array Slot), (vX0_passDay E0) = vX0_passDay_c125 (fun E x3 x4 => vX0_passDay_c61 n E x3 x4) E x3 x4 → kX0_passDay_c125 (fun E x3 x4 => kX0_passDay_c61 n E x3 x4) E x3 x4 → va_P D vwCl (wE K a E) H → va_D A (wE K a E) → va_S A s.heap H locs → lv_has ls 5 [(0, .ref (a 0)), (3, .int x3), (4, .int x4)] → W p l e rX0_passDay s m ([.ref (a 0)] : List Value).toArray below meth c H locs 0 0 Q (F0 m 125 ls []) := by
        intro E x3 x4 H locs ls hV hk hP hD hS hl
        rw [vX0_passDay_c125] at hV
        rw [kX0_passDay_c125] at hk
        refine lv_iinc (v := (x4 + (1 : Int32))) (lv' := [(4, .int (x4 + (1 : Int32))), (0, .ref (a 0)), (3, .int x3)]) hx hb dX0_passDay_125 hl (k := 2) rfl rfl (by decide) rfl (fun ls hl => ?_)
        refine lv_goto (tgt := 61) hx hb dX0_passDay_128 (by decide) ?_
        exact ih E x3 (x4 + (1 : Int32)) _ _ _ hV hk hP hD hS (lv_sub hl [1, 2, 0] rfl)
      have hc114 : ∀ (E : ES) (x3 : Int32) (x4 : Int32) (H : Heap) (locs : List Loc) (ls : Array Slot), (vX0_passDay E0) = vX0_passDay_c114 (fun E x3 x4 => vX0_passDay_c61 n E x3 x4) E x3 x4 → kX0_passDay_c114 (fun E x3 x4 => kX0_passDay_c61 n E x3 x4) E x3 x4 → va_P D vwCl (wE K a E) H → va_D A (wE K a E) → va_S A s.heap H locs → lv_has ls 5 [(0, .ref (a 0)), (3, .int x3), (4, .int x4)] → W p l e rX0_passDay s m ([.ref (a 0)] : List Value).toArray below meth c H locs 0 0 Q (F0 m 114 ls []) := by
        intro E x3 x4 H locs ls hV hk hP hD hS hl
        rw [vX0_passDay_c114] at hV
        rw [kX0_passDay_c114] at hk
        refine lv_iload_n hx hb dX0_passDay_114 rfl (lv_at hl 1 rfl) ?_
        refine lv_if_eq (tgt := 125) hx hb dX0_passDay_115 (by decide) (fun c13 => ?_) (fun c13 => ?_)
        · have hV := hV.trans (if_pos c13)
          have hk := hk.1 c13
          exact hc125 E x3 x4 _ _ _ hV hk hP hD hS (lv_sub hl [0, 1, 2] rfl)
        · have hV := hV.trans (if_neg c13)
          have hk := hk.2 c13
          refine lv_aload_n hx hb dX0_passDay_118 rfl (lv_at hl 0 rfl) ?_
          refine lv_iload hx hb dX0_passDay_119 (lv_at hl 2 rfl) ?_
          refine lv_iconst (v := (1 : Int32)) hx hb dX0_passDay_121 (by decide) ?_
          obtain ⟨h14, hk⟩ := hk
          refine jcv (jrunV (As := [.int x4, .int (1 : Int32)]) (rest := []) hx hb hml hown hts hK hZ hA hP hD hS hl.1 mf_X0_lower kl_X0_125 ⟨rfl, rfl, Nat.le_of_ble_eq_true rfl, Nat.le_of_ble_eq_true rfl⟩ ⟨Nat.zero_le _, Nat.zero_le _⟩ [0, 1, 2, 3, 4] rfl (js3 K a E) rfl rfl rfl (hX0_lower l D K G a E x4 (1 : Int32) h14 _) rfl rfl (Nat.le_of_ble_eq_true rfl) dX0_passDay_122) hA hP hD hS [0, 1, 2, 3, 4] (js3 K a E) (jh4 K a E (vX0_lower E x4 (1 : Int32))) (fun H locs hP hD hS => ?_)
          have hP := jeP (jp5 K a E (vX0_lower E x4 (1 : Int32))) hP
          have hD := jeD (jp5 K a E (vX0_lower E x4 (1 : Int32))) hD
          exact hc125 (vX0_lower E x4 (1 : Int32)) x3 x4 _ _ _ hV hk hP hD hS (lv_sub hl [0, 1, 2] rfl)
      have hc92 : ∀ (E : ES) (x3 : Int32) (x4 : Int32) (H : Heap) (locs : List Loc) (ls : Array Slot), (vX0_passDay E0) = vX0_passDay_c92 (fun E x3 x4 => vX0_passDay_c61 n E x3 x4) E x3 x4 → kX0_passDay_c92 (fun E x3 x4 => kX0_passDay_c61 n E x3 x4) E x3 x4 → va_P D vwCl (wE K a E) H → va_D A (wE K a E) → va_S A s.heap H locs → lv_has ls 5 [(0, .ref (a 0)), (3, .int x3), (4, .int x4)] → W p l e rX0_passDay s m ([.ref (a 0)] : List Value).toArray below meth c H locs 0 0 Q (F0 m 92 ls []) := by
        intro E x3 x4 H locs ls hV hk hP hD hS hl
        rw [vX0_passDay_c92] at hV
        rw [kX0_passDay_c92] at hk
        refine lv_aload_n hx hb dX0_passDay_92 rfl (lv_at hl 0 rfl) ?_
        refine lv_iload hx hb dX0_passDay_93 (lv_at hl 2 rfl) ?_
        refine lv_iconst (v := (5 : Int32)) hx hb dX0_passDay_95 (by decide) ?_
        refine lv_sipush (v := (9999 : Int32)) hx hb dX0_passDay_96 (by decide) ?_
        refine lv_aload_n hx hb dX0_passDay_99 rfl (lv_at hl 0 rfl) ?_
        refine lv_iload hx hb dX0_passDay_100 (lv_at hl 2 rfl) ?_
        refine lv_iconst (v := (5 : Int32)) hx hb dX0_passDay_102 (by decide) ?_
        obtain ⟨h15, hk⟩ := hk
        refine jci0 (jrunV (As := [.int x4, .int (5 : Int32)]) (rest := [.int (9999 : Int32), .int (5 : Int32), .int x4, .ref (a 0)]) hx hb hml hown hts hK hZ hA hP hD hS hl.1 mf_X0_trait kl_X0_58 ⟨rfl, rfl, Nat.le_of_ble_eq_true rfl, Nat.le_of_ble_eq_true rfl⟩ ⟨Nat.zero_le _, Nat.zero_le _⟩ [0, 1, 2, 3, 4] rfl (js3 K a E) rfl rfl rfl (hX0_trait l D K G a E x4 (5 : Int32) h15 _) rfl rfl (Nat.le_of_ble_eq_true rfl) dX0_passDay_103) hA hP hD hS [0, 1, 2, 3, 4] (js3 K a E) (fun H locs hP hS => ?_)
        refine lv_iconst (v := (1 : Int32)) hx hb dX0_passDay_106 (by decide) ?_
        refine lv_iadd hx hb dX0_passDay_107 ?_
        refine mmin_X0_100 hx hb (hml.trans hl.1.symm) hts hown (Nat.le_of_ble_eq_true rfl) (Nat.le_of_ble_eq_true rfl) (Nat.zero_le _) (Nat.zero_le _) dX0_passDay_108 ?_
        obtain ⟨h16, hk⟩ := hk
        refine jcv (jrunV (As := [.int x4, .int (5 : Int32), .int (jmin (9999 : Int32) ((vX0_trait E x4 (5 : Int32)) + (1 : Int32)))]) (rest := []) hx hb hml hown hts hK hZ hA hP hD hS hl.1 mf_X0_put kl_X0_54 ⟨rfl, rfl, Nat.le_of_ble_eq_true rfl, Nat.le_of_ble_eq_true rfl⟩ ⟨Nat.zero_le _, Nat.zero_le _⟩ [0, 1, 2, 3, 4] rfl (js3 K a E) rfl rfl rfl (hX0_put l D K G a E x4 (5 : Int32) (jmin (9999 : Int32) ((vX0_trait E x4 (5 : Int32)) + (1 : Int32))) h16 _) rfl rfl (Nat.le_of_ble_eq_true rfl) dX0_passDay_111) hA hP hD hS [0, 1, 2, 3, 4] (js3 K a E) (jh4 K a E (vX0_put E x4 (5 : Int32) (jmin (9999 : Int32) ((vX0_trait E x4 (5 : Int32)) + (1 : Int32))))) (fun H locs hP hD hS => ?_)
        have hP := jeP (jp5 K a E (vX0_put E x4 (5 : Int32) (jmin (9999 : Int32) ((vX0_trait E x4 (5 : Int32)) + (1 : Int32))))) hP
        have hD := jeD (jp5 K a E (vX0_put E x4 (5 : Int32) (jmin (9999 : Int32) ((vX0_trait E x4 (5 : Int32)) + (1 : Int32))))) hD
        exact hc114 (vX0_put E x4 (5 : Int32) (jmin (9999 : Int32) ((vX0_trait E x4 (5 : Int32)) + (1 : Int32)))) x3 x4 _ _ _ hV hk hP hD hS (lv_sub hl [0, 1, 2] rfl)
      intro E x3 x4 H locs ls hV hk hP hD hS hl
      rw [vX0_passDay_c61] at hV
      rw [kX0_passDay_c61] at hk
      refine lv_iload hx hb dX0_passDay_61 (lv_at hl 2 rfl) ?_
      refine lv_aload_n hx hb dX0_passDay_63 rfl (lv_at hl 0 rfl) ?_
      refine gf_X0_32 (v := .int (e_things E)) hx hb hts hown hK hZ hP (0) rfl rfl dX0_passDay_64 ?_
      refine lv_icmp_ge (tgt := 131) hx hb dX0_passDay_67 (by decide) (fun c17 => ?_) (fun c17 => ?_)
      · have hV := hV.trans (if_pos c17)
        have hk := hk.1 c17
        refine lv_aload_n hx hb dX0_passDay_131 rfl (lv_at hl 0 rfl) ?_
        refine lv_ldc (v := (99999 : Int32)) hx hb hown (hts _ kc_X0_129) dX0_passDay_132 ?_
        refine lv_aload_n hx hb dX0_passDay_134 rfl (lv_at hl 0 rfl) ?_
        refine gf_X0_36 (v := .int (e_day E)) hx hb hts hown hK hZ hP (0) rfl rfl dX0_passDay_135 ?_
        refine lv_iconst (v := (1 : Int32)) hx hb dX0_passDay_138 (by decide) ?_
        refine lv_iadd hx hb dX0_passDay_139 ?_
        refine mmin_X0_100 hx hb (hml.trans hl.1.symm) hts hown (Nat.le_of_ble_eq_true rfl) (Nat.le_of_ble_eq_true rfl) (Nat.zero_le _) (Nat.zero_le _) dX0_passDay_140 ?_
        refine pf_X0_36 (v := .int (jmin (99999 : Int32) ((e_day E) + (1 : Int32)))) hx hb hts hown hK hZ hP hD hS (0) rfl rfl rfl (Nat.le_of_ble_eq_true rfl) dX0_passDay_143 (fun H locs hP hD hS => ?_)
        have hP := jeP (jf14 K a E (jmin (99999 : Int32) ((e_day E) + (1 : Int32)))) hP
        have hD := jeD (jf14 K a E (jmin (99999 : Int32) ((e_day E) + (1 : Int32)))) hD
        exact hend _ _ _ _ (by rw [hV]; exact hP) (by rw [hV]; exact hD) hS dX0_passDay_146
      · have hV := hV.trans (if_neg c17)
        have hk := hk.2 c17
        refine lv_aload_n hx hb dX0_passDay_70 rfl (lv_at hl 0 rfl) ?_
        refine lv_iload hx hb dX0_passDay_71 (lv_at hl 2 rfl) ?_
        refine lv_iconst (v := (2 : Int32)) hx hb dX0_passDay_73 (by decide) ?_
        refine lv_sipush (v := (9999 : Int32)) hx hb dX0_passDay_74 (by decide) ?_
        refine lv_aload_n hx hb dX0_passDay_77 rfl (lv_at hl 0 rfl) ?_
        refine lv_iload hx hb dX0_passDay_78 (lv_at hl 2 rfl) ?_
        refine lv_iconst (v := (2 : Int32)) hx hb dX0_passDay_80 (by decide) ?_
        obtain ⟨h18, hk⟩ := hk
        refine jci0 (jrunV (As := [.int x4, .int (2 : Int32)]) (rest := [.int (9999 : Int32), .int (2 : Int32), .int x4, .ref (a 0)]) hx hb hml hown hts hK hZ hA hP hD hS hl.1 mf_X0_trait kl_X0_58 ⟨rfl, rfl, Nat.le_of_ble_eq_true rfl, Nat.le_of_ble_eq_true rfl⟩ ⟨Nat.zero_le _, Nat.zero_le _⟩ [0, 1, 2, 3, 4] rfl (js3 K a E) rfl rfl rfl (hX0_trait l D K G a E x4 (2 : Int32) h18 _) rfl rfl (Nat.le_of_ble_eq_true rfl) dX0_passDay_81) hA hP hD hS [0, 1, 2, 3, 4] (js3 K a E) (fun H locs hP hS => ?_)
        refine lv_iconst (v := (1 : Int32)) hx hb dX0_passDay_84 (by decide) ?_
        refine lv_iadd hx hb dX0_passDay_85 ?_
        refine mmin_X0_100 hx hb (hml.trans hl.1.symm) hts hown (Nat.le_of_ble_eq_true rfl) (Nat.le_of_ble_eq_true rfl) (Nat.zero_le _) (Nat.zero_le _) dX0_passDay_86 ?_
        obtain ⟨h19, hk⟩ := hk
        refine jcv (jrunV (As := [.int x4, .int (2 : Int32), .int (jmin (9999 : Int32) ((vX0_trait E x4 (2 : Int32)) + (1 : Int32)))]) (rest := []) hx hb hml hown hts hK hZ hA hP hD hS hl.1 mf_X0_put kl_X0_54 ⟨rfl, rfl, Nat.le_of_ble_eq_true rfl, Nat.le_of_ble_eq_true rfl⟩ ⟨Nat.zero_le _, Nat.zero_le _⟩ [0, 1, 2, 3, 4] rfl (js3 K a E) rfl rfl rfl (hX0_put l D K G a E x4 (2 : Int32) (jmin (9999 : Int32) ((vX0_trait E x4 (2 : Int32)) + (1 : Int32))) h19 _) rfl rfl (Nat.le_of_ble_eq_true rfl) dX0_passDay_89) hA hP hD hS [0, 1, 2, 3, 4] (js3 K a E) (jh4 K a E (vX0_put E x4 (2 : Int32) (jmin (9999 : Int32) ((vX0_trait E x4 (2 : Int32)) + (1 : Int32))))) (fun H locs hP hD hS => ?_)
        have hP := jeP (jp5 K a E (vX0_put E x4 (2 : Int32) (jmin (9999 : Int32) ((vX0_trait E x4 (2 : Int32)) + (1 : Int32))))) hP
        have hD := jeD (jp5 K a E (vX0_put E x4 (2 : Int32) (jmin (9999 : Int32) ((vX0_trait E x4 (2 : Int32)) + (1 : Int32))))) hD
        exact hc92 (vX0_put E x4 (2 : Int32) (jmin (9999 : Int32) ((vX0_trait E x4 (2 : Int32)) + (1 : Int32)))) x3 x4 _ _ _ hV hk hP hD hS (lv_sub hl [0, 1, 2] rfl)
  have hc57 : ∀ (E : ES) (y0 : Int32) (H : Heap) (locs : List Loc) (ls : Array Slot), (vX0_passDay E0) = vX0_passDay_c57 E y0 → kX0_passDay_c57 E y0 → va_P D vwCl (wE K a E) H → va_D A (wE K a E) → va_S A s.heap H locs → lv_has ls 5 [(0, .ref (a 0))] → W p l e rX0_passDay s m ([.ref (a 0)] : List Value).toArray below meth c H locs 0 0 Q (F0 m 57 ls [.int y0]) := by
    intro E y0 H locs ls hV hk hP hD hS hl
    rw [vX0_passDay_c57] at hV
    rw [kX0_passDay_c57] at hk
    refine lv_istore_n (lv' := [(3, .int y0), (0, .ref (a 0))]) hx hb dX0_passDay_57 rfl hl (by decide) rfl (fun ls hl => ?_)
    refine lv_iconst (v := (0 : Int32)) hx hb dX0_passDay_58 (by decide) ?_
    refine lv_istore (lv' := [(4, .int (0 : Int32)), (3, .int y0), (0, .ref (a 0))]) hx hb dX0_passDay_59 hl (by decide) rfl (fun ls hl => ?_)
    exact hc61 1024 E y0 (0 : Int32) _ _ _ hV hk hP hD hS (lv_sub hl [2, 1, 0] rfl)
  have hc40 : ∀ (E : ES) (H : Heap) (locs : List Loc) (ls : Array Slot), (vX0_passDay E0) = vX0_passDay_c40 E → kX0_passDay_c40 E → va_P D vwCl (wE K a E) H → va_D A (wE K a E) → va_S A s.heap H locs → lv_has ls 5 [(0, .ref (a 0))] → W p l e rX0_passDay s m ([.ref (a 0)] : List Value).toArray below meth c H locs 0 0 Q (F0 m 40 ls []) := by
    intro E H locs ls hV hk hP hD hS hl
    rw [vX0_passDay_c40] at hV
    rw [kX0_passDay_c40] at hk
    refine lv_aload_n hx hb dX0_passDay_40 rfl (lv_at hl 0 rfl) ?_
    refine gf_X0_36 (v := .int (e_day E)) hx hb hts hown hK hZ hP (0) rfl rfl dX0_passDay_41 ?_
    refine lv_bipush (v := (10 : Int32)) hx hb dX0_passDay_44 (by decide) ?_
    refine j_irem hx hb dX0_passDay_46 (by decide) ?_
    refine lv_bipush (v := (9 : Int32)) hx hb dX0_passDay_47 (by decide) ?_
    refine lv_icmp_ne (tgt := 56) hx hb dX0_passDay_49 (by decide) (fun c20 => ?_) (fun c20 => ?_)
    · have hV := hV.trans (if_neg c20)
      have hk := hk.2 c20
      refine lv_iconst (v := (0 : Int32)) hx hb dX0_passDay_56 (by decide) ?_
      exact hc57 E (0 : Int32) _ _ _ hV hk hP hD hS (lv_sub hl [0] rfl)
    · have hV := hV.trans (if_pos c20)
      have hk := hk.1 c20
      refine lv_iconst (v := (1 : Int32)) hx hb dX0_passDay_52 (by decide) ?_
      refine lv_goto (tgt := 57) hx hb dX0_passDay_53 (by decide) ?_
      exact hc57 E (1 : Int32) _ _ _ hV hk hP hD hS (lv_sub hl [0] rfl)
  have hV := vX0_passDay.eq_1 E0
  rw [kX0_passDay] at hk
  refine lv_aload_n hx hb dX0_passDay_0 rfl (lv_at hl 0 rfl) ?_
  refine gf_X0_23 (v := .ref (a 2)) hx hb hts hown hK hZ hP (0) rfl rfl dX0_passDay_1 ?_
  refine lv_aload_n hx hb dX0_passDay_4 rfl (lv_at hl 0 rfl) ?_
  refine gf_X0_36 (v := .int (e_day E0)) hx hb hts hown hK hZ hP (0) rfl rfl dX0_passDay_5 ?_
  refine lv_bipush (v := (6 : Int32)) hx hb dX0_passDay_8 (by decide) ?_
  refine j_irem hx hb dX0_passDay_10 (by decide) ?_
  obtain ⟨h21, hk⟩ := hk
  refine va_iald hx hb hK hP (2) 0 rfl rfl h21 dX0_passDay_11 ?_
  refine lv_istore_n (lv' := [(1, .int ((e_list E0) ((jrem (e_day E0) (6 : Int32))).toNatClampNeg)), (0, .ref (a 0))]) hx hb dX0_passDay_12 rfl hl (by decide) rfl (fun ls hl => ?_)
  refine lv_iload_n hx hb dX0_passDay_13 rfl (lv_at hl 0 rfl) ?_
  refine jci0 (jrunSN (As := [.int ((e_list E0) ((jrem (e_day E0) (6 : Int32))).toNatClampNeg)]) (rest := []) hx hb hml hown hts hK hZ hA hP hD hS hl.1 mf_X4_thingOfBlow kl_X0_117 ⟨rfl, rfl, Nat.le_of_ble_eq_true rfl, Nat.le_of_ble_eq_true rfl⟩ ⟨Nat.zero_le _, Nat.zero_le _⟩ [] rfl rfl (hX4_thingOfBlow l D K G ((e_list E0) ((jrem (e_day E0) (6 : Int32))).toNatClampNeg) _) rfl rfl (Nat.le_of_ble_eq_true rfl) dX0_passDay_14) hA hP hD hS [] rfl (fun H locs hP hS => ?_)
  refine lv_istore_n (lv' := [(2, .int (vX4_thingOfBlow ((e_list E0) ((jrem (e_day E0) (6 : Int32))).toNatClampNeg))), (1, .int ((e_list E0) ((jrem (e_day E0) (6 : Int32))).toNatClampNeg)), (0, .ref (a 0))]) hx hb dX0_passDay_17 rfl hl (by decide) rfl (fun ls hl => ?_)
  refine lv_iload_n hx hb dX0_passDay_18 rfl (lv_at hl 0 rfl) ?_
  refine lv_aload_n hx hb dX0_passDay_19 rfl (lv_at hl 2 rfl) ?_
  refine gf_X0_32 (v := .int (e_things E0)) hx hb hts hown hK hZ hP (0) rfl rfl dX0_passDay_20 ?_
  refine lv_icmp_ge (tgt := 40) hx hb dX0_passDay_23 (by decide) (fun c22 => ?_) (fun c22 => ?_)
  · have hV := hV.trans (if_pos c22)
    have hk := hk.1 c22
    exact hc40 E0 _ _ _ hV hk hP hD hS (lv_sub hl [2] rfl)
  · have hV := hV.trans (if_neg c22)
    have hk := hk.2 c22
    refine lv_aload_n hx hb dX0_passDay_26 rfl (lv_at hl 2 rfl) ?_
    refine lv_iload_n hx hb dX0_passDay_27 rfl (lv_at hl 0 rfl) ?_
    refine lv_aload_n hx hb dX0_passDay_28 rfl (lv_at hl 2 rfl) ?_
    refine lv_iload_n hx hb dX0_passDay_29 rfl (lv_at hl 0 rfl) ?_
    refine lv_iload_n hx hb dX0_passDay_30 rfl (lv_at hl 1 rfl) ?_
    refine jci0 (jrunSN (As := [.int ((e_list E0) ((jrem (e_day E0) (6 : Int32))).toNatClampNeg)]) (rest := [.int (vX4_thingOfBlow ((e_list E0) ((jrem (e_day E0) (6 : Int32))).toNatClampNeg)), .ref (a 0), .int (vX4_thingOfBlow ((e_list E0) ((jrem (e_day E0) (6 : Int32))).toNatClampNeg)), .ref (a 0)]) hx hb hml hown hts hK hZ hA hP hD hS hl.1 mf_X4_forceOfBlow kl_X0_120 ⟨rfl, rfl, Nat.le_of_ble_eq_true rfl, Nat.le_of_ble_eq_true rfl⟩ ⟨Nat.zero_le _, Nat.zero_le _⟩ [] rfl rfl (hX4_forceOfBlow l D K G ((e_list E0) ((jrem (e_day E0) (6 : Int32))).toNatClampNeg) _) rfl rfl (Nat.le_of_ble_eq_true rfl) dX0_passDay_31) hA hP hD hS [] rfl (fun H locs hP hS => ?_)
    obtain ⟨h23, hk⟩ := hk
    refine jci0 (jrunV (As := [.int (vX4_thingOfBlow ((e_list E0) ((jrem (e_day E0) (6 : Int32))).toNatClampNeg)), .int (vX4_forceOfBlow ((e_list E0) ((jrem (e_day E0) (6 : Int32))).toNatClampNeg))]) (rest := [.int (vX4_thingOfBlow ((e_list E0) ((jrem (e_day E0) (6 : Int32))).toNatClampNeg)), .ref (a 0)]) hx hb hml hown hts hK hZ hA hP hD hS hl.1 mf_X0_hurt kl_X0_123 ⟨rfl, rfl, Nat.le_of_ble_eq_true rfl, Nat.le_of_ble_eq_true rfl⟩ ⟨Nat.zero_le _, Nat.zero_le _⟩ [0, 1, 2, 3, 4] rfl (js3 K a E0) rfl rfl rfl (hX0_hurt l D K G a E0 (vX4_thingOfBlow ((e_list E0) ((jrem (e_day E0) (6 : Int32))).toNatClampNeg)) (vX4_forceOfBlow ((e_list E0) ((jrem (e_day E0) (6 : Int32))).toNatClampNeg)) h23 _) rfl rfl (Nat.le_of_ble_eq_true rfl) dX0_passDay_34) hA hP hD hS [0, 1, 2, 3, 4] (js3 K a E0) (fun H locs hP hS => ?_)
    obtain ⟨h24, hk⟩ := hk
    refine jcv (jrunV (As := [.int (vX4_thingOfBlow ((e_list E0) ((jrem (e_day E0) (6 : Int32))).toNatClampNeg)), .int (vX0_hurt E0 (vX4_thingOfBlow ((e_list E0) ((jrem (e_day E0) (6 : Int32))).toNatClampNeg)) (vX4_forceOfBlow ((e_list E0) ((jrem (e_day E0) (6 : Int32))).toNatClampNeg)))]) (rest := []) hx hb hml hown hts hK hZ hA hP hD hS hl.1 mf_X0_lower kl_X0_125 ⟨rfl, rfl, Nat.le_of_ble_eq_true rfl, Nat.le_of_ble_eq_true rfl⟩ ⟨Nat.zero_le _, Nat.zero_le _⟩ [0, 1, 2, 3, 4] rfl (js3 K a E0) rfl rfl rfl (hX0_lower l D K G a E0 (vX4_thingOfBlow ((e_list E0) ((jrem (e_day E0) (6 : Int32))).toNatClampNeg)) (vX0_hurt E0 (vX4_thingOfBlow ((e_list E0) ((jrem (e_day E0) (6 : Int32))).toNatClampNeg)) (vX4_forceOfBlow ((e_list E0) ((jrem (e_day E0) (6 : Int32))).toNatClampNeg))) h24 _) rfl rfl (Nat.le_of_ble_eq_true rfl) dX0_passDay_37) hA hP hD hS [0, 1, 2, 3, 4] (js3 K a E0) (jh4 K a E0 (vX0_lower E0 (vX4_thingOfBlow ((e_list E0) ((jrem (e_day E0) (6 : Int32))).toNatClampNeg)) (vX0_hurt E0 (vX4_thingOfBlow ((e_list E0) ((jrem (e_day E0) (6 : Int32))).toNatClampNeg)) (vX4_forceOfBlow ((e_list E0) ((jrem (e_day E0) (6 : Int32))).toNatClampNeg))))) (fun H locs hP hD hS => ?_)
    have hP := jeP (jp5 K a E0 (vX0_lower E0 (vX4_thingOfBlow ((e_list E0) ((jrem (e_day E0) (6 : Int32))).toNatClampNeg)) (vX0_hurt E0 (vX4_thingOfBlow ((e_list E0) ((jrem (e_day E0) (6 : Int32))).toNatClampNeg)) (vX4_forceOfBlow ((e_list E0) ((jrem (e_day E0) (6 : Int32))).toNatClampNeg))))) hP
    have hD := jeD (jp5 K a E0 (vX0_lower E0 (vX4_thingOfBlow ((e_list E0) ((jrem (e_day E0) (6 : Int32))).toNatClampNeg)) (vX0_hurt E0 (vX4_thingOfBlow ((e_list E0) ((jrem (e_day E0) (6 : Int32))).toNatClampNeg)) (vX4_forceOfBlow ((e_list E0) ((jrem (e_day E0) (6 : Int32))).toNatClampNeg))))) hD
    exact hc40 (vX0_lower E0 (vX4_thingOfBlow ((e_list E0) ((jrem (e_day E0) (6 : Int32))).toNatClampNeg)) (vX0_hurt E0 (vX4_thingOfBlow ((e_list E0) ((jrem (e_day E0) (6 : Int32))).toNatClampNeg)) (vX4_forceOfBlow ((e_list E0) ((jrem (e_day E0) (6 : Int32))).toNatClampNeg)))) _ _ _ hV hk hP hD hS (lv_sub hl [2] rfl)
theorem dX0_passDays_0 : decode cX0_passDays 0 = .ok (.iconst 0, 1) := by decide +kernel
theorem dX0_passDays_1 : decode cX0_passDays 1 = .ok (.istore_n 2, 1) := by decide +kernel
theorem dX0_passDays_2 : decode cX0_passDays 2 = .ok (.iload_n 2, 1) := by decide +kernel
theorem dX0_passDays_3 : decode cX0_passDays 3 = .ok (.iload_n 1, 1) := by decide +kernel
theorem dX0_passDays_4 : decode cX0_passDays 4 = .ok (.if_icmp .ge 13, 3) := by decide +kernel
theorem dX0_passDays_7 : decode cX0_passDays 7 = .ok (.aload_n 0, 1) := by decide +kernel
theorem dX0_passDays_8 : decode cX0_passDays 8 = .ok (.invokevirtual 114, 3) := by decide +kernel
theorem dX0_passDays_11 : decode cX0_passDays 11 = .ok (.iinc 2 1, 3) := by decide +kernel
theorem dX0_passDays_14 : decode cX0_passDays 14 = .ok (.goto (-12), 3) := by decide +kernel
theorem dX0_passDays_17 : decode cX0_passDays 17 = .ok (.return_, 1) := by decide +kernel
def rX0_passDays : Room := { frames := 3, cells := 0, slots := 0, locals := 69 }
def vX0_passDays_c11 (p1 : Int32) (k : ES → Int32 → ES) (E : ES) (x2 : Int32) : ES := (k E (x2 + (1 : Int32)))
def kX0_passDays_c11 (p1 : Int32) (q : ES → Int32 → Prop) (E : ES) (x2 : Int32) : Prop := (q E (x2 + (1 : Int32)))
def vX0_passDays_c2 (p1 : Int32) : Nat → ES → Int32 → ES
  | 0, E, x2 => (E)
  | n + 1, E, x2 => if (p1 ≤ x2) then E else (vX0_passDays_c11 p1 (fun E x2 => vX0_passDays_c2 p1 n E x2) (vX0_passDay E) x2)
def kX0_passDays_c2 (p1 : Int32) : Nat → ES → Int32 → Prop
  | 0, _, _ => False
  | n + 1, E, x2 => ((p1 ≤ x2) → True) ∧ (¬ (p1 ≤ x2) → ((kX0_passDay E) ∧ (kX0_passDays_c11 p1 (fun E x2 => kX0_passDays_c2 p1 n E x2) (vX0_passDay E) x2)))
def vX0_passDays (E0 : ES) (p1 : Int32) : ES := (vX0_passDays_c2 p1 1024 E0 (0 : Int32))
def kX0_passDays (E0 : ES) (p1 : Int32) : Prop := (kX0_passDays_c2 p1 1024 E0 (0 : Int32))
set_option maxHeartbeats 4000000 in
set_option maxRecDepth 100000 in
theorem hX0_passDays (l : Launch) (D : va_G) (K : JK) (G : JG) (a : Nat → Nat) (E0 : ES) (p1 : Int32) (hk : kX0_passDays E0 p1) (sz : Nat) : Met l yX0_passDays (.code yX0_passDays cX0_passDays 3 none :: jGW) rX0_passDays (jPre D (jT K) G [.ref (a 0), .int p1] (wE K a E0) sz) (jQv D (jT K) (wE K a (vX0_passDays E0 p1)) (va_A (wE K a E0) sz)) 0 0 (va_A (wE K a E0) sz) := by
  refine jEv (by decide) (Nat.le_of_ble_eq_true rfl) (fun p e s m below meth c A Q ls hat hP hD hS hl hend => ?_)
  obtain ⟨hx, hb, hml, hown, hts, hK, hZ, hA⟩ := hat
  have hl : lv_has ls 3 [(0, .ref (a 0)), (1, .int p1)] := hl
  have hc2 : ∀ (n : Nat) (E : ES) (x2 : Int32) (H : Heap) (locs : List Loc) (ls : Array Slot), (vX0_passDays E0 p1) = vX0_passDays_c2 p1 n E x2 → kX0_passDays_c2 p1 n E x2 → va_P D vwCl (wE K a E) H → va_D A (wE K a E) → va_S A s.heap H locs → lv_has ls 3 [(0, .ref (a 0)), (1, .int p1), (2, .int x2)] → W p l e rX0_passDays s m ([.ref (a 0), .int p1] : List Value).toArray below meth c H locs 0 0 Q (F0 m 2 ls []) := by
    intro n
    induction n with
    | zero =>
      intro E x2 H locs ls hV hk hP hD hS hl
      exact False.elim hk
    | succ n ih =>
      have hc11 : ∀ (E : ES) (x2 : Int32) (H : Heap) (locs : List Loc) (ls : Array Slot), (vX0_passDays E0 p1) = vX0_passDays_c11 p1 (fun E x2 => vX0_passDays_c2 p1 n E x2) E x2 → kX0_passDays_c11 p1 (fun E x2 => kX0_passDays_c2 p1 n E x2) E x2 → va_P D vwCl (wE K a E) H → va_D A (wE K a E) → va_S A s.heap H locs → lv_has ls 3 [(0, .ref (a 0)), (1, .int p1), (2, .int x2)] → W p l e rX0_passDays s m ([.ref (a 0), .int p1] : List Value).toArray below meth c H locs 0 0 Q (F0 m 11 ls []) := by
        intro E x2 H locs ls hV hk hP hD hS hl
        rw [vX0_passDays_c11] at hV
        rw [kX0_passDays_c11] at hk
        refine lv_iinc (v := (x2 + (1 : Int32))) (lv' := [(2, .int (x2 + (1 : Int32))), (0, .ref (a 0)), (1, .int p1)]) hx hb dX0_passDays_11 hl (k := 2) rfl rfl (by decide) rfl (fun ls hl => ?_)
        refine lv_goto (tgt := 2) hx hb dX0_passDays_14 (by decide) ?_
        exact ih E (x2 + (1 : Int32)) _ _ _ hV hk hP hD hS (lv_sub hl [1, 2, 0] rfl)
      intro E x2 H locs ls hV hk hP hD hS hl
      rw [vX0_passDays_c2] at hV
      rw [kX0_passDays_c2] at hk
      refine lv_iload_n hx hb dX0_passDays_2 rfl (lv_at hl 2 rfl) ?_
      refine lv_iload_n hx hb dX0_passDays_3 rfl (lv_at hl 1 rfl) ?_
      refine lv_icmp_ge (tgt := 17) hx hb dX0_passDays_4 (by decide) (fun c3 => ?_) (fun c3 => ?_)
      · have hV := hV.trans (if_pos c3)
        have hk := hk.1 c3
        exact hend _ _ _ _ (by rw [hV]; exact hP) (by rw [hV]; exact hD) hS dX0_passDays_17
      · have hV := hV.trans (if_neg c3)
        have hk := hk.2 c3
        refine lv_aload_n hx hb dX0_passDays_7 rfl (lv_at hl 0 rfl) ?_
        obtain ⟨h4, hk⟩ := hk
        refine jcv (jrunV (As := []) (rest := []) hx hb hml hown hts hK hZ hA hP hD hS hl.1 mf_X0_passDay kl_X0_114 ⟨rfl, rfl, Nat.le_of_ble_eq_true rfl, Nat.le_of_ble_eq_true rfl⟩ ⟨Nat.zero_le _, Nat.zero_le _⟩ [0, 1, 2, 3, 4] rfl (js3 K a E) rfl rfl rfl (hX0_passDay l D K G a E h4 _) rfl rfl (Nat.le_of_ble_eq_true rfl) dX0_passDays_8) hA hP hD hS [0, 1, 2, 3, 4] (js3 K a E) (jh4 K a E (vX0_passDay E)) (fun H locs hP hD hS => ?_)
        have hP := jeP (jp5 K a E (vX0_passDay E)) hP
        have hD := jeD (jp5 K a E (vX0_passDay E)) hD
        exact hc11 (vX0_passDay E) x2 _ _ _ hV hk hP hD hS (lv_sub hl [0, 1, 2] rfl)
  have hV := vX0_passDays.eq_1 E0 p1
  rw [kX0_passDays] at hk
  refine lv_iconst (v := (0 : Int32)) hx hb dX0_passDays_0 (by decide) ?_
  refine lv_istore_n (lv' := [(2, .int (0 : Int32)), (0, .ref (a 0)), (1, .int p1)]) hx hb dX0_passDays_1 rfl hl (by decide) rfl (fun ls hl => ?_)
  exact hc2 1024 E0 (0 : Int32) _ _ _ hV hk hP hD hS (lv_sub hl [1, 2, 0] rfl)
theorem dX0_worth_0 : decode cX0_worth 0 = .ok (.aload_n 0, 1) := by decide +kernel
theorem dX0_worth_1 : decode cX0_worth 1 = .ok (.iload_n 1, 1) := by decide +kernel
theorem dX0_worth_2 : decode cX0_worth 2 = .ok (.iconst 0, 1) := by decide +kernel
theorem dX0_worth_3 : decode cX0_worth 3 = .ok (.invokevirtual 58, 3) := by decide +kernel
theorem dX0_worth_6 : decode cX0_worth 6 = .ok (.aload_n 0, 1) := by decide +kernel
theorem dX0_worth_7 : decode cX0_worth 7 = .ok (.iload_n 1, 1) := by decide +kernel
theorem dX0_worth_8 : decode cX0_worth 8 = .ok (.iconst 1, 1) := by decide +kernel
theorem dX0_worth_9 : decode cX0_worth 9 = .ok (.invokevirtual 58, 3) := by decide +kernel
theorem dX0_worth_12 : decode cX0_worth 12 = .ok (.aload_n 0, 1) := by decide +kernel
theorem dX0_worth_13 : decode cX0_worth 13 = .ok (.iload_n 1, 1) := by decide +kernel
theorem dX0_worth_14 : decode cX0_worth 14 = .ok (.iconst 2, 1) := by decide +kernel
theorem dX0_worth_15 : decode cX0_worth 15 = .ok (.invokevirtual 58, 3) := by decide +kernel
theorem dX0_worth_18 : decode cX0_worth 18 = .ok (.invokestatic 84, 3) := by decide +kernel
theorem dX0_worth_21 : decode cX0_worth 21 = .ok (.ireturn, 1) := by decide +kernel
def rX0_worth : Room := { frames := 3, cells := 0, slots := 0, locals := 59 }
def vX0_worth (E0 : ES) (p1 : Int32) : Int32 := (vX1_worth (vX0_trait E0 p1 (0 : Int32)) (vX0_trait E0 p1 (1 : Int32)) (vX0_trait E0 p1 (2 : Int32)))
def kX0_worth (E0 : ES) (p1 : Int32) : Prop := (kX0_trait E0 p1 (0 : Int32)) ∧ (kX0_trait E0 p1 (1 : Int32)) ∧ (kX0_trait E0 p1 (2 : Int32)) ∧ (kX1_worth (vX0_trait E0 p1 (0 : Int32)) (vX0_trait E0 p1 (1 : Int32)) (vX0_trait E0 p1 (2 : Int32))) ∧ True
set_option maxHeartbeats 4000000 in
set_option maxRecDepth 100000 in
theorem hX0_worth (l : Launch) (D : va_G) (K : JK) (G : JG) (a : Nat → Nat) (E0 : ES) (p1 : Int32) (hk : kX0_worth E0 p1) (sz : Nat) : Met l yX0_worth (.code yX0_worth cX0_worth 2 (some .int) :: jGW) rX0_worth (jPre D (jT K) G [.ref (a 0), .int p1] (wE K a E0) sz) (jQi D (jT K) (vX0_worth E0 p1) (wE K a E0) (va_A (wE K a E0) sz)) 0 0 (va_A (wE K a E0) sz) := by
  refine jEi (by decide) (Nat.le_of_ble_eq_true rfl) (fun p e s m below meth c A Q ls hat hP hD hS hl hend => ?_)
  obtain ⟨hx, hb, hml, hown, hts, hK, hZ, hA⟩ := hat
  have hl : lv_has ls 2 [(0, .ref (a 0)), (1, .int p1)] := hl
  have hV := vX0_worth.eq_1 E0 p1
  rw [kX0_worth] at hk
  refine lv_aload_n hx hb dX0_worth_0 rfl (lv_at hl 0 rfl) ?_
  refine lv_iload_n hx hb dX0_worth_1 rfl (lv_at hl 1 rfl) ?_
  refine lv_iconst (v := (0 : Int32)) hx hb dX0_worth_2 (by decide) ?_
  obtain ⟨h5, hk⟩ := hk
  refine jci0 (jrunV (As := [.int p1, .int (0 : Int32)]) (rest := []) hx hb hml hown hts hK hZ hA hP hD hS hl.1 mf_X0_trait kl_X0_58 ⟨rfl, rfl, Nat.le_of_ble_eq_true rfl, Nat.le_of_ble_eq_true rfl⟩ ⟨Nat.zero_le _, Nat.zero_le _⟩ [0, 1, 2, 3, 4] rfl (js3 K a E0) rfl rfl rfl (hX0_trait l D K G a E0 p1 (0 : Int32) h5 _) rfl rfl (Nat.le_of_ble_eq_true rfl) dX0_worth_3) hA hP hD hS [0, 1, 2, 3, 4] (js3 K a E0) (fun H locs hP hS => ?_)
  refine lv_aload_n hx hb dX0_worth_6 rfl (lv_at hl 0 rfl) ?_
  refine lv_iload_n hx hb dX0_worth_7 rfl (lv_at hl 1 rfl) ?_
  refine lv_iconst (v := (1 : Int32)) hx hb dX0_worth_8 (by decide) ?_
  obtain ⟨h6, hk⟩ := hk
  refine jci0 (jrunV (As := [.int p1, .int (1 : Int32)]) (rest := [.int (vX0_trait E0 p1 (0 : Int32))]) hx hb hml hown hts hK hZ hA hP hD hS hl.1 mf_X0_trait kl_X0_58 ⟨rfl, rfl, Nat.le_of_ble_eq_true rfl, Nat.le_of_ble_eq_true rfl⟩ ⟨Nat.zero_le _, Nat.zero_le _⟩ [0, 1, 2, 3, 4] rfl (js3 K a E0) rfl rfl rfl (hX0_trait l D K G a E0 p1 (1 : Int32) h6 _) rfl rfl (Nat.le_of_ble_eq_true rfl) dX0_worth_9) hA hP hD hS [0, 1, 2, 3, 4] (js3 K a E0) (fun H locs hP hS => ?_)
  refine lv_aload_n hx hb dX0_worth_12 rfl (lv_at hl 0 rfl) ?_
  refine lv_iload_n hx hb dX0_worth_13 rfl (lv_at hl 1 rfl) ?_
  refine lv_iconst (v := (2 : Int32)) hx hb dX0_worth_14 (by decide) ?_
  obtain ⟨h7, hk⟩ := hk
  refine jci0 (jrunV (As := [.int p1, .int (2 : Int32)]) (rest := [.int (vX0_trait E0 p1 (1 : Int32)), .int (vX0_trait E0 p1 (0 : Int32))]) hx hb hml hown hts hK hZ hA hP hD hS hl.1 mf_X0_trait kl_X0_58 ⟨rfl, rfl, Nat.le_of_ble_eq_true rfl, Nat.le_of_ble_eq_true rfl⟩ ⟨Nat.zero_le _, Nat.zero_le _⟩ [0, 1, 2, 3, 4] rfl (js3 K a E0) rfl rfl rfl (hX0_trait l D K G a E0 p1 (2 : Int32) h7 _) rfl rfl (Nat.le_of_ble_eq_true rfl) dX0_worth_15) hA hP hD hS [0, 1, 2, 3, 4] (js3 K a E0) (fun H locs hP hS => ?_)
  obtain ⟨h8, hk⟩ := hk
  refine jci0 (jrunS (As := [.int (vX0_trait E0 p1 (0 : Int32)), .int (vX0_trait E0 p1 (1 : Int32)), .int (vX0_trait E0 p1 (2 : Int32))]) (rest := []) hx hb hml hown hts hK hZ hA hP hD hS hl.1 mf_X1_worth kl_X0_84 ⟨rfl, rfl, Nat.le_of_ble_eq_true rfl, Nat.le_of_ble_eq_true rfl⟩ ⟨Nat.zero_le _, Nat.zero_le _⟩ [] rfl rfl (hX1_worth l D K G (vX0_trait E0 p1 (0 : Int32)) (vX0_trait E0 p1 (1 : Int32)) (vX0_trait E0 p1 (2 : Int32)) h8 _) rfl rfl (Nat.le_of_ble_eq_true rfl) dX0_worth_18) hA hP hD hS [] rfl (fun H locs hP hS => ?_)
  exact hend _ _ _ _ _ hP hD hS hV.symm rfl dX0_worth_21
theorem dX0_told_0 : decode cX0_told 0 = .ok (.iload_n 2, 1) := by decide +kernel
theorem dX0_told_1 : decode cX0_told 1 = .ok (.tableswitch 75 7 11 #[35, 51, 57, 63, 69], 35) := by decide +kernel
theorem dX0_told_36 : decode cX0_told 36 = .ok (.aload_n 0, 1) := by decide +kernel
theorem dX0_told_37 : decode cX0_told 37 = .ok (.iload_n 1, 1) := by decide +kernel
theorem dX0_told_38 : decode cX0_told 38 = .ok (.iconst 0, 1) := by decide +kernel
theorem dX0_told_39 : decode cX0_told 39 = .ok (.invokevirtual 58, 3) := by decide +kernel
theorem dX0_told_42 : decode cX0_told 42 = .ok (.aload_n 0, 1) := by decide +kernel
theorem dX0_told_43 : decode cX0_told 43 = .ok (.iload_n 1, 1) := by decide +kernel
theorem dX0_told_44 : decode cX0_told 44 = .ok (.iconst 1, 1) := by decide +kernel
theorem dX0_told_45 : decode cX0_told 45 = .ok (.invokevirtual 58, 3) := by decide +kernel
theorem dX0_told_48 : decode cX0_told 48 = .ok (.invokestatic 62, 3) := by decide +kernel
theorem dX0_told_51 : decode cX0_told 51 = .ok (.ireturn, 1) := by decide +kernel
theorem dX0_told_52 : decode cX0_told 52 = .ok (.aload_n 0, 1) := by decide +kernel
theorem dX0_told_53 : decode cX0_told 53 = .ok (.iload_n 1, 1) := by decide +kernel
theorem dX0_told_54 : decode cX0_told 54 = .ok (.invokevirtual 67, 3) := by decide +kernel
theorem dX0_told_57 : decode cX0_told 57 = .ok (.ireturn, 1) := by decide +kernel
theorem dX0_told_58 : decode cX0_told 58 = .ok (.aload_n 0, 1) := by decide +kernel
theorem dX0_told_59 : decode cX0_told 59 = .ok (.iload_n 1, 1) := by decide +kernel
theorem dX0_told_60 : decode cX0_told 60 = .ok (.invokevirtual 71, 3) := by decide +kernel
theorem dX0_told_63 : decode cX0_told 63 = .ok (.ireturn, 1) := by decide +kernel
theorem dX0_told_64 : decode cX0_told 64 = .ok (.aload_n 0, 1) := by decide +kernel
theorem dX0_told_65 : decode cX0_told 65 = .ok (.iload_n 1, 1) := by decide +kernel
theorem dX0_told_66 : decode cX0_told 66 = .ok (.invokevirtual 74, 3) := by decide +kernel
theorem dX0_told_69 : decode cX0_told 69 = .ok (.ireturn, 1) := by decide +kernel
theorem dX0_told_70 : decode cX0_told 70 = .ok (.aload_n 0, 1) := by decide +kernel
theorem dX0_told_71 : decode cX0_told 71 = .ok (.iload_n 1, 1) := by decide +kernel
theorem dX0_told_72 : decode cX0_told 72 = .ok (.invokevirtual 77, 3) := by decide +kernel
theorem dX0_told_75 : decode cX0_told 75 = .ok (.ireturn, 1) := by decide +kernel
theorem dX0_told_76 : decode cX0_told 76 = .ok (.iload_n 2, 1) := by decide +kernel
theorem dX0_told_77 : decode cX0_told 77 = .ok (.iconst 0, 1) := by decide +kernel
theorem dX0_told_78 : decode cX0_told 78 = .ok (.bipush 6, 2) := by decide +kernel
theorem dX0_told_80 : decode cX0_told 80 = .ok (.invokestatic 80, 3) := by decide +kernel
theorem dX0_told_83 : decode cX0_told 83 = .ok (.ifCond .eq 12, 3) := by decide +kernel
theorem dX0_told_86 : decode cX0_told 86 = .ok (.aload_n 0, 1) := by decide +kernel
theorem dX0_told_87 : decode cX0_told 87 = .ok (.iload_n 1, 1) := by decide +kernel
theorem dX0_told_88 : decode cX0_told 88 = .ok (.iload_n 2, 1) := by decide +kernel
theorem dX0_told_89 : decode cX0_told 89 = .ok (.invokevirtual 58, 3) := by decide +kernel
theorem dX0_told_92 : decode cX0_told 92 = .ok (.goto 4, 3) := by decide +kernel
theorem dX0_told_95 : decode cX0_told 95 = .ok (.iconst 0, 1) := by decide +kernel
theorem dX0_told_96 : decode cX0_told 96 = .ok (.ireturn, 1) := by decide +kernel
def rX0_told : Room := { frames := 4, cells := 0, slots := 0, locals := 86 }
def vX0_told (E0 : ES) (p1 : Int32) (p2 : Int32) : Int32 := if (p2 = (7 : Int32)) then (vX1_lives (vX0_trait E0 p1 (0 : Int32)) (vX0_trait E0 p1 (1 : Int32))) else if (p2 = (8 : Int32)) then (vX0_worth E0 p1) else if (p2 = (9 : Int32)) then (vX0_fair E0 p1) else if (p2 = (10 : Int32)) then (vX0_worse E0 p1) else if (p2 = (11 : Int32)) then (vX0_award E0 p1) else if ((vX4_within p2 (0 : Int32) (6 : Int32)) = 0) then (0 : Int32) else (vX0_trait E0 p1 p2)
def kX0_told (E0 : ES) (p1 : Int32) (p2 : Int32) : Prop := ((p2 = (7 : Int32)) → ((kX0_trait E0 p1 (0 : Int32)) ∧ (kX0_trait E0 p1 (1 : Int32)) ∧ True)) ∧ (¬ (p2 = (7 : Int32)) → (((p2 = (8 : Int32)) → ((kX0_worth E0 p1) ∧ True)) ∧ (¬ (p2 = (8 : Int32)) → (((p2 = (9 : Int32)) → ((kX0_fair E0 p1) ∧ True)) ∧ (¬ (p2 = (9 : Int32)) → (((p2 = (10 : Int32)) → ((kX0_worse E0 p1) ∧ True)) ∧ (¬ (p2 = (10 : Int32)) → (((p2 = (11 : Int32)) → ((kX0_award E0 p1) ∧ True)) ∧ (¬ (p2 = (11 : Int32)) → ((((vX4_within p2 (0 : Int32) (6 : Int32)) = 0) → True) ∧ (¬ ((vX4_within p2 (0 : Int32) (6 : Int32)) = 0) → ((kX0_trait E0 p1 p2) ∧ True))))))))))))
set_option maxHeartbeats 4000000 in
set_option maxRecDepth 100000 in
theorem hX0_told (l : Launch) (D : va_G) (K : JK) (G : JG) (a : Nat → Nat) (E0 : ES) (p1 : Int32) (p2 : Int32) (hk : kX0_told E0 p1 p2) (sz : Nat) : Met l yX0_told (.code yX0_told cX0_told 3 (some .int) :: jGW) rX0_told (jPre D (jT K) G [.ref (a 0), .int p1, .int p2] (wE K a E0) sz) (jQi D (jT K) (vX0_told E0 p1 p2) (wE K a E0) (va_A (wE K a E0) sz)) 0 0 (va_A (wE K a E0) sz) := by
  refine jEi (by decide) (Nat.le_of_ble_eq_true rfl) (fun p e s m below meth c A Q ls hat hP hD hS hl hend => ?_)
  obtain ⟨hx, hb, hml, hown, hts, hK, hZ, hA⟩ := hat
  have hl : lv_has ls 3 [(0, .ref (a 0)), (1, .int p1), (2, .int p2)] := hl
  have hV := vX0_told.eq_1 E0 p1 p2
  rw [kX0_told] at hk
  refine lv_iload_n hx hb dX0_told_0 rfl (lv_at hl 2 rfl) ?_
  by_cases c14 : (p2 = (7 : Int32))
  · have hV := hV.trans (if_pos c14)
    have hk := hk.1 c14
    refine lv_tableIn (off := 35) (tgt := 36) hx hb dX0_told_1 (by rw [c14]; decide) (by rw [c14]; decide) (by rw [c14]; rfl) (by decide) ?_
    refine lv_aload_n hx hb dX0_told_36 rfl (lv_at hl 0 rfl) ?_
    refine lv_iload_n hx hb dX0_told_37 rfl (lv_at hl 1 rfl) ?_
    refine lv_iconst (v := (0 : Int32)) hx hb dX0_told_38 (by decide) ?_
    obtain ⟨h25, hk⟩ := hk
    refine jci0 (jrunV (As := [.int p1, .int (0 : Int32)]) (rest := []) hx hb hml hown hts hK hZ hA hP hD hS hl.1 mf_X0_trait kl_X0_58 ⟨rfl, rfl, Nat.le_of_ble_eq_true rfl, Nat.le_of_ble_eq_true rfl⟩ ⟨Nat.zero_le _, Nat.zero_le _⟩ [0, 1, 2, 3, 4] rfl (js3 K a E0) rfl rfl rfl (hX0_trait l D K G a E0 p1 (0 : Int32) h25 _) rfl rfl (Nat.le_of_ble_eq_true rfl) dX0_told_39) hA hP hD hS [0, 1, 2, 3, 4] (js3 K a E0) (fun H locs hP hS => ?_)
    refine lv_aload_n hx hb dX0_told_42 rfl (lv_at hl 0 rfl) ?_
    refine lv_iload_n hx hb dX0_told_43 rfl (lv_at hl 1 rfl) ?_
    refine lv_iconst (v := (1 : Int32)) hx hb dX0_told_44 (by decide) ?_
    obtain ⟨h26, hk⟩ := hk
    refine jci0 (jrunV (As := [.int p1, .int (1 : Int32)]) (rest := [.int (vX0_trait E0 p1 (0 : Int32))]) hx hb hml hown hts hK hZ hA hP hD hS hl.1 mf_X0_trait kl_X0_58 ⟨rfl, rfl, Nat.le_of_ble_eq_true rfl, Nat.le_of_ble_eq_true rfl⟩ ⟨Nat.zero_le _, Nat.zero_le _⟩ [0, 1, 2, 3, 4] rfl (js3 K a E0) rfl rfl rfl (hX0_trait l D K G a E0 p1 (1 : Int32) h26 _) rfl rfl (Nat.le_of_ble_eq_true rfl) dX0_told_45) hA hP hD hS [0, 1, 2, 3, 4] (js3 K a E0) (fun H locs hP hS => ?_)
    refine jci0 (jrunS (As := [.int (vX0_trait E0 p1 (0 : Int32)), .int (vX0_trait E0 p1 (1 : Int32))]) (rest := []) hx hb hml hown hts hK hZ hA hP hD hS hl.1 mf_X1_lives kl_X0_62 ⟨rfl, rfl, Nat.le_of_ble_eq_true rfl, Nat.le_of_ble_eq_true rfl⟩ ⟨Nat.zero_le _, Nat.zero_le _⟩ [] rfl rfl (hX1_lives l D K G (vX0_trait E0 p1 (0 : Int32)) (vX0_trait E0 p1 (1 : Int32)) _) rfl rfl (Nat.le_of_ble_eq_true rfl) dX0_told_48) hA hP hD hS [] rfl (fun H locs hP hS => ?_)
    exact hend _ _ _ _ _ hP hD hS hV.symm rfl dX0_told_51
  · have hV := hV.trans (if_neg c14)
    have hk := hk.2 c14
    by_cases c15 : (p2 = (8 : Int32))
    · have hV := hV.trans (if_pos c15)
      have hk := hk.1 c15
      refine lv_tableIn (off := 51) (tgt := 52) hx hb dX0_told_1 (by rw [c15]; decide) (by rw [c15]; decide) (by rw [c15]; rfl) (by decide) ?_
      refine lv_aload_n hx hb dX0_told_52 rfl (lv_at hl 0 rfl) ?_
      refine lv_iload_n hx hb dX0_told_53 rfl (lv_at hl 1 rfl) ?_
      obtain ⟨h24, hk⟩ := hk
      refine jci0 (jrunV (As := [.int p1]) (rest := []) hx hb hml hown hts hK hZ hA hP hD hS hl.1 mf_X0_worth kl_X0_67 ⟨rfl, rfl, Nat.le_of_ble_eq_true rfl, Nat.le_of_ble_eq_true rfl⟩ ⟨Nat.zero_le _, Nat.zero_le _⟩ [0, 1, 2, 3, 4] rfl (js3 K a E0) rfl rfl rfl (hX0_worth l D K G a E0 p1 h24 _) rfl rfl (Nat.le_of_ble_eq_true rfl) dX0_told_54) hA hP hD hS [0, 1, 2, 3, 4] (js3 K a E0) (fun H locs hP hS => ?_)
      exact hend _ _ _ _ _ hP hD hS hV.symm rfl dX0_told_57
    · have hV := hV.trans (if_neg c15)
      have hk := hk.2 c15
      by_cases c16 : (p2 = (9 : Int32))
      · have hV := hV.trans (if_pos c16)
        have hk := hk.1 c16
        refine lv_tableIn (off := 57) (tgt := 58) hx hb dX0_told_1 (by rw [c16]; decide) (by rw [c16]; decide) (by rw [c16]; rfl) (by decide) ?_
        refine lv_aload_n hx hb dX0_told_58 rfl (lv_at hl 0 rfl) ?_
        refine lv_iload_n hx hb dX0_told_59 rfl (lv_at hl 1 rfl) ?_
        obtain ⟨h23, hk⟩ := hk
        refine jci0 (jrunV (As := [.int p1]) (rest := []) hx hb hml hown hts hK hZ hA hP hD hS hl.1 mf_X0_fair kl_X0_71 ⟨rfl, rfl, Nat.le_of_ble_eq_true rfl, Nat.le_of_ble_eq_true rfl⟩ ⟨Nat.zero_le _, Nat.zero_le _⟩ [0, 1, 2, 3, 4] rfl (js3 K a E0) rfl rfl rfl (hX0_fair l D K G a E0 p1 h23 _) rfl rfl (Nat.le_of_ble_eq_true rfl) dX0_told_60) hA hP hD hS [0, 1, 2, 3, 4] (js3 K a E0) (fun H locs hP hS => ?_)
        exact hend _ _ _ _ _ hP hD hS hV.symm rfl dX0_told_63
      · have hV := hV.trans (if_neg c16)
        have hk := hk.2 c16
        by_cases c17 : (p2 = (10 : Int32))
        · have hV := hV.trans (if_pos c17)
          have hk := hk.1 c17
          refine lv_tableIn (off := 63) (tgt := 64) hx hb dX0_told_1 (by rw [c17]; decide) (by rw [c17]; decide) (by rw [c17]; rfl) (by decide) ?_
          refine lv_aload_n hx hb dX0_told_64 rfl (lv_at hl 0 rfl) ?_
          refine lv_iload_n hx hb dX0_told_65 rfl (lv_at hl 1 rfl) ?_
          obtain ⟨h22, hk⟩ := hk
          refine jci0 (jrunV (As := [.int p1]) (rest := []) hx hb hml hown hts hK hZ hA hP hD hS hl.1 mf_X0_worse kl_X0_74 ⟨rfl, rfl, Nat.le_of_ble_eq_true rfl, Nat.le_of_ble_eq_true rfl⟩ ⟨Nat.zero_le _, Nat.zero_le _⟩ [0, 1, 2, 3, 4] rfl (js3 K a E0) rfl rfl rfl (hX0_worse l D K G a E0 p1 h22 _) rfl rfl (Nat.le_of_ble_eq_true rfl) dX0_told_66) hA hP hD hS [0, 1, 2, 3, 4] (js3 K a E0) (fun H locs hP hS => ?_)
          exact hend _ _ _ _ _ hP hD hS hV.symm rfl dX0_told_69
        · have hV := hV.trans (if_neg c17)
          have hk := hk.2 c17
          by_cases c18 : (p2 = (11 : Int32))
          · have hV := hV.trans (if_pos c18)
            have hk := hk.1 c18
            refine lv_tableIn (off := 69) (tgt := 70) hx hb dX0_told_1 (by rw [c18]; decide) (by rw [c18]; decide) (by rw [c18]; rfl) (by decide) ?_
            refine lv_aload_n hx hb dX0_told_70 rfl (lv_at hl 0 rfl) ?_
            refine lv_iload_n hx hb dX0_told_71 rfl (lv_at hl 1 rfl) ?_
            obtain ⟨h21, hk⟩ := hk
            refine jci0 (jrunV (As := [.int p1]) (rest := []) hx hb hml hown hts hK hZ hA hP hD hS hl.1 mf_X0_award kl_X0_77 ⟨rfl, rfl, Nat.le_of_ble_eq_true rfl, Nat.le_of_ble_eq_true rfl⟩ ⟨Nat.zero_le _, Nat.zero_le _⟩ [0, 1, 2, 3, 4] rfl (js3 K a E0) rfl rfl rfl (hX0_award l D K G a E0 p1 h21 _) rfl rfl (Nat.le_of_ble_eq_true rfl) dX0_told_72) hA hP hD hS [0, 1, 2, 3, 4] (js3 K a E0) (fun H locs hP hS => ?_)
            exact hend _ _ _ _ _ hP hD hS hV.symm rfl dX0_told_75
          · have hV := hV.trans (if_neg c18)
            have hk := hk.2 c18
            refine lv_tableOut (tgt := 76) hx hb dX0_told_1 (by have n0 := jneL (z := 7) c14 (by decide); have n1 := jneL (z := 8) c15 (by decide); have n2 := jneL (z := 9) c16 (by decide); have n3 := jneL (z := 10) c17 (by decide); have n4 := jneL (z := 11) c18 (by decide); omega) (by decide) ?_
            refine lv_iload_n hx hb dX0_told_76 rfl (lv_at hl 2 rfl) ?_
            refine lv_iconst (v := (0 : Int32)) hx hb dX0_told_77 (by decide) ?_
            refine lv_bipush (v := (6 : Int32)) hx hb dX0_told_78 (by decide) ?_
            refine jci0 (jrunSN (As := [.int p2, .int (0 : Int32), .int (6 : Int32)]) (rest := []) hx hb hml hown hts hK hZ hA hP hD hS hl.1 mf_X4_within kl_X0_80 ⟨rfl, rfl, Nat.le_of_ble_eq_true rfl, Nat.le_of_ble_eq_true rfl⟩ ⟨Nat.zero_le _, Nat.zero_le _⟩ [] rfl rfl (hX4_within l D K G p2 (0 : Int32) (6 : Int32) _) rfl rfl (Nat.le_of_ble_eq_true rfl) dX0_told_80) hA hP hD hS [] rfl (fun H locs hP hS => ?_)
            refine lv_if_eq (tgt := 95) hx hb dX0_told_83 (by decide) (fun c19 => ?_) (fun c19 => ?_)
            · have hV := hV.trans (if_pos c19)
              have hk := hk.1 c19
              refine lv_iconst (v := (0 : Int32)) hx hb dX0_told_95 (by decide) ?_
              exact hend _ _ _ _ _ hP hD hS hV.symm rfl dX0_told_96
            · have hV := hV.trans (if_neg c19)
              have hk := hk.2 c19
              refine lv_aload_n hx hb dX0_told_86 rfl (lv_at hl 0 rfl) ?_
              refine lv_iload_n hx hb dX0_told_87 rfl (lv_at hl 1 rfl) ?_
              refine lv_iload_n hx hb dX0_told_88 rfl (lv_at hl 2 rfl) ?_
              obtain ⟨h20, hk⟩ := hk
              refine jci0 (jrunV (As := [.int p1, .int p2]) (rest := []) hx hb hml hown hts hK hZ hA hP hD hS hl.1 mf_X0_trait kl_X0_58 ⟨rfl, rfl, Nat.le_of_ble_eq_true rfl, Nat.le_of_ble_eq_true rfl⟩ ⟨Nat.zero_le _, Nat.zero_le _⟩ [0, 1, 2, 3, 4] rfl (js3 K a E0) rfl rfl rfl (hX0_trait l D K G a E0 p1 p2 h20 _) rfl rfl (Nat.le_of_ble_eq_true rfl) dX0_told_89) hA hP hD hS [0, 1, 2, 3, 4] (js3 K a E0) (fun H locs hP hS => ?_)
              refine lv_goto (tgt := 96) hx hb dX0_told_92 (by decide) ?_
              exact hend _ _ _ _ _ hP hD hS hV.symm rfl dX0_told_96
theorem dX0_sum_0 : decode cX0_sum 0 = .ok (.iconst 0, 1) := by decide +kernel
theorem dX0_sum_1 : decode cX0_sum 1 = .ok (.istore_n 2, 1) := by decide +kernel
theorem dX0_sum_2 : decode cX0_sum 2 = .ok (.iconst 0, 1) := by decide +kernel
theorem dX0_sum_3 : decode cX0_sum 3 = .ok (.istore_n 3, 1) := by decide +kernel
theorem dX0_sum_4 : decode cX0_sum 4 = .ok (.iload_n 3, 1) := by decide +kernel
theorem dX0_sum_5 : decode cX0_sum 5 = .ok (.aload_n 0, 1) := by decide +kernel
theorem dX0_sum_6 : decode cX0_sum 6 = .ok (.getfield 32, 3) := by decide +kernel
theorem dX0_sum_9 : decode cX0_sum 9 = .ok (.if_icmp .ge 18, 3) := by decide +kernel
theorem dX0_sum_12 : decode cX0_sum 12 = .ok (.iload_n 2, 1) := by decide +kernel
theorem dX0_sum_13 : decode cX0_sum 13 = .ok (.aload_n 0, 1) := by decide +kernel
theorem dX0_sum_14 : decode cX0_sum 14 = .ok (.iload_n 3, 1) := by decide +kernel
theorem dX0_sum_15 : decode cX0_sum 15 = .ok (.iload_n 1, 1) := by decide +kernel
theorem dX0_sum_16 : decode cX0_sum 16 = .ok (.invokevirtual 110, 3) := by decide +kernel
theorem dX0_sum_19 : decode cX0_sum 19 = .ok (.iadd, 1) := by decide +kernel
theorem dX0_sum_20 : decode cX0_sum 20 = .ok (.istore_n 2, 1) := by decide +kernel
theorem dX0_sum_21 : decode cX0_sum 21 = .ok (.iinc 3 1, 3) := by decide +kernel
theorem dX0_sum_24 : decode cX0_sum 24 = .ok (.goto (-20), 3) := by decide +kernel
theorem dX0_sum_27 : decode cX0_sum 27 = .ok (.iload_n 2, 1) := by decide +kernel
theorem dX0_sum_28 : decode cX0_sum 28 = .ok (.ireturn, 1) := by decide +kernel
def rX0_sum : Room := { frames := 5, cells := 0, slots := 0, locals := 108 }
def vX0_sum_c4 (E0 : ES) (p1 : Int32) : Nat → Int32 → Int32 → Int32
  | 0, x2, x3 => (0)
  | n + 1, x2, x3 => if ((e_things E0) ≤ x3) then x2 else (vX0_sum_c4 E0 p1 n (x2 + (vX0_told E0 x3 p1)) (x3 + (1 : Int32)))
def kX0_sum_c4 (E0 : ES) (p1 : Int32) : Nat → Int32 → Int32 → Prop
  | 0, _, _ => False
  | n + 1, x2, x3 => (((e_things E0) ≤ x3) → True) ∧ (¬ ((e_things E0) ≤ x3) → ((kX0_told E0 x3 p1) ∧ (kX0_sum_c4 E0 p1 n (x2 + (vX0_told E0 x3 p1)) (x3 + (1 : Int32)))))
def vX0_sum (E0 : ES) (p1 : Int32) : Int32 := (vX0_sum_c4 E0 p1 1024 (0 : Int32) (0 : Int32))
def kX0_sum (E0 : ES) (p1 : Int32) : Prop := (kX0_sum_c4 E0 p1 1024 (0 : Int32) (0 : Int32))
set_option maxHeartbeats 4000000 in
set_option maxRecDepth 100000 in
theorem hX0_sum (l : Launch) (D : va_G) (K : JK) (G : JG) (a : Nat → Nat) (E0 : ES) (p1 : Int32) (hk : kX0_sum E0 p1) (sz : Nat) : Met l yX0_sum (.code yX0_sum cX0_sum 4 (some .int) :: jGW) rX0_sum (jPre D (jT K) G [.ref (a 0), .int p1] (wE K a E0) sz) (jQi D (jT K) (vX0_sum E0 p1) (wE K a E0) (va_A (wE K a E0) sz)) 0 0 (va_A (wE K a E0) sz) := by
  refine jEi (by decide) (Nat.le_of_ble_eq_true rfl) (fun p e s m below meth c A Q ls hat hP hD hS hl hend => ?_)
  obtain ⟨hx, hb, hml, hown, hts, hK, hZ, hA⟩ := hat
  have hl : lv_has ls 4 [(0, .ref (a 0)), (1, .int p1)] := hl
  have hc4 : ∀ (n : Nat) (x2 : Int32) (x3 : Int32) (H : Heap) (locs : List Loc) (ls : Array Slot), (vX0_sum E0 p1) = vX0_sum_c4 E0 p1 n x2 x3 → kX0_sum_c4 E0 p1 n x2 x3 → va_P D vwCl (wE K a E0) H → va_D A (wE K a E0) → va_S A s.heap H locs → lv_has ls 4 [(0, .ref (a 0)), (1, .int p1), (2, .int x2), (3, .int x3)] → W p l e rX0_sum s m ([.ref (a 0), .int p1] : List Value).toArray below meth c H locs 0 0 Q (F0 m 4 ls []) := by
    intro n
    induction n with
    | zero =>
      intro x2 x3 H locs ls hV hk hP hD hS hl
      exact False.elim hk
    | succ n ih =>
      intro x2 x3 H locs ls hV hk hP hD hS hl
      rw [vX0_sum_c4] at hV
      rw [kX0_sum_c4] at hk
      refine lv_iload_n hx hb dX0_sum_4 rfl (lv_at hl 3 rfl) ?_
      refine lv_aload_n hx hb dX0_sum_5 rfl (lv_at hl 0 rfl) ?_
      refine gf_X0_32 (v := .int (e_things E0)) hx hb hts hown hK hZ hP (0) rfl rfl dX0_sum_6 ?_
      refine lv_icmp_ge (tgt := 27) hx hb dX0_sum_9 (by decide) (fun c3 => ?_) (fun c3 => ?_)
      · have hV := hV.trans (if_pos c3)
        have hk := hk.1 c3
        refine lv_iload_n hx hb dX0_sum_27 rfl (lv_at hl 2 rfl) ?_
        exact hend _ _ _ _ _ hP hD hS hV.symm rfl dX0_sum_28
      · have hV := hV.trans (if_neg c3)
        have hk := hk.2 c3
        refine lv_iload_n hx hb dX0_sum_12 rfl (lv_at hl 2 rfl) ?_
        refine lv_aload_n hx hb dX0_sum_13 rfl (lv_at hl 0 rfl) ?_
        refine lv_iload_n hx hb dX0_sum_14 rfl (lv_at hl 3 rfl) ?_
        refine lv_iload_n hx hb dX0_sum_15 rfl (lv_at hl 1 rfl) ?_
        obtain ⟨h4, hk⟩ := hk
        refine jci0 (jrunV (As := [.int x3, .int p1]) (rest := [.int x2]) hx hb hml hown hts hK hZ hA hP hD hS hl.1 mf_X0_told kl_X0_110 ⟨rfl, rfl, Nat.le_of_ble_eq_true rfl, Nat.le_of_ble_eq_true rfl⟩ ⟨Nat.zero_le _, Nat.zero_le _⟩ [0, 1, 2, 3, 4] rfl (js3 K a E0) rfl rfl rfl (hX0_told l D K G a E0 x3 p1 h4 _) rfl rfl (Nat.le_of_ble_eq_true rfl) dX0_sum_16) hA hP hD hS [0, 1, 2, 3, 4] (js3 K a E0) (fun H locs hP hS => ?_)
        refine lv_iadd hx hb dX0_sum_19 ?_
        refine lv_istore_n (lv' := [(2, .int (x2 + (vX0_told E0 x3 p1))), (0, .ref (a 0)), (1, .int p1), (3, .int x3)]) hx hb dX0_sum_20 rfl hl (by decide) rfl (fun ls hl => ?_)
        refine lv_iinc (v := (x3 + (1 : Int32))) (lv' := [(3, .int (x3 + (1 : Int32))), (2, .int (x2 + (vX0_told E0 x3 p1))), (0, .ref (a 0)), (1, .int p1)]) hx hb dX0_sum_21 hl (k := 3) rfl rfl (by decide) rfl (fun ls hl => ?_)
        refine lv_goto (tgt := 4) hx hb dX0_sum_24 (by decide) ?_
        exact ih (x2 + (vX0_told E0 x3 p1)) (x3 + (1 : Int32)) _ _ _ hV hk hP hD hS (lv_sub hl [2, 3, 1, 0] rfl)
  have hV := vX0_sum.eq_1 E0 p1
  rw [kX0_sum] at hk
  refine lv_iconst (v := (0 : Int32)) hx hb dX0_sum_0 (by decide) ?_
  refine lv_istore_n (lv' := [(2, .int (0 : Int32)), (0, .ref (a 0)), (1, .int p1)]) hx hb dX0_sum_1 rfl hl (by decide) rfl (fun ls hl => ?_)
  refine lv_iconst (v := (0 : Int32)) hx hb dX0_sum_2 (by decide) ?_
  refine lv_istore_n (lv' := [(3, .int (0 : Int32)), (2, .int (0 : Int32)), (0, .ref (a 0)), (1, .int p1)]) hx hb dX0_sum_3 rfl hl (by decide) rfl (fun ls hl => ?_)
  exact hc4 1024 (0 : Int32) (0 : Int32) _ _ _ hV hk hP hD hS (lv_sub hl [2, 3, 1, 0] rfl)
theorem dX0_thingsWith_0 : decode cX0_thingsWith 0 = .ok (.iconst 0, 1) := by decide +kernel
theorem dX0_thingsWith_1 : decode cX0_thingsWith 1 = .ok (.istore_n 2, 1) := by decide +kernel
theorem dX0_thingsWith_2 : decode cX0_thingsWith 2 = .ok (.iconst 0, 1) := by decide +kernel
theorem dX0_thingsWith_3 : decode cX0_thingsWith 3 = .ok (.istore_n 3, 1) := by decide +kernel
theorem dX0_thingsWith_4 : decode cX0_thingsWith 4 = .ok (.iload_n 3, 1) := by decide +kernel
theorem dX0_thingsWith_5 : decode cX0_thingsWith 5 = .ok (.aload_n 0, 1) := by decide +kernel
theorem dX0_thingsWith_6 : decode cX0_thingsWith 6 = .ok (.getfield 32, 3) := by decide +kernel
theorem dX0_thingsWith_9 : decode cX0_thingsWith 9 = .ok (.if_icmp .ge 24, 3) := by decide +kernel
theorem dX0_thingsWith_12 : decode cX0_thingsWith 12 = .ok (.aload_n 0, 1) := by decide +kernel
theorem dX0_thingsWith_13 : decode cX0_thingsWith 13 = .ok (.iload_n 3, 1) := by decide +kernel
theorem dX0_thingsWith_14 : decode cX0_thingsWith 14 = .ok (.iload_n 1, 1) := by decide +kernel
theorem dX0_thingsWith_15 : decode cX0_thingsWith 15 = .ok (.invokevirtual 110, 3) := by decide +kernel
theorem dX0_thingsWith_18 : decode cX0_thingsWith 18 = .ok (.ifCond .le 9, 3) := by decide +kernel
theorem dX0_thingsWith_21 : decode cX0_thingsWith 21 = .ok (.iload_n 2, 1) := by decide +kernel
theorem dX0_thingsWith_22 : decode cX0_thingsWith 22 = .ok (.iconst 1, 1) := by decide +kernel
theorem dX0_thingsWith_23 : decode cX0_thingsWith 23 = .ok (.iload_n 3, 1) := by decide +kernel
theorem dX0_thingsWith_24 : decode cX0_thingsWith 24 = .ok (.ishl, 1) := by decide +kernel
theorem dX0_thingsWith_25 : decode cX0_thingsWith 25 = .ok (.ior, 1) := by decide +kernel
theorem dX0_thingsWith_26 : decode cX0_thingsWith 26 = .ok (.istore_n 2, 1) := by decide +kernel
theorem dX0_thingsWith_27 : decode cX0_thingsWith 27 = .ok (.iinc 3 1, 3) := by decide +kernel
theorem dX0_thingsWith_30 : decode cX0_thingsWith 30 = .ok (.goto (-26), 3) := by decide +kernel
theorem dX0_thingsWith_33 : decode cX0_thingsWith 33 = .ok (.iload_n 2, 1) := by decide +kernel
theorem dX0_thingsWith_34 : decode cX0_thingsWith 34 = .ok (.ireturn, 1) := by decide +kernel
def rX0_thingsWith : Room := { frames := 5, cells := 0, slots := 0, locals := 108 }
def vX0_thingsWith_c27 (E0 : ES) (p1 : Int32) (k : Int32 → Int32 → Int32) (x2 : Int32) (x3 : Int32) : Int32 := (k x2 (x3 + (1 : Int32)))
def kX0_thingsWith_c27 (E0 : ES) (p1 : Int32) (q : Int32 → Int32 → Prop) (x2 : Int32) (x3 : Int32) : Prop := (q x2 (x3 + (1 : Int32)))
def vX0_thingsWith_c4 (E0 : ES) (p1 : Int32) : Nat → Int32 → Int32 → Int32
  | 0, x2, x3 => (0)
  | n + 1, x2, x3 => if ((e_things E0) ≤ x3) then x2 else if ((vX0_told E0 x3 p1) ≤ 0) then (vX0_thingsWith_c27 E0 p1 (fun x2 x3 => vX0_thingsWith_c4 E0 p1 n x2 x3) x2 x3) else (vX0_thingsWith_c27 E0 p1 (fun x2 x3 => vX0_thingsWith_c4 E0 p1 n x2 x3) (x2 ||| ((1 : Int32) <<< (x3 &&& 31))) x3)
def kX0_thingsWith_c4 (E0 : ES) (p1 : Int32) : Nat → Int32 → Int32 → Prop
  | 0, _, _ => False
  | n + 1, x2, x3 => (((e_things E0) ≤ x3) → True) ∧ (¬ ((e_things E0) ≤ x3) → ((kX0_told E0 x3 p1) ∧ (((vX0_told E0 x3 p1) ≤ 0) → ((kX0_thingsWith_c27 E0 p1 (fun x2 x3 => kX0_thingsWith_c4 E0 p1 n x2 x3) x2 x3))) ∧ (¬ ((vX0_told E0 x3 p1) ≤ 0) → ((kX0_thingsWith_c27 E0 p1 (fun x2 x3 => kX0_thingsWith_c4 E0 p1 n x2 x3) (x2 ||| ((1 : Int32) <<< (x3 &&& 31))) x3)))))
def vX0_thingsWith (E0 : ES) (p1 : Int32) : Int32 := (vX0_thingsWith_c4 E0 p1 1024 (0 : Int32) (0 : Int32))
def kX0_thingsWith (E0 : ES) (p1 : Int32) : Prop := (kX0_thingsWith_c4 E0 p1 1024 (0 : Int32) (0 : Int32))
set_option maxHeartbeats 4000000 in
set_option maxRecDepth 100000 in
theorem hX0_thingsWith (l : Launch) (D : va_G) (K : JK) (G : JG) (a : Nat → Nat) (E0 : ES) (p1 : Int32) (hk : kX0_thingsWith E0 p1) (sz : Nat) : Met l yX0_thingsWith (.code yX0_thingsWith cX0_thingsWith 4 (some .int) :: jGW) rX0_thingsWith (jPre D (jT K) G [.ref (a 0), .int p1] (wE K a E0) sz) (jQi D (jT K) (vX0_thingsWith E0 p1) (wE K a E0) (va_A (wE K a E0) sz)) 0 0 (va_A (wE K a E0) sz) := by
  refine jEi (by decide) (Nat.le_of_ble_eq_true rfl) (fun p e s m below meth c A Q ls hat hP hD hS hl hend => ?_)
  obtain ⟨hx, hb, hml, hown, hts, hK, hZ, hA⟩ := hat
  have hl : lv_has ls 4 [(0, .ref (a 0)), (1, .int p1)] := hl
  have hc4 : ∀ (n : Nat) (x2 : Int32) (x3 : Int32) (H : Heap) (locs : List Loc) (ls : Array Slot), (vX0_thingsWith E0 p1) = vX0_thingsWith_c4 E0 p1 n x2 x3 → kX0_thingsWith_c4 E0 p1 n x2 x3 → va_P D vwCl (wE K a E0) H → va_D A (wE K a E0) → va_S A s.heap H locs → lv_has ls 4 [(0, .ref (a 0)), (1, .int p1), (2, .int x2), (3, .int x3)] → W p l e rX0_thingsWith s m ([.ref (a 0), .int p1] : List Value).toArray below meth c H locs 0 0 Q (F0 m 4 ls []) := by
    intro n
    induction n with
    | zero =>
      intro x2 x3 H locs ls hV hk hP hD hS hl
      exact False.elim hk
    | succ n ih =>
      have hc27 : ∀ (x2 : Int32) (x3 : Int32) (H : Heap) (locs : List Loc) (ls : Array Slot), (vX0_thingsWith E0 p1) = vX0_thingsWith_c27 E0 p1 (fun x2 x3 => vX0_thingsWith_c4 E0 p1 n x2 x3) x2 x3 → kX0_thingsWith_c27 E0 p1 (fun x2 x3 => kX0_thingsWith_c4 E0 p1 n x2 x3) x2 x3 → va_P D vwCl (wE K a E0) H → va_D A (wE K a E0) → va_S A s.heap H locs → lv_has ls 4 [(0, .ref (a 0)), (1, .int p1), (2, .int x2), (3, .int x3)] → W p l e rX0_thingsWith s m ([.ref (a 0), .int p1] : List Value).toArray below meth c H locs 0 0 Q (F0 m 27 ls []) := by
        intro x2 x3 H locs ls hV hk hP hD hS hl
        rw [vX0_thingsWith_c27] at hV
        rw [kX0_thingsWith_c27] at hk
        refine lv_iinc (v := (x3 + (1 : Int32))) (lv' := [(3, .int (x3 + (1 : Int32))), (0, .ref (a 0)), (1, .int p1), (2, .int x2)]) hx hb dX0_thingsWith_27 hl (k := 3) rfl rfl (by decide) rfl (fun ls hl => ?_)
        refine lv_goto (tgt := 4) hx hb dX0_thingsWith_30 (by decide) ?_
        exact ih x2 (x3 + (1 : Int32)) _ _ _ hV hk hP hD hS (lv_sub hl [1, 2, 3, 0] rfl)
      intro x2 x3 H locs ls hV hk hP hD hS hl
      rw [vX0_thingsWith_c4] at hV
      rw [kX0_thingsWith_c4] at hk
      refine lv_iload_n hx hb dX0_thingsWith_4 rfl (lv_at hl 3 rfl) ?_
      refine lv_aload_n hx hb dX0_thingsWith_5 rfl (lv_at hl 0 rfl) ?_
      refine gf_X0_32 (v := .int (e_things E0)) hx hb hts hown hK hZ hP (0) rfl rfl dX0_thingsWith_6 ?_
      refine lv_icmp_ge (tgt := 33) hx hb dX0_thingsWith_9 (by decide) (fun c4 => ?_) (fun c4 => ?_)
      · have hV := hV.trans (if_pos c4)
        have hk := hk.1 c4
        refine lv_iload_n hx hb dX0_thingsWith_33 rfl (lv_at hl 2 rfl) ?_
        exact hend _ _ _ _ _ hP hD hS hV.symm rfl dX0_thingsWith_34
      · have hV := hV.trans (if_neg c4)
        have hk := hk.2 c4
        refine lv_aload_n hx hb dX0_thingsWith_12 rfl (lv_at hl 0 rfl) ?_
        refine lv_iload_n hx hb dX0_thingsWith_13 rfl (lv_at hl 3 rfl) ?_
        refine lv_iload_n hx hb dX0_thingsWith_14 rfl (lv_at hl 1 rfl) ?_
        obtain ⟨h5, hk⟩ := hk
        refine jci0 (jrunV (As := [.int x3, .int p1]) (rest := []) hx hb hml hown hts hK hZ hA hP hD hS hl.1 mf_X0_told kl_X0_110 ⟨rfl, rfl, Nat.le_of_ble_eq_true rfl, Nat.le_of_ble_eq_true rfl⟩ ⟨Nat.zero_le _, Nat.zero_le _⟩ [0, 1, 2, 3, 4] rfl (js3 K a E0) rfl rfl rfl (hX0_told l D K G a E0 x3 p1 h5 _) rfl rfl (Nat.le_of_ble_eq_true rfl) dX0_thingsWith_15) hA hP hD hS [0, 1, 2, 3, 4] (js3 K a E0) (fun H locs hP hS => ?_)
        refine lv_if_le (tgt := 27) hx hb dX0_thingsWith_18 (by decide) (fun c6 => ?_) (fun c6 => ?_)
        · have hV := hV.trans (if_pos c6)
          have hk := hk.1 c6
          exact hc27 x2 x3 _ _ _ hV hk hP hD hS (lv_sub hl [0, 1, 2, 3] rfl)
        · have hV := hV.trans (if_neg c6)
          have hk := hk.2 c6
          refine lv_iload_n hx hb dX0_thingsWith_21 rfl (lv_at hl 2 rfl) ?_
          refine lv_iconst (v := (1 : Int32)) hx hb dX0_thingsWith_22 (by decide) ?_
          refine lv_iload_n hx hb dX0_thingsWith_23 rfl (lv_at hl 3 rfl) ?_
          refine lv_ishl hx hb dX0_thingsWith_24 ?_
          refine lv_ior hx hb dX0_thingsWith_25 ?_
          refine lv_istore_n (lv' := [(2, .int (x2 ||| ((1 : Int32) <<< (x3 &&& 31)))), (0, .ref (a 0)), (1, .int p1), (3, .int x3)]) hx hb dX0_thingsWith_26 rfl hl (by decide) rfl (fun ls hl => ?_)
          exact hc27 (x2 ||| ((1 : Int32) <<< (x3 &&& 31))) x3 _ _ _ hV hk hP hD hS (lv_sub hl [1, 2, 0, 3] rfl)
  have hV := vX0_thingsWith.eq_1 E0 p1
  rw [kX0_thingsWith] at hk
  refine lv_iconst (v := (0 : Int32)) hx hb dX0_thingsWith_0 (by decide) ?_
  refine lv_istore_n (lv' := [(2, .int (0 : Int32)), (0, .ref (a 0)), (1, .int p1)]) hx hb dX0_thingsWith_1 rfl hl (by decide) rfl (fun ls hl => ?_)
  refine lv_iconst (v := (0 : Int32)) hx hb dX0_thingsWith_2 (by decide) ?_
  refine lv_istore_n (lv' := [(3, .int (0 : Int32)), (2, .int (0 : Int32)), (0, .ref (a 0)), (1, .int p1)]) hx hb dX0_thingsWith_3 rfl hl (by decide) rfl (fun ls hl => ?_)
  exact hc4 1024 (0 : Int32) (0 : Int32) _ _ _ hV hk hP hD hS (lv_sub hl [2, 3, 1, 0] rfl)
