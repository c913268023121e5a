-- THE LAW: its loop
theorem lv_lcmp0 {p : Program} {l : Launch} {e : Env} {R : Room} {s : State} {m : MethodId} {args : Array Value} {below : List Frame} {meth : Method} {c : Code} {H : Heap} {locs : List Loc} {cells slots : Nat} {Q : State → Prop} {pc : Nat} {ls : Array Slot} {rest : List Value} {cc : ByteArray} (hexec : p.tables.exec = Jvm.exec) (hb : c.code = cc) {x y : Int64} (hxy : x = y) (hdg : decode cc pc = .ok (.lcmp, 1))
    (k : W p l e R s m args below meth c H locs cells slots Q (F0 m (pc + 1) ls (.int 0 :: rest))) : W p l e R s m args below meth c H locs cells slots Q (F0 m pc ls (.long y :: .long x :: rest)) := by
  subst hxy
  intro T hT X
  obtain ⟨t, a, b⟩ := k T hT X
  refine ⟨t, ?_, b⟩
  have h1 : ¬ x < x := Int64.lt_irrefl
  jvm_step X.here [X.here.top, hexec, hb, hdg, h1]
  exact a
theorem lg_set {α : Type} (pre : List α) (x y : α) (r : List α) : (pre ++ x :: r).set pre.length y = pre ++ y :: r := by
  induction pre with
  | nil => rfl
  | cons a p ih => exact congrArg (a :: ·) ih
theorem lg_put (w2 : va_W) : ∀ (w1 w1' pre : va_W), w1'.length = w1.length → jput (pre ++ (w1 ++ w2)) (List.range' pre.length w1.length) w1' = pre ++ (w1' ++ w2)
  | [], [], pre, _ => rfl
  | x :: w1, y :: w1', pre, h => by
    show jput ((pre ++ x :: (w1 ++ w2)).set pre.length y) (List.range' (pre.length + 1) w1.length) w1' = _
    rw [lg_set]
    have ih := lg_put w2 w1 w1' (pre ++ [y]) (Nat.succ.inj h)
    rw [List.length_append, List.append_assoc, List.append_assoc] at ih
    exact ih
  | [], y :: w1', pre, h => absurd h (by simp)
  | x :: w1, [], pre, h => absurd h (by simp)
theorem lg_iJ (K : JK) (a b : Nat → Nat) (J : JS) (M : MS) : ([0, 1, 2, 3, 4, 5, 6, 7, 8, 9, 10, 11, 12, 13, 14, 15, 16, 17, 18, 19, 20, 21, 22, 23, 24, 25, 26, 27, 28, 29]).map (fun i => (wJ K a J ++ wM K b M)[i]?) = (wJ K a J).map some := rfl
theorem lg_iM (K : JK) (a b : Nat → Nat) (J : JS) (M : MS) : ([30, 31, 32, 33, 34, 35, 36, 37, 38]).map (fun i => (wJ K a J ++ wM K b M)[i]?) = (wM K b M).map some := rfl
theorem lg_pJ (K : JK) (a b : Nat → Nat) (J J' : JS) (M : MS) : jput (wJ K a J ++ wM K b M) [0, 1, 2, 3, 4, 5, 6, 7, 8, 9, 10, 11, 12, 13, 14, 15, 16, 17, 18, 19, 20, 21, 22, 23, 24, 25, 26, 27, 28, 29] (wJ K a J') = wJ K a J' ++ wM K b M := lg_put (wM K b M) (wJ K a J) (wJ K a J') [] rfl
theorem lg_pM (K : JK) (a b : Nat → Nat) (J : JS) (M M' : MS) : jput (wJ K a J ++ wM K b M) [30, 31, 32, 33, 34, 35, 36, 37, 38] (wM K b M') = wJ K a J ++ wM K b M' := (by have q := lg_put [] (wM K b M) (wM K b M') (wJ K a J) rfl; rw [List.append_nil, List.append_nil] at q; exact q)
theorem lg_aJ (K : JK) (a : Nat → Nat) (J J' : JS) : (wJ K a J').map Prod.fst = (wJ K a J).map Prod.fst := rfl
theorem lg_aM (K : JK) (a : Nat → Nat) (M M' : MS) : (wM K a M').map Prod.fst = (wM K a M).map Prod.fst := rfl
abbrev lgA (s : State) : Nat → Prop := fun q => s.heap.size ≤ q
/-- what stays as it is all through the loop -/
def lgC (p : Program) (s : State) (m : MethodId) (c : Code) (b L : Nat) (xs : Nat → Int32) (D : va_G) (K : JK) (G : JG) : Prop :=
  p.tables.exec = Jvm.exec ∧ c.code = code ∧ c.maxLocals = 4 ∧ s.vm.findClass RL = some m.cls ∧ (∀ w ∈ jGW, w.before #[Value.ref b] s = true) ∧ va_K D vwCl (jT K) s ∧ jZ G (lgA s) s s.heap ∧ va_X b L xs s s.heap ∧ b < s.heap.size ∧ L ≤ 3072
section LG
variable {p : Program} {l : Launch} {e : Env} {s : State} {m : MethodId} {below : List Frame} {meth : Method} {c : Code} {b L : Nat} {xs : Nat → Int32} {D : va_G} {K : JK} {G : JG} {ua ub : Nat → Nat} {Q : State → Prop}
variable {J J' : JS} {M M' : MS} {H : Heap} {locs : List Loc} {ls : Array Slot} {i pc : Nat} {st rest st0 : List Value}
abbrev lgL (b qa qb i : Nat) : List (Nat × Value) := [(0, .ref b), (1, .ref qa), (2, .ref qb), (3, .int (nI i))]
variable (p l e s m below meth c b K ua ub Q) in
/-- the head of the loop, at i -/
def lgI (i : Nat) : Prop := ∀ (J : JS) (M : MS), Rel J M → ∀ (H : Heap) (locs : List Loc), va_P D vwCl (wJ K ua J ++ wM K ub M) H → va_D (lgA s) (wJ K ua J ++ wM K ub M) → va_S (lgA s) s.heap H locs → ∀ (ls : Array Slot), lv_has ls 4 (lgL b (ua 0) (ub 0) i) → W p l e room_1 s m #[Value.ref b] below meth c H locs 600000 7302250 Q (F0 m 18 ls [])
theorem lgnb (hC : lgC p s m c b L xs D K G) : ¬ lgA s b := Nat.not_le.mpr hC.2.2.2.2.2.2.2.2.1
/-- one number of the script onto the stack -/
theorem lg_ld {n : Int} (j : Nat) (hC : lgC p s m c b L xs D K G) (hi : i + 6 ≤ L) (hj : j < 6) (hl : lv_has ls 4 (lgL b (ua 0) (ub 0) i)) (hS : va_S (lgA s) s.heap H locs) (d0 : decode code pc = .ok (.aload_n 0, 1)) (d1 : decode code (pc + 1) = .ok (.iload_n 3, 1)) (d2 : decode code (pc + 2) = .ok (.iconst n, 1)) (hv : Int32.ofInt n = nI j) (d3 : decode code (pc + 3) = .ok (.iadd, 1)) (d4 : decode code (pc + 4) = .ok (.iaload, 1))
    (kk : W p l e room_1 s m #[Value.ref b] below meth c H locs 600000 7302250 Q (F0 m (pc + 5) ls (.int (xs (i + j)) :: rest))) : W p l e room_1 s m #[Value.ref b] below meth c H locs 600000 7302250 Q (F0 m pc ls rest) := by
  have hbA := lgnb hC
  obtain ⟨hx, hb, hml, hown, hts, hK, hZ, hX, hbl, hL⟩ := hC
  have hlt : i + j < L := by omega
  refine lv_aload_n hx hb d0 rfl (lv_at hl 0 rfl) ?_
  refine lv_iload_n hx hb d1 rfl (lv_at hl 3 rfl) ?_
  refine lv_iconst (v := nI j) hx hb d2 hv ?_
  refine lv_iadd hx hb d3 ?_
  rw [nI_add]
  refine va_sld hx hb hX hbl hbA hS (n_in hlt (by omega)) d4 ?_
  rw [n_cl (by omega)]
  exact kk
theorem lg_next (hC : lgC p s m c b L xs D K G) (IH : lgI p l e s m below meth c b K ua ub Q (D := D) (i + 6)) (h : Rel J M) (hP : va_P D vwCl (wJ K ua J ++ wM K ub M) H) (hD : va_D (lgA s) (wJ K ua J ++ wM K ub M)) (hS : va_S (lgA s) s.heap H locs) (hl : lv_has ls 4 (lgL b (ua 0) (ub 0) i)) : W p l e room_1 s m #[Value.ref b] below meth c H locs 600000 7302250 Q (F0 m 1399 ls []) := by
  obtain ⟨hx, hb, hml, hown, hts, hK, hZ, hX, hbl, hL⟩ := hC
  refine lv_iinc (k := 3) (v := nI (i + 6)) (lv' := [(3, .int (nI (i + 6))), (0, .ref b), (1, .ref (ua 0)), (2, .ref (ub 0))]) hx hb dL_1399 hl rfl (nI_add i 6) (by decide) rfl (fun ls hl => ?_)
  refine lv_goto (tgt := 18) hx hb dL_1402 (by decide) ?_
  exact IH J M h H locs hP hD hS ls (lv_sub hl [1, 2, 3, 0] rfl)
theorem lg_eq {x y : Int32} {off : Int} (hC : lgC p s m c b L xs D K G) (hdg : decode code pc = .ok (.if_icmp .eq off, 3)) (ht : (pc : Int) + off = ((1399 : Nat) : Int)) (hxy : x = y) (k : W p l e room_1 s m #[Value.ref b] below meth c H locs 600000 7302250 Q (F0 m 1399 ls [])) : W p l e room_1 s m #[Value.ref b] below meth c H locs 600000 7302250 Q (F0 m pc ls (.int y :: .int x :: [])) :=
  lv_icmp_eq (tgt := 1399) hC.1 hC.2.1 hdg ht (fun _ => k) (fun q => absurd hxy q)
theorem lg_eql {x y : Int64} {off : Int} (hC : lgC p s m c b L xs D K G) (hd0 : decode code pc = .ok (.lcmp, 1)) (hdg : decode code (pc + 1) = .ok (.ifCond .eq off, 3)) (ht : ((pc + 1 : Nat) : Int) + off = ((1399 : Nat) : Int)) (hxy : x = y) (k : W p l e room_1 s m #[Value.ref b] below meth c H locs 600000 7302250 Q (F0 m 1399 ls [])) : W p l e room_1 s m #[Value.ref b] below meth c H locs 600000 7302250 Q (F0 m pc ls (.long y :: .long x :: [])) :=
  lv_lcmp0 hC.1 hC.2.1 hxy hd0 (lv_if_eq (tgt := 1399) hC.1 hC.2.1 hdg ht (fun _ => k) (fun q => absurd rfl q))
variable {y : MethodName} {bytes : ByteArray} {maxL idx n : Nat} {rm : Room} {As : List Value} {V : Int32} {VL : Int64}
theorem lg_J (hC : lgC p s m c b L xs D K G) (hP : va_P D vwCl (wJ K ua J ++ wM K ub M) H) (hD : va_D (lgA s) (wJ K ua J ++ wM K ub M)) (hS : va_S (lgA s) s.heap H locs) (hl : lv_has ls 4 (lgL b (ua 0) (ub 0) i)) (hF : jMV y bytes maxL (some .int) RX4 n) (hlink : Cond.methodLink RL idx y ∈ jGW) (hR : jRm rm maxL room_1)
    (hM : Met l y (.code y bytes maxL (some .int) :: jGW) rm (jPre D (jT K) G (.ref (ua 0) :: As) (wJ K ua J) H.size) (jQi D (jT K) V (wJ K ua J') (va_A (wJ K ua J) H.size)) 0 0 (va_A (wJ K ua J) H.size))
    (hst : st0 = As.reverse ++ .ref (ua 0) :: rest) (hAs : As.length = n) (hrest : (rest.map fun v => v.category).sum ≤ 8) (hdg : decode code pc = .ok (.invokevirtual idx, 3))
    (kk : ∀ (H : Heap) (locs : List Loc), va_P D vwCl (wJ K ua J' ++ wM K ub M) H → va_D (lgA s) (wJ K ua J' ++ wM K ub M) → va_S (lgA s) s.heap H locs → W p l e room_1 s m #[Value.ref b] below meth c H locs 600000 7302250 Q (F0 m (pc + 3) ls (.int V :: rest))) : W p l e room_1 s m #[Value.ref b] below meth c H locs 600000 7302250 Q (F0 m pc ls st0) := by
  have hA : ∀ q : Nat, s.heap.size ≤ q → lgA s q := fun _ h => h
  obtain ⟨hx, hb, hml, hown, hts, hK, hZ, hX, hbl, hL⟩ := hC
  exact jci (jrunV (ci := 3) (As := As) hx hb hml hown hts hK hZ hA hP hD hS hl.1 hF hlink hR ⟨Nat.le_refl _, Nat.le_refl _⟩ [0, 1, 2, 3, 4, 5, 6, 7, 8, 9, 10, 11, 12, 13, 14, 15, 16, 17, 18, 19, 20, 21, 22, 23, 24, 25, 26, 27, 28, 29] rfl (lg_iJ K ua ub J M) rfl rfl rfl hM hst hAs hrest hdg) hA hP hD hS [0, 1, 2, 3, 4, 5, 6, 7, 8, 9, 10, 11, 12, 13, 14, 15, 16, 17, 18, 19, 20, 21, 22, 23, 24, 25, 26, 27, 28, 29] (lg_iJ K ua ub J M) (lg_aJ K ua J J') (fun H locs hP hD hS => kk H locs (lg_pJ K ua ub J J' M ▸ hP) (lg_pJ K ua ub J J' M ▸ hD) hS)
theorem lg_M (hC : lgC p s m c b L xs D K G) (hP : va_P D vwCl (wJ K ua J ++ wM K ub M) H) (hD : va_D (lgA s) (wJ K ua J ++ wM K ub M)) (hS : va_S (lgA s) s.heap H locs) (hl : lv_has ls 4 (lgL b (ua 0) (ub 0) i)) (hF : jMV y bytes maxL (some .int) RX5 n) (hlink : Cond.methodLink RL idx y ∈ jGW) (hR : jRm rm maxL room_1)
    (hM : Met l y (.code y bytes maxL (some .int) :: jGW) rm (jPre D (jT K) G (.ref (ub 0) :: As) (wM K ub M) H.size) (jQi D (jT K) V (wM K ub M') (va_A (wM K ub M) H.size)) 0 0 (va_A (wM K ub M) H.size))
    (hst : st0 = As.reverse ++ .ref (ub 0) :: rest) (hAs : As.length = n) (hrest : (rest.map fun v => v.category).sum ≤ 8) (hdg : decode code pc = .ok (.invokevirtual idx, 3))
    (kk : ∀ (H : Heap) (locs : List Loc), va_P D vwCl (wJ K ua J ++ wM K ub M') H → va_D (lgA s) (wJ K ua J ++ wM K ub M') → va_S (lgA s) s.heap H locs → W p l e room_1 s m #[Value.ref b] below meth c H locs 600000 7302250 Q (F0 m (pc + 3) ls (.int V :: rest))) : W p l e room_1 s m #[Value.ref b] below meth c H locs 600000 7302250 Q (F0 m pc ls st0) := by
  have hA : ∀ q : Nat, s.heap.size ≤ q → lgA s q := fun _ h => h
  obtain ⟨hx, hb, hml, hown, hts, hK, hZ, hX, hbl, hL⟩ := hC
  exact jci (jrunV (ci := 4) (As := As) hx hb hml hown hts hK hZ hA hP hD hS hl.1 hF hlink hR ⟨Nat.le_refl _, Nat.le_refl _⟩ [30, 31, 32, 33, 34, 35, 36, 37, 38] rfl (lg_iM K ua ub J M) rfl rfl rfl hM hst hAs hrest hdg) hA hP hD hS [30, 31, 32, 33, 34, 35, 36, 37, 38] (lg_iM K ua ub J M) (lg_aM K ub M M') (fun H locs hP hD hS => kk H locs (lg_pM K ua ub J M M' ▸ hP) (lg_pM K ua ub J M M' ▸ hD) hS)
theorem lg_Jl (hC : lgC p s m c b L xs D K G) (hP : va_P D vwCl (wJ K ua J ++ wM K ub M) H) (hD : va_D (lgA s) (wJ K ua J ++ wM K ub M)) (hS : va_S (lgA s) s.heap H locs) (hl : lv_has ls 4 (lgL b (ua 0) (ub 0) i)) (hF : jMV y bytes maxL (some .long) RX4 n) (hlink : Cond.methodLink RL idx y ∈ jGW) (hR : jRm rm maxL room_1)
    (hM : Met l y (.code y bytes maxL (some .long) :: jGW) rm (jPre D (jT K) G (.ref (ua 0) :: As) (wJ K ua J) H.size) (jQl D (jT K) VL (wJ K ua J') (va_A (wJ K ua J) H.size)) 0 0 (va_A (wJ K ua J) H.size))
    (hst : st0 = As.reverse ++ .ref (ua 0) :: rest) (hAs : As.length = n) (hrest : (rest.map fun v => v.category).sum ≤ 8) (hdg : decode code pc = .ok (.invokevirtual idx, 3))
    (kk : ∀ (H : Heap) (locs : List Loc), va_P D vwCl (wJ K ua J' ++ wM K ub M) H → va_D (lgA s) (wJ K ua J' ++ wM K ub M) → va_S (lgA s) s.heap H locs → W p l e room_1 s m #[Value.ref b] below meth c H locs 600000 7302250 Q (F0 m (pc + 3) ls (.long VL :: rest))) : W p l e room_1 s m #[Value.ref b] below meth c H locs 600000 7302250 Q (F0 m pc ls st0) := by
  have hA : ∀ q : Nat, s.heap.size ≤ q → lgA s q := fun _ h => h
  obtain ⟨hx, hb, hml, hown, hts, hK, hZ, hX, hbl, hL⟩ := hC
  exact jcl (jrunV (ci := 3) (As := As) hx hb hml hown hts hK hZ hA hP hD hS hl.1 hF hlink hR ⟨Nat.le_refl _, Nat.le_refl _⟩ [0, 1, 2, 3, 4, 5, 6, 7, 8, 9, 10, 11, 12, 13, 14, 15, 16, 17, 18, 19, 20, 21, 22, 23, 24, 25, 26, 27, 28, 29] rfl (lg_iJ K ua ub J M) rfl rfl rfl hM hst hAs hrest hdg) hA hP hD hS [0, 1, 2, 3, 4, 5, 6, 7, 8, 9, 10, 11, 12, 13, 14, 15, 16, 17, 18, 19, 20, 21, 22, 23, 24, 25, 26, 27, 28, 29] (lg_iJ K ua ub J M) (lg_aJ K ua J J') (fun H locs hP hD hS => kk H locs (lg_pJ K ua ub J J' M ▸ hP) (lg_pJ K ua ub J J' M ▸ hD) hS)
theorem lg_Ml (hC : lgC p s m c b L xs D K G) (hP : va_P D vwCl (wJ K ua J ++ wM K ub M) H) (hD : va_D (lgA s) (wJ K ua J ++ wM K ub M)) (hS : va_S (lgA s) s.heap H locs) (hl : lv_has ls 4 (lgL b (ua 0) (ub 0) i)) (hF : jMV y bytes maxL (some .long) RX5 n) (hlink : Cond.methodLink RL idx y ∈ jGW) (hR : jRm rm maxL room_1)
    (hM : Met l y (.code y bytes maxL (some .long) :: jGW) rm (jPre D (jT K) G (.ref (ub 0) :: As) (wM K ub M) H.size) (jQl D (jT K) VL (wM K ub M') (va_A (wM K ub M) H.size)) 0 0 (va_A (wM K ub M) H.size))
    (hst : st0 = As.reverse ++ .ref (ub 0) :: rest) (hAs : As.length = n) (hrest : (rest.map fun v => v.category).sum ≤ 8) (hdg : decode code pc = .ok (.invokevirtual idx, 3))
    (kk : ∀ (H : Heap) (locs : List Loc), va_P D vwCl (wJ K ua J ++ wM K ub M') H → va_D (lgA s) (wJ K ua J ++ wM K ub M') → va_S (lgA s) s.heap H locs → W p l e room_1 s m #[Value.ref b] below meth c H locs 600000 7302250 Q (F0 m (pc + 3) ls (.long VL :: rest))) : W p l e room_1 s m #[Value.ref b] below meth c H locs 600000 7302250 Q (F0 m pc ls st0) := by
  have hA : ∀ q : Nat, s.heap.size ≤ q → lgA s q := fun _ h => h
  obtain ⟨hx, hb, hml, hown, hts, hK, hZ, hX, hbl, hL⟩ := hC
  exact jcl (jrunV (ci := 4) (As := As) hx hb hml hown hts hK hZ hA hP hD hS hl.1 hF hlink hR ⟨Nat.le_refl _, Nat.le_refl _⟩ [30, 31, 32, 33, 34, 35, 36, 37, 38] rfl (lg_iM K ua ub J M) rfl rfl rfl hM hst hAs hrest hdg) hA hP hD hS [30, 31, 32, 33, 34, 35, 36, 37, 38] (lg_iM K ua ub J M) (lg_aM K ub M M') (fun H locs hP hD hS => kk H locs (lg_pM K ua ub J M M' ▸ hP) (lg_pM K ua ub J M M' ▸ hD) hS)
theorem lg_c0 (hC : lgC p s m c b L xs D K G) (hi : i + 6 ≤ L) (IH : lgI p l e s m below meth c b K ua ub Q (D := D) (i + 6)) (h : Rel J M) (hP : va_P D vwCl (wJ K ua J ++ wM K ub M) H) (hD : va_D (lgA s) (wJ K ua J ++ wM K ub M)) (hS : va_S (lgA s) s.heap H locs) (hl : lv_has ls 4 (lgL b (ua 0) (ub 0) i)) : W p l e room_1 s m #[Value.ref b] below meth c H locs 600000 7302250 Q (F0 m 208 ls []) := by
  have k := P_set h (xs (i + 1)) (xs (i + 2))
  refine lv_aload_n hC.1 hC.2.1 dL_208 rfl (lv_at hl 1 rfl) ?_
  refine lg_ld 1 hC hi (by decide) hl hS dL_209 dL_210 dL_211 (by decide) dL_212 dL_213 ?_
  refine lg_ld 2 hC hi (by decide) hl hS dL_214 dL_215 dL_216 (by decide) dL_217 dL_218 ?_
  refine lg_J (As := [.int (xs (i + 1)), .int (xs (i + 2))]) (rest := []) hC hP hD hS hl mf_X4_set kl_L_13 ⟨rfl, rfl, (Nat.le_of_ble_eq_true rfl), (Nat.le_of_ble_eq_true rfl)⟩ (hX4_set l D K G ua _ (xs (i + 1)) (xs (i + 2)) k.1 _) rfl rfl (Nat.le_of_ble_eq_true rfl) dL_219 (fun H locs hP hD hS => ?_)
  refine lv_aload_n hC.1 hC.2.1 dL_222 rfl (lv_at hl 2 rfl) ?_
  refine lg_ld 1 hC hi (by decide) hl hS dL_223 dL_224 dL_225 (by decide) dL_226 dL_227 ?_
  refine lg_ld 2 hC hi (by decide) hl hS dL_228 dL_229 dL_230 (by decide) dL_231 dL_232 ?_
  refine lg_M (As := [.int (xs (i + 1)), .int (xs (i + 2))]) (rest := [.int _]) hC hP hD hS hl mf_X5_set kl_L_17 ⟨rfl, rfl, (Nat.le_of_ble_eq_true rfl), (Nat.le_of_ble_eq_true rfl)⟩ (hX5_set l D K G ub _ (xs (i + 1)) (xs (i + 2)) k.2.1 _) rfl rfl (Nat.le_of_ble_eq_true rfl) dL_233 (fun H locs hP hD hS => ?_)
  refine lg_eq hC dL_236 (by decide) k.2.2.1 ?_
  exact lg_next hC IH k.2.2.2 hP hD hS hl
theorem lg_c1 (hC : lgC p s m c b L xs D K G) (hi : i + 6 ≤ L) (IH : lgI p l e s m below meth c b K ua ub Q (D := D) (i + 6)) (h : Rel J M) (hP : va_P D vwCl (wJ K ua J ++ wM K ub M) H) (hD : va_D (lgA s) (wJ K ua J ++ wM K ub M)) (hS : va_S (lgA s) s.heap H locs) (hl : lv_has ls 4 (lgL b (ua 0) (ub 0) i)) : W p l e room_1 s m #[Value.ref b] below meth c H locs 600000 7302250 Q (F0 m 241 ls []) := by
  have k := P_home h (xs (i + 1))
  refine lv_aload_n hC.1 hC.2.1 dL_241 rfl (lv_at hl 1 rfl) ?_
  refine lg_ld 1 hC hi (by decide) hl hS dL_242 dL_243 dL_244 (by decide) dL_245 dL_246 ?_
  refine lg_J (As := [.int (xs (i + 1))]) (rest := []) hC hP hD hS hl mf_X4_home kl_L_18 ⟨rfl, rfl, (Nat.le_of_ble_eq_true rfl), (Nat.le_of_ble_eq_true rfl)⟩ (hX4_home l D K G ua _ (xs (i + 1)) k.1 _) rfl rfl (Nat.le_of_ble_eq_true rfl) dL_247 (fun H locs hP hD hS => ?_)
  refine lv_aload_n hC.1 hC.2.1 dL_250 rfl (lv_at hl 2 rfl) ?_
  refine lg_ld 1 hC hi (by decide) hl hS dL_251 dL_252 dL_253 (by decide) dL_254 dL_255 ?_
  refine lg_M (As := [.int (xs (i + 1))]) (rest := [.int _]) hC hP hD hS hl mf_X5_home kl_L_22 ⟨rfl, rfl, (Nat.le_of_ble_eq_true rfl), (Nat.le_of_ble_eq_true rfl)⟩ (hX5_home l D K G ub _ (xs (i + 1)) k.2.1 _) rfl rfl (Nat.le_of_ble_eq_true rfl) dL_256 (fun H locs hP hD hS => ?_)
  refine lg_eq hC dL_259 (by decide) k.2.2.1 ?_
  exact lg_next hC IH k.2.2.2 hP hD hS hl
theorem lg_c2 (hC : lgC p s m c b L xs D K G) (hi : i + 6 ≤ L) (IH : lgI p l e s m below meth c b K ua ub Q (D := D) (i + 6)) (h : Rel J M) (hP : va_P D vwCl (wJ K ua J ++ wM K ub M) H) (hD : va_D (lgA s) (wJ K ua J ++ wM K ub M)) (hS : va_S (lgA s) s.heap H locs) (hl : lv_has ls 4 (lgL b (ua 0) (ub 0) i)) : W p l e room_1 s m #[Value.ref b] below meth c H locs 600000 7302250 Q (F0 m 264 ls []) := by
  have k := P_blow h (xs (i + 1)) (xs (i + 2)) (xs (i + 3))
  refine lv_aload_n hC.1 hC.2.1 dL_264 rfl (lv_at hl 1 rfl) ?_
  refine lg_ld 1 hC hi (by decide) hl hS dL_265 dL_266 dL_267 (by decide) dL_268 dL_269 ?_
  refine lg_ld 2 hC hi (by decide) hl hS dL_270 dL_271 dL_272 (by decide) dL_273 dL_274 ?_
  refine lg_ld 3 hC hi (by decide) hl hS dL_275 dL_276 dL_277 (by decide) dL_278 dL_279 ?_
  refine lg_J (As := [.int (xs (i + 1)), .int (xs (i + 2)), .int (xs (i + 3))]) (rest := []) hC hP hD hS hl mf_X4_blow kl_L_23 ⟨rfl, rfl, (Nat.le_of_ble_eq_true rfl), (Nat.le_of_ble_eq_true rfl)⟩ (hX4_blow l D K G ua _ (xs (i + 1)) (xs (i + 2)) (xs (i + 3)) k.1 _) rfl rfl (Nat.le_of_ble_eq_true rfl) dL_280 (fun H locs hP hD hS => ?_)
  refine lv_aload_n hC.1 hC.2.1 dL_283 rfl (lv_at hl 2 rfl) ?_
  refine lg_ld 1 hC hi (by decide) hl hS dL_284 dL_285 dL_286 (by decide) dL_287 dL_288 ?_
  refine lg_ld 2 hC hi (by decide) hl hS dL_289 dL_290 dL_291 (by decide) dL_292 dL_293 ?_
  refine lg_ld 3 hC hi (by decide) hl hS dL_294 dL_295 dL_296 (by decide) dL_297 dL_298 ?_
  refine lg_M (As := [.int (xs (i + 1)), .int (xs (i + 2)), .int (xs (i + 3))]) (rest := [.int _]) hC hP hD hS hl mf_X5_blow kl_L_27 ⟨rfl, rfl, (Nat.le_of_ble_eq_true rfl), (Nat.le_of_ble_eq_true rfl)⟩ (hX5_blow l D K G ub _ (xs (i + 1)) (xs (i + 2)) (xs (i + 3)) k.2.1 _) rfl rfl (Nat.le_of_ble_eq_true rfl) dL_299 (fun H locs hP hD hS => ?_)
  refine lg_eq hC dL_302 (by decide) k.2.2.1 ?_
  exact lg_next hC IH k.2.2.2 hP hD hS hl
theorem lg_c3 (hC : lgC p s m c b L xs D K G) (hi : i + 6 ≤ L) (IH : lgI p l e s m below meth c b K ua ub Q (D := D) (i + 6)) (h : Rel J M) (hP : va_P D vwCl (wJ K ua J ++ wM K ub M) H) (hD : va_D (lgA s) (wJ K ua J ++ wM K ub M)) (hS : va_S (lgA s) s.heap H locs) (hl : lv_has ls 4 (lgL b (ua 0) (ub 0) i)) : W p l e room_1 s m #[Value.ref b] below meth c H locs 600000 7302250 Q (F0 m 307 ls []) := by
  have k := P_listed h (xs (i + 1))
  refine lv_aload_n hC.1 hC.2.1 dL_307 rfl (lv_at hl 1 rfl) ?_
  refine lg_ld 1 hC hi (by decide) hl hS dL_308 dL_309 dL_310 (by decide) dL_311 dL_312 ?_
  refine lg_J (As := [.int (xs (i + 1))]) (rest := []) hC hP hD hS hl mf_X4_listed kl_L_28 ⟨rfl, rfl, (Nat.le_of_ble_eq_true rfl), (Nat.le_of_ble_eq_true rfl)⟩ (hX4_listed l D K G ua _ (xs (i + 1)) k.1 _) rfl rfl (Nat.le_of_ble_eq_true rfl) dL_313 (fun H locs hP hD hS => ?_)
  refine lv_aload_n hC.1 hC.2.1 dL_316 rfl (lv_at hl 2 rfl) ?_
  refine lg_ld 1 hC hi (by decide) hl hS dL_317 dL_318 dL_319 (by decide) dL_320 dL_321 ?_
  refine lg_M (As := [.int (xs (i + 1))]) (rest := [.int _]) hC hP hD hS hl mf_X5_listed kl_L_31 ⟨rfl, rfl, (Nat.le_of_ble_eq_true rfl), (Nat.le_of_ble_eq_true rfl)⟩ (hX5_listed l D K G ub _ (xs (i + 1)) k.2.1 _) rfl rfl (Nat.le_of_ble_eq_true rfl) dL_322 (fun H locs hP hD hS => ?_)
  refine lg_eq hC dL_325 (by decide) k.2.2.1 ?_
  exact lg_next hC IH k.2.2.2 hP hD hS hl
theorem lg_c4 (hC : lgC p s m c b L xs D K G) (hi : i + 6 ≤ L) (IH : lgI p l e s m below meth c b K ua ub Q (D := D) (i + 6)) (h : Rel J M) (hP : va_P D vwCl (wJ K ua J ++ wM K ub M) H) (hD : va_D (lgA s) (wJ K ua J ++ wM K ub M)) (hS : va_S (lgA s) s.heap H locs) (hl : lv_has ls 4 (lgL b (ua 0) (ub 0) i)) : W p l e room_1 s m #[Value.ref b] below meth c H locs 600000 7302250 Q (F0 m 330 ls []) := by
  have k := P_thing h (xs (i + 1)) (xs (i + 2))
  refine lv_aload_n hC.1 hC.2.1 dL_330 rfl (lv_at hl 1 rfl) ?_
  refine lg_ld 1 hC hi (by decide) hl hS dL_331 dL_332 dL_333 (by decide) dL_334 dL_335 ?_
  refine lg_ld 2 hC hi (by decide) hl hS dL_336 dL_337 dL_338 (by decide) dL_339 dL_340 ?_
  refine lg_J (As := [.int (xs (i + 1)), .int (xs (i + 2))]) (rest := []) hC hP hD hS hl mf_X4_thing kl_L_32 ⟨rfl, rfl, (Nat.le_of_ble_eq_true rfl), (Nat.le_of_ble_eq_true rfl)⟩ (hX4_thing l D K G ua _ (xs (i + 1)) (xs (i + 2)) k.1 _) rfl rfl (Nat.le_of_ble_eq_true rfl) dL_341 (fun H locs hP hD hS => ?_)
  refine lv_aload_n hC.1 hC.2.1 dL_344 rfl (lv_at hl 2 rfl) ?_
  refine lg_ld 1 hC hi (by decide) hl hS dL_345 dL_346 dL_347 (by decide) dL_348 dL_349 ?_
  refine lg_ld 2 hC hi (by decide) hl hS dL_350 dL_351 dL_352 (by decide) dL_353 dL_354 ?_
  refine lg_M (As := [.int (xs (i + 1)), .int (xs (i + 2))]) (rest := [.int _]) hC hP hD hS hl mf_X5_thing kl_L_35 ⟨rfl, rfl, (Nat.le_of_ble_eq_true rfl), (Nat.le_of_ble_eq_true rfl)⟩ (hX5_thing l D K G ub _ (xs (i + 1)) (xs (i + 2)) k.2.1 _) rfl rfl (Nat.le_of_ble_eq_true rfl) dL_355 (fun H locs hP hD hS => ?_)
  refine lg_eq hC dL_358 (by decide) k.2.2.1 ?_
  exact lg_next hC IH k.2.2.2 hP hD hS hl
theorem lg_c5 (hC : lgC p s m c b L xs D K G) (hi : i + 6 ≤ L) (IH : lgI p l e s m below meth c b K ua ub Q (D := D) (i + 6)) (h : Rel J M) (hP : va_P D vwCl (wJ K ua J ++ wM K ub M) H) (hD : va_D (lgA s) (wJ K ua J ++ wM K ub M)) (hS : va_S (lgA s) s.heap H locs) (hl : lv_has ls 4 (lgL b (ua 0) (ub 0) i)) : W p l e room_1 s m #[Value.ref b] below meth c H locs 600000 7302250 Q (F0 m 363 ls []) := by
  have k := P_of h (xs (i + 1)) (xs (i + 2))
  refine lv_aload_n hC.1 hC.2.1 dL_363 rfl (lv_at hl 1 rfl) ?_
  refine lg_ld 1 hC hi (by decide) hl hS dL_364 dL_365 dL_366 (by decide) dL_367 dL_368 ?_
  refine lg_ld 2 hC hi (by decide) hl hS dL_369 dL_370 dL_371 (by decide) dL_372 dL_373 ?_
  refine lg_J (As := [.int (xs (i + 1)), .int (xs (i + 2))]) (rest := []) hC hP hD hS hl mf_X4_of kl_L_36 ⟨rfl, rfl, (Nat.le_of_ble_eq_true rfl), (Nat.le_of_ble_eq_true rfl)⟩ (hX4_of l D K G ua _ (xs (i + 1)) (xs (i + 2)) k.1 _) rfl rfl (Nat.le_of_ble_eq_true rfl) dL_374 (fun H locs hP hD hS => ?_)
  refine lv_aload_n hC.1 hC.2.1 dL_377 rfl (lv_at hl 2 rfl) ?_
  refine lg_ld 1 hC hi (by decide) hl hS dL_378 dL_379 dL_380 (by decide) dL_381 dL_382 ?_
  refine lg_ld 2 hC hi (by decide) hl hS dL_383 dL_384 dL_385 (by decide) dL_386 dL_387 ?_
  refine lg_M (As := [.int (xs (i + 1)), .int (xs (i + 2))]) (rest := [.int _]) hC hP hD hS hl mf_X5_of kl_L_39 ⟨rfl, rfl, (Nat.le_of_ble_eq_true rfl), (Nat.le_of_ble_eq_true rfl)⟩ (hX5_of l D K G ub _ (xs (i + 1)) (xs (i + 2)) k.2.1 _) rfl rfl (Nat.le_of_ble_eq_true rfl) dL_388 (fun H locs hP hD hS => ?_)
  refine lg_eq hC dL_391 (by decide) k.2.2.1 ?_
  exact lg_next hC IH k.2.2.2 hP hD hS hl
theorem lg_c6 (hC : lgC p s m c b L xs D K G) (hi : i + 6 ≤ L) (IH : lgI p l e s m below meth c b K ua ub Q (D := D) (i + 6)) (h : Rel J M) (hP : va_P D vwCl (wJ K ua J ++ wM K ub M) H) (hD : va_D (lgA s) (wJ K ua J ++ wM K ub M)) (hS : va_S (lgA s) s.heap H locs) (hl : lv_has ls 4 (lgL b (ua 0) (ub 0) i)) : W p l e room_1 s m #[Value.ref b] below meth c H locs 600000 7302250 Q (F0 m 396 ls []) := by
  have k := P_change h (xs (i + 1)) (xs (i + 2)) (xs (i + 3))
  refine lv_aload_n hC.1 hC.2.1 dL_396 rfl (lv_at hl 1 rfl) ?_
  refine lg_ld 1 hC hi (by decide) hl hS dL_397 dL_398 dL_399 (by decide) dL_400 dL_401 ?_
  refine lg_ld 2 hC hi (by decide) hl hS dL_402 dL_403 dL_404 (by decide) dL_405 dL_406 ?_
  refine lg_ld 3 hC hi (by decide) hl hS dL_407 dL_408 dL_409 (by decide) dL_410 dL_411 ?_
  refine lg_J (As := [.int (xs (i + 1)), .int (xs (i + 2)), .int (xs (i + 3))]) (rest := []) hC hP hD hS hl mf_X4_change kl_L_40 ⟨rfl, rfl, (Nat.le_of_ble_eq_true rfl), (Nat.le_of_ble_eq_true rfl)⟩ (hX4_change l D K G ua _ (xs (i + 1)) (xs (i + 2)) (xs (i + 3)) k.1 _) rfl rfl (Nat.le_of_ble_eq_true rfl) dL_412 (fun H locs hP hD hS => ?_)
  refine lv_aload_n hC.1 hC.2.1 dL_415 rfl (lv_at hl 2 rfl) ?_
  refine lg_ld 1 hC hi (by decide) hl hS dL_416 dL_417 dL_418 (by decide) dL_419 dL_420 ?_
  refine lg_ld 2 hC hi (by decide) hl hS dL_421 dL_422 dL_423 (by decide) dL_424 dL_425 ?_
  refine lg_ld 3 hC hi (by decide) hl hS dL_426 dL_427 dL_428 (by decide) dL_429 dL_430 ?_
  refine lg_M (As := [.int (xs (i + 1)), .int (xs (i + 2)), .int (xs (i + 3))]) (rest := [.int _]) hC hP hD hS hl mf_X5_change kl_L_43 ⟨rfl, rfl, (Nat.le_of_ble_eq_true rfl), (Nat.le_of_ble_eq_true rfl)⟩ (hX5_change l D K G ub _ (xs (i + 1)) (xs (i + 2)) (xs (i + 3)) k.2.1 _) rfl rfl (Nat.le_of_ble_eq_true rfl) dL_431 (fun H locs hP hD hS => ?_)
  refine lg_eq hC dL_434 (by decide) k.2.2.1 ?_
  exact lg_next hC IH k.2.2.2 hP hD hS hl
theorem lg_c7 (hC : lgC p s m c b L xs D K G) (hi : i + 6 ≤ L) (IH : lgI p l e s m below meth c b K ua ub Q (D := D) (i + 6)) (h : Rel J M) (hP : va_P D vwCl (wJ K ua J ++ wM K ub M) H) (hD : va_D (lgA s) (wJ K ua J ++ wM K ub M)) (hS : va_S (lgA s) s.heap H locs) (hl : lv_has ls 4 (lgL b (ua 0) (ub 0) i)) : W p l e room_1 s m #[Value.ref b] below meth c H locs 600000 7302250 Q (F0 m 439 ls []) := by
  have k := P_hurts h (xs (i + 1)) (xs (i + 2))
  refine lv_aload_n hC.1 hC.2.1 dL_439 rfl (lv_at hl 1 rfl) ?_
  refine lg_ld 1 hC hi (by decide) hl hS dL_440 dL_441 dL_442 (by decide) dL_443 dL_444 ?_
  refine lg_ld 2 hC hi (by decide) hl hS dL_445 dL_446 dL_447 (by decide) dL_448 dL_449 ?_
  refine lg_J (As := [.int (xs (i + 1)), .int (xs (i + 2))]) (rest := []) hC hP hD hS hl mf_X4_hurts kl_L_44 ⟨rfl, rfl, (Nat.le_of_ble_eq_true rfl), (Nat.le_of_ble_eq_true rfl)⟩ (hX4_hurts l D K G ua _ (xs (i + 1)) (xs (i + 2)) k.1 _) rfl rfl (Nat.le_of_ble_eq_true rfl) dL_450 (fun H locs hP hD hS => ?_)
  refine lv_aload_n hC.1 hC.2.1 dL_453 rfl (lv_at hl 2 rfl) ?_
  refine lg_ld 1 hC hi (by decide) hl hS dL_454 dL_455 dL_456 (by decide) dL_457 dL_458 ?_
  refine lg_ld 2 hC hi (by decide) hl hS dL_459 dL_460 dL_461 (by decide) dL_462 dL_463 ?_
  refine lg_M (As := [.int (xs (i + 1)), .int (xs (i + 2))]) (rest := [.int _]) hC hP hD hS hl mf_X5_hurts kl_L_47 ⟨rfl, rfl, (Nat.le_of_ble_eq_true rfl), (Nat.le_of_ble_eq_true rfl)⟩ (hX5_hurts l D K G ub _ (xs (i + 1)) (xs (i + 2)) k.2.1 _) rfl rfl (Nat.le_of_ble_eq_true rfl) dL_464 (fun H locs hP hD hS => ?_)
  refine lg_eq hC dL_467 (by decide) k.2.2.1 ?_
  exact lg_next hC IH k.2.2.2 hP hD hS hl
theorem lg_c8 (hC : lgC p s m c b L xs D K G) (hi : i + 6 ≤ L) (IH : lgI p l e s m below meth c b K ua ub Q (D := D) (i + 6)) (h : Rel J M) (hP : va_P D vwCl (wJ K ua J ++ wM K ub M) H) (hD : va_D (lgA s) (wJ K ua J ++ wM K ub M)) (hS : va_S (lgA s) s.heap H locs) (hl : lv_has ls 4 (lgL b (ua 0) (ub 0) i)) : W p l e room_1 s m #[Value.ref b] below meth c H locs 600000 7302250 Q (F0 m 472 ls []) := by
  have k := P_go h (xs (i + 1))
  refine lv_aload_n hC.1 hC.2.1 dL_472 rfl (lv_at hl 1 rfl) ?_
  refine lg_ld 1 hC hi (by decide) hl hS dL_473 dL_474 dL_475 (by decide) dL_476 dL_477 ?_
  refine lg_J (As := [.int (xs (i + 1))]) (rest := []) hC hP hD hS hl mf_X4_go kl_L_48 ⟨rfl, rfl, (Nat.le_of_ble_eq_true rfl), (Nat.le_of_ble_eq_true rfl)⟩ (hX4_go l D K G ua _ (xs (i + 1)) k.1 _) rfl rfl (Nat.le_of_ble_eq_true rfl) dL_478 (fun H locs hP hD hS => ?_)
  refine lv_aload_n hC.1 hC.2.1 dL_481 rfl (lv_at hl 2 rfl) ?_
  refine lg_ld 1 hC hi (by decide) hl hS dL_482 dL_483 dL_484 (by decide) dL_485 dL_486 ?_
  refine lg_M (As := [.int (xs (i + 1))]) (rest := [.int _]) hC hP hD hS hl mf_X5_go kl_L_51 ⟨rfl, rfl, (Nat.le_of_ble_eq_true rfl), (Nat.le_of_ble_eq_true rfl)⟩ (hX5_go l D K G ub _ (xs (i + 1)) k.2.1 _) rfl rfl (Nat.le_of_ble_eq_true rfl) dL_487 (fun H locs hP hD hS => ?_)
  refine lg_eq hC dL_490 (by decide) k.2.2.1 ?_
  exact lg_next hC IH k.2.2.2 hP hD hS hl
theorem lg_c9 (hC : lgC p s m c b L xs D K G) (hi : i + 6 ≤ L) (IH : lgI p l e s m below meth c b K ua ub Q (D := D) (i + 6)) (h : Rel J M) (hP : va_P D vwCl (wJ K ua J ++ wM K ub M) H) (hD : va_D (lgA s) (wJ K ua J ++ wM K ub M)) (hS : va_S (lgA s) s.heap H locs) (hl : lv_has ls 4 (lgL b (ua 0) (ub 0) i)) : W p l e room_1 s m #[Value.ref b] below meth c H locs 600000 7302250 Q (F0 m 495 ls []) := by
  have k := P_now h (xs (i + 1))
  refine lv_aload_n hC.1 hC.2.1 dL_495 rfl (lv_at hl 1 rfl) ?_
  refine lg_ld 1 hC hi (by decide) hl hS dL_496 dL_497 dL_498 (by decide) dL_499 dL_500 ?_
  refine lg_J (As := [.int (xs (i + 1))]) (rest := []) hC hP hD hS hl mf_X4_now kl_L_52 ⟨rfl, rfl, (Nat.le_of_ble_eq_true rfl), (Nat.le_of_ble_eq_true rfl)⟩ (hX4_now l D K G ua _ (xs (i + 1)) k.1 _) rfl rfl (Nat.le_of_ble_eq_true rfl) dL_501 (fun H locs hP hD hS => ?_)
  refine lv_aload_n hC.1 hC.2.1 dL_504 rfl (lv_at hl 2 rfl) ?_
  refine lg_ld 1 hC hi (by decide) hl hS dL_505 dL_506 dL_507 (by decide) dL_508 dL_509 ?_
  refine lg_M (As := [.int (xs (i + 1))]) (rest := [.int _]) hC hP hD hS hl mf_X5_now kl_L_55 ⟨rfl, rfl, (Nat.le_of_ble_eq_true rfl), (Nat.le_of_ble_eq_true rfl)⟩ (hX5_now l D K G ub _ (xs (i + 1)) k.2.1 _) rfl rfl (Nat.le_of_ble_eq_true rfl) dL_510 (fun H locs hP hD hS => ?_)
  refine lg_eq hC dL_513 (by decide) k.2.2.1 ?_
  exact lg_next hC IH k.2.2.2 hP hD hS hl
theorem lg_c10 (hC : lgC p s m c b L xs D K G) (hi : i + 6 ≤ L) (IH : lgI p l e s m below meth c b K ua ub Q (D := D) (i + 6)) (h : Rel J M) (hP : va_P D vwCl (wJ K ua J ++ wM K ub M) H) (hD : va_D (lgA s) (wJ K ua J ++ wM K ub M)) (hS : va_S (lgA s) s.heap H locs) (hl : lv_has ls 4 (lgL b (ua 0) (ub 0) i)) : W p l e room_1 s m #[Value.ref b] below meth c H locs 600000 7302250 Q (F0 m 518 ls []) := by
  have k := P_ahead h (xs (i + 1)) (xs (i + 2)) (xs (i + 3))
  refine lv_aload_n hC.1 hC.2.1 dL_518 rfl (lv_at hl 1 rfl) ?_
  refine lg_ld 1 hC hi (by decide) hl hS dL_519 dL_520 dL_521 (by decide) dL_522 dL_523 ?_
  refine lg_ld 2 hC hi (by decide) hl hS dL_524 dL_525 dL_526 (by decide) dL_527 dL_528 ?_
  refine lg_ld 3 hC hi (by decide) hl hS dL_529 dL_530 dL_531 (by decide) dL_532 dL_533 ?_
  refine lg_J (As := [.int (xs (i + 1)), .int (xs (i + 2)), .int (xs (i + 3))]) (rest := []) hC hP hD hS hl mf_X4_ahead kl_L_56 ⟨rfl, rfl, (Nat.le_of_ble_eq_true rfl), (Nat.le_of_ble_eq_true rfl)⟩ (hX4_ahead l D K G ua _ (xs (i + 1)) (xs (i + 2)) (xs (i + 3)) k.1 _) rfl rfl (Nat.le_of_ble_eq_true rfl) dL_534 (fun H locs hP hD hS => ?_)
  refine lv_aload_n hC.1 hC.2.1 dL_537 rfl (lv_at hl 2 rfl) ?_
  refine lg_ld 1 hC hi (by decide) hl hS dL_538 dL_539 dL_540 (by decide) dL_541 dL_542 ?_
  refine lg_ld 2 hC hi (by decide) hl hS dL_543 dL_544 dL_545 (by decide) dL_546 dL_547 ?_
  refine lg_ld 3 hC hi (by decide) hl hS dL_548 dL_549 dL_550 (by decide) dL_551 dL_552 ?_
  refine lg_M (As := [.int (xs (i + 1)), .int (xs (i + 2)), .int (xs (i + 3))]) (rest := [.int _]) hC hP hD hS hl mf_X5_ahead kl_L_59 ⟨rfl, rfl, (Nat.le_of_ble_eq_true rfl), (Nat.le_of_ble_eq_true rfl)⟩ (hX5_ahead l D K G ub _ (xs (i + 1)) (xs (i + 2)) (xs (i + 3)) k.2.1 _) rfl rfl (Nat.le_of_ble_eq_true rfl) dL_553 (fun H locs hP hD hS => ?_)
  refine lg_eq hC dL_556 (by decide) k.2.2.1 ?_
  exact lg_next hC IH k.2.2.2 hP hD hS hl
theorem lg_c11 (hC : lgC p s m c b L xs D K G) (hi : i + 6 ≤ L) (IH : lgI p l e s m below meth c b K ua ub Q (D := D) (i + 6)) (h : Rel J M) (hP : va_P D vwCl (wJ K ua J ++ wM K ub M) H) (hD : va_D (lgA s) (wJ K ua J ++ wM K ub M)) (hS : va_S (lgA s) s.heap H locs) (hl : lv_has ls 4 (lgL b (ua 0) (ub 0) i)) : W p l e room_1 s m #[Value.ref b] below meth c H locs 600000 7302250 Q (F0 m 561 ls []) := by
  have k := P_judged h (xs (i + 1))
  refine lv_aload_n hC.1 hC.2.1 dL_561 rfl (lv_at hl 1 rfl) ?_
  refine lg_ld 1 hC hi (by decide) hl hS dL_562 dL_563 dL_564 (by decide) dL_565 dL_566 ?_
  refine lg_J (As := [.int (xs (i + 1))]) (rest := []) hC hP hD hS hl mf_X4_judged kl_L_60 ⟨rfl, rfl, (Nat.le_of_ble_eq_true rfl), (Nat.le_of_ble_eq_true rfl)⟩ (hX4_judged l D K G ua _ (xs (i + 1)) k.1 _) rfl rfl (Nat.le_of_ble_eq_true rfl) dL_567 (fun H locs hP hD hS => ?_)
  refine lv_aload_n hC.1 hC.2.1 dL_570 rfl (lv_at hl 2 rfl) ?_
  refine lg_ld 1 hC hi (by decide) hl hS dL_571 dL_572 dL_573 (by decide) dL_574 dL_575 ?_
  refine lg_M (As := [.int (xs (i + 1))]) (rest := [.int _]) hC hP hD hS hl mf_X5_judged kl_L_63 ⟨rfl, rfl, (Nat.le_of_ble_eq_true rfl), (Nat.le_of_ble_eq_true rfl)⟩ (hX5_judged l D K G ub _ (xs (i + 1)) k.2.1 _) rfl rfl (Nat.le_of_ble_eq_true rfl) dL_576 (fun H locs hP hD hS => ?_)
  refine lg_eq hC dL_579 (by decide) k.2.2.1 ?_
  exact lg_next hC IH k.2.2.2 hP hD hS hl
theorem lg_c12 (hC : lgC p s m c b L xs D K G) (hi : i + 6 ≤ L) (IH : lgI p l e s m below meth c b K ua ub Q (D := D) (i + 6)) (h : Rel J M) (hP : va_P D vwCl (wJ K ua J ++ wM K ub M) H) (hD : va_D (lgA s) (wJ K ua J ++ wM K ub M)) (hS : va_S (lgA s) s.heap H locs) (hl : lv_has ls 4 (lgL b (ua 0) (ub 0) i)) : W p l e room_1 s m #[Value.ref b] below meth c H locs 600000 7302250 Q (F0 m 584 ls []) := by
  have k := P_worthless h (xs (i + 1)) (xs (i + 2))
  refine lv_aload_n hC.1 hC.2.1 dL_584 rfl (lv_at hl 1 rfl) ?_
  refine lg_ld 1 hC hi (by decide) hl hS dL_585 dL_586 dL_587 (by decide) dL_588 dL_589 ?_
  refine lg_ld 2 hC hi (by decide) hl hS dL_590 dL_591 dL_592 (by decide) dL_593 dL_594 ?_
  refine lg_J (As := [.int (xs (i + 1)), .int (xs (i + 2))]) (rest := []) hC hP hD hS hl mf_X4_worthless kl_L_64 ⟨rfl, rfl, (Nat.le_of_ble_eq_true rfl), (Nat.le_of_ble_eq_true rfl)⟩ (hX4_worthless l D K G ua _ (xs (i + 1)) (xs (i + 2)) k.1 _) rfl rfl (Nat.le_of_ble_eq_true rfl) dL_595 (fun H locs hP hD hS => ?_)
  refine lv_aload_n hC.1 hC.2.1 dL_598 rfl (lv_at hl 2 rfl) ?_
  refine lg_ld 1 hC hi (by decide) hl hS dL_599 dL_600 dL_601 (by decide) dL_602 dL_603 ?_
  refine lg_ld 2 hC hi (by decide) hl hS dL_604 dL_605 dL_606 (by decide) dL_607 dL_608 ?_
  refine lg_M (As := [.int (xs (i + 1)), .int (xs (i + 2))]) (rest := [.int _]) hC hP hD hS hl mf_X5_worthless kl_L_67 ⟨rfl, rfl, (Nat.le_of_ble_eq_true rfl), (Nat.le_of_ble_eq_true rfl)⟩ (hX5_worthless l D K G ub _ (xs (i + 1)) (xs (i + 2)) k.2.1 _) rfl rfl (Nat.le_of_ble_eq_true rfl) dL_609 (fun H locs hP hD hS => ?_)
  refine lg_eq hC dL_612 (by decide) k.2.2.1 ?_
  exact lg_next hC IH k.2.2.2 hP hD hS hl
theorem lg_c13 (hC : lgC p s m c b L xs D K G) (hi : i + 6 ≤ L) (IH : lgI p l e s m below meth c b K ua ub Q (D := D) (i + 6)) (h : Rel J M) (hP : va_P D vwCl (wJ K ua J ++ wM K ub M) H) (hD : va_D (lgA s) (wJ K ua J ++ wM K ub M)) (hS : va_S (lgA s) s.heap H locs) (hl : lv_has ls 4 (lgL b (ua 0) (ub 0) i)) : W p l e room_1 s m #[Value.ref b] below meth c H locs 600000 7302250 Q (F0 m 617 ls []) := by
  have k := P_owing h (xs (i + 1)) (xs (i + 2))
  refine lv_aload_n hC.1 hC.2.1 dL_617 rfl (lv_at hl 1 rfl) ?_
  refine lg_ld 1 hC hi (by decide) hl hS dL_618 dL_619 dL_620 (by decide) dL_621 dL_622 ?_
  refine lg_ld 2 hC hi (by decide) hl hS dL_623 dL_624 dL_625 (by decide) dL_626 dL_627 ?_
  refine lg_J (As := [.int (xs (i + 1)), .int (xs (i + 2))]) (rest := []) hC hP hD hS hl mf_X4_owing kl_L_68 ⟨rfl, rfl, (Nat.le_of_ble_eq_true rfl), (Nat.le_of_ble_eq_true rfl)⟩ (hX4_owing l D K G ua _ (xs (i + 1)) (xs (i + 2)) k.1 _) rfl rfl (Nat.le_of_ble_eq_true rfl) dL_628 (fun H locs hP hD hS => ?_)
  refine lv_aload_n hC.1 hC.2.1 dL_631 rfl (lv_at hl 2 rfl) ?_
  refine lg_ld 1 hC hi (by decide) hl hS dL_632 dL_633 dL_634 (by decide) dL_635 dL_636 ?_
  refine lg_ld 2 hC hi (by decide) hl hS dL_637 dL_638 dL_639 (by decide) dL_640 dL_641 ?_
  refine lg_M (As := [.int (xs (i + 1)), .int (xs (i + 2))]) (rest := [.int _]) hC hP hD hS hl mf_X5_owing kl_L_71 ⟨rfl, rfl, (Nat.le_of_ble_eq_true rfl), (Nat.le_of_ble_eq_true rfl)⟩ (hX5_owing l D K G ub _ (xs (i + 1)) (xs (i + 2)) k.2.1 _) rfl rfl (Nat.le_of_ble_eq_true rfl) dL_642 (fun H locs hP hD hS => ?_)
  refine lg_eq hC dL_645 (by decide) k.2.2.1 ?_
  exact lg_next hC IH k.2.2.2 hP hD hS hl
theorem lg_c14 (hC : lgC p s m c b L xs D K G) (hi : i + 6 ≤ L) (IH : lgI p l e s m below meth c b K ua ub Q (D := D) (i + 6)) (h : Rel J M) (hP : va_P D vwCl (wJ K ua J ++ wM K ub M) H) (hD : va_D (lgA s) (wJ K ua J ++ wM K ub M)) (hS : va_S (lgA s) s.heap H locs) (hl : lv_has ls 4 (lgL b (ua 0) (ub 0) i)) : W p l e room_1 s m #[Value.ref b] below meth c H locs 600000 7302250 Q (F0 m 650 ls []) := by
  have k := P_forgiven h 
  refine lv_aload_n hC.1 hC.2.1 dL_650 rfl (lv_at hl 1 rfl) ?_
  refine lg_J (As := []) (rest := []) hC hP hD hS hl mf_X4_forgiven kl_L_72 ⟨rfl, rfl, (Nat.le_of_ble_eq_true rfl), (Nat.le_of_ble_eq_true rfl)⟩ (hX4_forgiven l D K G ua _  k.1 _) rfl rfl (Nat.le_of_ble_eq_true rfl) dL_651 (fun H locs hP hD hS => ?_)
  refine lv_aload_n hC.1 hC.2.1 dL_654 rfl (lv_at hl 2 rfl) ?_
  refine lg_M (As := []) (rest := [.int _]) hC hP hD hS hl mf_X5_forgiven kl_L_76 ⟨rfl, rfl, (Nat.le_of_ble_eq_true rfl), (Nat.le_of_ble_eq_true rfl)⟩ (hX5_forgiven l D K G ub _  k.2.1 _) rfl rfl (Nat.le_of_ble_eq_true rfl) dL_655 (fun H locs hP hD hS => ?_)
  refine lg_eq hC dL_658 (by decide) k.2.2.1 ?_
  exact lg_next hC IH k.2.2.2 hP hD hS hl
theorem lg_c15 (hC : lgC p s m c b L xs D K G) (hi : i + 6 ≤ L) (IH : lgI p l e s m below meth c b K ua ub Q (D := D) (i + 6)) (h : Rel J M) (hP : va_P D vwCl (wJ K ua J ++ wM K ub M) H) (hD : va_D (lgA s) (wJ K ua J ++ wM K ub M)) (hS : va_S (lgA s) s.heap H locs) (hl : lv_has ls 4 (lgL b (ua 0) (ub 0) i)) : W p l e room_1 s m #[Value.ref b] below meth c H locs 600000 7302250 Q (F0 m 663 ls []) := by
  have k := P_claimFor h (xs (i + 1)) (xs (i + 2))
  refine lv_aload_n hC.1 hC.2.1 dL_663 rfl (lv_at hl 1 rfl) ?_
  refine lg_ld 1 hC hi (by decide) hl hS dL_664 dL_665 dL_666 (by decide) dL_667 dL_668 ?_
  refine lg_ld 2 hC hi (by decide) hl hS dL_669 dL_670 dL_671 (by decide) dL_672 dL_673 ?_
  refine lg_J (As := [.int (xs (i + 1)), .int (xs (i + 2))]) (rest := []) hC hP hD hS hl mf_X4_claimFor kl_L_77 ⟨rfl, rfl, (Nat.le_of_ble_eq_true rfl), (Nat.le_of_ble_eq_true rfl)⟩ (hX4_claimFor l D K G ua _ (xs (i + 1)) (xs (i + 2)) k.1 _) rfl rfl (Nat.le_of_ble_eq_true rfl) dL_674 (fun H locs hP hD hS => ?_)
  refine lv_aload_n hC.1 hC.2.1 dL_677 rfl (lv_at hl 2 rfl) ?_
  refine lg_ld 1 hC hi (by decide) hl hS dL_678 dL_679 dL_680 (by decide) dL_681 dL_682 ?_
  refine lg_ld 2 hC hi (by decide) hl hS dL_683 dL_684 dL_685 (by decide) dL_686 dL_687 ?_
  refine lg_M (As := [.int (xs (i + 1)), .int (xs (i + 2))]) (rest := [.int _]) hC hP hD hS hl mf_X5_claimFor kl_L_80 ⟨rfl, rfl, (Nat.le_of_ble_eq_true rfl), (Nat.le_of_ble_eq_true rfl)⟩ (hX5_claimFor l D K G ub _ (xs (i + 1)) (xs (i + 2)) k.2.1 _) rfl rfl (Nat.le_of_ble_eq_true rfl) dL_688 (fun H locs hP hD hS => ?_)
  refine lg_eq hC dL_691 (by decide) k.2.2.1 ?_
  exact lg_next hC IH k.2.2.2 hP hD hS hl
theorem lg_c16 (hC : lgC p s m c b L xs D K G) (hi : i + 6 ≤ L) (IH : lgI p l e s m below meth c b K ua ub Q (D := D) (i + 6)) (h : Rel J M) (hP : va_P D vwCl (wJ K ua J ++ wM K ub M) H) (hD : va_D (lgA s) (wJ K ua J ++ wM K ub M)) (hS : va_S (lgA s) s.heap H locs) (hl : lv_has ls 4 (lgL b (ua 0) (ub 0) i)) : W p l e room_1 s m #[Value.ref b] below meth c H locs 600000 7302250 Q (F0 m 696 ls []) := by
  have k := P_peopleFor h (xs (i + 1))
  refine lv_aload_n hC.1 hC.2.1 dL_696 rfl (lv_at hl 1 rfl) ?_
  refine lg_ld 1 hC hi (by decide) hl hS dL_697 dL_698 dL_699 (by decide) dL_700 dL_701 ?_
  refine lg_J (As := [.int (xs (i + 1))]) (rest := []) hC hP hD hS hl mf_X4_peopleFor kl_L_81 ⟨rfl, rfl, (Nat.le_of_ble_eq_true rfl), (Nat.le_of_ble_eq_true rfl)⟩ (hX4_peopleFor l D K G ua _ (xs (i + 1)) k.1 _) rfl rfl (Nat.le_of_ble_eq_true rfl) dL_702 (fun H locs hP hD hS => ?_)
  refine lv_aload_n hC.1 hC.2.1 dL_705 rfl (lv_at hl 2 rfl) ?_
  refine lg_ld 1 hC hi (by decide) hl hS dL_706 dL_707 dL_708 (by decide) dL_709 dL_710 ?_
  refine lg_M (As := [.int (xs (i + 1))]) (rest := [.int _]) hC hP hD hS hl mf_X5_peopleFor kl_L_84 ⟨rfl, rfl, (Nat.le_of_ble_eq_true rfl), (Nat.le_of_ble_eq_true rfl)⟩ (hX5_peopleFor l D K G ub _ (xs (i + 1)) k.2.1 _) rfl rfl (Nat.le_of_ble_eq_true rfl) dL_711 (fun H locs hP hD hS => ?_)
  refine lg_eq hC dL_714 (by decide) k.2.2.1 ?_
  exact lg_next hC IH k.2.2.2 hP hD hS hl
theorem lg_c17 (hC : lgC p s m c b L xs D K G) (hi : i + 6 ≤ L) (IH : lgI p l e s m below meth c b K ua ub Q (D := D) (i + 6)) (h : Rel J M) (hP : va_P D vwCl (wJ K ua J ++ wM K ub M) H) (hD : va_D (lgA s) (wJ K ua J ++ wM K ub M)) (hS : va_S (lgA s) s.heap H locs) (hl : lv_has ls 4 (lgL b (ua 0) (ub 0) i)) : W p l e room_1 s m #[Value.ref b] below meth c H locs 600000 7302250 Q (F0 m 719 ls []) := by
  have k := P_kindFor h (xs (i + 1)) (xs (i + 2))
  refine lv_aload_n hC.1 hC.2.1 dL_719 rfl (lv_at hl 1 rfl) ?_
  refine lg_ld 1 hC hi (by decide) hl hS dL_720 dL_721 dL_722 (by decide) dL_723 dL_724 ?_
  refine lg_ld 2 hC hi (by decide) hl hS dL_725 dL_726 dL_727 (by decide) dL_728 dL_729 ?_
  refine lg_J (As := [.int (xs (i + 1)), .int (xs (i + 2))]) (rest := []) hC hP hD hS hl mf_X4_kindFor kl_L_85 ⟨rfl, rfl, (Nat.le_of_ble_eq_true rfl), (Nat.le_of_ble_eq_true rfl)⟩ (hX4_kindFor l D K G ua _ (xs (i + 1)) (xs (i + 2)) k.1 _) rfl rfl (Nat.le_of_ble_eq_true rfl) dL_730 (fun H locs hP hD hS => ?_)
  refine lv_aload_n hC.1 hC.2.1 dL_733 rfl (lv_at hl 2 rfl) ?_
  refine lg_ld 1 hC hi (by decide) hl hS dL_734 dL_735 dL_736 (by decide) dL_737 dL_738 ?_
  refine lg_ld 2 hC hi (by decide) hl hS dL_739 dL_740 dL_741 (by decide) dL_742 dL_743 ?_
  refine lg_M (As := [.int (xs (i + 1)), .int (xs (i + 2))]) (rest := [.int _]) hC hP hD hS hl mf_X5_kindFor kl_L_88 ⟨rfl, rfl, (Nat.le_of_ble_eq_true rfl), (Nat.le_of_ble_eq_true rfl)⟩ (hX5_kindFor l D K G ub _ (xs (i + 1)) (xs (i + 2)) k.2.1 _) rfl rfl (Nat.le_of_ble_eq_true rfl) dL_744 (fun H locs hP hD hS => ?_)
  refine lg_eq hC dL_747 (by decide) k.2.2.1 ?_
  exact lg_next hC IH k.2.2.2 hP hD hS hl
theorem lg_c18 (hC : lgC p s m c b L xs D K G) (hi : i + 6 ≤ L) (IH : lgI p l e s m below meth c b K ua ub Q (D := D) (i + 6)) (h : Rel J M) (hP : va_P D vwCl (wJ K ua J ++ wM K ub M) H) (hD : va_D (lgA s) (wJ K ua J ++ wM K ub M)) (hS : va_S (lgA s) s.heap H locs) (hl : lv_has ls 4 (lgL b (ua 0) (ub 0) i)) : W p l e room_1 s m #[Value.ref b] below meth c H locs 600000 7302250 Q (F0 m 752 ls []) := by
  have k := P_forceFor h (xs (i + 1)) (xs (i + 2)) (xs (i + 3))
  refine lv_aload_n hC.1 hC.2.1 dL_752 rfl (lv_at hl 1 rfl) ?_
  refine lg_ld 1 hC hi (by decide) hl hS dL_753 dL_754 dL_755 (by decide) dL_756 dL_757 ?_
  refine lg_ld 2 hC hi (by decide) hl hS dL_758 dL_759 dL_760 (by decide) dL_761 dL_762 ?_
  refine lg_ld 3 hC hi (by decide) hl hS dL_763 dL_764 dL_765 (by decide) dL_766 dL_767 ?_
  refine lg_J (As := [.int (xs (i + 1)), .int (xs (i + 2)), .int (xs (i + 3))]) (rest := []) hC hP hD hS hl mf_X4_forceFor kl_L_89 ⟨rfl, rfl, (Nat.le_of_ble_eq_true rfl), (Nat.le_of_ble_eq_true rfl)⟩ (hX4_forceFor l D K G ua _ (xs (i + 1)) (xs (i + 2)) (xs (i + 3)) k.1 _) rfl rfl (Nat.le_of_ble_eq_true rfl) dL_768 (fun H locs hP hD hS => ?_)
  refine lv_aload_n hC.1 hC.2.1 dL_771 rfl (lv_at hl 2 rfl) ?_
  refine lg_ld 1 hC hi (by decide) hl hS dL_772 dL_773 dL_774 (by decide) dL_775 dL_776 ?_
  refine lg_ld 2 hC hi (by decide) hl hS dL_777 dL_778 dL_779 (by decide) dL_780 dL_781 ?_
  refine lg_ld 3 hC hi (by decide) hl hS dL_782 dL_783 dL_784 (by decide) dL_785 dL_786 ?_
  refine lg_M (As := [.int (xs (i + 1)), .int (xs (i + 2)), .int (xs (i + 3))]) (rest := [.int _]) hC hP hD hS hl mf_X5_forceFor kl_L_92 ⟨rfl, rfl, (Nat.le_of_ble_eq_true rfl), (Nat.le_of_ble_eq_true rfl)⟩ (hX5_forceFor l D K G ub _ (xs (i + 1)) (xs (i + 2)) (xs (i + 3)) k.2.1 _) rfl rfl (Nat.le_of_ble_eq_true rfl) dL_787 (fun H locs hP hD hS => ?_)
  refine lg_eq hC dL_790 (by decide) k.2.2.1 ?_
  exact lg_next hC IH k.2.2.2 hP hD hS hl
theorem lg_c19 (hC : lgC p s m c b L xs D K G) (hi : i + 6 ≤ L) (IH : lgI p l e s m below meth c b K ua ub Q (D := D) (i + 6)) (h : Rel J M) (hP : va_P D vwCl (wJ K ua J ++ wM K ub M) H) (hD : va_D (lgA s) (wJ K ua J ++ wM K ub M)) (hS : va_S (lgA s) s.heap H locs) (hl : lv_has ls 4 (lgL b (ua 0) (ub 0) i)) : W p l e room_1 s m #[Value.ref b] below meth c H locs 600000 7302250 Q (F0 m 795 ls []) := by
  have k := P_giveUp h (xs (i + 1)) (xs (i + 2))
  refine lv_aload_n hC.1 hC.2.1 dL_795 rfl (lv_at hl 1 rfl) ?_
  refine lg_ld 1 hC hi (by decide) hl hS dL_796 dL_797 dL_798 (by decide) dL_799 dL_800 ?_
  refine lg_ld 2 hC hi (by decide) hl hS dL_801 dL_802 dL_803 (by decide) dL_804 dL_805 ?_
  refine lg_J (As := [.int (xs (i + 1)), .int (xs (i + 2))]) (rest := []) hC hP hD hS hl mf_X4_giveUp kl_L_93 ⟨rfl, rfl, (Nat.le_of_ble_eq_true rfl), (Nat.le_of_ble_eq_true rfl)⟩ (hX4_giveUp l D K G ua _ (xs (i + 1)) (xs (i + 2)) k.1 _) rfl rfl (Nat.le_of_ble_eq_true rfl) dL_806 (fun H locs hP hD hS => ?_)
  refine lv_aload_n hC.1 hC.2.1 dL_809 rfl (lv_at hl 2 rfl) ?_
  refine lg_ld 1 hC hi (by decide) hl hS dL_810 dL_811 dL_812 (by decide) dL_813 dL_814 ?_
  refine lg_ld 2 hC hi (by decide) hl hS dL_815 dL_816 dL_817 (by decide) dL_818 dL_819 ?_
  refine lg_M (As := [.int (xs (i + 1)), .int (xs (i + 2))]) (rest := [.int _]) hC hP hD hS hl mf_X5_giveUp kl_L_96 ⟨rfl, rfl, (Nat.le_of_ble_eq_true rfl), (Nat.le_of_ble_eq_true rfl)⟩ (hX5_giveUp l D K G ub _ (xs (i + 1)) (xs (i + 2)) k.2.1 _) rfl rfl (Nat.le_of_ble_eq_true rfl) dL_820 (fun H locs hP hD hS => ?_)
  refine lg_eq hC dL_823 (by decide) k.2.2.1 ?_
  exact lg_next hC IH k.2.2.2 hP hD hS hl
theorem lg_c20 (hC : lgC p s m c b L xs D K G) (hi : i + 6 ≤ L) (IH : lgI p l e s m below meth c b K ua ub Q (D := D) (i + 6)) (h : Rel J M) (hP : va_P D vwCl (wJ K ua J ++ wM K ub M) H) (hD : va_D (lgA s) (wJ K ua J ++ wM K ub M)) (hS : va_S (lgA s) s.heap H locs) (hl : lv_has ls 4 (lgL b (ua 0) (ub 0) i)) : W p l e room_1 s m #[Value.ref b] below meth c H locs 600000 7302250 Q (F0 m 828 ls []) := by
  have k := P_fits h (xs (i + 1)) (xs (i + 2))
  refine lv_aload_n hC.1 hC.2.1 dL_828 rfl (lv_at hl 1 rfl) ?_
  refine lg_ld 1 hC hi (by decide) hl hS dL_829 dL_830 dL_831 (by decide) dL_832 dL_833 ?_
  refine lg_ld 2 hC hi (by decide) hl hS dL_834 dL_835 dL_836 (by decide) dL_837 dL_838 ?_
  refine lg_J (As := [.int (xs (i + 1)), .int (xs (i + 2))]) (rest := []) hC hP hD hS hl mf_X4_fits kl_L_97 ⟨rfl, rfl, (Nat.le_of_ble_eq_true rfl), (Nat.le_of_ble_eq_true rfl)⟩ (hX4_fits l D K G ua _ (xs (i + 1)) (xs (i + 2)) k.1 _) rfl rfl (Nat.le_of_ble_eq_true rfl) dL_839 (fun H locs hP hD hS => ?_)
  refine lv_aload_n hC.1 hC.2.1 dL_842 rfl (lv_at hl 2 rfl) ?_
  refine lg_ld 1 hC hi (by decide) hl hS dL_843 dL_844 dL_845 (by decide) dL_846 dL_847 ?_
  refine lg_ld 2 hC hi (by decide) hl hS dL_848 dL_849 dL_850 (by decide) dL_851 dL_852 ?_
  refine lg_M (As := [.int (xs (i + 1)), .int (xs (i + 2))]) (rest := [.int _]) hC hP hD hS hl mf_X5_fits kl_L_100 ⟨rfl, rfl, (Nat.le_of_ble_eq_true rfl), (Nat.le_of_ble_eq_true rfl)⟩ (hX5_fits l D K G ub _ (xs (i + 1)) (xs (i + 2)) k.2.1 _) rfl rfl (Nat.le_of_ble_eq_true rfl) dL_853 (fun H locs hP hD hS => ?_)
  refine lg_eq hC dL_856 (by decide) k.2.2.1 ?_
  exact lg_next hC IH k.2.2.2 hP hD hS hl
theorem lg_c21 (hC : lgC p s m c b L xs D K G) (hi : i + 6 ≤ L) (IH : lgI p l e s m below meth c b K ua ub Q (D := D) (i + 6)) (h : Rel J M) (hP : va_P D vwCl (wJ K ua J ++ wM K ub M) H) (hD : va_D (lgA s) (wJ K ua J ++ wM K ub M)) (hS : va_S (lgA s) s.heap H locs) (hl : lv_has ls 4 (lgL b (ua 0) (ub 0) i)) : W p l e room_1 s m #[Value.ref b] below meth c H locs 600000 7302250 Q (F0 m 861 ls []) := by
  have k := P_kinds h (xs (i + 1)) (xs (i + 2))
  refine lv_aload_n hC.1 hC.2.1 dL_861 rfl (lv_at hl 1 rfl) ?_
  refine lg_ld 1 hC hi (by decide) hl hS dL_862 dL_863 dL_864 (by decide) dL_865 dL_866 ?_
  refine lg_ld 2 hC hi (by decide) hl hS dL_867 dL_868 dL_869 (by decide) dL_870 dL_871 ?_
  refine lg_J (As := [.int (xs (i + 1)), .int (xs (i + 2))]) (rest := []) hC hP hD hS hl mf_X4_kinds kl_L_101 ⟨rfl, rfl, (Nat.le_of_ble_eq_true rfl), (Nat.le_of_ble_eq_true rfl)⟩ (hX4_kinds l D K G ua _ (xs (i + 1)) (xs (i + 2)) k.1 _) rfl rfl (Nat.le_of_ble_eq_true rfl) dL_872 (fun H locs hP hD hS => ?_)
  refine lv_aload_n hC.1 hC.2.1 dL_875 rfl (lv_at hl 2 rfl) ?_
  refine lg_ld 1 hC hi (by decide) hl hS dL_876 dL_877 dL_878 (by decide) dL_879 dL_880 ?_
  refine lg_ld 2 hC hi (by decide) hl hS dL_881 dL_882 dL_883 (by decide) dL_884 dL_885 ?_
  refine lg_M (As := [.int (xs (i + 1)), .int (xs (i + 2))]) (rest := [.int _]) hC hP hD hS hl mf_X5_kinds kl_L_104 ⟨rfl, rfl, (Nat.le_of_ble_eq_true rfl), (Nat.le_of_ble_eq_true rfl)⟩ (hX5_kinds l D K G ub _ (xs (i + 1)) (xs (i + 2)) k.2.1 _) rfl rfl (Nat.le_of_ble_eq_true rfl) dL_886 (fun H locs hP hD hS => ?_)
  refine lg_eq hC dL_889 (by decide) k.2.2.1 ?_
  exact lg_next hC IH k.2.2.2 hP hD hS hl
theorem lg_c22 (hC : lgC p s m c b L xs D K G) (hi : i + 6 ≤ L) (IH : lgI p l e s m below meth c b K ua ub Q (D := D) (i + 6)) (h : Rel J M) (hP : va_P D vwCl (wJ K ua J ++ wM K ub M) H) (hD : va_D (lgA s) (wJ K ua J ++ wM K ub M)) (hS : va_S (lgA s) s.heap H locs) (hl : lv_has ls 4 (lgL b (ua 0) (ub 0) i)) : W p l e room_1 s m #[Value.ref b] below meth c H locs 600000 7302250 Q (F0 m 894 ls []) := by
  have k := P_month h (xs (i + 1))
  refine lv_aload_n hC.1 hC.2.1 dL_894 rfl (lv_at hl 1 rfl) ?_
  refine lg_ld 1 hC hi (by decide) hl hS dL_895 dL_896 dL_897 (by decide) dL_898 dL_899 ?_
  refine lg_J (As := [.int (xs (i + 1))]) (rest := []) hC hP hD hS hl mf_X4_month kl_L_105 ⟨rfl, rfl, (Nat.le_of_ble_eq_true rfl), (Nat.le_of_ble_eq_true rfl)⟩ (hX4_month l D K G ua _ (xs (i + 1)) k.1 _) rfl rfl (Nat.le_of_ble_eq_true rfl) dL_900 (fun H locs hP hD hS => ?_)
  refine lv_aload_n hC.1 hC.2.1 dL_903 rfl (lv_at hl 2 rfl) ?_
  refine lg_ld 1 hC hi (by decide) hl hS dL_904 dL_905 dL_906 (by decide) dL_907 dL_908 ?_
  refine lg_M (As := [.int (xs (i + 1))]) (rest := [.int _]) hC hP hD hS hl mf_X5_month kl_L_108 ⟨rfl, rfl, (Nat.le_of_ble_eq_true rfl), (Nat.le_of_ble_eq_true rfl)⟩ (hX5_month l D K G ub _ (xs (i + 1)) k.2.1 _) rfl rfl (Nat.le_of_ble_eq_true rfl) dL_909 (fun H locs hP hD hS => ?_)
  refine lg_eq hC dL_912 (by decide) k.2.2.1 ?_
  exact lg_next hC IH k.2.2.2 hP hD hS hl
theorem lg_c23 (hC : lgC p s m c b L xs D K G) (hi : i + 6 ≤ L) (IH : lgI p l e s m below meth c b K ua ub Q (D := D) (i + 6)) (h : Rel J M) (hP : va_P D vwCl (wJ K ua J ++ wM K ub M) H) (hD : va_D (lgA s) (wJ K ua J ++ wM K ub M)) (hS : va_S (lgA s) s.heap H locs) (hl : lv_has ls 4 (lgL b (ua 0) (ub 0) i)) : W p l e room_1 s m #[Value.ref b] below meth c H locs 600000 7302250 Q (F0 m 917 ls []) := by
  have k := P_odds h (xs (i + 1)) (xs (i + 2)) (xs (i + 3)) (xs (i + 4))
  refine lv_aload_n hC.1 hC.2.1 dL_917 rfl (lv_at hl 1 rfl) ?_
  refine lg_ld 1 hC hi (by decide) hl hS dL_918 dL_919 dL_920 (by decide) dL_921 dL_922 ?_
  refine lg_ld 2 hC hi (by decide) hl hS dL_923 dL_924 dL_925 (by decide) dL_926 dL_927 ?_
  refine lg_ld 3 hC hi (by decide) hl hS dL_928 dL_929 dL_930 (by decide) dL_931 dL_932 ?_
  refine lg_ld 4 hC hi (by decide) hl hS dL_933 dL_934 dL_935 (by decide) dL_936 dL_937 ?_
  refine lg_Jl (As := [.int (xs (i + 1)), .int (xs (i + 2)), .int (xs (i + 3)), .int (xs (i + 4))]) (rest := []) hC hP hD hS hl mf_X4_odds kl_L_109 ⟨rfl, rfl, (Nat.le_of_ble_eq_true rfl), (Nat.le_of_ble_eq_true rfl)⟩ (hX4_odds l D K G ua _ (xs (i + 1)) (xs (i + 2)) (xs (i + 3)) (xs (i + 4)) k.1 _) rfl rfl (Nat.le_of_ble_eq_true rfl) dL_938 (fun H locs hP hD hS => ?_)
  refine lv_aload_n hC.1 hC.2.1 dL_941 rfl (lv_at hl 2 rfl) ?_
  refine lg_ld 1 hC hi (by decide) hl hS dL_942 dL_943 dL_944 (by decide) dL_945 dL_946 ?_
  refine lg_ld 2 hC hi (by decide) hl hS dL_947 dL_948 dL_949 (by decide) dL_950 dL_951 ?_
  refine lg_ld 3 hC hi (by decide) hl hS dL_952 dL_953 dL_954 (by decide) dL_955 dL_956 ?_
  refine lg_ld 4 hC hi (by decide) hl hS dL_957 dL_958 dL_959 (by decide) dL_960 dL_961 ?_
  refine lg_Ml (As := [.int (xs (i + 1)), .int (xs (i + 2)), .int (xs (i + 3)), .int (xs (i + 4))]) (rest := [.long _]) hC hP hD hS hl mf_X5_odds kl_L_113 ⟨rfl, rfl, (Nat.le_of_ble_eq_true rfl), (Nat.le_of_ble_eq_true rfl)⟩ (hX5_odds l D K G ub _ (xs (i + 1)) (xs (i + 2)) (xs (i + 3)) (xs (i + 4)) k.2.1 _) rfl rfl (Nat.le_of_ble_eq_true rfl) dL_962 (fun H locs hP hD hS => ?_)
  refine lg_eql hC dL_965 dL_966 (by decide) k.2.2.1 ?_
  exact lg_next hC IH k.2.2.2 hP hD hS hl
theorem lg_c24 (hC : lgC p s m c b L xs D K G) (hi : i + 6 ≤ L) (IH : lgI p l e s m below meth c b K ua ub Q (D := D) (i + 6)) (h : Rel J M) (hP : va_P D vwCl (wJ K ua J ++ wM K ub M) H) (hD : va_D (lgA s) (wJ K ua J ++ wM K ub M)) (hS : va_S (lgA s) s.heap H locs) (hl : lv_has ls 4 (lgL b (ua 0) (ub 0) i)) : W p l e room_1 s m #[Value.ref b] below meth c H locs 600000 7302250 Q (F0 m 971 ls []) := by
  have k := P_seed h (xs (i + 1))
  refine lv_aload_n hC.1 hC.2.1 dL_971 rfl (lv_at hl 1 rfl) ?_
  refine lg_ld 1 hC hi (by decide) hl hS dL_972 dL_973 dL_974 (by decide) dL_975 dL_976 ?_
  refine lg_J (As := [.int (xs (i + 1))]) (rest := []) hC hP hD hS hl mf_X4_seed kl_L_114 ⟨rfl, rfl, (Nat.le_of_ble_eq_true rfl), (Nat.le_of_ble_eq_true rfl)⟩ (hX4_seed l D K G ua _ (xs (i + 1))  _) rfl rfl (Nat.le_of_ble_eq_true rfl) dL_977 (fun H locs hP hD hS => ?_)
  refine lv_aload_n hC.1 hC.2.1 dL_980 rfl (lv_at hl 2 rfl) ?_
  refine lg_ld 1 hC hi (by decide) hl hS dL_981 dL_982 dL_983 (by decide) dL_984 dL_985 ?_
  refine lg_M (As := [.int (xs (i + 1))]) (rest := [.int _]) hC hP hD hS hl mf_X5_seed kl_L_117 ⟨rfl, rfl, (Nat.le_of_ble_eq_true rfl), (Nat.le_of_ble_eq_true rfl)⟩ (hX5_seed l D K G ub _ (xs (i + 1)) k.2.1 _) rfl rfl (Nat.le_of_ble_eq_true rfl) dL_986 (fun H locs hP hD hS => ?_)
  refine lg_eq hC dL_989 (by decide) k.2.2.1 ?_
  exact lg_next hC IH k.2.2.2 hP hD hS hl
theorem lg_c25 (hC : lgC p s m c b L xs D K G) (hi : i + 6 ≤ L) (IH : lgI p l e s m below meth c b K ua ub Q (D := D) (i + 6)) (h : Rel J M) (hP : va_P D vwCl (wJ K ua J ++ wM K ub M) H) (hD : va_D (lgA s) (wJ K ua J ++ wM K ub M)) (hS : va_S (lgA s) s.heap H locs) (hl : lv_has ls 4 (lgL b (ua 0) (ub 0) i)) : W p l e room_1 s m #[Value.ref b] below meth c H locs 600000 7302250 Q (F0 m 994 ls []) := by
  have k := P_feed h (xs (i + 1)) (xs (i + 2))
  refine lv_aload_n hC.1 hC.2.1 dL_994 rfl (lv_at hl 1 rfl) ?_
  refine lg_ld 1 hC hi (by decide) hl hS dL_995 dL_996 dL_997 (by decide) dL_998 dL_999 ?_
  refine lg_ld 2 hC hi (by decide) hl hS dL_1000 dL_1001 dL_1002 (by decide) dL_1003 dL_1004 ?_
  refine lg_J (As := [.int (xs (i + 1)), .int (xs (i + 2))]) (rest := []) hC hP hD hS hl mf_X4_feed kl_L_118 ⟨rfl, rfl, (Nat.le_of_ble_eq_true rfl), (Nat.le_of_ble_eq_true rfl)⟩ (hX4_feed l D K G ua _ (xs (i + 1)) (xs (i + 2)) k.1 _) rfl rfl (Nat.le_of_ble_eq_true rfl) dL_1005 (fun H locs hP hD hS => ?_)
  refine lv_aload_n hC.1 hC.2.1 dL_1008 rfl (lv_at hl 2 rfl) ?_
  refine lg_ld 1 hC hi (by decide) hl hS dL_1009 dL_1010 dL_1011 (by decide) dL_1012 dL_1013 ?_
  refine lg_ld 2 hC hi (by decide) hl hS dL_1014 dL_1015 dL_1016 (by decide) dL_1017 dL_1018 ?_
  refine lg_M (As := [.int (xs (i + 1)), .int (xs (i + 2))]) (rest := [.int _]) hC hP hD hS hl mf_X5_feed kl_L_121 ⟨rfl, rfl, (Nat.le_of_ble_eq_true rfl), (Nat.le_of_ble_eq_true rfl)⟩ (hX5_feed l D K G ub _ (xs (i + 1)) (xs (i + 2)) k.2.1 _) rfl rfl (Nat.le_of_ble_eq_true rfl) dL_1019 (fun H locs hP hD hS => ?_)
  refine lg_eq hC dL_1022 (by decide) k.2.2.1 ?_
  exact lg_next hC IH k.2.2.2 hP hD hS hl
theorem lg_c26 (hC : lgC p s m c b L xs D K G) (hi : i + 6 ≤ L) (IH : lgI p l e s m below meth c b K ua ub Q (D := D) (i + 6)) (h : Rel J M) (hP : va_P D vwCl (wJ K ua J ++ wM K ub M) H) (hD : va_D (lgA s) (wJ K ua J ++ wM K ub M)) (hS : va_S (lgA s) s.heap H locs) (hl : lv_has ls 4 (lgL b (ua 0) (ub 0) i)) : W p l e room_1 s m #[Value.ref b] below meth c H locs 600000 7302250 Q (F0 m 1027 ls []) := by
  have k := P_wipe h 
  refine lv_aload_n hC.1 hC.2.1 dL_1027 rfl (lv_at hl 1 rfl) ?_
  refine lg_J (As := []) (rest := []) hC hP hD hS hl mf_X4_wipe kl_L_122 ⟨rfl, rfl, (Nat.le_of_ble_eq_true rfl), (Nat.le_of_ble_eq_true rfl)⟩ (hX4_wipe l D K G ua _   _) rfl rfl (Nat.le_of_ble_eq_true rfl) dL_1028 (fun H locs hP hD hS => ?_)
  refine lv_aload_n hC.1 hC.2.1 dL_1031 rfl (lv_at hl 2 rfl) ?_
  refine lg_M (As := []) (rest := [.int _]) hC hP hD hS hl mf_X5_wipe kl_L_125 ⟨rfl, rfl, (Nat.le_of_ble_eq_true rfl), (Nat.le_of_ble_eq_true rfl)⟩ (hX5_wipe l D K G ub _   _) rfl rfl (Nat.le_of_ble_eq_true rfl) dL_1032 (fun H locs hP hD hS => ?_)
  refine lg_eq hC dL_1035 (by decide) k.2.2.1 ?_
  exact lg_next hC IH k.2.2.2 hP hD hS hl
theorem lg_c27 (hC : lgC p s m c b L xs D K G) (hi : i + 6 ≤ L) (IH : lgI p l e s m below meth c b K ua ub Q (D := D) (i + 6)) (h : Rel J M) (hP : va_P D vwCl (wJ K ua J ++ wM K ub M) H) (hD : va_D (lgA s) (wJ K ua J ++ wM K ub M)) (hS : va_S (lgA s) s.heap H locs) (hl : lv_has ls 4 (lgL b (ua 0) (ub 0) i)) : W p l e room_1 s m #[Value.ref b] below meth c H locs 600000 7302250 Q (F0 m 1040 ls []) := by
  have k := P_text h 
  refine lv_aload_n hC.1 hC.2.1 dL_1040 rfl (lv_at hl 1 rfl) ?_
  refine lg_J (As := []) (rest := []) hC hP hD hS hl mf_X4_text kl_L_126 ⟨rfl, rfl, (Nat.le_of_ble_eq_true rfl), (Nat.le_of_ble_eq_true rfl)⟩ (hX4_text l D K G ua _  k.1 _) rfl rfl (Nat.le_of_ble_eq_true rfl) dL_1041 (fun H locs hP hD hS => ?_)
  refine lv_aload_n hC.1 hC.2.1 dL_1044 rfl (lv_at hl 2 rfl) ?_
  refine lg_M (As := []) (rest := [.int _]) hC hP hD hS hl mf_X5_text kl_L_129 ⟨rfl, rfl, (Nat.le_of_ble_eq_true rfl), (Nat.le_of_ble_eq_true rfl)⟩ (hX5_text l D K G ub _  k.2.1 _) rfl rfl (Nat.le_of_ble_eq_true rfl) dL_1045 (fun H locs hP hD hS => ?_)
  refine lg_eq hC dL_1048 (by decide) k.2.2.1 ?_
  exact lg_next hC IH k.2.2.2 hP hD hS hl
theorem lg_c28 (hC : lgC p s m c b L xs D K G) (hi : i + 6 ≤ L) (IH : lgI p l e s m below meth c b K ua ub Q (D := D) (i + 6)) (h : Rel J M) (hP : va_P D vwCl (wJ K ua J ++ wM K ub M) H) (hD : va_D (lgA s) (wJ K ua J ++ wM K ub M)) (hS : va_S (lgA s) s.heap H locs) (hl : lv_has ls 4 (lgL b (ua 0) (ub 0) i)) : W p l e room_1 s m #[Value.ref b] below meth c H locs 600000 7302250 Q (F0 m 1053 ls []) := by
  have k := P_hold h (xs (i + 1)) (xs (i + 2))
  refine lv_aload_n hC.1 hC.2.1 dL_1053 rfl (lv_at hl 1 rfl) ?_
  refine lg_ld 1 hC hi (by decide) hl hS dL_1054 dL_1055 dL_1056 (by decide) dL_1057 dL_1058 ?_
  refine lg_ld 2 hC hi (by decide) hl hS dL_1059 dL_1060 dL_1061 (by decide) dL_1062 dL_1063 ?_
  refine lg_J (As := [.int (xs (i + 1)), .int (xs (i + 2))]) (rest := []) hC hP hD hS hl mf_X4_hold kl_L_130 ⟨rfl, rfl, (Nat.le_of_ble_eq_true rfl), (Nat.le_of_ble_eq_true rfl)⟩ (hX4_hold l D K G ua _ (xs (i + 1)) (xs (i + 2)) k.1 _) rfl rfl (Nat.le_of_ble_eq_true rfl) dL_1064 (fun H locs hP hD hS => ?_)
  refine lv_aload_n hC.1 hC.2.1 dL_1067 rfl (lv_at hl 2 rfl) ?_
  refine lg_ld 1 hC hi (by decide) hl hS dL_1068 dL_1069 dL_1070 (by decide) dL_1071 dL_1072 ?_
  refine lg_ld 2 hC hi (by decide) hl hS dL_1073 dL_1074 dL_1075 (by decide) dL_1076 dL_1077 ?_
  refine lg_M (As := [.int (xs (i + 1)), .int (xs (i + 2))]) (rest := [.int _]) hC hP hD hS hl mf_X5_hold kl_L_133 ⟨rfl, rfl, (Nat.le_of_ble_eq_true rfl), (Nat.le_of_ble_eq_true rfl)⟩ (hX5_hold l D K G ub _ (xs (i + 1)) (xs (i + 2)) k.2.1 _) rfl rfl (Nat.le_of_ble_eq_true rfl) dL_1078 (fun H locs hP hD hS => ?_)
  refine lg_eq hC dL_1081 (by decide) k.2.2.1 ?_
  exact lg_next hC IH k.2.2.2 hP hD hS hl
theorem lg_c29 (hC : lgC p s m c b L xs D K G) (hi : i + 6 ≤ L) (IH : lgI p l e s m below meth c b K ua ub Q (D := D) (i + 6)) (h : Rel J M) (hP : va_P D vwCl (wJ K ua J ++ wM K ub M) H) (hD : va_D (lgA s) (wJ K ua J ++ wM K ub M)) (hS : va_S (lgA s) s.heap H locs) (hl : lv_has ls 4 (lgL b (ua 0) (ub 0) i)) : W p l e room_1 s m #[Value.ref b] below meth c H locs 600000 7302250 Q (F0 m 1086 ls []) := by
  have k := P_as h (xs (i + 1)) (xs (i + 2))
  refine lv_aload_n hC.1 hC.2.1 dL_1086 rfl (lv_at hl 1 rfl) ?_
  refine lg_ld 1 hC hi (by decide) hl hS dL_1087 dL_1088 dL_1089 (by decide) dL_1090 dL_1091 ?_
  refine lg_ld 2 hC hi (by decide) hl hS dL_1092 dL_1093 dL_1094 (by decide) dL_1095 dL_1096 ?_
  refine lg_J (As := [.int (xs (i + 1)), .int (xs (i + 2))]) (rest := []) hC hP hD hS hl mf_X4_as kl_L_134 ⟨rfl, rfl, (Nat.le_of_ble_eq_true rfl), (Nat.le_of_ble_eq_true rfl)⟩ (hX4_as l D K G ua _ (xs (i + 1)) (xs (i + 2)) k.1 _) rfl rfl (Nat.le_of_ble_eq_true rfl) dL_1097 (fun H locs hP hD hS => ?_)
  refine lv_aload_n hC.1 hC.2.1 dL_1100 rfl (lv_at hl 2 rfl) ?_
  refine lg_ld 1 hC hi (by decide) hl hS dL_1101 dL_1102 dL_1103 (by decide) dL_1104 dL_1105 ?_
  refine lg_ld 2 hC hi (by decide) hl hS dL_1106 dL_1107 dL_1108 (by decide) dL_1109 dL_1110 ?_
  refine lg_M (As := [.int (xs (i + 1)), .int (xs (i + 2))]) (rest := [.int _]) hC hP hD hS hl mf_X5_as kl_L_137 ⟨rfl, rfl, (Nat.le_of_ble_eq_true rfl), (Nat.le_of_ble_eq_true rfl)⟩ (hX5_as l D K G ub _ (xs (i + 1)) (xs (i + 2)) k.2.1 _) rfl rfl (Nat.le_of_ble_eq_true rfl) dL_1111 (fun H locs hP hD hS => ?_)
  refine lg_eq hC dL_1114 (by decide) k.2.2.1 ?_
  exact lg_next hC IH k.2.2.2 hP hD hS hl
theorem lg_c30 (hC : lgC p s m c b L xs D K G) (hi : i + 6 ≤ L) (IH : lgI p l e s m below meth c b K ua ub Q (D := D) (i + 6)) (h : Rel J M) (hP : va_P D vwCl (wJ K ua J ++ wM K ub M) H) (hD : va_D (lgA s) (wJ K ua J ++ wM K ub M)) (hS : va_S (lgA s) s.heap H locs) (hl : lv_has ls 4 (lgL b (ua 0) (ub 0) i)) : W p l e room_1 s m #[Value.ref b] below meth c H locs 600000 7302250 Q (F0 m 1119 ls []) := by
  have k := P_sheet h (xs (i + 1)) (xs (i + 2)) (xs (i + 3))
  refine lv_aload_n hC.1 hC.2.1 dL_1119 rfl (lv_at hl 1 rfl) ?_
  refine lg_ld 1 hC hi (by decide) hl hS dL_1120 dL_1121 dL_1122 (by decide) dL_1123 dL_1124 ?_
  refine lg_ld 2 hC hi (by decide) hl hS dL_1125 dL_1126 dL_1127 (by decide) dL_1128 dL_1129 ?_
  refine lg_ld 3 hC hi (by decide) hl hS dL_1130 dL_1131 dL_1132 (by decide) dL_1133 dL_1134 ?_
  refine lg_J (As := [.int (xs (i + 1)), .int (xs (i + 2)), .int (xs (i + 3))]) (rest := []) hC hP hD hS hl mf_X4_sheet kl_L_138 ⟨rfl, rfl, (Nat.le_of_ble_eq_true rfl), (Nat.le_of_ble_eq_true rfl)⟩ (hX4_sheet l D K G ua _ (xs (i + 1)) (xs (i + 2)) (xs (i + 3)) k.1 _) rfl rfl (Nat.le_of_ble_eq_true rfl) dL_1135 (fun H locs hP hD hS => ?_)
  refine lv_aload_n hC.1 hC.2.1 dL_1138 rfl (lv_at hl 2 rfl) ?_
  refine lg_ld 1 hC hi (by decide) hl hS dL_1139 dL_1140 dL_1141 (by decide) dL_1142 dL_1143 ?_
  refine lg_ld 2 hC hi (by decide) hl hS dL_1144 dL_1145 dL_1146 (by decide) dL_1147 dL_1148 ?_
  refine lg_ld 3 hC hi (by decide) hl hS dL_1149 dL_1150 dL_1151 (by decide) dL_1152 dL_1153 ?_
  refine lg_M (As := [.int (xs (i + 1)), .int (xs (i + 2)), .int (xs (i + 3))]) (rest := [.int _]) hC hP hD hS hl mf_X5_sheet kl_L_141 ⟨rfl, rfl, (Nat.le_of_ble_eq_true rfl), (Nat.le_of_ble_eq_true rfl)⟩ (hX5_sheet l D K G ub _ (xs (i + 1)) (xs (i + 2)) (xs (i + 3)) k.2.1 _) rfl rfl (Nat.le_of_ble_eq_true rfl) dL_1154 (fun H locs hP hD hS => ?_)
  refine lg_eq hC dL_1157 (by decide) k.2.2.1 ?_
  exact lg_next hC IH k.2.2.2 hP hD hS hl
theorem lg_c31 (hC : lgC p s m c b L xs D K G) (hi : i + 6 ≤ L) (IH : lgI p l e s m below meth c b K ua ub Q (D := D) (i + 6)) (h : Rel J M) (hP : va_P D vwCl (wJ K ua J ++ wM K ub M) H) (hD : va_D (lgA s) (wJ K ua J ++ wM K ub M)) (hS : va_S (lgA s) s.heap H locs) (hl : lv_has ls 4 (lgL b (ua 0) (ub 0) i)) : W p l e room_1 s m #[Value.ref b] below meth c H locs 600000 7302250 Q (F0 m 1162 ls []) := by
  have k := P_write h (xs (i + 1)) (xs (i + 2)) (xs (i + 3))
  refine lv_aload_n hC.1 hC.2.1 dL_1162 rfl (lv_at hl 1 rfl) ?_
  refine lg_ld 1 hC hi (by decide) hl hS dL_1163 dL_1164 dL_1165 (by decide) dL_1166 dL_1167 ?_
  refine lg_ld 2 hC hi (by decide) hl hS dL_1168 dL_1169 dL_1170 (by decide) dL_1171 dL_1172 ?_
  refine lg_ld 3 hC hi (by decide) hl hS dL_1173 dL_1174 dL_1175 (by decide) dL_1176 dL_1177 ?_
  refine lg_J (As := [.int (xs (i + 1)), .int (xs (i + 2)), .int (xs (i + 3))]) (rest := []) hC hP hD hS hl mf_X4_write kl_L_142 ⟨rfl, rfl, (Nat.le_of_ble_eq_true rfl), (Nat.le_of_ble_eq_true rfl)⟩ (hX4_write l D K G ua _ (xs (i + 1)) (xs (i + 2)) (xs (i + 3)) k.1 _) rfl rfl (Nat.le_of_ble_eq_true rfl) dL_1178 (fun H locs hP hD hS => ?_)
  refine lv_aload_n hC.1 hC.2.1 dL_1181 rfl (lv_at hl 2 rfl) ?_
  refine lg_ld 1 hC hi (by decide) hl hS dL_1182 dL_1183 dL_1184 (by decide) dL_1185 dL_1186 ?_
  refine lg_ld 2 hC hi (by decide) hl hS dL_1187 dL_1188 dL_1189 (by decide) dL_1190 dL_1191 ?_
  refine lg_ld 3 hC hi (by decide) hl hS dL_1192 dL_1193 dL_1194 (by decide) dL_1195 dL_1196 ?_
  refine lg_M (As := [.int (xs (i + 1)), .int (xs (i + 2)), .int (xs (i + 3))]) (rest := [.int _]) hC hP hD hS hl mf_X5_write kl_L_145 ⟨rfl, rfl, (Nat.le_of_ble_eq_true rfl), (Nat.le_of_ble_eq_true rfl)⟩ (hX5_write l D K G ub _ (xs (i + 1)) (xs (i + 2)) (xs (i + 3)) k.2.1 _) rfl rfl (Nat.le_of_ble_eq_true rfl) dL_1197 (fun H locs hP hD hS => ?_)
  refine lg_eq hC dL_1200 (by decide) k.2.2.1 ?_
  exact lg_next hC IH k.2.2.2 hP hD hS hl
theorem lg_c32 (hC : lgC p s m c b L xs D K G) (hi : i + 6 ≤ L) (IH : lgI p l e s m below meth c b K ua ub Q (D := D) (i + 6)) (h : Rel J M) (hP : va_P D vwCl (wJ K ua J ++ wM K ub M) H) (hD : va_D (lgA s) (wJ K ua J ++ wM K ub M)) (hS : va_S (lgA s) s.heap H locs) (hl : lv_has ls 4 (lgL b (ua 0) (ub 0) i)) : W p l e room_1 s m #[Value.ref b] below meth c H locs 600000 7302250 Q (F0 m 1205 ls []) := by
  have k := P_copy h (xs (i + 1)) (xs (i + 2)) (xs (i + 3)) (xs (i + 4)) (xs (i + 5))
  refine lv_aload_n hC.1 hC.2.1 dL_1205 rfl (lv_at hl 1 rfl) ?_
  refine lg_ld 1 hC hi (by decide) hl hS dL_1206 dL_1207 dL_1208 (by decide) dL_1209 dL_1210 ?_
  refine lg_ld 2 hC hi (by decide) hl hS dL_1211 dL_1212 dL_1213 (by decide) dL_1214 dL_1215 ?_
  refine lg_ld 3 hC hi (by decide) hl hS dL_1216 dL_1217 dL_1218 (by decide) dL_1219 dL_1220 ?_
  refine lg_ld 4 hC hi (by decide) hl hS dL_1221 dL_1222 dL_1223 (by decide) dL_1224 dL_1225 ?_
  refine lg_ld 5 hC hi (by decide) hl hS dL_1226 dL_1227 dL_1228 (by decide) dL_1229 dL_1230 ?_
  refine lg_J (As := [.int (xs (i + 1)), .int (xs (i + 2)), .int (xs (i + 3)), .int (xs (i + 4)), .int (xs (i + 5))]) (rest := []) hC hP hD hS hl mf_X4_copy kl_L_146 ⟨rfl, rfl, (Nat.le_of_ble_eq_true rfl), (Nat.le_of_ble_eq_true rfl)⟩ (hX4_copy l D K G ua _ (xs (i + 1)) (xs (i + 2)) (xs (i + 3)) (xs (i + 4)) (xs (i + 5)) k.1 _) rfl rfl (Nat.le_of_ble_eq_true rfl) dL_1231 (fun H locs hP hD hS => ?_)
  refine lv_aload_n hC.1 hC.2.1 dL_1234 rfl (lv_at hl 2 rfl) ?_
  refine lg_ld 1 hC hi (by decide) hl hS dL_1235 dL_1236 dL_1237 (by decide) dL_1238 dL_1239 ?_
  refine lg_ld 2 hC hi (by decide) hl hS dL_1240 dL_1241 dL_1242 (by decide) dL_1243 dL_1244 ?_
  refine lg_ld 3 hC hi (by decide) hl hS dL_1245 dL_1246 dL_1247 (by decide) dL_1248 dL_1249 ?_
  refine lg_ld 4 hC hi (by decide) hl hS dL_1250 dL_1251 dL_1252 (by decide) dL_1253 dL_1254 ?_
  refine lg_ld 5 hC hi (by decide) hl hS dL_1255 dL_1256 dL_1257 (by decide) dL_1258 dL_1259 ?_
  refine lg_M (As := [.int (xs (i + 1)), .int (xs (i + 2)), .int (xs (i + 3)), .int (xs (i + 4)), .int (xs (i + 5))]) (rest := [.int _]) hC hP hD hS hl mf_X5_copy kl_L_150 ⟨rfl, rfl, (Nat.le_of_ble_eq_true rfl), (Nat.le_of_ble_eq_true rfl)⟩ (hX5_copy l D K G ub _ (xs (i + 1)) (xs (i + 2)) (xs (i + 3)) (xs (i + 4)) (xs (i + 5)) k.2.1 _) rfl rfl (Nat.le_of_ble_eq_true rfl) dL_1260 (fun H locs hP hD hS => ?_)
  refine lg_eq hC dL_1263 (by decide) k.2.2.1 ?_
  exact lg_next hC IH k.2.2.2 hP hD hS hl
theorem lg_c33 (hC : lgC p s m c b L xs D K G) (hi : i + 6 ≤ L) (IH : lgI p l e s m below meth c b K ua ub Q (D := D) (i + 6)) (h : Rel J M) (hP : va_P D vwCl (wJ K ua J ++ wM K ub M) H) (hD : va_D (lgA s) (wJ K ua J ++ wM K ub M)) (hS : va_S (lgA s) s.heap H locs) (hl : lv_has ls 4 (lgL b (ua 0) (ub 0) i)) : W p l e room_1 s m #[Value.ref b] below meth c H locs 600000 7302250 Q (F0 m 1268 ls []) := by
  have k := P_load h (xs (i + 1))
  refine lv_aload_n hC.1 hC.2.1 dL_1268 rfl (lv_at hl 1 rfl) ?_
  refine lg_ld 1 hC hi (by decide) hl hS dL_1269 dL_1270 dL_1271 (by decide) dL_1272 dL_1273 ?_
  refine lg_J (As := [.int (xs (i + 1))]) (rest := []) hC hP hD hS hl mf_X4_load kl_L_151 ⟨rfl, rfl, (Nat.le_of_ble_eq_true rfl), (Nat.le_of_ble_eq_true rfl)⟩ (hX4_load l D K G ua _ (xs (i + 1)) k.1 _) rfl rfl (Nat.le_of_ble_eq_true rfl) dL_1274 (fun H locs hP hD hS => ?_)
  refine lv_aload_n hC.1 hC.2.1 dL_1277 rfl (lv_at hl 2 rfl) ?_
  refine lg_ld 1 hC hi (by decide) hl hS dL_1278 dL_1279 dL_1280 (by decide) dL_1281 dL_1282 ?_
  refine lg_M (As := [.int (xs (i + 1))]) (rest := [.int _]) hC hP hD hS hl mf_X5_load kl_L_154 ⟨rfl, rfl, (Nat.le_of_ble_eq_true rfl), (Nat.le_of_ble_eq_true rfl)⟩ (hX5_load l D K G ub _ (xs (i + 1)) k.2.1 _) rfl rfl (Nat.le_of_ble_eq_true rfl) dL_1283 (fun H locs hP hD hS => ?_)
  refine lg_eq hC dL_1286 (by decide) k.2.2.1 ?_
  exact lg_next hC IH k.2.2.2 hP hD hS hl
theorem lg_c34 (hC : lgC p s m c b L xs D K G) (hi : i + 6 ≤ L) (IH : lgI p l e s m below meth c b K ua ub Q (D := D) (i + 6)) (h : Rel J M) (hP : va_P D vwCl (wJ K ua J ++ wM K ub M) H) (hD : va_D (lgA s) (wJ K ua J ++ wM K ub M)) (hS : va_S (lgA s) s.heap H locs) (hl : lv_has ls 4 (lgL b (ua 0) (ub 0) i)) : W p l e room_1 s m #[Value.ref b] below meth c H locs 600000 7302250 Q (F0 m 1291 ls []) := by
  have k := P_judge h (xs (i + 1))
  refine lv_aload_n hC.1 hC.2.1 dL_1291 rfl (lv_at hl 1 rfl) ?_
  refine lg_ld 1 hC hi (by decide) hl hS dL_1292 dL_1293 dL_1294 (by decide) dL_1295 dL_1296 ?_
  refine lg_J (As := [.int (xs (i + 1))]) (rest := []) hC hP hD hS hl mf_X4_judge kl_L_155 ⟨rfl, rfl, (Nat.le_of_ble_eq_true rfl), (Nat.le_of_ble_eq_true rfl)⟩ (hX4_judge l D K G ua _ (xs (i + 1)) k.1 _) rfl rfl (Nat.le_of_ble_eq_true rfl) dL_1297 (fun H locs hP hD hS => ?_)
  refine lv_aload_n hC.1 hC.2.1 dL_1300 rfl (lv_at hl 2 rfl) ?_
  refine lg_ld 1 hC hi (by decide) hl hS dL_1301 dL_1302 dL_1303 (by decide) dL_1304 dL_1305 ?_
  refine lg_M (As := [.int (xs (i + 1))]) (rest := [.int _]) hC hP hD hS hl mf_X5_judge kl_L_158 ⟨rfl, rfl, (Nat.le_of_ble_eq_true rfl), (Nat.le_of_ble_eq_true rfl)⟩ (hX5_judge l D K G ub _ (xs (i + 1)) k.2.1 _) rfl rfl (Nat.le_of_ble_eq_true rfl) dL_1306 (fun H locs hP hD hS => ?_)
  refine lg_eq hC dL_1309 (by decide) k.2.2.1 ?_
  exact lg_next hC IH k.2.2.2 hP hD hS hl
theorem lg_c35 (hC : lgC p s m c b L xs D K G) (hi : i + 6 ≤ L) (IH : lgI p l e s m below meth c b K ua ub Q (D := D) (i + 6)) (h : Rel J M) (hP : va_P D vwCl (wJ K ua J ++ wM K ub M) H) (hD : va_D (lgA s) (wJ K ua J ++ wM K ub M)) (hS : va_S (lgA s) s.heap H locs) (hl : lv_has ls 4 (lgL b (ua 0) (ub 0) i)) : W p l e room_1 s m #[Value.ref b] below meth c H locs 600000 7302250 Q (F0 m 1314 ls []) := by
  have k := P_image h 
  refine lv_aload_n hC.1 hC.2.1 dL_1314 rfl (lv_at hl 1 rfl) ?_
  refine lg_J (As := []) (rest := []) hC hP hD hS hl mf_X4_image kl_L_159 ⟨rfl, rfl, (Nat.le_of_ble_eq_true rfl), (Nat.le_of_ble_eq_true rfl)⟩ (hX4_image l D K G ua _  k.1 _) rfl rfl (Nat.le_of_ble_eq_true rfl) dL_1315 (fun H locs hP hD hS => ?_)
  refine lv_aload_n hC.1 hC.2.1 dL_1318 rfl (lv_at hl 2 rfl) ?_
  refine lg_M (As := []) (rest := [.int _]) hC hP hD hS hl mf_X5_image kl_L_162 ⟨rfl, rfl, (Nat.le_of_ble_eq_true rfl), (Nat.le_of_ble_eq_true rfl)⟩ (hX5_image l D K G ub _  k.2.1 _) rfl rfl (Nat.le_of_ble_eq_true rfl) dL_1319 (fun H locs hP hD hS => ?_)
  refine lg_eq hC dL_1322 (by decide) k.2.2.1 ?_
  exact lg_next hC IH k.2.2.2 hP hD hS hl
theorem lg_c36 (hC : lgC p s m c b L xs D K G) (hi : i + 6 ≤ L) (IH : lgI p l e s m below meth c b K ua ub Q (D := D) (i + 6)) (h : Rel J M) (hP : va_P D vwCl (wJ K ua J ++ wM K ub M) H) (hD : va_D (lgA s) (wJ K ua J ++ wM K ub M)) (hS : va_S (lgA s) s.heap H locs) (hl : lv_has ls 4 (lgL b (ua 0) (ub 0) i)) : W p l e room_1 s m #[Value.ref b] below meth c H locs 600000 7302250 Q (F0 m 1327 ls []) := by
  have k := P_undo h 
  refine lv_aload_n hC.1 hC.2.1 dL_1327 rfl (lv_at hl 1 rfl) ?_
  refine lg_J (As := []) (rest := []) hC hP hD hS hl mf_X4_undo kl_L_163 ⟨rfl, rfl, (Nat.le_of_ble_eq_true rfl), (Nat.le_of_ble_eq_true rfl)⟩ (hX4_undo l D K G ua _  k.1 _) rfl rfl (Nat.le_of_ble_eq_true rfl) dL_1328 (fun H locs hP hD hS => ?_)
  refine lv_aload_n hC.1 hC.2.1 dL_1331 rfl (lv_at hl 2 rfl) ?_
  refine lg_M (As := []) (rest := [.int _]) hC hP hD hS hl mf_X5_undo kl_L_166 ⟨rfl, rfl, (Nat.le_of_ble_eq_true rfl), (Nat.le_of_ble_eq_true rfl)⟩ (hX5_undo l D K G ub _  k.2.1 _) rfl rfl (Nat.le_of_ble_eq_true rfl) dL_1332 (fun H locs hP hD hS => ?_)
  refine lg_eq hC dL_1335 (by decide) k.2.2.1 ?_
  exact lg_next hC IH k.2.2.2 hP hD hS hl
theorem lg_c37 (hC : lgC p s m c b L xs D K G) (hi : i + 6 ≤ L) (IH : lgI p l e s m below meth c b K ua ub Q (D := D) (i + 6)) (h : Rel J M) (hP : va_P D vwCl (wJ K ua J ++ wM K ub M) H) (hD : va_D (lgA s) (wJ K ua J ++ wM K ub M)) (hS : va_S (lgA s) s.heap H locs) (hl : lv_has ls 4 (lgL b (ua 0) (ub 0) i)) : W p l e room_1 s m #[Value.ref b] below meth c H locs 600000 7302250 Q (F0 m 1340 ls []) := by
  have k := P_tear h 
  refine lv_aload_n hC.1 hC.2.1 dL_1340 rfl (lv_at hl 1 rfl) ?_
  refine lg_J (As := []) (rest := []) hC hP hD hS hl mf_X4_tear kl_L_167 ⟨rfl, rfl, (Nat.le_of_ble_eq_true rfl), (Nat.le_of_ble_eq_true rfl)⟩ (hX4_tear l D K G ua _   _) rfl rfl (Nat.le_of_ble_eq_true rfl) dL_1341 (fun H locs hP hD hS => ?_)
  refine lv_aload_n hC.1 hC.2.1 dL_1344 rfl (lv_at hl 2 rfl) ?_
  refine lg_M (As := []) (rest := [.int _]) hC hP hD hS hl mf_X5_tear kl_L_170 ⟨rfl, rfl, (Nat.le_of_ble_eq_true rfl), (Nat.le_of_ble_eq_true rfl)⟩ (hX5_tear l D K G ub _   _) rfl rfl (Nat.le_of_ble_eq_true rfl) dL_1345 (fun H locs hP hD hS => ?_)
  refine lg_eq hC dL_1348 (by decide) k.2.2.1 ?_
  exact lg_next hC IH k.2.2.2 hP hD hS hl
theorem lg_c38 (hC : lgC p s m c b L xs D K G) (hi : i + 6 ≤ L) (IH : lgI p l e s m below meth c b K ua ub Q (D := D) (i + 6)) (h : Rel J M) (hP : va_P D vwCl (wJ K ua J ++ wM K ub M) H) (hD : va_D (lgA s) (wJ K ua J ++ wM K ub M)) (hS : va_S (lgA s) s.heap H locs) (hl : lv_has ls 4 (lgL b (ua 0) (ub 0) i)) : W p l e room_1 s m #[Value.ref b] below meth c H locs 600000 7302250 Q (F0 m 1353 ls []) := by
  have k := P_count h (xs (i + 1))
  refine lv_aload_n hC.1 hC.2.1 dL_1353 rfl (lv_at hl 1 rfl) ?_
  refine lg_ld 1 hC hi (by decide) hl hS dL_1354 dL_1355 dL_1356 (by decide) dL_1357 dL_1358 ?_
  refine lg_J (As := [.int (xs (i + 1))]) (rest := []) hC hP hD hS hl mf_X4_count kl_L_171 ⟨rfl, rfl, (Nat.le_of_ble_eq_true rfl), (Nat.le_of_ble_eq_true rfl)⟩ (hX4_count l D K G ua _ (xs (i + 1)) k.1 _) rfl rfl (Nat.le_of_ble_eq_true rfl) dL_1359 (fun H locs hP hD hS => ?_)
  refine lv_aload_n hC.1 hC.2.1 dL_1362 rfl (lv_at hl 2 rfl) ?_
  refine lg_ld 1 hC hi (by decide) hl hS dL_1363 dL_1364 dL_1365 (by decide) dL_1366 dL_1367 ?_
  refine lg_M (As := [.int (xs (i + 1))]) (rest := [.int _]) hC hP hD hS hl mf_X5_count kl_L_174 ⟨rfl, rfl, (Nat.le_of_ble_eq_true rfl), (Nat.le_of_ble_eq_true rfl)⟩ (hX5_count l D K G ub _ (xs (i + 1)) k.2.1 _) rfl rfl (Nat.le_of_ble_eq_true rfl) dL_1368 (fun H locs hP hD hS => ?_)
  refine lg_eq hC dL_1371 (by decide) k.2.2.1 ?_
  exact lg_next hC IH k.2.2.2 hP hD hS hl
theorem lg_c39 (hC : lgC p s m c b L xs D K G) (hi : i + 6 ≤ L) (IH : lgI p l e s m below meth c b K ua ub Q (D := D) (i + 6)) (h : Rel J M) (hP : va_P D vwCl (wJ K ua J ++ wM K ub M) H) (hD : va_D (lgA s) (wJ K ua J ++ wM K ub M)) (hS : va_S (lgA s) s.heap H locs) (hl : lv_has ls 4 (lgL b (ua 0) (ub 0) i)) : W p l e room_1 s m #[Value.ref b] below meth c H locs 600000 7302250 Q (F0 m 1376 ls []) := by
  have k := P_status h (xs (i + 1))
  refine lv_aload_n hC.1 hC.2.1 dL_1376 rfl (lv_at hl 1 rfl) ?_
  refine lg_ld 1 hC hi (by decide) hl hS dL_1377 dL_1378 dL_1379 (by decide) dL_1380 dL_1381 ?_
  refine lg_J (As := [.int (xs (i + 1))]) (rest := []) hC hP hD hS hl mf_X4_status kl_L_175 ⟨rfl, rfl, (Nat.le_of_ble_eq_true rfl), (Nat.le_of_ble_eq_true rfl)⟩ (hX4_status l D K G ua _ (xs (i + 1)) k.1 _) rfl rfl (Nat.le_of_ble_eq_true rfl) dL_1382 (fun H locs hP hD hS => ?_)
  refine lv_aload_n hC.1 hC.2.1 dL_1385 rfl (lv_at hl 2 rfl) ?_
  refine lg_ld 1 hC hi (by decide) hl hS dL_1386 dL_1387 dL_1388 (by decide) dL_1389 dL_1390 ?_
  refine lg_M (As := [.int (xs (i + 1))]) (rest := [.int _]) hC hP hD hS hl mf_X5_status kl_L_178 ⟨rfl, rfl, (Nat.le_of_ble_eq_true rfl), (Nat.le_of_ble_eq_true rfl)⟩ (hX5_status l D K G ub _ (xs (i + 1)) k.2.1 _) rfl rfl (Nat.le_of_ble_eq_true rfl) dL_1391 (fun H locs hP hD hS => ?_)
  refine lg_eq hC dL_1394 (by decide) k.2.2.1 ?_
  exact lg_next hC IH k.2.2.2 hP hD hS hl
end LG
