def jHF : List Int32 := [1000, 2, 1, 1, 0, 0, 0]
def jHL : List Int32 := [0, 1, 0, 0, 0, 0, 0]
def jHM : List Int32 := [9999, 9, 1, 1, 2, 9999, 9999]
def jTM : List Int32 := [6, 999, 9999, 99, 99, 9999, 999]
def jKA : List Int32 := [-1, 0, 0, 2, 3, 0, 1]
/-- a copy of n numbers from sp on to dp on, between rows of n0 and n1 -/
def jcpok (sp dp n : Int32) (n0 n1 : Nat) : Prop := ¬ sp < 0 ∧ ¬ dp < 0 ∧ ¬ n < 0 ∧ sp.toNatClampNeg + n.toNatClampNeg ≤ n0 ∧ dp.toNatClampNeg + n.toNatClampNeg ≤ n1
theorem jlt4 {s : Int32} (h : vp_in s 4) : s.toNatClampNeg < 4 := by
  unfold vp_in at h
  omega
-- the sheets in the world of the class, by their number
theorem wJ_sh (_D : va_G) (K : JK) (a : Nat → Nat) (J : JS) {j : Nat} (hj : j < 4) : (wJ K a J)[19 + 2 * j]? = some (a (19 + 2 * j), .inr (1, [.ref (a (20 + 2 * j)), .int (s_bits (j_s J j)), .int (s_size (j_s J j))])) := by
  match j, hj with
  | 0, _ => rfl
  | 1, _ => rfl
  | 2, _ => rfl
  | 3, _ => rfl
theorem wJ_sn (_D : va_G) (K : JK) (a : Nat → Nat) (J : JS) {j : Nat} (hj : j < 4) : (wJ K a J)[20 + 2 * j]? = some (a (20 + 2 * j), .inl (K.1, 40, .inl (s_numbers (j_s J j)))) := by
  match j, hj with
  | 0, _ => rfl
  | 1, _ => rfl
  | 2, _ => rfl
  | 3, _ => rfl
theorem wJ_sC (_D : va_G) (K : JK) (a : Nat → Nat) (J : JS) {j : Nat} (hj : j < 4) : [19 + 2 * j, 20 + 2 * j].map (fun i => (wJ K a J)[i]?) = (wS K (fun k => a (19 + 2 * j + k)) (j_s J j)).map some := by
  match j, hj with
  | 0, _ => rfl
  | 1, _ => rfl
  | 2, _ => rfl
  | 3, _ => rfl
theorem wJ_sP (_D : va_G) (K : JK) (a : Nat → Nat) (J : JS) (S : SS) {j : Nat} (hj : j < 4) : jput (wJ K a J) [19 + 2 * j, 20 + 2 * j] (wS K (fun k => a (19 + 2 * j + k)) S) = wJ K a (j_s_s J j S) := by
  match j, hj with
  | 0, _ => rfl
  | 1, _ => rfl
  | 2, _ => rfl
  | 3, _ => rfl
theorem wJ_sN (_D : va_G) (K : JK) (a : Nat → Nat) (J : JS) (f : FA) {j : Nat} (hj : j < 4) : (wJ K a J).set (20 + 2 * j) (a (20 + 2 * j), .inl (K.1, 40, .inl f)) = wJ K a (j_s_s J j (s_s_numbers (j_s J j) f)) := by
  match j, hj with
  | 0, _ => rfl
  | 1, _ => rfl
  | 2, _ => rfl
  | 3, _ => rfl
theorem jnd2 (j : Nat) : va_nd [19 + 2 * j, 20 + 2 * j] = true := by
  have h : ¬ (19 + 2 * j = 20 + 2 * j) := by omega
  simp [va_nd, h]
theorem j_aald {p : Program} {l : Launch} {e : Env} {R : Room} {s : State} {m : MethodId} {args : Array Value} {below : List Frame} {meth : Method} {c : Code} {H : Heap} {locs : List Loc} {cells slots : Nat} {Q : State → Prop} {cc : ByteArray} {pc : Nat} {ls : Array Slot} {rest : List Value} {D : va_G} {K : JK} {a : Nat → Nat} {J : JS} (hx : p.tables.exec = Jvm.exec) (hb : c.code = cc) (hK : va_K D vwCl (jT K) s) (hP : va_P D vwCl (wJ K a J) H) {i : Int32} (hin : vp_in i 4) (hdg : decode cc pc = .ok (.aaload, 1))
    (kk : W p l e R s m args below meth c H locs cells slots Q (F0 m (pc + 1) ls (.ref (a (19 + 2 * i.toNatClampNeg)) :: rest))) : W p l e R s m args below meth c H locs cells slots Q (F0 m pc ls (.int i :: .ref (a 18) :: rest)) := va_aldq hx hb hK hP 18 2 rfl rfl hin hdg kk
theorem kac_X0 : Cond.methodLink RX0 48 arraycopyName ∈ jGW := jq 400 (by decide +kernel) rfl
theorem kac_X4 : Cond.methodLink RX4 229 arraycopyName ∈ jGW := jq 690 (by decide +kernel) rfl
theorem kac_nat : Cond.native arraycopyName ∈ jGW := jq 402 (by decide +kernel) rfl
theorem kac_stat : Cond.static arraycopyName ∈ jGW := jq 401 (by decide +kernel) rfl
theorem kac_ini : Cond.initialized "java/lang/System" ∈ jGW := jq 70 (by decide +kernel) rfl
theorem ks_J0_9 : Cond.fieldLink RJ0 9 "java/lang/String" "value" "[B" ∈ jGW := jq 1146 (by decide +kernel) rfl
theorem ks_J0_15 : Cond.fieldLink RJ0 15 "java/lang/String" "coder" "B" ∈ jGW := jq 1147 (by decide +kernel) rfl
theorem ks_J0_38 : Cond.fieldLink RJ0 38 "java/lang/String" "COMPACT_STRINGS" "Z" ∈ jGW := jq 569 (by decide +kernel) rfl
theorem ks_J0_1053 : Cond.fieldLink RJ0 1053 "jdk/internal/util/Preconditions" "SIOOBE_FORMATTER" "Ljava/util/function/BiFunction;" ∈ jGW := jq 585 (by decide +kernel) rfl
theorem jeP {D : va_G} {cl : List vw_C} {w w' : va_W} {H : Heap} (e : w = w') (h : va_P D cl w H) : va_P D cl w' H := e ▸ h
theorem jeD {A : Nat → Prop} {w w' : va_W} (e : w = w') (h : va_D A w) : va_D A w' := e ▸ h
theorem jput_drop : ∀ (w1 pre post : va_W), post.length = w1.length → jput (pre ++ post) (List.range' pre.length w1.length) w1 = pre ++ w1
  | [], pre, post, h => by
    have : post = [] := List.length_eq_zero_iff.mp h
    subst this
    rfl
  | w :: w1, pre, [], h => by simp at h
  | w :: w1, pre, p :: post, h => by
    have h1 := jput_drop w1 (pre ++ [w]) post (by simpa using h)
    have h2 : (pre ++ p :: post).set pre.length w = (pre ++ [w]) ++ post := by
      rw [List.set_append_right _ _ (Nat.le_refl _)]
      simp
    have h3 : (pre ++ [w]).length = pre.length + 1 := by simp
    show jput (pre ++ p :: post) (pre.length :: List.range' (pre.length + 1) w1.length) (w :: w1) = pre ++ w :: w1
    show jput ((pre ++ p :: post).set pre.length w) (List.range' (pre.length + 1) w1.length) w1 = pre ++ w :: w1
    rw [h2, ← h3, h1]
    simp
