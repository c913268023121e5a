-- OWN KIT: one list of words for all contracts; the environment (statics, strings, nest links); entries and calls of a uniform shape
def jGW : List Cond := lw_tbl.filter goodWord
theorem jq (i : Nat) {w : Cond} (h : lw_tbl[i]? = some w) (hg : goodWord w = true) : w ∈ jGW := List.mem_filter.mpr ⟨List.mem_of_getElem? h, hg⟩
theorem jgood {c' : Cond} (h : c' ∈ jGW) : GoodIn jGW (c' :: jGW) := by
  intro w hw
  rcases List.mem_cons.mp hw with rfl | hw
  · exact ⟨h, good_of_word (List.mem_filter.mp h).2⟩
  · exact ⟨hw, good_of_word (List.mem_filter.mp hw).2⟩
/-- the words that nest mates need -/
def jNk : Cond → Bool
  | .fieldLinkNest .. => true
  | .methodLinkNest .. => true
  | _ => false
theorem jNw_warm {w : Cond} (hn : jNk w = true) {s U : State} (hW : s.WarmedH U.vm) (h : va_Nw w s) : va_Nw w U := by
  cases w <;> first | (exact absurd hn (by decide)) | exact va_Nw.warmF hW h | exact va_Nw.warmM hW h | (simp [jNk] at hn)
theorem jNw_same {w : Cond} (hn : jNk w = true) {u U : State} (hv : u.vm = U.vm) (h : va_Nw w u) : va_Nw w U := by
  cases w <;> first | exact va_tabs rfl hv h | (simp [jNk] at hn)
abbrev JG : Type := (Nat → Nat) × (Nat → Nat) × (Nat → Nat) × Option Nat
def jNames : List Int32 := [116, 104, 105, 110, 103, 0, 0, 99, 97, 114, 112, 101, 116, 0, 119, 97, 108, 108, 0, 0, 0, 112, 97, 105, 110, 116, 0, 0, 109, 117, 114, 97, 108, 0, 0, 108, 97, 109, 112, 0, 0, 0, 114, 117, 103, 0, 0, 0, 0, 97, 103, 101, 100, 0, 0, 0, 105, 115, 0, 0, 0, 0, 0, 99, 108, 97, 105, 109, 0, 0, 104, 111, 109, 101, 0, 0, 0, 98, 108, 111, 119, 0, 0, 0, 111, 102, 102, 101, 114, 0, 0, 115, 105, 108, 101, 110, 116, 0]
def jStat : List (String × String × List Int32) := [("JudgedDeposits", "HOME_AT_FIRST", [1000, 2, 1, 1, 0, 0, 0]), ("JudgedDeposits", "HOME_LEAST", [0, 1, 0, 0, 0, 0, 0]), ("JudgedDeposits", "HOME_MOST", [9999, 9, 1, 1, 2, 9999, 9999]), ("JudgedDeposits", "TRAIT_MOST", [6, 999, 9999, 99, 99, 9999, 999]), ("JudgedDeposits", "KIND_ABOVE", [-1, 0, 0, 2, 3, 0, 1]), ("JudgedDepositsModel", "NAMES", jNames)]
/-- the constant texts of the tape: the pool's entry, the text -/
def jStr : List (Nat × String) := [(112, "carpet"), (114, "wall"), (116, "paint"), (118, "mural"), (120, "lamp"), (122, "rug"), (124, "thing"), (126, "aged"), (128, "is"), (130, "claim"), (132, ""), (53, "home"), (61, "offer"), (63, "silent"), (65, "blow")]
def jByt : List (List Int32) := [[99, 97, 114, 112, 101, 116], [119, 97, 108, 108], [112, 97, 105, 110, 116], [109, 117, 114, 97, 108], [108, 97, 109, 112], [114, 117, 103], [116, 104, 105, 110, 103], [97, 103, 101, 100], [105, 115], [99, 108, 97, 105, 109], [], [104, 111, 109, 101], [111, 102, 102, 101, 114], [115, 105, 108, 101, 110, 116], [98, 108, 111, 119]]
def jLen : List Nat := [6, 4, 5, 5, 4, 3, 5, 4, 2, 5, 0, 4, 5, 6, 4]
def jZ (G : JG) (A : Nat → Prop) (U : State) (H : Heap) : Prop :=
  (∀ (k : Nat) (q : String × String × List Int32), jStat[k]? = some q → va_Z q.1 q.2.1 "[I" (.ref (G.1 k)) A U H ∧ va_T .int (G.1 k) q.2.2.length (fun j => .int (q.2.2.getD j 0)) A U H) ∧
  va_Z "java/lang/String" "COMPACT_STRINGS" "Z" (.int 1) A U H ∧
  vk_S 15 jLen jByt G.2.1 G.2.2.1 A U H ∧
  (∀ (k : Nat) (q : Nat × String), jStr[k]? = some q → vk_R "JudgedDeposits$Tape" q.1 q.2 (G.2.1 k) U) ∧
  (∀ w ∈ lw_tbl, jNk w = true → va_Nw w U) ∧
  va_Z "jdk/internal/util/Preconditions" "SIOOBE_FORMATTER" "Ljava/util/function/BiFunction;" (va_rf G.2.2.2) A U H
theorem jZ.call {G : JG} {A A' : Nat → Prop} {s U : State} {H : Heap} {locs : List Loc} (h : jZ G A s s.heap) (hS : va_S A s.heap H locs) (hAA : ∀ q, A' q → A q) (hW : s.WarmedH U.vm) (hU : U.heap = H) : jZ G A' U U.heap := by
  obtain ⟨h1, h2, h3, h4, h5, h6⟩ := h
  have kq := hS.2.1
  rw [hU]
  exact ⟨fun k q hk => ⟨va_Z.moved hW.alike (((h1 k q hk).1.kept kq).narrow hAA), va_T.moved hW.alike (((h1 k q hk).2.kept kq).narrow hAA)⟩, va_Z.moved hW.alike ((h2.kept kq).narrow hAA), vk_S.moved hW.alike ((h3.kept kq).narrow hAA), fun k q hk => vk_R.warm hW (h4 k q hk), fun w hw hn => jNw_warm hn hW (h5 w hw hn), va_Z.moved hW.alike ((h6.kept kq).narrow hAA)⟩
theorem jZ.blind {G : JG} {A : Nat → Prop} {U : State} (h : jZ G A U U.heap) (g : JFrame) (mk : MethodId) (a : Array Value) : jZ G A (U.calling g mk a) (U.calling g mk a).heap := by
  obtain ⟨h1, h2, h3, h4, h5, h6⟩ := h
  exact ⟨fun k q hk => ⟨va_Z.moved (u := U) (U := U.calling g mk a) (Vm.Alike.refl U.vm) (h1 k q hk).1, va_T.moved (u := U) (U := U.calling g mk a) (Vm.Alike.refl U.vm) (h1 k q hk).2⟩, va_Z.moved (u := U) (U := U.calling g mk a) (Vm.Alike.refl U.vm) h2, vk_S.moved (u := U) (U := U.calling g mk a) (Vm.Alike.refl U.vm) h3, fun k q hk => vk_R.same rfl (h4 k q hk), fun w hw hn => jNw_same (u := U) (U := U.calling g mk a) hn rfl (h5 w hw hn), va_Z.moved (u := U) (U := U.calling g mk a) (Vm.Alike.refl U.vm) h6⟩
-- contracts
def jPre (D : va_G) (tys : List (ClassId × FieldType)) (G : JG) (av : List Value) (W0 : va_W) (sz : Nat) : Array Value → State → Prop :=
  va_Pc av (fun U => U.heap.size = sz ∧ va_P D vwCl W0 U.heap ∧ va_K D vwCl tys U ∧ va_D (fun _ => True) W0 ∧ jZ G (va_A W0 sz) U U.heap)
def jEnd (D : va_G) (tys : List (ClassId × FieldType)) (W1 : va_W) (A : Nat → Prop) (t : State) : Prop := va_P D vwCl W1 t.heap ∧ va_K D vwCl tys t ∧ va_D A W1
abbrev jQi (D : va_G) (tys : List (ClassId × FieldType)) (V : Int32) (W1 : va_W) (A : Nat → Prop) : Array Value → State → Outcome → State → Prop := va_Qi (fun (r : Int32) (_ : Unit) => r = V) (fun _ t => jEnd D tys W1 A t) A
abbrev jQl (D : va_G) (tys : List (ClassId × FieldType)) (V : Int64) (W1 : va_W) (A : Nat → Prop) : Array Value → State → Outcome → State → Prop := va_Ql (fun (r : Int64) (_ : Unit) => r = V) (fun _ t => jEnd D tys W1 A t) A
abbrev jQv (D : va_G) (tys : List (ClassId × FieldType)) (W1 : va_W) (A : Nat → Prop) : Array Value → State → Outcome → State → Prop := va_Qv (fun (_ : Unit) => True) (fun _ t => jEnd D tys W1 A t) A
abbrev jQr (D : va_G) (tys : List (ClassId × FieldType)) (V : Nat) (W1 : va_W) (A : Nat → Prop) : Array Value → State → Outcome → State → Prop := va_Qr (fun (_ : Unit) => True) (fun _ a t => a = V ∧ jEnd D tys W1 A t) A
theorem jPre_blind (D : va_G) (tys : List (ClassId × FieldType)) (G : JG) (av : List Value) (W0 : va_W) (sz : Nat) : FrameBlind (jPre D tys G av W0 sz) := by
  intro a U g mk h
  obtain ⟨q0, q1, qP, qK, qD, qZ⟩ := h
  exact ⟨q0, q1, qP, va_K.moved (u := U) (U := U.calling g mk a) (Vm.Alike.refl U.vm) qK, qD, qZ.blind g mk a⟩
section JE
variable {l : Launch} {y : MethodName} {bytes : ByteArray} {maxL : Nat} {rm : Room} {D : va_G} {tys : List (ClassId × FieldType)} {G : JG} {av : List Value} {W0 W1 : va_W} {sz : Nat}
/-- what a method's walk has at its entry -/
def jAt (p : Program) (s : State) (m : MethodId) (c : Code) (A : Nat → Prop) (y : MethodName) (bytes : ByteArray) (maxL : Nat) (D : va_G) (tys : List (ClassId × FieldType)) (G : JG) (av : List Value) : Prop :=
  p.tables.exec = Jvm.exec ∧ c.code = bytes ∧ c.maxLocals = maxL ∧ s.vm.findClass y.cls = some m.cls ∧ (∀ w ∈ jGW, w.before av.toArray s = true) ∧ va_K D vwCl tys s ∧ jZ G A s s.heap ∧ (∀ q : Nat, s.heap.size ≤ q → A q)
theorem jEi {ty : FieldType} {V : Int32} (hy : plainName y.cls = true) (hlen : (lg_sl av).length ≤ maxL)
    (body : ∀ (p : Program) (e : Env) (s : State) (m : MethodId) (below : List Frame) (meth : Method) (c : Code) (A : Nat → Prop) (Q : State → Prop) (ls : Array Slot),
      jAt p s m c A y bytes maxL D tys G av → va_P D vwCl W0 s.heap → va_D A W0 → va_S A s.heap s.heap [] → lv_has ls maxL (lv_args 0 av) →
      (∀ (H : Heap) (locs : List Loc) (ls : Array Slot) (pc : Nat) (v : Int32), va_P D vwCl W1 H → va_D A W1 → va_S A s.heap H locs → v = V → narrow ty (.int v) = .int v → decode bytes pc = .ok (.ireturn, 1) → W p l e rm s m av.toArray below meth c H locs 0 0 Q (F0 m pc ls [.int v])) →
      W p l e rm s m av.toArray below meth c s.heap [] 0 0 Q (F0 m 0 ls [])) :
    Met l y (.code y bytes maxL (some ty) :: jGW) rm (jPre D tys G av W0 sz) (jQi D tys V W1 (va_A W0 sz)) 0 0 (va_A W0 sz) := by
  refine Met.ofW (cc := bytes) (maxL := maxL) (ret := some ty) hy rfl ?_
  intro p e s m args below meth c s₁ B hml hv
  obtain ⟨rfl, hsz, hP, hK, hD0, hZ⟩ := hv
  subst hsz
  have hts0 := atoms_spec (ws := .code y bytes maxL (some ty) :: jGW) B.pre
  have hlocks := B.notSynchronized
  have hl := lv_entry av (n := maxL) hlen
  rw [lg_entry_eq]
  refine body p e s m below meth c (va_A W0 s.heap.size) _ _ ⟨B.exec, B.bytes, hml, findClass_of_methodNamed B.named, fun w hw => hts0 w (List.mem_cons_of_mem _ hw), hK, hZ, fun q h => Or.inr h⟩ hP hD0.self va_S.rf hl ?_
  intro H locs ls pc v hP1 hD1 hS hvV hn hdg
  exact W.zret B.exec B.bytes B.returns hn (fun t ht hW => ⟨⟨v, (), rfl, hvV, by rw [ht]; exact hP1, va_K.moved hW.alike hK, hD1⟩, hS.F ht⟩) hS.2.2 hdg
theorem jEl {V : Int64} (hy : plainName y.cls = true) (hlen : (lg_sl av).length ≤ maxL)
    (body : ∀ (p : Program) (e : Env) (s : State) (m : MethodId) (below : List Frame) (meth : Method) (c : Code) (A : Nat → Prop) (Q : State → Prop) (ls : Array Slot),
      jAt p s m c A y bytes maxL D tys G av → va_P D vwCl W0 s.heap → va_D A W0 → va_S A s.heap s.heap [] → lv_has ls maxL (lv_args 0 av) →
      (∀ (H : Heap) (locs : List Loc) (ls : Array Slot) (pc : Nat) (v : Int64), va_P D vwCl W1 H → va_D A W1 → va_S A s.heap H locs → v = V → decode bytes pc = .ok (.lreturn, 1) → W p l e rm s m av.toArray below meth c H locs 0 0 Q (F0 m pc ls [.long v])) →
      W p l e rm s m av.toArray below meth c s.heap [] 0 0 Q (F0 m 0 ls [])) :
    Met l y (.code y bytes maxL (some .long) :: jGW) rm (jPre D tys G av W0 sz) (jQl D tys V W1 (va_A W0 sz)) 0 0 (va_A W0 sz) := by
  refine Met.ofW (cc := bytes) (maxL := maxL) (ret := some .long) hy rfl ?_
  intro p e s m args below meth c s₁ B hml hv
  obtain ⟨rfl, hsz, hP, hK, hD0, hZ⟩ := hv
  subst hsz
  have hts0 := atoms_spec (ws := .code y bytes maxL (some .long) :: jGW) B.pre
  have hlocks := B.notSynchronized
  have hl := lv_entry av (n := maxL) hlen
  rw [lg_entry_eq]
  refine body p e s m below meth c (va_A W0 s.heap.size) _ _ ⟨B.exec, B.bytes, hml, findClass_of_methodNamed B.named, fun w hw => hts0 w (List.mem_cons_of_mem _ hw), hK, hZ, fun q h => Or.inr h⟩ hP hD0.self va_S.rf hl ?_
  intro H locs ls pc v hP1 hD1 hS hvV hdg
  exact W.lret B.exec B.bytes B.returns (fun t ht hW => ⟨⟨v, (), rfl, hvV, by rw [ht]; exact hP1, va_K.moved hW.alike hK, hD1⟩, hS.F ht⟩) hS.2.2 hdg
theorem jEv (hy : plainName y.cls = true) (hlen : (lg_sl av).length ≤ maxL)
    (body : ∀ (p : Program) (e : Env) (s : State) (m : MethodId) (below : List Frame) (meth : Method) (c : Code) (A : Nat → Prop) (Q : State → Prop) (ls : Array Slot),
      jAt p s m c A y bytes maxL D tys G av → va_P D vwCl W0 s.heap → va_D A W0 → va_S A s.heap s.heap [] → lv_has ls maxL (lv_args 0 av) →
      (∀ (H : Heap) (locs : List Loc) (ls : Array Slot) (pc : Nat), va_P D vwCl W1 H → va_D A W1 → va_S A s.heap H locs → decode bytes pc = .ok (.return_, 1) → W p l e rm s m av.toArray below meth c H locs 0 0 Q (F0 m pc ls [])) →
      W p l e rm s m av.toArray below meth c s.heap [] 0 0 Q (F0 m 0 ls [])) :
    Met l y (.code y bytes maxL none :: jGW) rm (jPre D tys G av W0 sz) (jQv D tys W1 (va_A W0 sz)) 0 0 (va_A W0 sz) := by
  refine Met.ofW (cc := bytes) (maxL := maxL) (ret := none) hy rfl ?_
  intro p e s m args below meth c s₁ B hml hv
  obtain ⟨rfl, hsz, hP, hK, hD0, hZ⟩ := hv
  subst hsz
  have hts0 := atoms_spec (ws := .code y bytes maxL none :: jGW) B.pre
  have hlocks := B.notSynchronized
  have hl := lv_entry av (n := maxL) hlen
  rw [lg_entry_eq]
  refine body p e s m below meth c (va_A W0 s.heap.size) _ _ ⟨B.exec, B.bytes, hml, findClass_of_methodNamed B.named, fun w hw => hts0 w (List.mem_cons_of_mem _ hw), hK, hZ, fun q h => Or.inr h⟩ hP hD0.self va_S.rf hl ?_
  intro H locs ls pc hP1 hD1 hS hdg
  exact W.vret B.exec B.bytes B.returns (fun t ht hW => ⟨⟨(), rfl, trivial, by rw [ht]; exact hP1, va_K.moved hW.alike hK, hD1⟩, hS.F ht⟩) hS.2.2 hdg
theorem jEr {rt : FieldType} {V : Nat} (hrt : (∃ n, rt = .object n) ∨ ∃ t, rt = .array t) (hy : plainName y.cls = true) (hlen : (lg_sl av).length ≤ maxL)
    (body : ∀ (p : Program) (e : Env) (s : State) (m : MethodId) (below : List Frame) (meth : Method) (c : Code) (A : Nat → Prop) (Q : State → Prop) (ls : Array Slot),
      jAt p s m c A y bytes maxL D tys G av → va_P D vwCl W0 s.heap → va_D A W0 → va_S A s.heap s.heap [] → lv_has ls maxL (lv_args 0 av) →
      (∀ (H : Heap) (locs : List Loc) (ls : Array Slot) (pc : Nat) (v : Nat), va_P D vwCl W1 H → va_D A W1 → va_S A s.heap H locs → v = V → decode bytes pc = .ok (.areturn, 1) → W p l e rm s m av.toArray below meth c H locs 0 0 Q (F0 m pc ls [.ref v])) →
      W p l e rm s m av.toArray below meth c s.heap [] 0 0 Q (F0 m 0 ls [])) :
    Met l y (.code y bytes maxL (some rt) :: jGW) rm (jPre D tys G av W0 sz) (jQr D tys V W1 (va_A W0 sz)) 0 0 (va_A W0 sz) := by
  refine Met.ofW (cc := bytes) (maxL := maxL) (ret := some rt) hy rfl ?_
  intro p e s m args below meth c s₁ B hml hv
  obtain ⟨rfl, hsz, hP, hK, hD0, hZ⟩ := hv
  subst hsz
  have hts0 := atoms_spec (ws := .code y bytes maxL (some rt) :: jGW) B.pre
  have hlocks := B.notSynchronized
  have hl := lv_entry av (n := maxL) hlen
  rw [lg_entry_eq]
  refine body p e s m below meth c (va_A W0 s.heap.size) _ _ ⟨B.exec, B.bytes, hml, findClass_of_methodNamed B.named, fun w hw => hts0 w (List.mem_cons_of_mem _ hw), hK, hZ, fun q h => Or.inr h⟩ hP hD0.self va_S.rf hl ?_
  intro H locs ls pc v hP1 hD1 hS hvV hdg
  exact W.aret B.exec B.bytes B.returns hrt (Or.inr ⟨_, rfl⟩) (fun t ht hW => ⟨⟨(), v, rfl, trivial, hvV, by rw [ht]; exact hP1, va_K.moved hW.alike hK, hD1⟩, hS.F ht⟩) hS.2.2 hdg
end JE
-- worlds: cells in place
def jput : va_W → List Nat → va_W → va_W
  | ws, i :: is, w :: w1 => jput (ws.set i w) is w1
  | ws, _, _ => ws
theorem jsub_fm {ws wc : va_W} {is : List Nat} (h : is.map (fun i => ws[i]?) = wc.map some) : is.filterMap (fun i => ws[i]?) = wc := by
  have h1 : (is.map (fun i => ws[i]?)).filterMap id = (wc.map some).filterMap id := by rw [h]
  rw [List.filterMap_map, List.filterMap_map] at h1
  simpa [Function.comp_def] using h1
theorem jput_at : ∀ (is : List Nat) (w1 ws : va_W), is.length = w1.length → ∀ (k : Nat) (q : Nat × va_E), (jput ws is w1)[k]? = some q → (∃ j : Nat, w1[j]? = some q) ∨ (ws[k]? = some q ∧ k ∉ is)
  | [], w1, ws, _, k, q, h => by
    have h' : ws[k]? = some q := by
      cases w1 <;> exact h
    exact Or.inr ⟨h', by simp⟩
  | i :: is, [], ws, hl, k, q, h => by simp at hl
  | i :: is, w :: w1, ws, hl, k, q, h => by
    have h2 : (jput (ws.set i w) is w1)[k]? = some q := h
    rcases jput_at is w1 (ws.set i w) (by simpa using hl) k q h2 with ⟨j, hj⟩ | ⟨h3, h4⟩
    · exact Or.inl ⟨j + 1, by simpa using hj⟩
    · by_cases hk : k = i
      · subst hk
        have hlt : k < ws.length := by
          have := (List.getElem?_eq_some_iff.mp h3).1
          simpa using this
        rw [List.getElem?_set_self hlt] at h3
        cases h3
        exact Or.inl ⟨0, rfl⟩
      · rw [List.getElem?_set_ne (Ne.symm hk)] at h3
        exact Or.inr ⟨h3, by simp [hk, h4]⟩
theorem jput_fst : ∀ (is : List Nat) (w1 ws : va_W), is.map (fun i => (ws.map Prod.fst)[i]?) = w1.map (fun w => some w.1) → (jput ws is w1).map Prod.fst = ws.map Prod.fst
  | [], w1, ws, _ => by cases w1 <;> rfl
  | i :: is, [], ws, _ => rfl
  | i :: is, w :: w1, ws, h => by
    have h1 : (ws.map Prod.fst)[i]? = some w.1 := by simpa using (List.cons.inj h).1
    have h2 := (List.cons.inj h).2
    have e : (ws.set i w).map Prod.fst = ws.map Prod.fst := by
      rw [List.map_set]
      apply List.ext_getElem?
      intro n
      by_cases hn : n = i
      · subst hn
        rw [List.getElem?_set_self (List.getElem?_eq_some_iff.mp h1).1, h1]
      · rw [List.getElem?_set_ne (Ne.symm hn)]
    show (jput (ws.set i w) is w1).map Prod.fst = ws.map Prod.fst
    rw [jput_fst is w1 (ws.set i w) (by rw [e]; exact h2), e]
theorem jD_congr {A : Nat → Prop} {ws ws' : va_W} (e : ws'.map Prod.fst = ws.map Prod.fst) (h : va_D A ws) : va_D A ws' := by
  have key : ∀ (k : Nat) (q : Nat × va_E), ws'[k]? = some q → ∃ q', ws[k]? = some q' ∧ q'.1 = q.1 := by
    intro k q hk
    have h1 : (ws'.map Prod.fst)[k]? = some q.1 := by rw [List.getElem?_map, hk]; rfl
    rw [e, List.getElem?_map] at h1
    cases hw : ws[k]? with
    | none => rw [hw] at h1; simp at h1
    | some q' => rw [hw] at h1; exact ⟨q', rfl, by simpa using h1⟩
  refine ⟨fun i j p q hp hq hpq => ?_, fun k q hk => ?_⟩
  · obtain ⟨p', hp', ep⟩ := key i p hp
    obtain ⟨q', hq', eq⟩ := key j q hq
    exact h.1 i j p' q' hp' hq' (by rw [ep, eq]; exact hpq)
  · obtain ⟨q', hq', eq⟩ := key k q hk
    rw [← eq]; exact h.2 k q' hq'
theorem jput_self : ∀ (is : List Nat) (w1 ws : va_W), is.map (fun i => ws[i]?) = w1.map some → jput ws is w1 = ws
  | [], w1, ws, _ => by cases w1 <;> rfl
  | i :: is, [], ws, _ => rfl
  | i :: is, w :: w1, ws, h => by
    have h1 : ws[i]? = some w := by simpa using (List.cons.inj h).1
    have e : ws.set i w = ws := by
      apply List.ext_getElem?
      intro n
      by_cases hn : n = i
      · subst hn
        rw [List.getElem?_set_self (List.getElem?_eq_some_iff.mp h1).1, h1]
      · rw [List.getElem?_set_ne (Ne.symm hn)]
    show jput (ws.set i w) is w1 = ws
    rw [e]
    exact jput_self is w1 ws (List.cons.inj h).2
theorem jjoin {A0 : Nat → Prop} {D : va_G} {cl : List vw_C} {ws wc w1 : va_W} {H H1 : Heap} (hP : va_P D cl ws H) (hD : va_D A0 ws) (is : List Nat) (hC : is.map (fun i => ws[i]?) = wc.map some) (had : w1.map Prod.fst = wc.map Prod.fst)
    (hk : ∀ q : Nat, q < H.size → ¬ va_A wc H.size q → H1[q]? = H[q]?) (hP1 : va_P D cl w1 H1) : va_P D cl (jput ws is w1) H1 ∧ va_D A0 (jput ws is w1) := by
  have hlen : is.length = w1.length := by
    have a1 := congrArg List.length hC
    have a2 := congrArg List.length had
    simp at a1 a2
    omega
  refine ⟨fun k q hkq => ?_, jD_congr (jput_fst is w1 ws ?_) hD⟩
  · rcases jput_at is w1 ws hlen k q hkq with ⟨j, hj⟩ | ⟨h1, h2⟩
    · exact hP1 j q hj
    · have hat := hP k q h1
      refine hat.kept (hk q.1 hat.lt ?_)
      rintro (⟨j, e, hj⟩ | hge)
      · have h3 : (is.map (fun i => ws[i]?))[j]? = some (some (q.1, e)) := by rw [hC, List.getElem?_map, hj]; rfl
        rw [List.getElem?_map] at h3
        cases hi : is[j]? with
        | none => rw [hi] at h3; simp at h3
        | some i =>
          rw [hi] at h3
          have h4 : ws[i]? = some (q.1, e) := by simpa using h3
          have h5 := hD.1 k i q (q.1, e) h1 h4 rfl
          exact h2 (h5 ▸ List.mem_of_getElem? hi)
      · exact absurd hat.lt (Nat.not_lt.mpr hge)
  · have e2 : (is.map (fun i => ws[i]?)).map (Option.map Prod.fst) = (wc.map some).map (Option.map Prod.fst) := by rw [hC]
    have e3 : is.map (fun i => (ws.map Prod.fst)[i]?) = wc.map (fun w => some w.1) := by
      simpa [List.map_map, Function.comp_def, List.getElem?_map] using e2
    rw [e3]
    have e4 := congrArg (List.map some) had
    simpa [List.map_map, Function.comp_def] using e4.symm

/-- what the tables say of a method that is called on an object, and of a static one -/
def jMV (y : MethodName) (bytes : ByteArray) (maxL : Nat) (ret : Option FieldType) (C : String) (n : Nat) : Prop :=
  Cond.code y bytes maxL ret ∈ jGW ∧ Cond.instanceMethod y ∈ jGW ∧ Cond.selects C y y ∈ jGW ∧ Cond.initialized y.cls ∈ jGW ∧ y.cls ≠ "java/lang/invoke/MethodHandle" ∧ y.cls ≠ "java/lang/invoke/VarHandle" ∧ (parseMethodDescriptor y.desc).map (fun d => d.parameters.length) = some n
def jMS (y : MethodName) (bytes : ByteArray) (maxL : Nat) (ret : Option FieldType) (n : Nat) : Prop :=
  Cond.code y bytes maxL ret ∈ jGW ∧ Cond.static y ∈ jGW ∧ Cond.initialized y.cls ∈ jGW ∧ y.cls ≠ "java/lang/invoke/MethodHandle" ∧ y.cls ≠ "java/lang/invoke/VarHandle" ∧ (parseMethodDescriptor y.desc).map (fun d => d.parameters.length) = some n
def jRm (rm : Room) (maxL : Nat) (R : Room) : Prop := rm.cells = 0 ∧ rm.slots = 0 ∧ rm.frames + 1 ≤ R.frames ∧ 8 + (maxL + 11) + rm.locals ≤ R.locals
section JC
variable {p : Program} {l : Launch} {e : Env} {R : Room} {s : State} {m : MethodId} {args : Array Value} {below : List Frame} {meth : Method} {c : Code} {H : Heap} {locs : List Loc} {cells slots : Nat} {Q : State → Prop}
variable {pc : Nat} {ls : Array Slot} {rest st0 : List Value} {A : Nat → Prop} {D : va_G} {tys : List (ClassId × FieldType)} {G : JG} {ws wc wc' : va_W} {cc : ByteArray} {nL : Nat}
variable {y : MethodName} {bytes : ByteArray} {maxL idx n : Nat} {ret : Option FieldType} {rm : Room} {own C host : String} {b : Addr} {As av : List Value} {a : Array Value}
theorem jfree (hD : va_D A ws) (hS : va_S A s.heap H locs) (hA : ∀ q : Nat, s.heap.size ≤ q → A q) (is : List Nat) (hC : is.map (fun i => ws[i]?) = wc.map some) : ∀ q, va_A wc H.size q → A q := va_free hD hS hA is hC
theorem jpre (hK : va_K D vwCl tys s) (hZ : jZ G A s s.heap) (hA : ∀ q : Nat, s.heap.size ≤ q → A q) (hP : va_P D vwCl ws H) (hD : va_D A ws) (hS : va_S A s.heap H locs) (is : List Nat) (hn : va_nd is = true) (hC : is.map (fun i => ws[i]?) = wc.map some) : PreS s H (jPre D tys G av wc H.size) av := by
  have hF := jfree hD hS hA is hC
  refine ⟨jPre_blind D tys G av wc H.size, fun U hU hW => ⟨rfl, by rw [hU], ?_, va_K.moved hW.alike hK, (hD.sub is hn hC).weaken (fun _ _ _ _ => trivial), hZ.call hS hF hW hU⟩⟩
  rw [hU]
  exact hP.sub is (jsub_fm hC)
theorem jrunV (hx : p.tables.exec = Jvm.exec) (hb : c.code = cc) (hml : c.maxLocals = nL) (hown : s.vm.findClass own = some m.cls) (hts : ∀ w ∈ jGW, w.before args s = true) (hK : va_K D vwCl tys s) (hZ : jZ G A s s.heap) (hA : ∀ q : Nat, s.heap.size ≤ q → A q) (hP : va_P D vwCl ws H) (hD : va_D A ws) (hS : va_S A s.heap H locs) (hls : ls.size = nL)
    (hF : jMV y bytes maxL ret C n) (hlink : Cond.methodLink own idx y ∈ jGW) (hR : jRm rm maxL R) (hcs : cells ≤ R.cells ∧ slots ≤ R.slots) (is : List Nat) (hn : va_nd is = true) (hC : is.map (fun i => ws[i]?) = wc.map some)
    {ci : Nat} {q : vw_C} {fs : List Value} (hc : vwCl[ci]? = some q) (hcq : q.1 = C) (he : wc[0]? = some (b, .inr (ci, fs)))
    {Qc : Array Value → State → Outcome → State → Prop} {free : Addr → Prop} (hM : Met l y (.code y bytes maxL ret :: jGW) rm (jPre D tys G (.ref b :: As) wc H.size) Qc 0 0 free)
    (hst : st0 = As.reverse ++ .ref b :: rest) (hAs : As.length = n) (hrest : (rest.map fun v => v.category).sum ≤ 8) (hdg : decode cc pc = .ok (.invokevirtual idx, 3)) :
    va_Run p l e R s m args below meth c H locs cells slots 0 0 (F0 m pc ls st0) rest (Qc (Value.ref b :: As).toArray) free := by
  obtain ⟨f1, f2, f3, f4, f5, f6, f7⟩ := hF
  obtain ⟨r1, r2, r3, r4⟩ := hR
  have hpre := jpre (av := .ref b :: As) hK hZ hA hP hD hS is hn hC
  have hcw : CallW R s args own C idx y bytes maxL ret (.code y bytes maxL ret :: jGW) rm 0 0 n := ⟨callB_of n hts (jgood f1) rfl r1 r2 (hts _ f4) (hts _ hlink) ⟨f5, f6, f7⟩ ⟨r3, r4⟩, hts _ f2, hts _ f3⟩
  subst hcq
  exact va_runV (As := As) (rest := rest) ⟨hx, hb, hml, hown, hts⟩ hM hcw ⟨hpre.1, va_recv (hK) (hP.sub is (jsub_fm hC)) hc he, hpre.2⟩ rfl hAs hls (by rw [hst]) (lv_room hrest) hdg ⟨by omega, by omega⟩
theorem jrunVs (hx : p.tables.exec = Jvm.exec) (hb : c.code = cc) (hml : c.maxLocals = nL) (hown : s.vm.findClass own = some m.cls) (hts : ∀ w ∈ jGW, w.before args s = true) (hK : va_K D vwCl tys s) (hZ : jZ G A s s.heap) (hA : ∀ q : Nat, s.heap.size ≤ q → A q) (hP : va_P D vwCl ws H) (hD : va_D A ws) (hS : va_S A s.heap H locs) (hls : ls.size = nL)
    (hF : jMV y bytes maxL ret C n) (hlink : Cond.methodLink own idx y ∈ jGW) (hR : jRm rm maxL R) (hcs : cells ≤ R.cells ∧ slots ≤ R.slots) (is : List Nat) (hn : va_nd is = true) (hC : is.map (fun i => ws[i]?) = wc.map some)
    (hrv : ∃ cell : Cell, H[b]? = some cell ∧ cell.vm.isStatics = false ∧ s.vm.findClass C = some cell.cls)
    {Qc : Array Value → State → Outcome → State → Prop} {free : Addr → Prop} (hM : Met l y (.code y bytes maxL ret :: jGW) rm (jPre D tys G (.ref b :: As) wc H.size) Qc 0 0 free)
    (hst : st0 = As.reverse ++ .ref b :: rest) (hAs : As.length = n) (hrest : (rest.map fun v => v.category).sum ≤ 8) (hdg : decode cc pc = .ok (.invokevirtual idx, 3)) :
    va_Run p l e R s m args below meth c H locs cells slots 0 0 (F0 m pc ls st0) rest (Qc (Value.ref b :: As).toArray) free := by
  obtain ⟨f1, f2, f3, f4, f5, f6, f7⟩ := hF
  obtain ⟨r1, r2, r3, r4⟩ := hR
  have hpre := jpre (av := .ref b :: As) hK hZ hA hP hD hS is hn hC
  have hcw : CallW R s args own C idx y bytes maxL ret (.code y bytes maxL ret :: jGW) rm 0 0 n := ⟨callB_of n hts (jgood f1) rfl r1 r2 (hts _ f4) (hts _ hlink) ⟨f5, f6, f7⟩ ⟨r3, r4⟩, hts _ f2, hts _ f3⟩
  exact va_runV (As := As) (rest := rest) ⟨hx, hb, hml, hown, hts⟩ hM hcw ⟨hpre.1, hrv, hpre.2⟩ rfl hAs hls (by rw [hst]) (lv_room hrest) hdg ⟨by omega, by omega⟩
theorem jrunS (hx : p.tables.exec = Jvm.exec) (hb : c.code = cc) (hml : c.maxLocals = nL) (hown : s.vm.findClass own = some m.cls) (hts : ∀ w ∈ jGW, w.before args s = true) (hK : va_K D vwCl tys s) (hZ : jZ G A s s.heap) (hA : ∀ q : Nat, s.heap.size ≤ q → A q) (hP : va_P D vwCl ws H) (hD : va_D A ws) (hS : va_S A s.heap H locs) (hls : ls.size = nL)
    (hF : jMS y bytes maxL ret n) (hlink : Cond.methodLink own idx y ∈ jGW) (hR : jRm rm maxL R) (hcs : cells ≤ R.cells ∧ slots ≤ R.slots) (is : List Nat) (hn : va_nd is = true) (hC : is.map (fun i => ws[i]?) = wc.map some)
    {Qc : Array Value → State → Outcome → State → Prop} {free : Addr → Prop} (hM : Met l y (.code y bytes maxL ret :: jGW) rm (jPre D tys G As wc H.size) Qc 0 0 free)
    (hst : st0 = As.reverse ++ rest) (hAs : As.length = n) (hrest : (rest.map fun v => v.category).sum ≤ 8) (hdg : decode cc pc = .ok (.invokestatic idx, 3)) :
    va_Run p l e R s m args below meth c H locs cells slots 0 0 (F0 m pc ls st0) rest (Qc As.toArray) free := by
  obtain ⟨f1, f2, f4, f5, f6, f7⟩ := hF
  obtain ⟨r1, r2, r3, r4⟩ := hR
  exact va_runS (As := As) (rest := rest) ⟨hx, hb, hml, hown, hts⟩ hM ⟨callB_of n hts (jgood f1) rfl r1 r2 (hts _ f4) (hts _ hlink) ⟨f5, f6, f7⟩ ⟨r3, r4⟩, hts _ f2⟩ (jpre hK hZ hA hP hD hS is hn hC) rfl hAs hls (by rw [hst]) (lv_room hrest) hdg ⟨by omega, by omega⟩
theorem jrunSN (hx : p.tables.exec = Jvm.exec) (hb : c.code = cc) (hml : c.maxLocals = nL) (hown : s.vm.findClass own = some m.cls) (hts : ∀ w ∈ jGW, w.before args s = true) (hK : va_K D vwCl tys s) (hZ : jZ G A s s.heap) (hA : ∀ q : Nat, s.heap.size ≤ q → A q) (hP : va_P D vwCl ws H) (hD : va_D A ws) (hS : va_S A s.heap H locs) (hls : ls.size = nL)
    (hF : jMS y bytes maxL ret n) (hlink : Cond.methodLinkNest own idx y host ∈ lw_tbl) (hR : jRm rm maxL R) (hcs : cells ≤ R.cells ∧ slots ≤ R.slots) (is : List Nat) (hn : va_nd is = true) (hC : is.map (fun i => ws[i]?) = wc.map some)
    {Qc : Array Value → State → Outcome → State → Prop} {free : Addr → Prop} (hM : Met l y (.code y bytes maxL ret :: jGW) rm (jPre D tys G As wc H.size) Qc 0 0 free)
    (hst : st0 = As.reverse ++ rest) (hAs : As.length = n) (hrest : (rest.map fun v => v.category).sum ≤ 8) (hdg : decode cc pc = .ok (.invokestatic idx, 3)) :
    va_Run p l e R s m args below meth c H locs cells slots 0 0 (F0 m pc ls st0) rest (Qc As.toArray) free := by
  obtain ⟨f1, f2, f4, f5, f6, f7⟩ := hF
  obtain ⟨r1, r2, r3, r4⟩ := hR
  exact va_runSN (As := As) (rest := rest) ⟨hx, hb, hml, hown, hts⟩ hM ⟨va_cnB n hts (jgood f1) rfl r1 r2 (hZ.2.2.2.2.1 _ hlink rfl) (hts _ f4) ⟨f5, f6, f7⟩ ⟨r3, r4⟩, hts _ f2, trivial⟩ (jpre hK hZ hA hP hD hS is hn hC) rfl hAs hls (by rw [hst]) (lv_room hrest) hdg ⟨by omega, by omega⟩
/-- behind a call that answers an int: the callee's cells in place -/
theorem jci {V : Int32} (hr : va_Run p l e R s m args below meth c H locs cells slots 0 0 (F0 m pc ls st0) rest (jQi D tys V wc' (va_A wc H.size) a) (va_A wc H.size)) (hA : ∀ q : Nat, s.heap.size ≤ q → A q) (hP : va_P D vwCl ws H) (hD : va_D A ws) (hS : va_S A s.heap H locs) (is : List Nat) (hC : is.map (fun i => ws[i]?) = wc.map some) (had : wc'.map Prod.fst = wc.map Prod.fst)
    (kk : ∀ (H : Heap) (locs : List Loc), va_P D vwCl (jput ws is wc') H → va_D A (jput ws is wc') → va_S A s.heap H locs → W p l e R s m args below meth c H locs cells slots Q (F0 m (pc + 3) ls (.int V :: rest))) : W p l e R s m args below meth c H locs cells slots Q (F0 m pc ls st0) := by
  have hF := jfree hD hS hA is hC
  refine va_calli hr hS (fun q _ h => hF q h) hF (fun r u t H1 locs1 ht hvm hw hB hz1 hk1 hS1 => ?_)
  obtain ⟨hP1, -, -⟩ := hB
  rw [ht] at hP1
  subst hw
  obtain ⟨hP2, hD2⟩ := jjoin hP hD is hC had hk1 hP1
  exact kk H1 locs1 hP2 hD2 hS1
theorem jcl {V : Int64} (hr : va_Run p l e R s m args below meth c H locs cells slots 0 0 (F0 m pc ls st0) rest (jQl D tys V wc' (va_A wc H.size) a) (va_A wc H.size)) (hA : ∀ q : Nat, s.heap.size ≤ q → A q) (hP : va_P D vwCl ws H) (hD : va_D A ws) (hS : va_S A s.heap H locs) (is : List Nat) (hC : is.map (fun i => ws[i]?) = wc.map some) (had : wc'.map Prod.fst = wc.map Prod.fst)
    (kk : ∀ (H : Heap) (locs : List Loc), va_P D vwCl (jput ws is wc') H → va_D A (jput ws is wc') → va_S A s.heap H locs → W p l e R s m args below meth c H locs cells slots Q (F0 m (pc + 3) ls (.long V :: rest))) : W p l e R s m args below meth c H locs cells slots Q (F0 m pc ls st0) := by
  have hF := jfree hD hS hA is hC
  refine va_calll hr hS (fun q _ h => hF q h) hF (fun r u t H1 locs1 ht hvm hw hB hz1 hk1 hS1 => ?_)
  obtain ⟨hP1, -, -⟩ := hB
  rw [ht] at hP1
  subst hw
  obtain ⟨hP2, hD2⟩ := jjoin hP hD is hC had hk1 hP1
  exact kk H1 locs1 hP2 hD2 hS1
theorem jcv (hr : va_Run p l e R s m args below meth c H locs cells slots 0 0 (F0 m pc ls st0) rest (jQv D tys wc' (va_A wc H.size) a) (va_A wc H.size)) (hA : ∀ q : Nat, s.heap.size ≤ q → A q) (hP : va_P D vwCl ws H) (hD : va_D A ws) (hS : va_S A s.heap H locs) (is : List Nat) (hC : is.map (fun i => ws[i]?) = wc.map some) (had : wc'.map Prod.fst = wc.map Prod.fst)
    (kk : ∀ (H : Heap) (locs : List Loc), va_P D vwCl (jput ws is wc') H → va_D A (jput ws is wc') → va_S A s.heap H locs → W p l e R s m args below meth c H locs cells slots Q (F0 m (pc + 3) ls rest)) : W p l e R s m args below meth c H locs cells slots Q (F0 m pc ls st0) := by
  have hF := jfree hD hS hA is hC
  refine va_callv hr hS (fun q _ h => hF q h) hF (fun u t H1 locs1 ht hvm hw hB hz1 hk1 hS1 => ?_)
  obtain ⟨hP1, -, -⟩ := hB
  rw [ht] at hP1
  obtain ⟨hP2, hD2⟩ := jjoin hP hD is hC had hk1 hP1
  exact kk H1 locs1 hP2 hD2 hS1
theorem jcr {V : Nat} (hr : va_Run p l e R s m args below meth c H locs cells slots 0 0 (F0 m pc ls st0) rest (jQr D tys V wc' (va_A wc H.size) a) (va_A wc H.size)) (hA : ∀ q : Nat, s.heap.size ≤ q → A q) (hP : va_P D vwCl ws H) (hD : va_D A ws) (hS : va_S A s.heap H locs) (is : List Nat) (hC : is.map (fun i => ws[i]?) = wc.map some) (had : wc'.map Prod.fst = wc.map Prod.fst)
    (kk : ∀ (H : Heap) (locs : List Loc), va_P D vwCl (jput ws is wc') H → va_D A (jput ws is wc') → va_S A s.heap H locs → W p l e R s m args below meth c H locs cells slots Q (F0 m (pc + 3) ls (.ref V :: rest))) : W p l e R s m args below meth c H locs cells slots Q (F0 m pc ls st0) := by
  have hF := jfree hD hS hA is hC
  refine va_callr hr hS (fun q _ h => hF q h) hF (fun u ra t H1 locs1 ht hvm hw hB hz1 hk1 hS1 => ?_)
  obtain ⟨hra, hP1, -, -⟩ := hB
  rw [ht] at hP1
  subst hra
  obtain ⟨hP2, hD2⟩ := jjoin hP hD is hC had hk1 hP1
  exact kk H1 locs1 hP2 hD2 hS1
/-- a call that changes nothing -/
theorem jci0 {V : Int32} (hr : va_Run p l e R s m args below meth c H locs cells slots 0 0 (F0 m pc ls st0) rest (jQi D tys V wc (va_A wc H.size) a) (va_A wc H.size)) (hA : ∀ q : Nat, s.heap.size ≤ q → A q) (hP : va_P D vwCl ws H) (hD : va_D A ws) (hS : va_S A s.heap H locs) (is : List Nat) (hC : is.map (fun i => ws[i]?) = wc.map some)
    (kk : ∀ (H : Heap) (locs : List Loc), va_P D vwCl ws H → va_S A s.heap H locs → W p l e R s m args below meth c H locs cells slots Q (F0 m (pc + 3) ls (.int V :: rest))) : W p l e R s m args below meth c H locs cells slots Q (F0 m pc ls st0) :=
  jci hr hA hP hD hS is hC rfl (fun H locs h1 h2 h3 => kk H locs (by rw [jput_self is wc ws hC] at h1; exact h1) h3)
theorem jcl0 {V : Int64} (hr : va_Run p l e R s m args below meth c H locs cells slots 0 0 (F0 m pc ls st0) rest (jQl D tys V wc (va_A wc H.size) a) (va_A wc H.size)) (hA : ∀ q : Nat, s.heap.size ≤ q → A q) (hP : va_P D vwCl ws H) (hD : va_D A ws) (hS : va_S A s.heap H locs) (is : List Nat) (hC : is.map (fun i => ws[i]?) = wc.map some)
    (kk : ∀ (H : Heap) (locs : List Loc), va_P D vwCl ws H → va_S A s.heap H locs → W p l e R s m args below meth c H locs cells slots Q (F0 m (pc + 3) ls (.long V :: rest))) : W p l e R s m args below meth c H locs cells slots Q (F0 m pc ls st0) :=
  jcl hr hA hP hD hS is hC rfl (fun H locs h1 h2 h3 => kk H locs (by rw [jput_self is wc ws hC] at h1; exact h1) h3)
theorem jcr0 {V : Nat} (hr : va_Run p l e R s m args below meth c H locs cells slots 0 0 (F0 m pc ls st0) rest (jQr D tys V wc (va_A wc H.size) a) (va_A wc H.size)) (hA : ∀ q : Nat, s.heap.size ≤ q → A q) (hP : va_P D vwCl ws H) (hD : va_D A ws) (hS : va_S A s.heap H locs) (is : List Nat) (hC : is.map (fun i => ws[i]?) = wc.map some)
    (kk : ∀ (H : Heap) (locs : List Loc), va_P D vwCl ws H → va_S A s.heap H locs → W p l e R s m args below meth c H locs cells slots Q (F0 m (pc + 3) ls (.ref V :: rest))) : W p l e R s m args below meth c H locs cells slots Q (F0 m pc ls st0) :=
  jcr hr hA hP hD hS is hC rfl (fun H locs h1 h2 h3 => kk H locs (by rw [jput_self is wc ws hC] at h1; exact h1) h3)
end JC
