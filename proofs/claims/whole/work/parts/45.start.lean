-- THE LAW: the world at its entry
def lwF : List Cond := flatC (Jvm.Cond.and given_1 narrow_1)
section LS
variable {b : Nat} {s : State}
theorem lw_hA {s : State} : ∀ a : Nat, a < s.heap.size → ¬ lgA s a := fun _ h => Nat.not_le.mpr h
theorem lw_stat (hs : ∀ c ∈ lwF, c.before #[.ref b] s = true) (hts : ∀ w ∈ lw_tbl, w.before #[.ref b] s = true) {C n : String} (ns : List Int32) (hN : ns.length < 2 ^ 31) (i1 : Cond.laysStatic C n "[I" ∈ lw_tbl) (i2 : Cond.initialized C ∈ lw_tbl) (i3 : Cond.arrayOf (.static C n "[I") .int ∈ lwF) (i4 : Cond.eq (.length (.static C n "[I")) (.int (Int32.ofNat ns.length)) ∈ lwF) (i5 : ∀ j : Nat, j < ns.length → Cond.eq (.elem (.static C n "[I") (.int (Int32.ofNat j))) (.int (ns.getD j 0)) ∈ lwF) :
    ∃ t : Nat, (va_Z C n "[I" (.ref t) (lgA s) s s.heap ∧ va_T .int t ns.length (fun j => .int (ns.getD j 0)) (lgA s) s s.heap) ∧ (Term.static C n "[I").eval #[.ref b] s none [] s = some (.ref t) := by
  obtain ⟨t, ht, hT⟩ := va_Tof (f := fun j => .int (ns.getD j 0)) (A := lgA s) hN (hs _ i3) (va_eqt (hs _ i4)) (fun j hj => va_eqt (hs _ (i5 j hj))) lw_hA
  exact ⟨t, ⟨va_Zof (hts _ i1) (hts _ i2) ht lw_hA, hT⟩, ht⟩
theorem lwm (i : Nat) {w : Cond} (h : lw_tbl[i]? = some w) : w ∈ lw_tbl := List.mem_of_getElem? h
theorem lwf (i : Nat) {w : Cond} (h : lwF[i]? = some w) : w ∈ lwF := List.mem_of_getElem? h
theorem lwe_0 (j : Nat) (hj : j < (jStat.getD 0 ("", "", [])).2.2.length) : Cond.eq (.elem (.static "JudgedDeposits" "HOME_AT_FIRST" "[I") (.int (Int32.ofNat j))) (.int ((jStat.getD 0 ("", "", [])).2.2.getD j 0)) ∈ lwF := lwf _ ((by decide +kernel : ∀ j : Nat, j < (jStat.getD 0 ("", "", [])).2.2.length → lwF[7 + j]? = some (Cond.eq (.elem (.static "JudgedDeposits" "HOME_AT_FIRST" "[I") (.int (Int32.ofNat j))) (.int ((jStat.getD 0 ("", "", [])).2.2.getD j 0)))) j hj)
theorem lwe_1 (j : Nat) (hj : j < (jStat.getD 1 ("", "", [])).2.2.length) : Cond.eq (.elem (.static "JudgedDeposits" "HOME_LEAST" "[I") (.int (Int32.ofNat j))) (.int ((jStat.getD 1 ("", "", [])).2.2.getD j 0)) ∈ lwF := lwf _ ((by decide +kernel : ∀ j : Nat, j < (jStat.getD 1 ("", "", [])).2.2.length → lwF[17 + j]? = some (Cond.eq (.elem (.static "JudgedDeposits" "HOME_LEAST" "[I") (.int (Int32.ofNat j))) (.int ((jStat.getD 1 ("", "", [])).2.2.getD j 0)))) j hj)
theorem lwe_2 (j : Nat) (hj : j < (jStat.getD 2 ("", "", [])).2.2.length) : Cond.eq (.elem (.static "JudgedDeposits" "HOME_MOST" "[I") (.int (Int32.ofNat j))) (.int ((jStat.getD 2 ("", "", [])).2.2.getD j 0)) ∈ lwF := lwf _ ((by decide +kernel : ∀ j : Nat, j < (jStat.getD 2 ("", "", [])).2.2.length → lwF[27 + j]? = some (Cond.eq (.elem (.static "JudgedDeposits" "HOME_MOST" "[I") (.int (Int32.ofNat j))) (.int ((jStat.getD 2 ("", "", [])).2.2.getD j 0)))) j hj)
theorem lwe_3 (j : Nat) (hj : j < (jStat.getD 3 ("", "", [])).2.2.length) : Cond.eq (.elem (.static "JudgedDeposits" "TRAIT_MOST" "[I") (.int (Int32.ofNat j))) (.int ((jStat.getD 3 ("", "", [])).2.2.getD j 0)) ∈ lwF := lwf _ ((by decide +kernel : ∀ j : Nat, j < (jStat.getD 3 ("", "", [])).2.2.length → lwF[37 + j]? = some (Cond.eq (.elem (.static "JudgedDeposits" "TRAIT_MOST" "[I") (.int (Int32.ofNat j))) (.int ((jStat.getD 3 ("", "", [])).2.2.getD j 0)))) j hj)
theorem lwe_4 (j : Nat) (hj : j < (jStat.getD 4 ("", "", [])).2.2.length) : Cond.eq (.elem (.static "JudgedDeposits" "KIND_ABOVE" "[I") (.int (Int32.ofNat j))) (.int ((jStat.getD 4 ("", "", [])).2.2.getD j 0)) ∈ lwF := lwf _ ((by decide +kernel : ∀ j : Nat, j < (jStat.getD 4 ("", "", [])).2.2.length → lwF[52 + j]? = some (Cond.eq (.elem (.static "JudgedDeposits" "KIND_ABOVE" "[I") (.int (Int32.ofNat j))) (.int ((jStat.getD 4 ("", "", [])).2.2.getD j 0)))) j hj)
theorem lwe_5 (j : Nat) (hj : j < (jStat.getD 5 ("", "", [])).2.2.length) : Cond.eq (.elem (.static "JudgedDepositsModel" "NAMES" "[I") (.int (Int32.ofNat j))) (.int ((jStat.getD 5 ("", "", [])).2.2.getD j 0)) ∈ lwF := lwf _ ((by decide +kernel : ∀ j : Nat, j < (jStat.getD 5 ("", "", [])).2.2.length → lwF[62 + j]? = some (Cond.eq (.elem (.static "JudgedDepositsModel" "NAMES" "[I") (.int (Int32.ofNat j))) (.int ((jStat.getD 5 ("", "", [])).2.2.getD j 0)))) j hj)
theorem lw_stats (hs : ∀ c ∈ lwF, c.before #[.ref b] s = true) (hts : ∀ w ∈ lw_tbl, w.before #[.ref b] s = true) : ∃ G1 : Nat → Nat, (∀ (k : Nat) (q : String × String × List Int32), jStat[k]? = some q → va_Z q.1 q.2.1 "[I" (.ref (G1 k)) (lgA s) s s.heap ∧ va_T .int (G1 k) q.2.2.length (fun j => .int (q.2.2.getD j 0)) (lgA s) s s.heap) ∧ (Term.static "JudgedDeposits" "HOME_AT_FIRST" "[I").eval #[.ref b] s none [] s = some (.ref (G1 0)) := by
  obtain ⟨t0, h0, e0⟩ := lw_stat hs hts (C := "JudgedDeposits") (n := "HOME_AT_FIRST") (jStat.getD 0 ("", "", [])).2.2 (by decide +kernel) (lwm 91 (by decide +kernel)) (lwm 62 (by decide +kernel)) (lwf 5 (by decide +kernel)) (lwf 6 (by decide +kernel)) lwe_0
  obtain ⟨t1, h1, e1⟩ := lw_stat hs hts (C := "JudgedDeposits") (n := "HOME_LEAST") (jStat.getD 1 ("", "", [])).2.2 (by decide +kernel) (lwm 220 (by decide +kernel)) (lwm 62 (by decide +kernel)) (lwf 15 (by decide +kernel)) (lwf 16 (by decide +kernel)) lwe_1
  obtain ⟨t2, h2, e2⟩ := lw_stat hs hts (C := "JudgedDeposits") (n := "HOME_MOST") (jStat.getD 2 ("", "", [])).2.2 (by decide +kernel) (lwm 222 (by decide +kernel)) (lwm 62 (by decide +kernel)) (lwf 25 (by decide +kernel)) (lwf 26 (by decide +kernel)) lwe_2
  obtain ⟨t3, h3, e3⟩ := lw_stat hs hts (C := "JudgedDeposits") (n := "TRAIT_MOST") (jStat.getD 3 ("", "", [])).2.2 (by decide +kernel) (lwm 257 (by decide +kernel)) (lwm 62 (by decide +kernel)) (lwf 35 (by decide +kernel)) (lwf 36 (by decide +kernel)) lwe_3
  obtain ⟨t4, h4, e4⟩ := lw_stat hs hts (C := "JudgedDeposits") (n := "KIND_ABOVE") (jStat.getD 4 ("", "", [])).2.2 (by decide +kernel) (lwm 663 (by decide +kernel)) (lwm 62 (by decide +kernel)) (lwf 50 (by decide +kernel)) (lwf 51 (by decide +kernel)) lwe_4
  obtain ⟨t5, h5, e5⟩ := lw_stat hs hts (C := "JudgedDepositsModel") (n := "NAMES") (jStat.getD 5 ("", "", [])).2.2 (by decide +kernel) (lwm 1056 (by decide +kernel)) (lwm 67 (by decide +kernel)) (lwf 60 (by decide +kernel)) (lwf 61 (by decide +kernel)) lwe_5
  refine ⟨fun k => match k with | 0 => t0 | 1 => t1 | 2 => t2 | 3 => t3 | 4 => t4 | _ => t5, fun k q hq => ?_, e0⟩
  match k, hq with
  | 0, hq => cases hq; exact h0
  | 1, hq => cases hq; exact h1
  | 2, hq => cases hq; exact h2
  | 3, hq => cases hq; exact h3
  | 4, hq => cases hq; exact h4
  | 5, hq => cases hq; exact h5
  | k + 6, hq => exact absurd hq (by simp [jStat])
-- the constant texts
def lwS (i : Nat) : Term := .string "JudgedDeposits$Tape" ((jStr.getD i (0, "")).1)
theorem lws_0 : ∀ i : Nat, i < 15 → jLen.getD i 0 < 2 ^ 31 := by decide +kernel
def lwEx : List Nat := [160, 170, 179, 190, 202, 214, 226, 241, 256, 270, 288, 302, 321, 342, 365]
def lwNb : List Nat := [0, 178, 188, 199, 210, 221, 235, 249, 262, 279, 292, 310, 330, 352, 373]
theorem lws_1 (i : Nat) (hi : i < 15) : Cond.exactly (lwS i) "java/lang/String" ∈ lwF := lwf _ ((by decide +kernel : ∀ i : Nat, i < 15 → lwF[lwEx.getD i 0]? = some (Cond.exactly (lwS i) "java/lang/String")) i hi)
theorem lws_2 (i : Nat) (hi : i < 15) : Cond.eq (.field (lwS i) "java/lang/String" "coder" "B") (.int 0) ∈ lwF := lwf _ ((by decide +kernel : ∀ i : Nat, i < 15 → lwF[lwEx.getD i 0 + 1]? = some (Cond.eq (.field (lwS i) "java/lang/String" "coder" "B") (.int 0))) i hi)
theorem lws_3 (i : Nat) (hi : i < 15) : Cond.arrayOf (.field (lwS i) "java/lang/String" "value" "[B") .byte ∈ lwF := lwf _ ((by decide +kernel : ∀ i : Nat, i < 15 → lwF[lwEx.getD i 0 + 2]? = some (Cond.arrayOf (.field (lwS i) "java/lang/String" "value" "[B") .byte)) i hi)
theorem lws_4 (i : Nat) (hi : i < 15) : Cond.eq (.length (.field (lwS i) "java/lang/String" "value" "[B")) (.int (Int32.ofNat (jLen.getD i 0))) ∈ lwF := lwf _ ((by decide +kernel : ∀ i : Nat, i < 15 → lwF[lwEx.getD i 0 + 3]? = some (Cond.eq (.length (.field (lwS i) "java/lang/String" "value" "[B")) (.int (Int32.ofNat (jLen.getD i 0))))) i hi)
theorem lws_5 (i : Nat) (hi : i < 15) (j : Nat) (hj : j < jLen.getD i 0) : Cond.eq (.elem (.field (lwS i) "java/lang/String" "value" "[B") (.int (Int32.ofNat j))) (.int ((jByt.getD i []).getD j 0)) ∈ lwF := lwf _ ((by decide +kernel : ∀ i : Nat, i < 15 → ∀ j : Nat, j < jLen.getD i 0 → lwF[lwEx.getD i 0 + 4 + j]? = some (Cond.eq (.elem (.field (lwS i) "java/lang/String" "value" "[B") (.int (Int32.ofNat j))) (.int ((jByt.getD i []).getD j 0)))) i hi j hj)
theorem lws_6a (j : Nat) (hj : j < 15) (i : Nat) (hi : i < j) : Cond.not (Cond.eq (lwS i) (lwS j)) ∈ lwF := lwf _ ((by decide +kernel : ∀ j : Nat, j < 15 → ∀ i : Nat, i < j → lwF[lwNb.getD j 0 + i]? = some (Cond.not (Cond.eq (lwS i) (lwS j)))) j hj i hi)
theorem lws_6 (i : Nat) (hi : i < 15) (j : Nat) (hj : j < 15) (hij : i ≠ j) : Cond.not (Cond.eq (lwS i) (lwS j)) ∈ lwF ∨ Cond.not (Cond.eq (lwS j) (lwS i)) ∈ lwF := by
  rcases Nat.lt_or_gt_of_ne hij with h | h
  · exact Or.inl (lws_6a j hj i h)
  · exact Or.inr (lws_6a i hi j h)
def lwSt : List Nat := [550, 551, 552, 553, 554, 555, 556, 623, 624, 625, 626, 632, 639, 640, 641]
theorem lws_7 (i : Nat) (hi : i < 15) : Cond.stringRef "JudgedDeposits$Tape" ((jStr.getD i (0, "")).1) ((jStr.getD i (0, "")).2) ∈ lw_tbl := lwm _ ((by decide +kernel : ∀ i : Nat, i < 15 → lw_tbl[lwSt.getD i 0]? = some (Cond.stringRef "JudgedDeposits$Tape" ((jStr.getD i (0, "")).1) ((jStr.getD i (0, "")).2))) i hi)
theorem lw_strs (hs : ∀ c ∈ lwF, c.before #[.ref b] s = true) (hts : ∀ w ∈ lw_tbl, w.before #[.ref b] s = true) : ∃ aK aV : Nat → Nat, vk_S 15 jLen jByt aK aV (lgA s) s s.heap ∧ ∀ (k : Nat) (q : Nat × String), jStr[k]? = some q → vk_R "JudgedDeposits$Tape" q.1 q.2 (aK k) s := by
  obtain ⟨aK, aV, h1, h2⟩ := vk_Sof (args := #[.ref b]) (s := s) (N := 15) (tm := lwS) (len := jLen) (byt := jByt) (A := lgA s) lws_0 (fun i hi => hs _ (lws_1 i hi)) (fun i hi => hs _ (lws_2 i hi)) (fun i hi => hs _ (lws_3 i hi)) (fun i hi => hs _ (lws_4 i hi)) (fun i hi j hj => hs _ (lws_5 i hi j hj)) (fun i j hi hj hij => (lws_6 i hi j hj hij).imp (fun q => hs _ q) (fun q => hs _ q)) lw_hA
  refine ⟨aK, aV, h1, fun k q hq => ?_⟩
  have hk : k < 15 := (List.getElem?_eq_some_iff.mp hq).1
  have e : jStr.getD k (0, "") = q := by rw [List.getD_eq_getElem?_getD, hq]; rfl
  have i7 := hts _ (lws_7 k hk)
  have i8 := h2 k hk
  unfold lwS at i8
  rw [e] at i7 i8
  exact vk_R.of i7 i8
theorem lw_nest (hts : ∀ w ∈ lw_tbl, w.before #[.ref b] s = true) : ∀ w ∈ lw_tbl, jNk w = true → va_Nw w s := by
  intro w hw hn
  refine va_Nw.of (A := #[.ref b]) ?_ (hts w hw)
  cases w <;> first | rfl | (exact absurd hn (by decide)) | (simp [jNk] at hn)
theorem lw_isRef {t : Term} (h : (Cond.isRef t).before #[.ref b] s = true) : ∃ r : Option Nat, t.eval #[.ref b] s none [] s = some (va_rf r) := by
  obtain ⟨v, h1, h2⟩ := Cond.isRef_spec h
  cases v with
  | ref a => exact ⟨some a, h1⟩
  | null => exact ⟨none, h1⟩
  | _ => exact absurd h2 (by simp [Value.isRef])
theorem lw_exact {t : Nat} {K : JK} (hK1 : s.vm.findClass "[I" = some K.1) {ex len : Term} (he : ex.eval #[.ref b] s none [] s = some (.ref t)) (h1 : (Cond.exactly ex "[I").before #[.ref b] s = true) (h2 : (Cond.eq (.length ex) (.int 7)).before #[.ref b] s = true) (hT : va_T .int t 7 (fun j => .int (fHome j)) (lgA s) s s.heap) :
    ∃ cell : Cell, s.heap[t]? = some cell ∧ cell.cls = K.1 ∧ (∀ k, cell.vm ≠ .statics k) ∧ cell.vm ≠ .unknown ∧ cell.slots = (arrV K.1 7 (fun j => .int (fHome j))).slots ∧ ¬ lgA s t := by
  obtain ⟨a, cc, cell, k, q1, q2, q3, q4, q5, q6, -⟩ := Cond.exactly_spec h1
  have ea : a = t := by
    have := q1.symm.trans he
    injection this with this
    injection this
  subst ea
  obtain ⟨cell2, c1, c2, c3, c4, c5, c6, c7⟩ := hT
  cases q3.symm.trans c1
  have hlen := va_eqt h2
  have hsz : cell.slots.size = 7 := by
    have hlt : cell.slots.size < 2147483648 := by
      simp only [Term.eval, Option.bind_eq_bind] at hlen
      rw [he] at hlen
      obtain ⟨v0, hv0, hlen2⟩ := Option.bind_eq_some_iff.mp hlen
      cases hv0
      obtain ⟨cl, hc1, hc2⟩ := Option.bind_eq_some_iff.mp hlen2
      have := (State.arrayAt?_spec hc1).1
      cases q3.symm.trans this
      by_cases hn : cell.slots.size < 2147483648
      · exact hn
      · rw [if_neg hn] at hc2; cases hc2
    have c5' : nI cell.slots.size = nI 7 := c5
    exact (nI_eq (by omega) (by omega)).mp c5'
  refine ⟨cell, q3, ?_, fun k hk => ?_, c3, ?_, c7⟩
  · rw [q6]
    exact Option.some.inj (q2.symm.trans hK1)
  · rw [hk] at q5; cases q5
  · apply Array.ext_getElem?
    intro i
    rcases Nat.lt_or_ge i 7 with hi | hi
    · rw [c6 i hi]
      match i, hi with
      | 0, _ => rfl
      | 1, _ => rfl
      | 2, _ => rfl
      | 3, _ => rfl
      | 4, _ => rfl
      | 5, _ => rfl
      | 6, _ => rfl
      | n + 7, h => exact absurd h (by omega)
    · rw [Array.getElem?_eq_none (by omega), Array.getElem?_eq_none (by rw [arrV_size]; exact hi)]
theorem lw_cls (hg : ∀ w ∈ jGW, w.before #[.ref b] s = true) : ∃ D : va_G, ∀ (k : Nat) (q : vw_C), vwCl[k]? = some q → u_Kn s q.1 q.2.1 q.2.2 (D.1 k) (D.2 k) := by
  obtain ⟨c0, i0, k0⟩ := u_known (C := RX0) (T := TX0) (N := 7) (n := 7) hg jin_X0 (hg (.instantiable RX0 7) (jq 85 (by decide +kernel) rfl))
  obtain ⟨c1, i1, k1⟩ := u_known (C := RX2) (T := TX2) (N := 3) (n := 3) hg jin_X2 (hg (.instantiable RX2 3) (jq 166 (by decide +kernel) rfl))
  obtain ⟨c2, i2, k2⟩ := u_known (C := RX3) (T := TX3) (N := 7) (n := 7) hg jin_X3 (hg (.instantiable RX3 7) (jq 135 (by decide +kernel) rfl))
  obtain ⟨c3, i3, k3⟩ := u_known (C := RX4) (T := TX4) (N := 9) (n := 9) hg jin_X4 (hg (.instantiable RX4 9) (jq 77 (by decide +kernel) rfl))
  obtain ⟨c4, i4, k4⟩ := u_known (C := RX5) (T := TX5) (N := 15) (n := 15) hg jin_X5 (hg (.instantiable RX5 15) (jq 724 (by decide +kernel) rfl))
  refine ⟨(fun k => match k with | 0 => c0 | 1 => c1 | 2 => c2 | 3 => c3 | _ => c4, fun k => match k with | 0 => i0 | 1 => i1 | 2 => i2 | 3 => i3 | _ => i4), fun k q hq => ?_⟩
  match k, hq with
  | 0, hq => cases hq; exact k0
  | 1, hq => cases hq; exact k1
  | 2, hq => cases hq; exact k2
  | 3, hq => cases hq; exact k3
  | 4, hq => cases hq; exact k4
  | k + 5, hq => exact absurd hq (by simp [vwCl])
theorem lw_arrs (hts : ∀ w ∈ lw_tbl, w.before #[.ref b] s = true) : ∃ K : JK, s.vm.findClass "[I" = some K.1 ∧ ∀ (k : Nat) (q : ClassId × FieldType), (jT K)[k]? = some q → ArrOfT s q.1 q.2 ∧ va_RA s q.1 q.2 := by
  obtain ⟨c1, k1, p1, x1, x2, x3⟩ := Cond.arrayClass_spec (hts (.arrayClass .int) (lwm 133 (by decide +kernel)))
  obtain ⟨c2, k2, p2, y1, y2, y3⟩ := Cond.arrayClass_spec (hts (.arrayClass .byte) (lwm 163 (by decide +kernel)))
  obtain ⟨p3, c3, k3, z1, z2, z3, z4, z5⟩ := Cond.arrayOver_spec (hts (.arrayOver (.object "JudgedDeposits$Sheet")) (lwm 165 (by decide +kernel)))
  refine ⟨(c1, c2, c3), x1, fun k q hq => ?_⟩
  match k, hq with
  | 0, hq => cases hq; exact ⟨fun n z => ⟨(fun k h => by cases h), k1, x2, p1, x3⟩, x1⟩
  | 1, hq => cases hq; exact ⟨fun n z => ⟨(fun k h => by cases h), k2, y2, p2, y3⟩, y1⟩
  | 2, hq => cases hq; exact ⟨fun n z => ⟨(fun k h => by cases h), k3, z3, p3, z4⟩, k3, p3, z3, z4, z1, z5⟩
  | k + 3, hq => exact absurd hq (by simp [jT])
/-- the world at the law's entry -/
theorem lw_world (hs : ∀ c ∈ lwF, c.before #[.ref b] s = true) (hts : ∀ w ∈ lw_tbl, w.before #[.ref b] s = true) : ∃ (D : va_G) (K : JK) (G : JG), va_K D vwCl (jT K) s ∧ jZ G (lgA s) s s.heap ∧ jXs K G (lgA s) s := by
  have hg : ∀ w ∈ jGW, w.before #[.ref b] s = true := fun w hw => hts w (List.mem_filter.mp hw).1
  obtain ⟨D, hD⟩ := lw_cls hg
  obtain ⟨K, hK1, hK⟩ := lw_arrs hts
  obtain ⟨G1, hG1, he⟩ := lw_stats hs hts
  obtain ⟨aK, aV, hS1, hS2⟩ := lw_strs hs hts
  obtain ⟨r, hr⟩ := lw_isRef (hs _ (lwf 45 (by decide +kernel) : Cond.isRef (.static "jdk/internal/util/Preconditions" "SIOOBE_FORMATTER" "Ljava/util/function/BiFunction;") ∈ lwF))
  refine ⟨D, K, (G1, aK, aV, r), ⟨hD, hK⟩, ⟨hG1, ?_, hS1, hS2, lw_nest hts, ?_⟩, ?_, ?_, ?_⟩
  · exact va_Zof (hts _ (lwm 570 (by decide +kernel))) (hts _ (lwm 72 (by decide +kernel))) (va_eqi (hs _ (lwf 44 (by decide +kernel)))) lw_hA
  · exact va_Zof (hts _ (lwm 586 (by decide +kernel))) (hts _ (lwm 74 (by decide +kernel))) hr lw_hA
  · exact lw_exact (len := .arg 0) hK1 he (hs _ (lwf 393 (by decide +kernel))) (hs _ (lwf 6 (by decide +kernel))) (hG1 0 _ rfl).2
  · exact va_Nw.of (A := #[.ref b]) rfl (hts _ (lwm 97 (by decide +kernel)))
  · exact va_AO.of (A := #[.ref b]) (hts _ (lwm 165 (by decide +kernel)))
end LS
