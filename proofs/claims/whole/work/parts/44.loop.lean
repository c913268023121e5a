-- THE LAW: the loop itself
section LG2
variable {p : Program} {l : Launch} {e : Env} {s : State} {m : MethodId} {below : List Frame} {meth : Method} {c : Code} {b L : Nat} {xs : Nat → Int32} {D : va_G} {K : JK} {G : JG} {ua ub : Nat → Nat} {Q : State → Prop}
theorem lg_and63 (x : Int32) : ∃ k : Nat, k < 64 ∧ x &&& 63 = nI k := by
  refine ⟨x.toBitVec.toNat % 64, Nat.mod_lt _ (by decide), ?_⟩
  apply Int32.toBitVec_inj.mp
  show x.toBitVec &&& 63#32 = BitVec.ofNat 32 (x.toBitVec.toNat % 64)
  apply BitVec.eq_of_toNat_eq
  rw [BitVec.toNat_and, BitVec.toNat_ofNat, BitVec.toNat_ofNat, show (63 % 2 ^ 32 : Nat) = 2 ^ 6 - 1 from rfl, Nat.and_two_pow_sub_one_eq_mod]
  exact (Nat.mod_eq_of_lt (Nat.lt_of_lt_of_le (Nat.mod_lt _ (by decide)) (by decide))).symm
theorem lg_six {L i : Nat} (hL : L ≤ 3072) (hi : i ≤ L) (h : ¬ (nI L - 6 < nI i)) : i + 6 ≤ L := by
  rcases Nat.lt_or_ge L 6 with q | q
  · refine absurd (Int32.lt_of_lt_of_le ?_ (nI_pos' (n := i) (by omega))) h
    match L, q with
    | 0, _ => decide
    | 1, _ => decide
    | 2, _ => decide
    | 3, _ => decide
    | 4, _ => decide
    | 5, _ => decide
    | n + 6, q => exact absurd q (by omega)
  · have e : nI L - 6 = nI (L - 6) := by
      have : nI L = nI (L - 6) + 6 := by
        rw [show (6 : Int32) = nI 6 from rfl, nI_add, Nat.sub_add_cancel q]
      rw [this, Int32.add_sub_cancel]
    rw [e] at h
    rcases Nat.lt_or_ge (L - 6) i with q2 | q2
    · exact absurd (nI_lt q2 (by omega)) h
    · omega
theorem lg_loop (hC : lgC p s m c b L xs D K G) (hend : ∀ (H : Heap) (locs : List Loc) (ls : Array Slot), va_S (lgA s) s.heap H locs → W p l e room_1 s m #[Value.ref b] below meth c H locs 600000 7302250 Q (F0 m 1405 ls [])) :
    ∀ (n i : Nat), i ≤ L → L < i + n → lgI p l e s m below meth c b K ua ub Q (D := D) i := by
  intro n
  induction n with
  | zero => exact fun i h1 h2 => absurd h2 (by omega)
  | succ n ih =>
    intro i hi hn J M h H locs hP hD hS ls hl
    have hbA := lgnb hC
    have hL := hC.2.2.2.2.2.2.2.2.2
    have hX := hC.2.2.2.2.2.2.2.1
    have hbl := hC.2.2.2.2.2.2.2.2.1
    refine lv_iload_n hC.1 hC.2.1 dL_18 rfl (lv_at hl 3 rfl) ?_
    refine lv_aload_n hC.1 hC.2.1 dL_19 rfl (lv_at hl 0 rfl) ?_
    refine va_slen hC.1 hC.2.1 hX hbl hbA hS dL_20 ?_
    refine lv_bipush (v := 6) hC.1 hC.2.1 dL_21 (by decide) ?_
    refine lv_isub hC.1 hC.2.1 dL_23 ?_
    refine lv_icmp_gt (tgt := 1405) hC.1 hC.2.1 dL_24 (by decide) (fun _ => hend H locs ls hS) (fun q => ?_)
    have hi6 := lg_six hL hi q
    have IH := ih (i + 6) hi6 (by omega)
    refine lv_aload_n hC.1 hC.2.1 dL_27 rfl (lv_at hl 0 rfl) ?_
    refine lv_iload_n hC.1 hC.2.1 dL_28 rfl (lv_at hl 3 rfl) ?_
    refine va_sld hC.1 hC.2.1 hX hbl hbA hS (n_in (by omega : i < L) (by omega)) dL_29 ?_
    refine lv_bipush (v := 63) hC.1 hC.2.1 dL_30 (by decide) ?_
    refine lv_iand hC.1 hC.2.1 dL_32 ?_
    obtain ⟨k, hk, ek⟩ := lg_and63 (xs (nI i).toNatClampNeg)
    rw [ek]
    rcases Nat.lt_or_ge k 40 with h40 | h40
    · match k, h40 with
      | 0, _ => exact lv_tableIn (off := 175) (tgt := 208) hC.1 hC.2.1 dL_33 (by decide) (by decide) (by rfl) (by decide) (lg_c0 hC hi6 IH h hP hD hS hl)
      | 1, _ => exact lv_tableIn (off := 208) (tgt := 241) hC.1 hC.2.1 dL_33 (by decide) (by decide) (by rfl) (by decide) (lg_c1 hC hi6 IH h hP hD hS hl)
      | 2, _ => exact lv_tableIn (off := 231) (tgt := 264) hC.1 hC.2.1 dL_33 (by decide) (by decide) (by rfl) (by decide) (lg_c2 hC hi6 IH h hP hD hS hl)
      | 3, _ => exact lv_tableIn (off := 274) (tgt := 307) hC.1 hC.2.1 dL_33 (by decide) (by decide) (by rfl) (by decide) (lg_c3 hC hi6 IH h hP hD hS hl)
      | 4, _ => exact lv_tableIn (off := 297) (tgt := 330) hC.1 hC.2.1 dL_33 (by decide) (by decide) (by rfl) (by decide) (lg_c4 hC hi6 IH h hP hD hS hl)
      | 5, _ => exact lv_tableIn (off := 330) (tgt := 363) hC.1 hC.2.1 dL_33 (by decide) (by decide) (by rfl) (by decide) (lg_c5 hC hi6 IH h hP hD hS hl)
      | 6, _ => exact lv_tableIn (off := 363) (tgt := 396) hC.1 hC.2.1 dL_33 (by decide) (by decide) (by rfl) (by decide) (lg_c6 hC hi6 IH h hP hD hS hl)
      | 7, _ => exact lv_tableIn (off := 406) (tgt := 439) hC.1 hC.2.1 dL_33 (by decide) (by decide) (by rfl) (by decide) (lg_c7 hC hi6 IH h hP hD hS hl)
      | 8, _ => exact lv_tableIn (off := 439) (tgt := 472) hC.1 hC.2.1 dL_33 (by decide) (by decide) (by rfl) (by decide) (lg_c8 hC hi6 IH h hP hD hS hl)
      | 9, _ => exact lv_tableIn (off := 462) (tgt := 495) hC.1 hC.2.1 dL_33 (by decide) (by decide) (by rfl) (by decide) (lg_c9 hC hi6 IH h hP hD hS hl)
      | 10, _ => exact lv_tableIn (off := 485) (tgt := 518) hC.1 hC.2.1 dL_33 (by decide) (by decide) (by rfl) (by decide) (lg_c10 hC hi6 IH h hP hD hS hl)
      | 11, _ => exact lv_tableIn (off := 528) (tgt := 561) hC.1 hC.2.1 dL_33 (by decide) (by decide) (by rfl) (by decide) (lg_c11 hC hi6 IH h hP hD hS hl)
      | 12, _ => exact lv_tableIn (off := 551) (tgt := 584) hC.1 hC.2.1 dL_33 (by decide) (by decide) (by rfl) (by decide) (lg_c12 hC hi6 IH h hP hD hS hl)
      | 13, _ => exact lv_tableIn (off := 584) (tgt := 617) hC.1 hC.2.1 dL_33 (by decide) (by decide) (by rfl) (by decide) (lg_c13 hC hi6 IH h hP hD hS hl)
      | 14, _ => exact lv_tableIn (off := 617) (tgt := 650) hC.1 hC.2.1 dL_33 (by decide) (by decide) (by rfl) (by decide) (lg_c14 hC hi6 IH h hP hD hS hl)
      | 15, _ => exact lv_tableIn (off := 630) (tgt := 663) hC.1 hC.2.1 dL_33 (by decide) (by decide) (by rfl) (by decide) (lg_c15 hC hi6 IH h hP hD hS hl)
      | 16, _ => exact lv_tableIn (off := 663) (tgt := 696) hC.1 hC.2.1 dL_33 (by decide) (by decide) (by rfl) (by decide) (lg_c16 hC hi6 IH h hP hD hS hl)
      | 17, _ => exact lv_tableIn (off := 686) (tgt := 719) hC.1 hC.2.1 dL_33 (by decide) (by decide) (by rfl) (by decide) (lg_c17 hC hi6 IH h hP hD hS hl)
      | 18, _ => exact lv_tableIn (off := 719) (tgt := 752) hC.1 hC.2.1 dL_33 (by decide) (by decide) (by rfl) (by decide) (lg_c18 hC hi6 IH h hP hD hS hl)
      | 19, _ => exact lv_tableIn (off := 762) (tgt := 795) hC.1 hC.2.1 dL_33 (by decide) (by decide) (by rfl) (by decide) (lg_c19 hC hi6 IH h hP hD hS hl)
      | 20, _ => exact lv_tableIn (off := 795) (tgt := 828) hC.1 hC.2.1 dL_33 (by decide) (by decide) (by rfl) (by decide) (lg_c20 hC hi6 IH h hP hD hS hl)
      | 21, _ => exact lv_tableIn (off := 828) (tgt := 861) hC.1 hC.2.1 dL_33 (by decide) (by decide) (by rfl) (by decide) (lg_c21 hC hi6 IH h hP hD hS hl)
      | 22, _ => exact lv_tableIn (off := 861) (tgt := 894) hC.1 hC.2.1 dL_33 (by decide) (by decide) (by rfl) (by decide) (lg_c22 hC hi6 IH h hP hD hS hl)
      | 23, _ => exact lv_tableIn (off := 884) (tgt := 917) hC.1 hC.2.1 dL_33 (by decide) (by decide) (by rfl) (by decide) (lg_c23 hC hi6 IH h hP hD hS hl)
      | 24, _ => exact lv_tableIn (off := 938) (tgt := 971) hC.1 hC.2.1 dL_33 (by decide) (by decide) (by rfl) (by decide) (lg_c24 hC hi6 IH h hP hD hS hl)
      | 25, _ => exact lv_tableIn (off := 961) (tgt := 994) hC.1 hC.2.1 dL_33 (by decide) (by decide) (by rfl) (by decide) (lg_c25 hC hi6 IH h hP hD hS hl)
      | 26, _ => exact lv_tableIn (off := 994) (tgt := 1027) hC.1 hC.2.1 dL_33 (by decide) (by decide) (by rfl) (by decide) (lg_c26 hC hi6 IH h hP hD hS hl)
      | 27, _ => exact lv_tableIn (off := 1007) (tgt := 1040) hC.1 hC.2.1 dL_33 (by decide) (by decide) (by rfl) (by decide) (lg_c27 hC hi6 IH h hP hD hS hl)
      | 28, _ => exact lv_tableIn (off := 1020) (tgt := 1053) hC.1 hC.2.1 dL_33 (by decide) (by decide) (by rfl) (by decide) (lg_c28 hC hi6 IH h hP hD hS hl)
      | 29, _ => exact lv_tableIn (off := 1053) (tgt := 1086) hC.1 hC.2.1 dL_33 (by decide) (by decide) (by rfl) (by decide) (lg_c29 hC hi6 IH h hP hD hS hl)
      | 30, _ => exact lv_tableIn (off := 1086) (tgt := 1119) hC.1 hC.2.1 dL_33 (by decide) (by decide) (by rfl) (by decide) (lg_c30 hC hi6 IH h hP hD hS hl)
      | 31, _ => exact lv_tableIn (off := 1129) (tgt := 1162) hC.1 hC.2.1 dL_33 (by decide) (by decide) (by rfl) (by decide) (lg_c31 hC hi6 IH h hP hD hS hl)
      | 32, _ => exact lv_tableIn (off := 1172) (tgt := 1205) hC.1 hC.2.1 dL_33 (by decide) (by decide) (by rfl) (by decide) (lg_c32 hC hi6 IH h hP hD hS hl)
      | 33, _ => exact lv_tableIn (off := 1235) (tgt := 1268) hC.1 hC.2.1 dL_33 (by decide) (by decide) (by rfl) (by decide) (lg_c33 hC hi6 IH h hP hD hS hl)
      | 34, _ => exact lv_tableIn (off := 1258) (tgt := 1291) hC.1 hC.2.1 dL_33 (by decide) (by decide) (by rfl) (by decide) (lg_c34 hC hi6 IH h hP hD hS hl)
      | 35, _ => exact lv_tableIn (off := 1281) (tgt := 1314) hC.1 hC.2.1 dL_33 (by decide) (by decide) (by rfl) (by decide) (lg_c35 hC hi6 IH h hP hD hS hl)
      | 36, _ => exact lv_tableIn (off := 1294) (tgt := 1327) hC.1 hC.2.1 dL_33 (by decide) (by decide) (by rfl) (by decide) (lg_c36 hC hi6 IH h hP hD hS hl)
      | 37, _ => exact lv_tableIn (off := 1307) (tgt := 1340) hC.1 hC.2.1 dL_33 (by decide) (by decide) (by rfl) (by decide) (lg_c37 hC hi6 IH h hP hD hS hl)
      | 38, _ => exact lv_tableIn (off := 1320) (tgt := 1353) hC.1 hC.2.1 dL_33 (by decide) (by decide) (by rfl) (by decide) (lg_c38 hC hi6 IH h hP hD hS hl)
      | 39, _ => exact lv_tableIn (off := 1343) (tgt := 1376) hC.1 hC.2.1 dL_33 (by decide) (by decide) (by rfl) (by decide) (lg_c39 hC hi6 IH h hP hD hS hl)
      | k + 40, h40 => exact absurd h40 (by omega)
    · refine lv_tableOut (tgt := 1399) hC.1 hC.2.1 dL_33 (Or.inr (by rw [nI_toInt (by omega)]; omega)) (by decide) ?_
      exact lg_next hC IH h hP hD hS hl
end LG2
