-- sheets
theorem fill_L {N : Nat} (hN : N < 1000) (v : Int32) : ∀ (n k : Nat) (Fa : FA), k ≤ N → N < k + n → (∀ i, i < k → Fa i = v) → kJ7_fill_53178_c5 N v n Fa (nI k) (nI N) ∧ ∀ i, i < N → vJ7_fill_53178_c5 N v n Fa (nI k) (nI N) i = v
  | 0, k, Fa, h1, h2, h3 => by omega
  | n + 1, k, Fa, h1, h2, h3 => by
    unfold kJ7_fill_53178_c5 vJ7_fill_53178_c5 kJ7_fill_53178_c14 vJ7_fill_53178_c14
    by_cases c : N ≤ k
    · have e : k = N := by omega
      subst e
      have c1 : nI k ≤ nI k := Int32.le_refl _
      rw [if_pos c1]
      exact ⟨⟨fun _ => trivial, fun q => absurd c1 q⟩, h3⟩
    · have c1 : ¬ nI N ≤ nI k := by rw [n_le (by omega) (by omega)]; exact c
      have ei : nI k + (1 : Int32) = nI (k + 1) := by rw [nz, nI_add]
      rw [if_neg c1, ei, n_cl (by omega)]
      have ih := fill_L hN v n (k + 1) (upd Fa k v) (by omega) (by omega) (fun i hi => by
        by_cases e : i = k
        · rw [e, upd_s]
        · rw [upd_n e]; exact h3 i (by omega))
      exact ⟨⟨fun q => absurd q c1, fun _ => ⟨n_in (by omega) (by omega), ih.1⟩⟩, ih.2⟩
theorem fill40 (Fa : FA) (v : Int32) : kJ7_fill_53178 40 Fa v ∧ ∀ i, i < 40 → vJ7_fill_53178 40 Fa v i = v := fill_L (by omega) v 1024 0 Fa (by omega) (by omega) (fun i hi => absurd hi (Nat.not_lt_zero i))
theorem sheet_L {s : Nat} (hs : s < 4) (b z : Int32) : ∀ (n k : Nat) (M : MS), k ≤ 40 → 40 < k + n → (∀ i, i < k → m_cells M (40 * s + i) = 0) → kX5_sheet_c85 (nI s) b z n M (nI k) ∧ ∃ g, vX5_sheet_c85 (nI s) b z n M (nI k) = (m_sizeOf M s, m_s_cells M g) ∧ (∀ i, i < 40 → g (40 * s + i) = 0) ∧ ∀ j, (j < 40 * s ∨ 40 * s + 40 ≤ j) → g j = m_cells M j
  | 0, k, M, h1, h2, h3 => by omega
  | n + 1, k, M, h1, h2, h3 => by
    unfold kX5_sheet_c85 vX5_sheet_c85 kX5_sheet_c105 vX5_sheet_c105
    have hin : vp_in (nI s) 4 := n_in (by omega) (by omega)
    by_cases c : 40 ≤ k
    · have e : k = 40 := by omega
      subst e
      have c1 : (40 : Int32) ≤ nI 40 := by decide
      rw [if_pos c1, n_cl (by omega)]
      exact ⟨⟨fun _ => ⟨hin, trivial⟩, fun q => absurd c1 q⟩, m_cells M, rfl, h3, fun _ _ => rfl⟩
    · have c1 : ¬ (40 : Int32) ≤ nI k := by rw [nz, n_le (by omega) (by omega)]; exact c
      have ei : nI k + (1 : Int32) = nI (k + 1) := by rw [nz, nI_add]
      have ex : (40 : Int32) * nI s + nI k = nI (40 * s + k) := by rw [nz, pk_mul, nI_add]
      rw [if_neg c1, ei, ex, n_cl (by omega)]
      obtain ⟨i1, g, i2, i3, i4⟩ := sheet_L hs b z n (k + 1) (m_s_cells M (upd (m_cells M) (40 * s + k) (0 : Int32))) (by omega) (by omega) (fun i hi => by
        show upd (m_cells M) (40 * s + k) (0 : Int32) (40 * s + i) = 0
        by_cases e : i = k
        · rw [e, upd_s]
        · rw [upd_n (by omega)]; exact h3 i (by omega))
      refine ⟨⟨fun q => absurd q c1, fun _ => ⟨n_in (by omega) (by omega), i1⟩⟩, g, i2, i3, fun j hj => ?_⟩
      rw [i4 j hj]
      show upd (m_cells M) (40 * s + k) (0 : Int32) j = _
      rw [upd_n (by omega)]
theorem RelS_set {sh : Nat → SS} {bits size cells cells' : FA} (h : RelS sh bits size cells) {s : Nat} (S' : SS) {b : Int32} {z : Nat} (h1 : s_bits S' = b) (h2 : s_size S' = nI z) (h3 : b = 0 ∨ b = 8 ∨ b = 16 ∨ b = 32) (h4 : z ≤ 40) (h5 : b = 0 → z = 0) (h6 : ∀ i, i < 40 → s_numbers S' i = cells' (40 * s + i)) (h7 : ∀ j, (j < 40 * s ∨ 40 * s + 40 ≤ j) → cells' j = cells j) : RelS (fun i => if i = s then S' else sh i) (upd bits s b) (upd size s (nI z)) cells' := by
  intro j hj
  by_cases e : j = s
  · subst e
    simp only [if_true, upd_s]
    exact ⟨h1, h2, h3, ⟨z, h4, rfl, h5⟩, h6⟩
  · obtain ⟨q1, q2, q3, q4, q5⟩ := h j hj
    simp only [if_neg e, upd_n e]
    exact ⟨q1, q2, q3, q4, fun i hi => (q5 i hi).trans (h7 _ (by omega)).symm⟩
theorem RelS_num {sh : Nat → SS} {bits size cells cells' : FA} (h : RelS sh bits size cells) {s : Nat} (g : FA) (h6 : ∀ i, i < 40 → g i = cells' (40 * s + i)) (h7 : ∀ j, (j < 40 * s ∨ 40 * s + 40 ≤ j) → cells' j = cells j) : RelS (fun i => if i = s then s_s_numbers (sh s) g else sh i) bits size cells' := by
  intro j hj
  obtain ⟨q1, q2, q3, q4, q5⟩ := h j hj
  by_cases e : j = s
  · subst e
    simp only [if_true]
    exact ⟨q1, q2, q3, q4, h6⟩
  · simp only [if_neg e]
    exact ⟨q1, q2, q3, q4, fun i hi => (q5 i hi).trans (h7 _ (by omega)).symm⟩
section PI
variable {J : JS} {M : MS}
theorem sh86 (h : Rel J M) {s n : Nat} {b z : Int32} (hs : s < 4) (hn : n ≤ 40) (hb : b = 0 ∨ b = 8 ∨ b = 16 ∨ b = 32) (h0 : b = 0 → n = 0) : OK (kX4_sheet_c86 (nI s) b z J (nI n) b) (kX5_sheet_c81 (nI s) b z (m_s_bitsOf M (upd (m_bitsOf M) (nI s).toNatClampNeg b)) (nI n) (nI s)) (vX4_sheet_c86 (nI s) b z J (nI n) b) (vX5_sheet_c81 (nI s) b z (m_s_bitsOf M (upd (m_bitsOf M) (nI s).toNatClampNeg b)) (nI n) (nI s)) := by
  have hin : vp_in (nI s) 4 := n_in (by omega) (by omega)
  unfold kX4_sheet_c86 kX5_sheet_c81 vX4_sheet_c86 vX5_sheet_c81 kX4_sheet_c89 vX4_sheet_c89 kX5_sheet_c82 vX5_sheet_c82 kX2_begin vX2_begin kX2_begin_c5 vX2_begin_c5 kX2_begin_c10 vX2_begin_c10
  rw [n_cl (by omega : s < 2147483648)]
  obtain ⟨i1, g, i2, i3, i4⟩ := sheet_L hs b z 1024 0 (m_s_sizeOf (m_s_bitsOf M (upd (m_bitsOf M) s b)) (upd (m_sizeOf (m_s_bitsOf M (upd (m_bitsOf M) s b))) s (nI n))) (by omega) (by omega) (fun i hi => absurd hi (Nat.not_lt_zero i))
  have i1' : kX5_sheet_c85 (nI s) b z 1024 (m_s_sizeOf (m_s_bitsOf M (upd (m_bitsOf M) s b)) (upd (m_sizeOf (m_s_bitsOf M (upd (m_bitsOf M) s b))) s (nI n))) (0 : Int32) := i1
  have i2' : vX5_sheet_c85 (nI s) b z 1024 (m_s_sizeOf (m_s_bitsOf M (upd (m_bitsOf M) s b)) (upd (m_sizeOf (m_s_bitsOf M (upd (m_bitsOf M) s b))) s (nI n))) (0 : Int32) = _ := i2
  rw [i2']
  obtain ⟨f1, f2⟩ := fill40 (s_numbers (s_s_size (s_s_bits (j_s J s) b) (nI n))) 0
  generalize vJ7_fill_53178 40 (s_numbers (s_s_size (s_s_bits (j_s J s) b) (nI n))) 0 = F at f2 ⊢
  refine ⟨⟨hs, ⟨f1, trivial⟩, hin, trivial⟩, ⟨hin, i1'⟩, ?_, h.1, h.2.1, h.2.2.1, h.2.2.2.1, ?_⟩
  · show s_size (if s = s then _ else _) = upd (m_sizeOf M) s (nI n) s
    rw [if_pos rfl, upd_s]; rfl
  · refine RelS_set (s := s) (b := b) (z := n) h.2.2.2.2 _ rfl rfl hb hn h0 (fun i hi => ?_) i4
    exact (f2 i hi).trans (i3 i hi).symm
theorem sh27 (h : Rel J M) (p q v y : Int32) (hq : (y = 1 ∧ (q = 0 ∨ q = 8 ∨ q = 16 ∨ q = 32)) ∨ (y = 0 ∧ ¬ q = 0 ∧ ¬ q = 8 ∧ ¬ q = 16 ∧ ¬ q = 32)) : OK (kX4_sheet_c27 p q v J y) (kX5_sheet M p q v) (vX4_sheet_c27 p q v J y) (vX5_sheet M p q v) := by
  unfold kX4_sheet_c27 kX5_sheet vX4_sheet_c27 vX5_sheet
  refine OK.kj ⟨vin01 _ _ _, trivial⟩ (OK.km ⟨vin01 _ _ _, trivial⟩ (OK_ite Iff.rfl (fun _ => (tell0 h).t) (fun cs => ?_)))
  obtain ⟨s, hs, rfl⟩ := vin_nat (b := 3) (by omega) cs
  rcases hq with ⟨rfl, hb⟩ | ⟨rfl, b0, b8, b16, b32⟩
  · have core : OK (((0 ≤ v) → (((v ≤ (40 : Int32)) → ((vp_in (nI s) 4) ∧ ((q = 0) → ((kX4_sheet_c86 (nI s) q v J (0 : Int32) q))) ∧ (¬ (q = 0) → ((kX4_sheet_c86 (nI s) q v J v q))))) ∧ (¬ (v ≤ (40 : Int32)) → ((kX4_tell J (0 : Int32)) ∧ True)))) ∧ (¬ (0 ≤ v) → ((kX4_tell J (6 : Int32)) ∧ True))) (kX5_sheet_c36 (nI s) q v M) (if (0 ≤ v) then (if (v ≤ (40 : Int32)) then (if (q = 0) then (vX4_sheet_c86 (nI s) q v J (0 : Int32) q) else (vX4_sheet_c86 (nI s) q v J v q)) else (((vX4_tell J (0 : Int32)).1), ((vX4_tell J (0 : Int32)).2))) else (((vX4_tell J (6 : Int32)).1), ((vX4_tell J (6 : Int32)).2))) (vX5_sheet_c36 (nI s) q v M) := by
      unfold kX5_sheet_c36 vX5_sheet_c36 kX5_sheet_c67 vX5_sheet_c67
      have hin : vp_in (nI s) 4 := n_in (by omega) (by omega)
      refine OK_ite Iff.rfl (fun c => OK_ite Iff.rfl (fun c2 => OK.kj hin (OK.km hin (OK_ite Iff.rfl (fun e => ?_) (fun e => ?_)))) (fun _ => (tell0 h).t)) (fun _ => (tell6 h).t)
      · exact sh86 (n := 0) h (by omega) (by omega) hb (fun _ => rfl)
      · obtain ⟨n, hn, rfl⟩ := nI_of (Int32.not_lt.mpr c)
        rw [nz, n_le hn (by omega)] at c2
        exact sh86 h (by omega) c2 hb (fun g => absurd g e)
    have n10 : ¬ (1 : Int32) = 0 := by decide
    refine OK_J (fun g => absurd g n10) (fun _ => ?_)
    refine OK_M (fun _ => core) (fun d0 => OK_M (fun _ => core) (fun d8 => OK_M (fun _ => core) (fun d16 => OK_M (fun _ => core) (fun d32 => ?_))))
    exfalso
    rcases hb with g | g | g | g
    · exact d0 g
    · exact d8 g
    · exact d16 g
    · exact d32 g
  · refine OK_J (fun _ => ?_) (fun g => absurd rfl g)
    refine OK_M (fun g => absurd g b0) (fun _ => OK_M (fun g => absurd g b8) (fun _ => OK_M (fun g => absurd g b16) (fun _ => OK_M (fun g => absurd g b32) (fun _ => (tell0 h).t))))
theorem P_sheet (h : Rel J M) (p q v : Int32) : OK (kX4_sheet J p q v) (kX5_sheet M p q v) (vX4_sheet J p q v) (vX5_sheet M p q v) := by
  unfold kX4_sheet vX4_sheet
  refine OK_J (fun e => sh27 h p q v 1 (Or.inl ⟨rfl, Or.inl e⟩)) (fun e0 => OK_J (fun e => sh27 h p q v 1 (Or.inl ⟨rfl, Or.inr (Or.inl e)⟩)) (fun e8 => OK_J (fun e => sh27 h p q v 1 (Or.inl ⟨rfl, Or.inr (Or.inr (Or.inl e))⟩)) (fun e16 => OK_J (fun e => sh27 h p q v 1 (Or.inl ⟨rfl, Or.inr (Or.inr (Or.inr e))⟩)) (fun e32 => sh27 h p q v 0 (Or.inr ⟨rfl, e0, e8, e16, e32⟩)))))
/-- whether a sheet can be read, on both sides -/
theorem lack (h : Rel J M) (p : Int32) : (kX4_lackOf J p ∧ kX5_notThere M p) ∧ ((vX4_lackOf J p = 0 ∧ vX5_notThere M p = -1000001) ∨ (vX4_lackOf J p = 5 ∧ vX5_notThere M p = -1000006) ∨ (vX4_lackOf J p = -1 ∧ vX5_notThere M p = 0 ∧ ∃ s, s < 4 ∧ p = nI s ∧ ¬ m_bitsOf M s = 0)) := by
  unfold kX4_lackOf kX5_notThere vX4_lackOf vX5_notThere
  by_cases c : vX5_in p 0 3 = 0
  · have c4 : vX4_isSheet p = 0 := c
    have c5 : vX5_isSheet p = 0 := c
    rw [if_pos c4, if_pos c5]
    exact ⟨⟨⟨⟨vin01 _ _ _, trivial⟩, fun _ => trivial, fun q => absurd c4 q⟩, ⟨⟨vin01 _ _ _, trivial⟩, fun _ => trivial, fun q => absurd c5 q⟩⟩, Or.inl ⟨rfl, rfl⟩⟩
  · have c4 : ¬ vX4_isSheet p = 0 := c
    have c5 : ¬ vX5_isSheet p = 0 := c
    obtain ⟨s, hs, rfl⟩ := vin_nat (b := 3) (by omega) c
    have hin : vp_in (nI s) 4 := n_in (by omega) (by omega)
    rw [if_neg c4, if_neg c5, n_cl (by omega)]
    have e := (h.2.2.2.2 s (by omega)).1
    have e' : s_bits (j_s J s) = m_bitsOf M s := e
    rw [e']
    refine ⟨⟨⟨⟨vin01 _ _ _, trivial⟩, fun _ => trivial, fun _ => ⟨hin, trivial⟩⟩, ⟨⟨vin01 _ _ _, trivial⟩, fun _ => trivial, fun _ => ⟨hin, trivial⟩⟩⟩, ?_⟩
    by_cases c2 : m_bitsOf M s = 0
    · rw [if_pos c2, if_pos c2]; exact Or.inr (Or.inl ⟨rfl, rfl⟩)
    · rw [if_neg c2, if_neg c2]; exact Or.inr (Or.inr ⟨rfl, rfl, s, by omega, rfl, c2⟩)
theorem OK_lack (h : Rel J M) {p : Int32} {k l : Prop} {a : Int32 × JS} {b : Int32 × MS} (body : ∀ s, s < 4 → p = nI s → ¬ m_bitsOf M s = 0 → OK k l a b) : OK (kX4_lackOf J p ∧ (vX4_lackOf J p < 0 → k) ∧ (¬ vX4_lackOf J p < 0 → kX4_tell J (vX4_lackOf J p) ∧ True)) (kX5_notThere M p ∧ (vX5_notThere M p = 0 → l) ∧ (¬ vX5_notThere M p = 0 → kX5_finds M (vX5_notThere M p) ∧ True)) (if vX4_lackOf J p < 0 then a else ((vX4_tell J (vX4_lackOf J p)).1, (vX4_tell J (vX4_lackOf J p)).2)) (if vX5_notThere M p = 0 then b else ((vX5_finds M (vX5_notThere M p)).1, (vX5_finds M (vX5_notThere M p)).2)) := by
  obtain ⟨⟨k1, k2⟩, hc⟩ := lack h p
  refine OK.kj k1 (OK.km k2 ?_)
  rcases hc with ⟨e1, e2⟩ | ⟨e1, e2⟩ | ⟨e1, e2, s, hs, hp, hb⟩
  · rw [e1, e2]
    exact OK_J (fun g => absurd g (by decide)) (fun _ => OK_M (fun g => absurd g (by decide)) (fun _ => (tell0 h).t))
  · rw [e1, e2]
    exact OK_J (fun g => absurd g (by decide)) (fun _ => OK_M (fun g => absurd g (by decide)) (fun _ => (tell5 h).t))
  · rw [e1, e2]
    exact OK_J (fun _ => OK_M (fun _ => body s hs hp hb) (fun g => absurd rfl g)) (fun g => absurd (by decide) g)
theorem toInt_c (y : Int32) : y.toInt = if 2 * y.toBitVec.toNat < 4294967296 then (y.toBitVec.toNat : Int) else (y.toBitVec.toNat : Int) - 4294967296 := BitVec.toInt_eq_toNat_cond y.toBitVec
theorem shl8 (v : Int32) : (v <<< (((32 : Int32) - 8) &&& 31)) >>> (((32 : Int32) - 8) &&& 31) = v.toInt8.toInt32 := by
  apply Int32.toInt_inj.mp
  rw [pk_shr _ _ 24 (by decide), Int8.toInt_toInt32, Int32.toInt_toInt8]
  have e1 := pk_shl v (((32 : Int32) - 8) &&& 31) 24 (by decide)
  rw [toInt_c, toInt_c v, e1, Int.shiftRight_eq_div_pow, Int.bmod_def]
  have hl := v.toBitVec.isLt
  generalize v.toBitVec.toNat = n at *
  simp only [Nat.reducePow, Nat.reduceMul] at *
  split <;> split <;> split <;> omega
theorem shl16 (v : Int32) : (v <<< (((32 : Int32) - 16) &&& 31)) >>> (((32 : Int32) - 16) &&& 31) = v.toInt16.toInt32 := by
  apply Int32.toInt_inj.mp
  rw [pk_shr _ _ 16 (by decide), Int16.toInt_toInt32, Int32.toInt_toInt16]
  have e1 := pk_shl v (((32 : Int32) - 16) &&& 31) 16 (by decide)
  rw [toInt_c, toInt_c v, e1, Int.shiftRight_eq_div_pow, Int.bmod_def]
  have hl := v.toBitVec.isLt
  generalize v.toBitVec.toNat = n at *
  simp only [Nat.reducePow, Nat.reduceMul] at *
  split <;> split <;> split <;> omega
theorem shl32 (v : Int32) : (v <<< (((32 : Int32) - 32) &&& 31)) >>> (((32 : Int32) - 32) &&& 31) = v := by
  have e : ((32 : Int32) - 32) &&& 31 = 0 := by decide
  rw [e, Int32.shiftLeft_zero, Int32.shiftRight_zero]
theorem P_write (h : Rel J M) (p q v : Int32) : OK (kX4_write J p q v) (kX5_write M p q v) (vX4_write J p q v) (vX5_write M p q v) := by
  unfold kX4_write kX5_write vX4_write vX5_write kX5_write_c33 vX5_write_c33
  obtain ⟨⟨k1, k2⟩, hc⟩ := lack h p
  refine OK.kj k1 (OK.km k2 ?_)
  rcases hc with ⟨e1, e2⟩ | ⟨e1, e2⟩ | ⟨e1, e2, s, hs, rfl, hb⟩
  · rw [e1, e2]
    refine OK_J (fun g => absurd g (by decide)) (fun _ => OK_M (fun g => absurd g (by decide)) (fun _ => ?_))
    unfold kX5_write_c35 vX5_write_c35
    exact OK_M (fun g => absurd g (by decide)) (fun _ => (tell0 h).t)
  · rw [e1, e2]
    refine OK_J (fun g => absurd g (by decide)) (fun _ => OK_M (fun g => absurd g (by decide)) (fun _ => ?_))
    unfold kX5_write_c35 vX5_write_c35
    exact OK_M (fun g => absurd g (by decide)) (fun _ => (tell5 h).t)
  · rw [e1, e2]
    have hin : vp_in (nI s) 4 := n_in (by omega) (by omega)
    refine OK_J (fun _ => OK_M (fun _ => ?_) (fun g => absurd rfl g)) (fun g => absurd (by decide) g)
    obtain ⟨q1, q2, q3, ⟨z, hz, q4, q5⟩, q6⟩ := h.2.2.2.2 s hs
    have q2' : s_size (j_s J s) = nI z := q2.trans q4
    rw [n_cl (by omega), q2', q4]
    refine OK.kj hin (OK.km hin (OK_ite Iff.rfl (fun _ => ?_) (fun c => ?_)))
    · unfold kX5_write_c35 vX5_write_c35
      exact OK_M (fun g => absurd g (by decide)) (fun _ => (tell0 h).t)
    · obtain ⟨i, hi, rfl⟩ := vin_lt (by omega) c
      have hin2 : vp_in (nI i) 40 := n_in (by omega) (by omega)
      have ex : (40 : Int32) * nI s + nI i = nI (40 * s + i) := by rw [nz, pk_mul, nI_add]
      have hin3 : vp_in (nI (40 * s + i)) 160 := n_in (by omega) (by omega)
      have key : ∀ y : Int32, Rel (j_s_s J s (s_s_numbers (j_s J s) (upd (s_numbers (j_s J s)) i y))) (m_s_cells M (upd (m_cells M) (40 * s + i) y)) := fun y => by
        refine ⟨h.1, h.2.1, h.2.2.1, h.2.2.2.1, RelS_num (s := s) h.2.2.2.2 _ (fun j hj => ?_) (fun j hj => ?_)⟩
        · show upd (s_numbers (j_s J s)) i y j = upd (m_cells M) (40 * s + i) y (40 * s + j)
          by_cases e : j = i
          · rw [e, upd_s, upd_s]
          · rw [upd_n e, upd_n (by omega)]; exact q6 j hj
        · show upd (m_cells M) (40 * s + i) y j = _
          rw [upd_n (by omega)]
      unfold kX5_write_c35 vX5_write_c35 kX2_put vX2_put
      have q1' : s_bits (j_s J s) = m_bitsOf M s := q1
      refine OK.kj hin (OK.kj ⟨hin2, trivial⟩ (OK_M (fun _ => OK.km hin ?_) (fun g => absurd rfl g)))
      rw [n_cl (by omega), n_cl (by omega), ex, n_cl (by omega), q1']
      rcases q3 with g | g | g | g
      · exact absurd g hb
      · have g8 : m_bitsOf M s = 8 := g
        rw [g8, shl8]
        exact OK_M (fun _ => ⟨trivial, ⟨hin3, trivial⟩, rfl, key _⟩) (fun q => absurd rfl q)
      · have g8 : m_bitsOf M s = 16 := g
        rw [g8, shl16]
        exact OK_M (fun q => absurd q (by decide)) (fun _ => OK.km hin (OK_M (fun _ => ⟨trivial, ⟨hin3, trivial⟩, rfl, key _⟩) (fun q => absurd rfl q)))
      · have g8 : m_bitsOf M s = 32 := g
        rw [g8, shl32]
        exact OK_M (fun q => absurd q (by decide)) (fun _ => OK.km hin (OK_M (fun q => absurd q (by decide)) (fun _ => ⟨trivial, ⟨hin3, trivial⟩, rfl, key _⟩)))
theorem jTM6 : jTM.getD ((6 : Int32)).toNatClampNeg 0 = (999 : Int32) := by decide
theorem load_L {s z th : Nat} (hs : s < 4) (hz : z ≤ 40) (hth : th ≤ 8) : ∀ (n i : Nat) (J : JS) (M : MS), Rel J M → m_sizeOf M s = nI z → m_m M 2 = nI th → i ≤ min z th → min z th < i + n → OK (kX4_load_c42 (nI s) n J (nI (min z th)) (nI i)) (kX5_load_c18 (nI s) n M (nI i)) (vX4_load_c42 (nI s) n J (nI (min z th)) (nI i)) (vX5_load_c18 (nI s) n M (nI i))
  | 0, i, J, M, h, e1, e2, h1, h2 => by omega
  | n + 1, i, J, M, h, e1, e2, h1, h2 => by
    obtain ⟨x, rE, rM, w⟩ := id h.1
    have et : a_things x = th := by
      have := rM.1.symm.trans e2
      rw [n_eq (by have := w.1; omega) (by omega)] at this
      exact this
    have hin : vp_in (nI s) 4 := n_in (by omega) (by omega)
    obtain ⟨q1, q2, q3, q4, q6⟩ := h.2.2.2.2 s hs
    unfold kX4_load_c42 kX5_load_c18 vX4_load_c42 vX5_load_c18
    rw [n_cl (by omega : s < 2147483648), e1, c2t, e2, jTM6]
    refine OK.km hin ?_
    by_cases c : min z th ≤ i
    · have e : i = min z th := by omega
      have c1 : nI (min z th) ≤ nI i := by rw [n_le (by omega) (by omega)]; exact c
      refine OK_J (fun _ => ?_) (fun g => absurd c1 g)
      by_cases cz : z ≤ i
      · have c2 : nI z ≤ nI i := by rw [n_le (by omega) (by omega)]; exact cz
        refine OK_M (fun _ => ⟨trivial, trivial, by rw [← e], h⟩) (fun g => absurd c2 g)
      · have c2 : ¬ nI z ≤ nI i := by rw [n_le (by omega) (by omega)]; exact cz
        have c3 : nI th ≤ nI i := by rw [n_le (by omega) (by omega)]; omega
        refine OK_M (fun g => absurd g c2) (fun _ => OK_M (fun _ => ⟨trivial, trivial, by rw [← e], h⟩) (fun g => absurd c3 g))
    · have c1 : ¬ nI (min z th) ≤ nI i := by rw [n_le (by omega) (by omega)]; exact c
      have c2 : ¬ nI z ≤ nI i := by rw [n_le (by omega) (by omega)]; omega
      have c3 : ¬ nI th ≤ nI i := by rw [n_le (by omega) (by omega)]; omega
      have ex : (40 : Int32) * nI s + nI i = nI (40 * s + i) := by rw [nz, pk_mul, nI_add]
      have hin2 : vp_in (nI i) 40 := n_in (by omega) (by omega)
      have hin3 : vp_in (nI (40 * s + i)) 160 := n_in (by omega) (by omega)
      have ei : nI i + (1 : Int32) = nI (i + 1) := by rw [nz, nI_add]
      have eq : s_numbers (j_s J s) i = m_cells M (40 * s + i) := q6 i (by omega)
      refine OK_J (fun g => absurd g c1) (fun _ => OK_M (fun g => absurd g c2) (fun _ => OK_M (fun g => absurd g c3) (fun _ => ?_)))
      unfold kX4_load_c90 kX5_load_c77 vX4_load_c90 vX5_load_c77
      rw [ex, n_cl (by omega : i < 2147483648), n_cl (by omega : 40 * s + i < 2147483648), eq, ei]
      refine OK.kj hs (OK.kj hin2 (OK.km hin3 (OK_ite Iff.rfl (fun _ => ⟨trivial, trivial, rfl, h⟩) (fun c4 => ?_))))
      obtain ⟨y, hy, ey⟩ := vin_nat (b := 999) (by omega) c4
      rw [ey]
      have ht : i < a_things x := by omega
      have a1 := E_put (v := y) rE w ht (by decide : 6 < 7)
      obtain ⟨f, m1, m2⟩ := M_put (M := M) (v := y) rM w ht (by decide : 6 < 7)
      have m1' : vX5_put M (nI i) (6 : Int32) (nI y) = m_s_m M f := m1
      have ak : kX0_put (j_E J) (nI i) (6 : Int32) (nI y) := E_putk w ht (by decide : 6 < 7)
      have mk : kX5_put M (nI i) (6 : Int32) (nI y) := M_putk w ht (by decide : 6 < 7)
      have a1' : RpE (sPut x i 6 y) (vX0_put (j_E J) (nI i) (6 : Int32) (nI y)) := a1
      rw [m1']
      generalize vX0_put (j_E J) (nI i) (6 : Int32) (nI y) = B at a1' ⊢
      have e2' : m_m (m_s_m M f) 2 = nI th := by
        show f 2 = _
        rw [m2.1]
        show nI (a_things x) = nI th
        rw [et]
      have ih := load_L hs hz hth n (i + 1) (j_s_E J B) (m_s_m M f) ⟨⟨_, a1', m2, w.put (by show y ≤ 999; exact hy)⟩, h.2⟩ e1 e2' (by omega) (by omega)
      exact ⟨⟨hin2, ak, ih.1⟩, ⟨hin3, mk, ih.2.1⟩, ih.2.2⟩
theorem P_load (h : Rel J M) (p : Int32) : OK (kX4_load J p) (kX5_load M p) (vX4_load J p) (vX5_load M p) := by
  unfold kX4_load kX5_load vX4_load vX5_load
  refine OK_lack h (fun s hs e hb => ?_)
  subst e
  have hin : vp_in (nI s) 4 := n_in (by omega) (by omega)
  obtain ⟨x, rE, rM, w⟩ := id h.1
  have h8 := w.1
  obtain ⟨q1, q2, q3, ⟨z, hz, q4, q5⟩, q6⟩ := h.2.2.2.2 s hs
  have q2' : s_size (j_s J s) = nI z := q2.trans q4
  rw [n_cl (by omega), q2', rE.1, n_min (by omega) (by omega)]
  exact OK.kj hin (load_L hs hz h8 1024 0 J M h q4 rM.1 (by omega) (by omega))
theorem judge_L (h : Rel J M) {s z : Nat} (hs : s < 4) (hz : z ≤ 40) (e1 : m_sizeOf M s = nI z) {x : AS} (rE : RpE x (j_E J)) (rM : RpM x (m_m M)) (w : WF x) : ∀ (n i : Nat), i ≤ z → z < i + n → OK (kX4_judge_c18 (nI s) n J (nI i)) (kX5_judge_c18 (nI s) n M (nI i)) (vX4_judge_c18 (nI s) n J (nI i)) (vX5_judge_c18 (nI s) n M (nI i))
  | 0, i, h1, h2 => by omega
  | n + 1, i, h1, h2 => by
    have hin : vp_in (nI s) 4 := n_in (by omega) (by omega)
    obtain ⟨q1, q2, q3, q4, q6⟩ := h.2.2.2.2 s hs
    have q2' : s_size (j_s J s) = nI z := q2.trans e1
    unfold kX4_judge_c18 kX5_judge_c18 vX4_judge_c18 vX5_judge_c18 vX4_judge_c61 vX5_judge_c55
    rw [n_cl (by omega : s < 2147483648), e1, q2']
    refine OK.kj hin (OK.km hin (OK_ite Iff.rfl (fun _ => ⟨trivial, trivial, rfl, h⟩) (fun c => ?_)))
    rw [n_le (by omega) (by omega)] at c
    refine OK.kj (kT4 _ _) (OK.km (kT5 _ _) (OK_ite (by rw [isT h]) (fun _ => ⟨trivial, trivial, rfl, h⟩) (fun c2 => ?_)))
    rw [isT h] at c2
    have ht : i < a_things x := by
      obtain ⟨t, ht, e⟩ := isTn rM w c2
      rw [n_eq (by omega) (by have := w.1; omega)] at e
      omega
    have ex : (40 : Int32) * nI s + nI i = nI (40 * s + i) := by rw [nz, pk_mul, nI_add]
    have hin2 : vp_in (nI i) 40 := n_in (by omega) (by omega)
    have hin3 : vp_in (nI (40 * s + i)) 160 := n_in (by omega) (by omega)
    have ei : nI i + (1 : Int32) = nI (i + 1) := by rw [nz, nI_add]
    have eq : s_numbers (j_s J s) i = m_cells M (40 * s + i) := q6 i (by omega)
    have ih := judge_L h hs hz e1 rE rM w n (i + 1) (by omega) (by omega)
    rw [ex, n_cl (by omega : i < 2147483648), n_cl (by omega : 40 * s + i < 2147483648), eq, ei, E_award rE w ht, M_award rM w ht]
    exact OK.kj hin (OK.kj hin2 (OK.kj (E_awardk rE w ht) (OK.km hin3 (OK.km (M_awardk rM w ht) (OK_ite Iff.rfl (fun _ => ih) (fun _ => ⟨trivial, trivial, rfl, h⟩))))))
theorem P_judge (h : Rel J M) (p : Int32) : OK (kX4_judge J p) (kX5_judge M p) (vX4_judge J p) (vX5_judge M p) := by
  unfold kX4_judge kX5_judge vX4_judge vX5_judge
  refine OK_lack h (fun s hs e hb => ?_)
  subst e
  obtain ⟨x, rE, rM, w⟩ := id h.1
  obtain ⟨q1, q2, q3, ⟨z, hz, q4, q5⟩, q6⟩ := h.2.2.2.2 s hs
  exact judge_L h hs hz q4 rE rM w 1024 0 (by omega) (by omega)
end PI
