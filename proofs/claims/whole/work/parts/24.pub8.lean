-- month, feed, as
theorem OK_J {c k1 k2 l : Prop} {_ : Decidable c} {a1 a2 : Int32 × JS} {b : Int32 × MS} (h1 : c → OK k1 l a1 b) (h2 : ¬ c → OK k2 l a2 b) : OK ((c → k1) ∧ (¬ c → k2)) l (if c then a1 else a2) b := by
  by_cases h : c
  · rw [if_pos h]
    have := h1 h
    exact ⟨⟨fun _ => this.1, fun q => absurd h q⟩, this.2⟩
  · rw [if_neg h]
    have := h2 h
    exact ⟨⟨fun q => absurd q h, fun _ => this.1⟩, this.2⟩
theorem OK_M {c k l1 l2 : Prop} {_ : Decidable c} {a : Int32 × JS} {b1 b2 : Int32 × MS} (h1 : c → OK k l1 a b1) (h2 : ¬ c → OK k l2 a b2) : OK k ((c → l1) ∧ (¬ c → l2)) a (if c then b1 else b2) := by
  by_cases h : c
  · rw [if_pos h]
    have := h1 h
    exact ⟨this.1, ⟨fun _ => this.2.1, fun q => absurd h q⟩, this.2.2⟩
  · rw [if_neg h]
    have := h2 h
    exact ⟨this.1, ⟨fun q => absurd q h, fun _ => this.2.1⟩, this.2.2⟩
theorem RpM.z {x : AS} {m : FA} (r : RpM x m) (p : Int32) : RpM (a_s_z x p) (upd m 1 p) := by
  refine ⟨?_, ?_, ?_, fun i hi => ?_, fun i hi => ?_, fun t ht u hu => ?_, fun i hi => ?_⟩
  · rw [upd_n (by omega)]; exact r.1
  · rw [upd_n (by omega)]; exact r.2.1
  · rw [upd_s]; rfl
  · rw [upd_n (by omega)]; exact r.2.2.2.1 i hi
  · rw [upd_n (by omega)]; exact r.2.2.2.2.1 i hi
  · rw [upd_n (by omega)]; exact r.2.2.2.2.2.1 t ht u hu
  · rw [upd_n (by omega)]; exact r.2.2.2.2.2.2 i hi
theorem RpE.z {x : AS} {E : ES} (r : RpE x E) (p : Int32) : RpE (a_s_z x p) (e_s_z E p) := ⟨r.1, r.2.1, rfl, r.2.2.2.1, r.2.2.2.2.1, r.2.2.2.2.2.1, r.2.2.2.2.2.2⟩
theorem bv_nI (y : Int32) {k : Nat} (h : y.toBitVec.toNat = k) : y = nI k := by
  have hl := y.toBitVec.isLt
  exact Int32.toBitVec_inj.mp (BitVec.eq_of_toNat_eq (by rw [h]; exact (pk_tn (by omega)).symm))
theorem ushr8 (z : Int32) : ∃ k, k < 16777216 ∧ jushr z (8 : Int32) = nI k := by
  have h : (jushr z (8 : Int32)).toBitVec.toNat = z.toBitVec.toNat / 2 ^ 8 := pk_ushr z 8 8 (by decide)
  have hl := z.toBitVec.isLt
  exact ⟨z.toBitVec.toNat / 2 ^ 8, by omega, bv_nI _ h⟩
def zn (z : Int32) : Int32 := z * (1103515245 : Int32) + (12345 : Int32)
theorem E_draw {x : AS} {E : ES} (r : RpE x E) : vX0_draw E = (jushr (zn (a_z x)) (8 : Int32), e_s_z E (zn (a_z x))) := by
  have e : e_z E = a_z x := r.2.2.1
  unfold vX0_draw vX0_draw_c15
  rw [e]
  rfl
theorem M_draw {x : AS} {M : MS} (r : RpM x (m_m M)) : vX5_draw M = (jushr (zn (a_z x)) (8 : Int32), m_s_m M (upd (m_m M) 1 (zn (a_z x)))) := by
  have e : m_m M ((1 : Int32)).toNatClampNeg = a_z x := r.2.2.1
  unfold vX5_draw vX5_draw_c19
  rw [e]
  show (jushr (upd (m_m M) 1 (zn (a_z x)) 1) (8 : Int32), m_s_m M (upd (m_m M) 1 (zn (a_z x)))) = _
  rw [upd_s]
theorem je (J : JS) (X : ES) : j_E (j_s_E J X) = X := rfl
theorem jee (J : JS) (X Y : ES) : j_s_E (j_s_E J X) Y = j_s_E J Y := rfl
theorem E_draw' {x : AS} {E : ES} (r : RpE x E) {z : Int32} (hz : z = zn (a_z x)) : vX0_draw E = (jushr z (8 : Int32), e_s_z E z) := by
  subst hz
  exact E_draw r
theorem M_draw' {x : AS} {M : MS} (r : RpM x (m_m M)) {z : Int32} (hz : z = zn (a_z x)) : vX5_draw M = (jushr z (8 : Int32), m_s_m M (upd (m_m M) 1 z)) := by
  subst hz
  exact M_draw r
theorem azz (x : AS) (p : Int32) : a_z (a_s_z x p) = p := rfl
section PH
variable {J : JS} {M : MS}
theorem month_L {d : Nat} (hd20 : d ≤ 20) : ∀ (n i : Nat) (J : JS) (M : MS), Rel J M → i ≤ d → d < i + n → OK (kX4_month_c38 (nI d) n J (nI i)) (kX5_month_c39 (nI d) n M (nI i)) (vX4_month_c38 (nI d) n J (nI i)) (vX5_month_c39 (nI d) n M (nI i))
  | 0, i, J, M, h, h1, h2 => by omega
  | n + 1, i, J, M, h, h1, h2 => by
    obtain ⟨x, rE, rM, w⟩ := id h.1
    have hd := w.2.1
    unfold kX4_month_c38 kX5_month_c39 vX4_month_c38 vX5_month_c39
    by_cases c : d ≤ i
    · have c1 : nI d ≤ nI i := by rw [n_le (by omega) (by omega)]; exact c
      have a := E_awarded rE w
      have b := M_awarded rM w
      rw [if_pos c1, if_pos c1]
      exact ⟨⟨fun _ => ⟨a.1, trivial⟩, fun q => absurd c1 q⟩, ⟨fun _ => ⟨b.1, trivial⟩, fun q => absurd c1 q⟩, a.2.trans b.2.symm, h⟩
    · have c1 : ¬ nI d ≤ nI i := by rw [n_le (by omega) (by omega)]; exact c
      obtain ⟨z1, hz1⟩ : ∃ z, z = zn (a_z x) := ⟨_, rfl⟩
      obtain ⟨z2, hz2⟩ : ∃ z, z = zn z1 := ⟨_, rfl⟩
      have dE1 := E_draw' rE hz1
      have dM1 := M_draw' rM hz1
      have rE1 := rE.z z1
      have rM1 := rM.z z1
      have dE2 := E_draw' rE1 (z := z2) (by rw [azz]; exact hz2)
      have dM2 := M_draw' (M := m_s_m M (upd (m_m M) 1 z1)) rM1 (z := z2) (by rw [azz]; exact hz2)
      rw [mm_s, mm_ss] at dM2
      clear hz1 hz2
      have rE2 := rE1.z z2
      have rM2 := rM1.z z2
      obtain ⟨k1, hk1, e1⟩ := ushr8 z1
      obtain ⟨k2, hk2, e2⟩ := ushr8 z2
      have g1 : jrem (nI k1) (8 : Int32) = nI (k1 % 8) := n_rem (d := 8) (by omega) (by omega) (by omega)
      have g2 : jrem (nI k2) (10 : Int32) = nI (k2 % 10) := n_rem (d := 10) (by omega) (by omega) (by omega)
      have g3 : e_day (e_s_z (e_s_z (j_E J) z1) z2) = nI (a_day x) := rE.2.1
      have g4 : upd (m_m M) 1 z1 ((0 : Int32)).toNatClampNeg = nI (a_day x) := rM1.2.1
      have g5 : jrem (nI (a_day x)) (6 : Int32) = nI (a_day x % 6) := n_rem (d := 6) (by omega) (by omega) (by omega)
      have g6 : vX4_blowOf (nI (k1 % 8)) (nI (k2 % 10)) = nI (10 * (k1 % 8) + k2 % 10) := by
        unfold vX4_blowOf; rw [nz, pk_mul, nI_add]
      have g7 : (10 : Int32) * nI (k1 % 8) + nI (k2 % 10) = nI (10 * (k1 % 8) + k2 % 10) := by rw [nz, pk_mul, nI_add]
      have g8 : (10 : Int32) + nI (a_day x % 6) = nI (10 + a_day x % 6) := by rw [nz, nI_add]
      have g9 : (nI (a_day x % 6)).toNatClampNeg = a_day x % 6 := n_cl (by omega)
      have g10 : (nI (10 + a_day x % 6)).toNatClampNeg = 10 + a_day x % 6 := n_cl (by omega)
      have ei : nI i + (1 : Int32) = nI (i + 1) := by rw [nz, nI_add]
      have rE3 := rE2.list (i := a_day x % 6) (v := 10 * (k1 % 8) + k2 % 10)
      have rM3 := rM2.list (i := a_day x % 6) (v := 10 * (k1 % 8) + k2 % 10) (by omega)
      have w2 : WF (a_s_z (a_s_z x z1) z2) := w
      have w3 := w2.list (i := a_day x % 6) (v := 10 * (k1 % 8) + k2 % 10) (by omega)
      have dy := E_passDay rE3 w3
      obtain ⟨kd, f, q1, q2⟩ := M_goes (M := m_s_m M (upd (upd (upd (m_m M) 1 z1) 1 z2) (10 + a_day x % 6) (nI (10 * (k1 % 8) + k2 % 10)))) rM3 w3
      rw [mm_ss] at q1
      have hin : vp_in (nI (a_day x % 6)) 6 := n_in (by omega) (by omega)
      have hin2 : vp_in (nI (10 + a_day x % 6)) 82 := n_in (by omega) (by omega)
      rw [if_neg c1, if_neg c1]
      unfold kX4_month_c50 vX4_month_c50 kX4_month_c61 vX4_month_c61 kX4_month_c90 vX4_month_c90 kX4_month_c97 vX4_month_c97 kX5_month_c48 vX5_month_c48 kX5_month_c76 vX5_month_c76 kX5_month_c81 vX5_month_c81 kX5_month_c85 vX5_month_c85
      simp only [dE1, dM1, je, jee, mm_s, mm_ss, dE2, dM2, e1, e2, g1, g2, g3, g4, g5, g6, g7, g8, g9, g10, q1, ei]
      generalize vX0_passDay (e_s_list (e_s_z (e_s_z (j_E J) z1) z2) (upd (e_list (e_s_z (e_s_z (j_E J) z1) z2)) (a_day x % 6) (nI (10 * (k1 % 8) + k2 % 10)))) = B at dy ⊢
      have ih := month_L hd20 n (i + 1) (j_s_E J B) (m_s_m M f) ⟨⟨_, dy.2, q2, w3.day⟩, h.2⟩ (by omega) (by omega)
      exact ⟨⟨fun q => absurd q c1, fun _ => ⟨hin, dy.1, ih.1⟩⟩, ⟨fun q => absurd q c1, fun _ => ⟨hin2, kd, ih.2.1⟩⟩, ih.2.2⟩
theorem P_month (h : Rel J M) (p : Int32) : OK (kX4_month J p) (kX5_month M p) (vX4_month J p) (vX5_month M p) := by
  unfold kX4_month kX5_month vX4_month vX5_month
  obtain ⟨x, rE, rM, w⟩ := id h.1
  refine OK_ite Iff.rfl (fun _ => (tell0 h).t) (fun c => ?_)
  obtain ⟨n, h1, h2, rfl⟩ := vin_natA (a := 1) (b := 20) (by omega) (by omega) c
  refine OK_ite (by rw [rE.2.1, show ((0 : Int32)).toNatClampNeg = 0 from rfl, rM.2.1]) (fun _ => ?_) (fun _ => (tell4 h).t)
  exact month_L h2 1024 0 J M h (by omega) (by omega)
theorem byte_low (v : Int32) : v.toInt8 = (nI (v.toBitVec.toNat % 256)).toInt8 := by
  apply Int8.toBitVec_inj.mp
  rw [Int32.toBitVec_toInt8, Int32.toBitVec_toInt8, BitVec.signExtend_eq_setWidth_of_le _ (by decide), BitVec.signExtend_eq_setWidth_of_le _ (by decide)]
  apply BitVec.eq_of_toNat_eq
  rw [BitVec.toNat_setWidth, BitVec.toNat_setWidth, pk_tn (by omega)]
  omega
theorem feed_L (p q : Int32) : ∀ (n k m : Nat) (J : JS) (M : MS), Rel J M → m_taped M = nI m → m + k ≤ 120 → k < n → OK (kX4_feed_c39 p q n J (nI k + (-1 : Int32))) (kX5_feed_c38 p q n M (nI k + (-1 : Int32))) (vX4_feed_c39 p q n J (nI k + (-1 : Int32))) (vX5_feed_c38 p q n M (nI k + (-1 : Int32)))
  | 0, k, m, J, M, h, h0, h1, h2 => by omega
  | n + 1, 0, m, J, M, h, h0, h1, h2 => by
    unfold kX4_feed_c39 kX5_feed_c38 vX4_feed_c39 vX5_feed_c38
    have c : nI 0 + (-1 : Int32) < 0 := by decide
    obtain ⟨m', hm, e1, e2, hb⟩ := id h.2.2.2.1
    rw [if_pos c, if_pos c]
    exact ⟨⟨fun _ => trivial, fun q => absurd c q⟩, ⟨fun _ => trivial, fun q => absurd c q⟩, e1.trans e2.symm, h⟩
  | n + 1, k + 1, m, J, M, h, h0, h1, h2 => by
    unfold kX4_feed_c39 kX5_feed_c38 vX4_feed_c39 vX5_feed_c38
    rw [pk_m1]
    have c : ¬ nI k < (0 : Int32) := nI_pos (by omega)
    obtain ⟨m', hm, e1, e2, hb⟩ := id h.2.2.2.1
    have em : m' = m := by
      have := e2.symm.trans h0
      rw [n_eq (by omega) (by omega)] at this
      exact this
    subst em
    rw [if_neg c, if_neg c]
    have c2 : ¬ (120 : Int32) ≤ nI m' := by rw [nz, n_le (by omega) (by omega)]; omega
    have hin : vp_in (nI m') 120 := n_in (by omega) (by omega)
    generalize p >>> (((8 : Int32) * nI k) &&& 31) = v
    have ev : v &&& (255 : Int32) = nI (v.toBitVec.toNat % 256) := pk_and v 8 (by decide)
    have ev2 : v.toInt8.toInt32 = (nI (v.toBitVec.toNat % 256)).toInt8.toInt32 := by rw [← byte_low]
    have ei : nI m' + (1 : Int32) = nI (m' + 1) := by rw [nz, nI_add]
    unfold kX4_feed_c57 vX4_feed_c57 kX5_feed_c61 vX5_feed_c61 kX5_feed_c71 vX5_feed_c71 kX3_append vX3_append vX3_append_c19
    rw [e1, h0, if_neg c2, pk_vb, ev, ev2]
    have hR : Rel (j_s_tape J (t_s_length (t_s_bytes (j_tape J) (upd (t_bytes (j_tape J)) (nI m').toNatClampNeg (nI (v.toBitVec.toNat % 256)).toInt8.toInt32)) (t_length (t_s_bytes (j_tape J) (upd (t_bytes (j_tape J)) (nI m').toNatClampNeg (nI (v.toBitVec.toNat % 256)).toInt8.toInt32)) + (1 : Int32)))) (m_s_taped (m_s_tape M (upd (m_tape M) (nI m').toNatClampNeg (nI (v.toBitVec.toNat % 256)))) (m_taped (m_s_tape M (upd (m_tape M) (nI m').toNatClampNeg (nI (v.toBitVec.toNat % 256)))) + (1 : Int32))) := by
      refine ⟨h.1, h.2.1, h.2.2.1, ⟨m' + 1, by omega, ?_, ?_, fun i hi => ?_⟩, h.2.2.2.2⟩
      · show t_length (j_tape J) + (1 : Int32) = _
        rw [e1, ei]
      · show m_taped M + (1 : Int32) = _
        rw [e2, ei]
      · show ∃ b : Nat, b < 256 ∧ upd (m_tape M) (nI m').toNatClampNeg (nI (v.toBitVec.toNat % 256)) i = nI b ∧ upd (t_bytes (j_tape J)) (nI m').toNatClampNeg (nI (v.toBitVec.toNat % 256)).toInt8.toInt32 i = (nI b).toInt8.toInt32
        rw [n_cl (by omega)]
        by_cases g : i = m'
        · subst g
          rw [upd_s, upd_s]
          exact ⟨_, by omega, rfl, rfl⟩
        · rw [upd_n g, upd_n g]
          exact hb i (by omega)
    have ht : m_taped (m_s_taped (m_s_tape M (upd (m_tape M) (nI m').toNatClampNeg (nI (v.toBitVec.toNat % 256)))) (m_taped (m_s_tape M (upd (m_tape M) (nI m').toNatClampNeg (nI (v.toBitVec.toNat % 256)))) + (1 : Int32))) = nI (m' + 1) := by
      show m_taped M + (1 : Int32) = _
      rw [e2, ei]
    have ih := feed_L p q n k (m' + 1) _ _ hR ht (by omega) (by omega)
    exact ⟨⟨fun q => absurd q c, fun _ => ⟨⟨fun q => absurd q c2, fun _ => ⟨hin, trivial⟩⟩, ih.1⟩⟩, ⟨fun q => absurd q c, fun _ => ⟨hin, ih.2.1⟩⟩, ih.2.2⟩
theorem P_feed (h : Rel J M) (p q : Int32) : OK (kX4_feed J p q) (kX5_feed M p q) (vX4_feed J p q) (vX5_feed M p q) := by
  unfold kX4_feed kX5_feed vX4_feed vX5_feed
  obtain ⟨m, hm, e1, e2, hb⟩ := id h.2.2.2.1
  refine OK_ite Iff.rfl (fun _ => (tell0 h).t) (fun c => ?_)
  obtain ⟨n, h1, h2, rfl⟩ := vin_natA (a := 1) (b := 4) (by omega) (by omega) c
  rw [e1, e2]
  refine OK_ite Iff.rfl (fun c2 => ?_) (fun _ => (tell1 h).t)
  have c3 : m + n ≤ 120 := by
    rw [nI_add, nz, n_le (by omega) (by omega)] at c2
    exact c2
  have e : nI n - (1 : Int32) = nI n + (-1 : Int32) := by rw [Int32.sub_eq_add_neg]
  rw [e]
  exact feed_L p (nI n) 1024 n m J M h e2 c3 (by omega)
theorem isOf_k (p0 p1 : Int32) : ∀ (n i : Nat) (y : Int32), i ≤ 7 → 7 < i + n → kX1_isOf_c4 p0 p1 n y (nI i)
  | 0, i, y, h1, h2 => by omega
  | n + 1, i, y, h1, h2 => by
    unfold kX1_isOf_c4
    refine ⟨fun _ => trivial, fun c => ⟨⟨vin01 _ _ _, trivial⟩, fun _ => trivial, fun c2 => ⟨fun _ => trivial, fun _ => ⟨?_, ?_⟩⟩⟩⟩
    · obtain ⟨k, hk, rfl⟩ := vin_nat (b := 6) (by omega) c2
      exact n_in (by omega) (by omega)
    · have ei : nI i + (1 : Int32) = nI (i + 1) := by rw [nz, nI_add]
      rw [nz, n_le (by omega) (by omega)] at c
      rw [ei]
      exact isOf_k p0 p1 n (i + 1) _ (by omega) (by omega)
theorem isOf_v : ∀ k, k < 7 → ∀ q, q < 7 → vX1_isOf (nI k) (nI q) = vX5_isUnder (nI k) (nI q) := by decide +kernel
theorem P_as (h : Rel J M) (p q : Int32) : OK (kX4_as J p q) (kX5_as M p q) (vX4_as J p q) (vX5_as M p q) := by
  unfold kX4_as kX5_as vX4_as vX5_as
  refine OK.kj ⟨vin01 _ _ _, trivial⟩ (OK_ite Iff.rfl (fun _ => (tell0 h).t) (fun c => OK.kj ⟨vin01 _ _ _, trivial⟩ (OK_ite Iff.rfl (fun _ => (tell0 h).t) (fun c2 => ?_))))
  obtain ⟨k, hk, rfl⟩ := vin_nat (b := 9) (by omega) c
  obtain ⟨u, hu, rfl⟩ := vin_nat (b := 6) (by omega) c2
  obtain ⟨x, rE, rM, w⟩ := id h.1
  have w8 := w.1
  have eE : e_spots (j_E J) (nI k).toNatClampNeg = a_spots x k := by rw [n_cl (by omega)]; exact rE.2.2.2.2.2.2 k (by omega)
  have ek : (72 : Int32) + nI k = nI (72 + k) := by rw [nz, nI_add]
  have eM : m_m M (nI (72 + k)).toNatClampNeg = a_spots x k := by rw [n_cl (by omega)]; exact rM.2.2.2.2.2.2 k (by omega)
  have hin : vp_in (nI k) 10 := n_in (by omega) (by omega)
  have hin2 : vp_in (nI (72 + k)) 82 := n_in (by omega) (by omega)
  rw [ek, eE, eM]
  rcases w.2.2.2.2.2.2 k (by omega) with e | ⟨t, ht, e⟩
  · rw [e]
    have hn : ¬ (0 : Int32) ≤ -1 := by decide
    have hi : vX4_isThing J (-1) = 0 := by
      rcases vin01 (-1) 0 (e_things (j_E J) - 1) with g | g
      · exact g
      · exfalso
        exact hn ((vin_iff (-1) 0 (e_things (j_E J) - 1)).mp (by rw [g]; decide)).1
    have t := tell5 h
    rw [if_pos hi, if_neg hn]
    exact ⟨⟨hin, kT4 _ _, fun _ => ⟨t.1, trivial⟩, fun q => absurd hi q⟩, ⟨hin2, fun q => absurd q hn, fun _ => ⟨t.2.1, trivial⟩⟩, t.2.2⟩
  · rw [e]
    have hb := w.t ht
    have hi : ¬ vX4_isThing J (nI t) = 0 := by
      rw [isT h, M_isThing rM w t (by omega), if_pos ht]; decide
    have hp : (0 : Int32) ≤ nI t := nI_pos' (by omega)
    have et : vX0_trait (j_E J) (nI t) (0 : Int32) = nI (a_tr x t 0) := E_trait rE w ht (by decide : 0 < 7)
    have em : vX5_it M (nI t) (0 : Int32) = nI (a_tr x t 0) := M_it rM w ht (by decide : 0 < 7)
    have etk : kX0_trait (j_E J) (nI t) (0 : Int32) := E_traitk w ht (by decide : 0 < 7)
    have emk : kX5_it M (nI t) (0 : Int32) := M_itk w ht (by decide : 0 < 7)
    have ko : kX1_isOf (nI (a_tr x t 0)) (nI u) := isOf_k _ _ 1024 0 _ (by omega) (by omega)
    rw [if_neg hi, if_pos hp, et, em, ← isOf_v (a_tr x t 0) (by omega) u (by omega)]
    by_cases c3 : vX1_isOf (nI (a_tr x t 0)) (nI u) = 0
    · have t2 := tell2 h
      rw [if_pos c3, if_pos c3]
      exact ⟨⟨hin, kT4 _ _, fun q => absurd q hi, fun _ => ⟨etk, ko, fun _ => ⟨t2.1, trivial⟩, fun q => absurd c3 q⟩⟩, ⟨hin2, fun _ => ⟨emk, fun _ => ⟨t2.2.1, trivial⟩, fun q => absurd c3 q⟩, fun q => absurd hp q⟩, t2.2.2⟩
    · rw [if_neg c3, if_neg c3]
      exact ⟨⟨hin, kT4 _ _, fun q => absurd q hi, fun _ => ⟨etk, ko, fun q => absurd q c3, fun _ => trivial⟩⟩, ⟨hin2, fun _ => ⟨emk, fun q => absurd q c3, fun _ => trivial⟩, fun q => absurd hp q⟩, rfl, h⟩
end PH
