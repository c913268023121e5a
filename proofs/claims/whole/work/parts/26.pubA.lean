-- copy
theorem sub_lt {z a k : Nat} (hz : z ≤ 40) (ha : a < 2147483648) (hk : k < 2147483648) : (nI z - nI a < nI k) ↔ z < a + k := by
  rw [Int32.lt_iff_toInt_lt, Int32.toInt_sub, nI_toInt (by omega), nI_toInt ha, nI_toInt hk, Int.bmod_def]
  simp only [Nat.reducePow]
  split <;> omega
theorem hasRow_iff {S : SS} {z : Nat} (e : s_size S = nI z) (hz : z ≤ 40) (p n : Int32) : ¬ vX2_hasRow S p n = 0 ↔ ∃ a k, p = nI a ∧ n = nI k ∧ a + k ≤ z := by
  unfold vX2_hasRow
  rw [e]
  constructor
  · intro h
    by_cases c : vX4_within n 0 (nI z) = 0
    · rw [if_pos c] at h; exact absurd rfl h
    · rw [if_neg c] at h
      obtain ⟨k, hk, rfl⟩ := vin_nat (b := z) (by omega) c
      rw [n_sub hk] at h
      by_cases c2 : vX4_within p 0 (nI (z - k)) = 0
      · rw [if_pos c2] at h; exact absurd rfl h
      · obtain ⟨a, ha, rfl⟩ := vin_nat (b := z - k) (by omega) c2
        exact ⟨a, k, rfl, rfl, by omega⟩
  · rintro ⟨a, k, rfl, rfl, h⟩
    have c : ¬ vX4_within (nI k) 0 (nI z) = 0 := vin_N (a := 0) (by omega) (by omega) (by omega) (by omega)
    have c2 : ¬ vX4_within (nI a) 0 (nI (z - k)) = 0 := vin_N (a := 0) (by omega) (by omega) (by omega) (by omega)
    rw [if_neg c, n_sub (by omega), if_neg c2]
    decide
theorem copyF_L {s t a b k : Nat} (hs : s < 4) (ht : t < 4) (ha : a + k ≤ 40) (hb : b + k ≤ 40) (hab : b ≤ a) (old : FA) : ∀ (n i : Nat) (M : MS), i ≤ k → k < i + n → (∀ j, j < i → m_cells M (40 * t + b + j) = old (40 * s + a + j)) → (∀ q, (q < 40 * t + b ∨ 40 * t + b + i ≤ q) → m_cells M q = old q) → kX5_copy_c28 (nI s) (nI a) (nI t) (nI b) (nI k) n M (nI i) ∧ ∃ g, vX5_copy_c28 (nI s) (nI a) (nI t) (nI b) (nI k) n M (nI i) = (nI k, m_s_cells M g) ∧ (∀ j, j < k → g (40 * t + b + j) = old (40 * s + a + j)) ∧ ∀ q, (q < 40 * t + b ∨ 40 * t + b + k ≤ q) → g q = old q
  | 0, i, M, h1, h2, h3, h4 => by omega
  | n + 1, i, M, h1, h2, h3, h4 => by
    unfold kX5_copy_c28 vX5_copy_c28 kX5_copy_c53 vX5_copy_c53 kX5_copy_c84 vX5_copy_c84
    by_cases c : k ≤ i
    · have e : i = k := by omega
      subst e
      have c1 : nI i ≤ nI i := Int32.le_refl _
      rw [if_pos c1]
      exact ⟨⟨fun _ => trivial, fun q => absurd c1 q⟩, m_cells M, rfl, h3, h4⟩
    · have c1 : ¬ nI k ≤ nI i := by rw [n_le (by omega) (by omega)]; exact c
      have c2 : nI b ≤ nI a := by rw [n_le (by omega) (by omega)]; exact hab
      have ei : nI i + (1 : Int32) = nI (i + 1) := by rw [nz, nI_add]
      have e1 : (40 : Int32) * nI s + nI a + nI i = nI (40 * s + a + i) := by rw [nz, pk_mul, nI_add, nI_add]
      have e2 : (40 : Int32) * nI t + nI b + nI i = nI (40 * t + b + i) := by rw [nz, pk_mul, nI_add, nI_add]
      rw [if_neg c1, if_pos c2, ei, e1, e2, n_cl (by omega : 40 * s + a + i < 2147483648), n_cl (by omega : 40 * t + b + i < 2147483648)]
      have ev : m_cells M (40 * s + a + i) = old (40 * s + a + i) := h4 _ (by omega)
      obtain ⟨i1, g, i2, i3, i4⟩ := copyF_L hs ht ha hb hab old n (i + 1) (m_s_cells M (upd (m_cells M) (40 * t + b + i) (m_cells M (40 * s + a + i)))) (by omega) (by omega) (fun j hj => by
        show upd (m_cells M) (40 * t + b + i) (m_cells M (40 * s + a + i)) (40 * t + b + j) = _
        by_cases e : j = i
        · rw [e, upd_s, ev]
        · rw [upd_n (by omega)]; exact h3 j (by omega)) (fun q hq => by
        show upd (m_cells M) (40 * t + b + i) (m_cells M (40 * s + a + i)) q = _
        rw [upd_n (by omega)]; exact h4 q (by omega))
      exact ⟨⟨fun q => absurd q c1, fun _ => ⟨fun _ => ⟨n_in (by omega) (by omega), n_in (by omega) (by omega), i1⟩, fun q => absurd c2 q⟩⟩, g, i2, i3, i4⟩
theorem copyB_L {s t a b k : Nat} (hs : s < 4) (ht : t < 4) (ha : a + k ≤ 40) (hb : b + k ≤ 40) (hab : a < b) (old : FA) : ∀ (n i : Nat) (M : MS), i ≤ k → k < i + n → (∀ j, k - i ≤ j → j < k → m_cells M (40 * t + b + j) = old (40 * s + a + j)) → (∀ q, (q < 40 * t + b + (k - i) ∨ 40 * t + b + k ≤ q) → m_cells M q = old q) → kX5_copy_c28 (nI s) (nI a) (nI t) (nI b) (nI k) n M (nI i) ∧ ∃ g, vX5_copy_c28 (nI s) (nI a) (nI t) (nI b) (nI k) n M (nI i) = (nI k, m_s_cells M g) ∧ (∀ j, j < k → g (40 * t + b + j) = old (40 * s + a + j)) ∧ ∀ q, (q < 40 * t + b ∨ 40 * t + b + k ≤ q) → g q = old q
  | 0, i, M, h1, h2, h3, h4 => by omega
  | n + 1, i, M, h1, h2, h3, h4 => by
    unfold kX5_copy_c28 vX5_copy_c28 kX5_copy_c53 vX5_copy_c53 kX5_copy_c84 vX5_copy_c84
    by_cases c : k ≤ i
    · have e : i = k := by omega
      subst e
      have c1 : nI i ≤ nI i := Int32.le_refl _
      rw [if_pos c1]
      exact ⟨⟨fun _ => trivial, fun q => absurd c1 q⟩, m_cells M, rfl, fun j hj => h3 j (by omega) hj, fun q hq => h4 q (by omega)⟩
    · have c1 : ¬ nI k ≤ nI i := by rw [n_le (by omega) (by omega)]; exact c
      have c2 : ¬ nI b ≤ nI a := by rw [n_le (by omega) (by omega)]; omega
      have ei : nI i + (1 : Int32) = nI (i + 1) := by rw [nz, nI_add]
      have ek : nI k - (1 : Int32) - nI i = nI (k - 1 - i) := by rw [nz, n_sub (by omega), n_sub (by omega)]
      have e1 : (40 : Int32) * nI s + nI a + nI (k - 1 - i) = nI (40 * s + a + (k - 1 - i)) := by rw [nz, pk_mul, nI_add, nI_add]
      have e2 : (40 : Int32) * nI t + nI b + nI (k - 1 - i) = nI (40 * t + b + (k - 1 - i)) := by rw [nz, pk_mul, nI_add, nI_add]
      rw [if_neg c1, if_neg c2, ei, ek, e1, e2, n_cl (by omega : 40 * s + a + (k - 1 - i) < 2147483648), n_cl (by omega : 40 * t + b + (k - 1 - i) < 2147483648)]
      have ev : m_cells M (40 * s + a + (k - 1 - i)) = old (40 * s + a + (k - 1 - i)) := h4 _ (by omega)
      obtain ⟨i1, g, i2, i3, i4⟩ := copyB_L hs ht ha hb hab old n (i + 1) (m_s_cells M (upd (m_cells M) (40 * t + b + (k - 1 - i)) (m_cells M (40 * s + a + (k - 1 - i))))) (by omega) (by omega) (fun j hj hj2 => by
        show upd (m_cells M) (40 * t + b + (k - 1 - i)) (m_cells M (40 * s + a + (k - 1 - i))) (40 * t + b + j) = _
        by_cases e : j = k - 1 - i
        · rw [e, upd_s, ev]
        · rw [upd_n (by omega)]; exact h3 j (by omega) hj2) (fun q hq => by
        show upd (m_cells M) (40 * t + b + (k - 1 - i)) (m_cells M (40 * s + a + (k - 1 - i))) q = _
        rw [upd_n (by omega)]; exact h4 q (by omega))
      exact ⟨⟨fun q => absurd q c1, fun _ => ⟨fun q => absurd q c2, fun _ => ⟨n_in (by omega) (by omega), n_in (by omega) (by omega), i1⟩⟩⟩, g, i2, i3, i4⟩
theorem copy_all {s t a b k : Nat} (hs : s < 4) (ht : t < 4) (ha : a + k ≤ 40) (hb : b + k ≤ 40) (M : MS) : kX5_copy_c28 (nI s) (nI a) (nI t) (nI b) (nI k) 1024 M 0 ∧ ∃ g, vX5_copy_c28 (nI s) (nI a) (nI t) (nI b) (nI k) 1024 M 0 = (nI k, m_s_cells M g) ∧ (∀ j, j < k → g (40 * t + b + j) = m_cells M (40 * s + a + j)) ∧ ∀ q, (q < 40 * t + b ∨ 40 * t + b + k ≤ q) → g q = m_cells M q := by
  by_cases h : b ≤ a
  · exact copyF_L hs ht ha hb h (m_cells M) 1024 0 M (by omega) (by omega) (fun j hj => absurd hj (Nat.not_lt_zero j)) (fun _ _ => rfl)
  · exact copyB_L hs ht ha hb (by omega) (m_cells M) 1024 0 M (by omega) (by omega) (fun j hj hj2 => by omega) (fun _ _ => rfl)
section PJ
variable {J : JS} {M : MS}
theorem notc_k (M : MS) (p q r u v : Int32) : kX5_notCopied M p q r u v := by
  unfold kX5_notCopied
  refine ⟨⟨vin01 _ _ _, trivial⟩, fun _ => trivial, fun c => ⟨⟨vin01 _ _ _, trivial⟩, fun _ => trivial, fun c3 => ?_⟩⟩
  obtain ⟨s, hs, rfl⟩ := vin_nat (b := 3) (by omega) c
  obtain ⟨t, ht, rfl⟩ := vin_nat (b := 3) (by omega) c3
  have hin : vp_in (nI s) 4 := n_in (by omega) (by omega)
  have hin3 : vp_in (nI t) 4 := n_in (by omega) (by omega)
  exact ⟨hin, fun _ => trivial, fun _ => ⟨hin3, fun _ => trivial, fun _ => ⟨hin, hin3, fun _ => ⟨fun _ => trivial, fun _ => ⟨fun _ => trivial, fun _ => ⟨fun _ => trivial, fun _ => ⟨hin, fun _ => trivial, fun _ => ⟨hin3, trivial⟩⟩⟩⟩⟩, fun _ => trivial⟩⟩⟩
theorem P_copy (h : Rel J M) (p q r u v : Int32) : OK (kX4_copy J p q r u v) (kX5_copy M p q r u v) (vX4_copy J p q r u v) (vX5_copy M p q r u v) := by
  unfold kX4_copy kX5_copy vX4_copy vX5_copy
  refine OK.kj ⟨vin01 _ _ _, trivial⟩ (OK.km (notc_k M p q r u v) ?_)
  by_cases c : vX5_in p 0 3 = 0
  · have c4 : vX4_isSheet p = 0 := c
    have c5 : vX5_isSheet p = 0 := c
    have e : vX5_notCopied M p q r u v = -1000001 := by unfold vX5_notCopied; rw [if_pos c5]
    rw [e]
    exact OK_J (fun _ => OK_M (fun g => absurd g (by decide)) (fun _ => (tell0 h).t)) (fun g => absurd c4 g)
  have c4 : ¬ vX4_isSheet p = 0 := c
  have c5 : ¬ vX5_isSheet p = 0 := c
  refine OK_J (fun g => absurd g c4) (fun _ => OK.kj ⟨vin01 _ _ _, trivial⟩ ?_)
  by_cases d : vX5_in r 0 3 = 0
  · have d4 : vX4_isSheet r = 0 := d
    have d5 : vX5_isSheet r = 0 := d
    have e : vX5_notCopied M p q r u v = -1000001 := by unfold vX5_notCopied; rw [if_neg c5, if_pos d5]
    rw [e]
    exact OK_J (fun _ => OK_M (fun g => absurd g (by decide)) (fun _ => (tell0 h).t)) (fun g => absurd d4 g)
  have d4 : ¬ vX4_isSheet r = 0 := d
  have d5 : ¬ vX5_isSheet r = 0 := d
  obtain ⟨s, hs, rfl⟩ := vin_nat (b := 3) (by omega) c
  obtain ⟨t, ht, rfl⟩ := vin_nat (b := 3) (by omega) d
  have hin : vp_in (nI s) 4 := n_in (by omega) (by omega)
  have hin3 : vp_in (nI t) 4 := n_in (by omega) (by omega)
  obtain ⟨q1, q2, q3, ⟨z, hz, q4, q5⟩, q6⟩ := h.2.2.2.2 s (by omega)
  obtain ⟨r1, r2, r3, ⟨y, hy, r4, r5⟩, r6⟩ := h.2.2.2.2 t (by omega)
  have b1 : s_bits (j_s J s) = m_bitsOf M s := q1
  have b2 : s_bits (j_s J t) = m_bitsOf M t := r1
  have z1 : s_size (j_s J s) = nI z := q2.trans q4
  have z2 : s_size (j_s J t) = nI y := r2.trans r4
  refine OK_J (fun g => absurd g d4) (fun _ => OK.kj hin (OK.kj hin3 ?_))
  rw [n_cl (by omega : s < 2147483648), n_cl (by omega : t < 2147483648), b1, b2]
  have e0 : vX5_notCopied M (nI s) q (nI t) u v = if m_bitsOf M s = 0 then (-1000006 : Int32) else if m_bitsOf M t = 0 then (-1000006 : Int32) else if m_bitsOf M s = m_bitsOf M t then (if v < 0 then (-1000001 : Int32) else if q < 0 then (-1000001 : Int32) else if u < 0 then (-1000001 : Int32) else if nI z - q < v then (-1000001 : Int32) else if nI y - u < v then (-1000001 : Int32) else 0) else (-1000003 : Int32) := by
    unfold vX5_notCopied vX5_notCopied_c101 vX5_notCopied_c102
    rw [if_neg c5, if_neg d5, n_cl (by omega : s < 2147483648), n_cl (by omega : t < 2147483648), q4, r4]
    rfl
  by_cases f1 : m_bitsOf M s = 0
  · rw [if_pos f1] at e0
    rw [e0]
    exact OK_J (fun _ => OK_M (fun g => absurd g (by decide)) (fun _ => (tell5 h).t)) (fun g => absurd f1 g)
  rw [if_neg f1] at e0
  refine OK_J (fun g => absurd g f1) (fun _ => ?_)
  by_cases f2 : m_bitsOf M t = 0
  · rw [if_pos f2] at e0
    rw [e0]
    exact OK_J (fun _ => OK_M (fun g => absurd g (by decide)) (fun _ => (tell5 h).t)) (fun g => absurd f2 g)
  rw [if_neg f2] at e0
  refine OK_J (fun g => absurd g f2) (fun _ => ?_)
  by_cases f3 : m_bitsOf M s = m_bitsOf M t
  · rw [if_pos f3] at e0
    refine OK_J (fun _ => ?_) (fun g => absurd f3 g)
    have i1 := hasRow_iff z1 hz q v
    have i2 := hasRow_iff z2 hy u v
    have bad : (vX2_hasRow (j_s J s) q v = 0 ∨ vX2_hasRow (j_s J t) u v = 0) → vX5_notCopied M (nI s) q (nI t) u v = -1000001 := fun g => by
      rw [e0]
      by_cases g1 : v < 0
      · rw [if_pos g1]
      rw [if_neg g1]
      by_cases g2 : q < 0
      · rw [if_pos g2]
      rw [if_neg g2]
      by_cases g3 : u < 0
      · rw [if_pos g3]
      rw [if_neg g3]
      obtain ⟨v', hv', rfl⟩ := nI_of g1
      obtain ⟨q', hq', rfl⟩ := nI_of g2
      obtain ⟨u', hu', rfl⟩ := nI_of g3
      by_cases g4 : nI z - nI q' < nI v'
      · rw [if_pos g4]
      rw [if_neg g4]
      by_cases g5 : nI y - nI u' < nI v'
      · rw [if_pos g5]
      exfalso
      rw [sub_lt hz hq' hv'] at g4
      rw [sub_lt hy hu' hv'] at g5
      rcases g with g | g
      · exact i1.mpr ⟨q', v', rfl, rfl, by omega⟩ g
      · exact i2.mpr ⟨u', v', rfl, rfl, by omega⟩ g
    by_cases g1 : vX2_hasRow (j_s J s) q v = 0
    · rw [bad (Or.inl g1)]
      exact OK_J (fun _ => OK_M (fun g => absurd g (by decide)) (fun _ => (tell0 h).t)) (fun g => absurd g1 g)
    refine OK_J (fun g => absurd g g1) (fun _ => ?_)
    by_cases g2 : vX2_hasRow (j_s J t) u v = 0
    · rw [bad (Or.inr g2)]
      exact OK_J (fun _ => OK_M (fun g => absurd g (by decide)) (fun _ => (tell0 h).t)) (fun g => absurd g2 g)
    refine OK_J (fun g => absurd g g2) (fun _ => ?_)
    obtain ⟨a, k, rfl, rfl, l1⟩ := i1.mp g1
    obtain ⟨b, k', rfl, ek, l2⟩ := i2.mp g2
    have hk' : k' = k := by
      by_cases hk2 : k = k'
      · exact hk2.symm
      · exfalso
        exact hk2 ((n_eq (by omega) (by omega)).mp ek)
    subst hk'
    have e1 : vX5_notCopied M (nI s) (nI a) (nI t) (nI b) (nI k') = 0 := by
      rw [e0, if_neg (nI_pos (by omega)), if_neg (nI_pos (by omega)), if_neg (nI_pos (by omega)), if_neg (by rw [sub_lt hz (by omega) (by omega)]; omega), if_neg (by rw [sub_lt hy (by omega) (by omega)]; omega)]
    rw [e1]
    obtain ⟨m1, g, m2, m3, m4⟩ := copy_all (by omega : s < 4) (by omega : t < 4) (by omega : a + k' ≤ 40) (by omega : b + k' ≤ 40) M
    refine OK_M (fun _ => ?_) (fun g => absurd rfl g)
    rw [m2, n_cl (by omega : a < 2147483648), n_cl (by omega : b < 2147483648), n_cl (by omega : k' < 2147483648)]
    refine ⟨⟨⟨nI_pos (by omega), nI_pos (by omega), nI_pos (by omega), ?_, ?_⟩, trivial⟩, m1, rfl, h.1, h.2.1, h.2.2.1, h.2.2.2.1, RelS_num (s := t) h.2.2.2.2 _ (fun i hi => ?_) (fun j hj => m4 j (by omega))⟩
    · rw [n_cl (by omega), n_cl (by omega)]; omega
    · rw [n_cl (by omega), n_cl (by omega)]; omega
    · show va_cpy (s_numbers (j_s J s)) (s_numbers (j_s J t)) a b k' i = g (40 * t + i)
      by_cases hi2 : b ≤ i ∧ i < b + k'
      · rw [pk_cpy_in hi2.1 hi2.2]
        have := m3 (i - b) (by omega)
        rw [show 40 * t + b + (i - b) = 40 * t + i by omega] at this
        rw [this, show 40 * s + a + (i - b) = 40 * s + (a + (i - b)) by omega]
        exact q6 _ (by omega)
      · rw [pk_cpy_out (by omega), m4 _ (by omega)]
        exact r6 _ hi
  · rw [if_neg f3] at e0
    rw [e0]
    exact OK_J (fun g => absurd g f3) (fun _ => OK_M (fun g => absurd g (by decide)) (fun _ => (tell2 h).t))
end PJ
