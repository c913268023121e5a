-- both readers: a number, a word, perhaps
theorem Tk.weak {n : Nat} {B : Nat → Nat} {b b' : Nat} {T : TS} {M : MS} (h : Tk n B b' T M) (g : b ≤ b') : Tk n B b T M := by
  obtain ⟨hT, hM, q, tok, c1, c2⟩ := h
  exact ⟨hT, hM, q, tok, Nat.le_trans g c1, c2⟩
def Bd (n : Nat) (T : TS) (M : MS) : Prop := m_bad M = 1 ∧ ∃ q, q ≤ n ∧ t_begin T = nI q ∧ m_begin M = nI q
theorem Tk.bd {n : Nat} {B : Nat → Nat} {b : Nat} {T : TS} {M : MS} (h : Tk n B b T M) : Bd n T (m_s_bad M 1) := by
  obtain ⟨hT, hM, q, tok, c1, c2, c3, c4, -⟩ := h
  exact ⟨rfl, q, c2, c3, c4⟩
theorem bad_bad (M : MS) (b : Int32) : m_bad (m_s_bad M b) = b := rfl
theorem bad_self {M : MS} {b : Int32} (h : m_bad M = b) : m_s_bad M b = M := by rw [← h]; rfl
theorem bad_m (M : MS) (b : Int32) : m_m (m_s_bad M b) = m_m M := rfl
section TR
variable {n : Nat} {B : Nat → Nat} {b : Nat} {T : TS} {M : MS}
theorem num_bad (lo hi : Int32) (h : m_bad M = 1) : kX5_number M lo hi ∧ ∃ u, vX5_number M lo hi = (u, M) := by
  have z1 : ¬ (1 : Int32) = 0 := by decide
  have z : ¬ m_bad M = 0 := by rw [h]; exact z1
  unfold kX5_number vX5_number kX5_number_c31 vX5_number_c31 kX5_number_c36 vX5_number_c36 kX5_number_c39 vX5_number_c39
  rw [bad_self h, if_neg z, if_neg z]
  exact ⟨⟨fun g => absurd g z, fun _ => ⟨Or.inr rfl, fun g => absurd g z, fun _ => trivial⟩⟩, _, rfl⟩
theorem takes_bad (c : Int32) (h : m_bad M = 1) : kX5_takes M c ∧ vX5_takes M c = (0, M) := by
  have z : ¬ m_bad M = 0 := by rw [h]; decide
  unfold kX5_takes vX5_takes
  rw [if_neg z]
  exact ⟨⟨fun g => absurd g z, fun _ => trivial⟩, rfl⟩
theorem perh_bad (c lo hi so : Int32) (h : m_bad M = 1) : kX5_perhaps M c lo hi so ∧ vX5_perhaps M c lo hi so = (so, M) := by
  obtain ⟨a, e⟩ := takes_bad (M := M) c h
  unfold kX5_perhaps vX5_perhaps kX5_perhaps_c5 vX5_perhaps_c5
  rw [e]
  exact ⟨⟨a, fun _ => trivial, fun g => absurd rfl g⟩, rfl⟩
theorem num_ok (hn : n ≤ 120) (hB : ∀ i, i < n → B i < 256) (h : Tk n B b T M) (hb : m_bad M = 0) {lo hi : Nat} (hlo : lo ≤ 9999) (hhi : hi ≤ 9999) : kX3_takeNumber T (nI lo) (nI hi) ∧ kX5_number M (nI lo) (nI hi) ∧ ((∃ T' M' v, vX3_takeNumber T (nI lo) (nI hi) = (1, T') ∧ vX5_number M (nI lo) (nI hi) = (nI v, M') ∧ lo ≤ v ∧ v ≤ hi ∧ t_taken T' = nI v ∧ Tk n B (b + 1) T' M' ∧ m_bad M' = 0 ∧ Fr M M' ∧ m_m M' = m_m M) ∨ ∃ u, vX3_takeNumber T (nI lo) (nI hi) = (0, T) ∧ vX5_number M (nI lo) (nI hi) = (u, m_s_bad M 1)) := by
  obtain ⟨hT, hM, q, tok, c1, c2, c3, c4, c5, c6, c7, c8, c9, c10, c11, c12⟩ := h
  have z1 : ¬ (1 : Int32) = 0 := by decide
  unfold kX3_takeNumber vX3_takeNumber kX5_number vX5_number kX5_number_c31 vX5_number_c31 kX5_number_c36 vX5_number_c36 kX5_number_c39 vX5_number_c39 kX3_takeNumber_c30 vX3_takeNumber_c30
  rw [bad_bad, bad_bad, if_pos hb, if_neg z1, if_pos rfl]
  by_cases t20 : tok = 20
  · obtain ⟨v, v1, v2, v3⟩ := c11 t20
    obtain ⟨e, e1, e2, e3, e4⟩ := c12 (by omega)
    have s2 : t_sort T = 2 := c8.mpr t20
    have m20 : m_token M = (20 : Int32) := by rw [c5, t20]; rfl
    rw [if_pos s2, if_pos m20, v2, v3, vwi]
    by_cases r : lo ≤ v ∧ v ≤ hi
    · have ev : min 10000 v = v := by omega
      have w : ¬ vX5_in (nI v) (nI lo) (nI hi) = 0 := vin_N (by omega) (by omega) r.1 r.2
      obtain ⟨n1, n2, n3, n4, n5, n6, n7⟩ := nextTk hn hB (T := t_s_taken T (nI v)) (M := m_s_bad M 0) hT (hM.fr (Fr_bad M 0)) e2 e3 e4
      rw [ev, if_neg w, if_neg w]
      refine ⟨⟨fun _ => ⟨fun g => absurd g w, fun _ => ⟨n1, trivial⟩⟩, fun g => absurd s2 g⟩, ⟨fun _ => ⟨fun _ => ⟨fun g => absurd g w, fun _ => ⟨Or.inl rfl, fun _ => ⟨n2, trivial⟩, fun g => absurd rfl g⟩⟩, fun g => absurd m20 g⟩, fun g => absurd hb g⟩, Or.inl ⟨_, _, v, rfl, rfl, r.1, r.2, n7, n3.weak (by omega), n6, (Fr_bad M 0).trans n4, n5⟩⟩
    · have w1 : vX5_in (nI v) (nI lo) (nI hi) = 0 := by
        rcases vin01 (nI v) (nI lo) (nI hi) with g | g
        · exact g
        · exfalso
          have := (vin_iff (nI v) (nI lo) (nI hi)).mp (by rw [g]; decide)
          rw [n_le (by omega) (by omega), n_le (by omega) (by omega)] at this
          exact r this
      have w2 : vX5_in (nI (min 10000 v)) (nI lo) (nI hi) = 0 := by
        rcases vin01 (nI (min 10000 v)) (nI lo) (nI hi) with g | g
        · exact g
        · exfalso
          have := (vin_iff (nI (min 10000 v)) (nI lo) (nI hi)).mp (by rw [g]; decide)
          rw [n_le (by omega) (by omega), n_le (by omega) (by omega)] at this
          omega
      rw [if_pos w1, if_pos w2]
      exact ⟨⟨fun _ => ⟨fun _ => trivial, fun g => absurd w2 g⟩, fun g => absurd s2 g⟩, ⟨fun _ => ⟨fun _ => ⟨fun _ => ⟨Or.inr rfl, fun g => absurd g z1, fun _ => trivial⟩, fun g => absurd w1 g⟩, fun g => absurd m20 g⟩, fun g => absurd hb g⟩, Or.inr ⟨_, rfl, rfl⟩⟩
  · have s2 : ¬ t_sort T = 2 := fun g => t20 (c8.mp g)
    have m20 : ¬ m_token M = (20 : Int32) := by rw [c5, nz, n_eq (by omega) (by omega)]; exact t20
    rw [if_neg s2, if_neg m20]
    exact ⟨⟨fun g => absurd g s2, fun _ => trivial⟩, ⟨fun _ => ⟨fun g => absurd g m20, fun _ => ⟨Or.inr rfl, fun g => absurd g z1, fun _ => trivial⟩⟩, fun g => absurd hb g⟩, Or.inr ⟨_, rfl, rfl⟩⟩
theorem word_no (h : Tk n B b T M) {tok k : Nat} (ht : m_token M = nI tok) (h23 : tok ≤ 23) (hk : k < 15) (hne : tok ≠ cd k) : kX3_wordIs T k ∧ vX3_wordIs T k = 0 ∧ kX3_takeWord T k ∧ vX3_takeWord T k = (0, T) := by
  obtain ⟨hT, hM, q, tok', c1, c2, c3, c4, c5, c6, c7, -⟩ := h
  have e : tok' = tok := by
    have := c5.symm.trans ht
    rw [n_eq (by omega) (by omega)] at this
    exact this
  subst e
  have w := c7 k hk
  rw [if_neg hne] at w
  unfold kX3_takeWord vX3_takeWord
  rw [w.2]
  exact ⟨w.1, rfl, ⟨w.1, fun _ => trivial, fun g => absurd rfl g⟩, rfl⟩
theorem takes_no {tok c : Nat} (ht : m_token M = nI tok) (h23 : tok ≤ 23) (hc : c ≤ 100) (hne : tok ≠ c) : kX5_takes M (nI c) ∧ vX5_takes M (nI c) = (0, M) := by
  have m : ¬ m_token M = nI c := by rw [ht, n_eq (by omega) (by omega)]; exact hne
  unfold kX5_takes vX5_takes
  rw [if_neg m]
  exact ⟨⟨fun _ => ⟨fun g => absurd g m, fun _ => trivial⟩, fun _ => trivial⟩, by split <;> rfl⟩
theorem step_ok (hn : n ≤ 120) (hB : ∀ i, i < n → B i < 256) (h : Tk n B b T M) {tok : Nat} (ht : m_token M = nI tok) (h22 : tok < 22) : kX3_nextToken T ∧ kX5_reads M ∧ Tk n B (b + 1) (vX3_nextToken T) (vX5_reads M) ∧ Fr M (vX5_reads M) ∧ m_m (vX5_reads M) = m_m M ∧ m_bad (vX5_reads M) = m_bad M := by
  obtain ⟨hT, hM, q, tok', c1, c2, c3, c4, c5, c6, c7, c8, c9, c10, c11, c12⟩ := h
  have e : tok' = tok := by
    have := c5.symm.trans ht
    rw [n_eq (by omega) (by omega)] at this
    exact this
  subst e
  obtain ⟨e, e1, e2, e3, e4⟩ := c12 h22
  obtain ⟨n1, n2, n3, n4, n5, n6, n7⟩ := nextTk hn hB hT hM e2 e3 e4
  exact ⟨n1, n2, n3.weak (by omega), n4, n5, n6⟩
theorem word_yes (hn : n ≤ 120) (hB : ∀ i, i < n → B i < 256) (h : Tk n B b T M) (hb : m_bad M = 0) {k : Nat} (hk : k < 15) (ht : m_token M = nI (cd k)) : kX3_wordIs T k ∧ vX3_wordIs T k = 1 ∧ kX3_takeWord T k ∧ vX3_takeWord T k = (1, vX3_nextToken T) ∧ kX5_takes M (nI (cd k)) ∧ vX5_takes M (nI (cd k)) = (1, vX5_reads M) ∧ Tk n B (b + 1) (vX3_nextToken T) (vX5_reads M) ∧ Fr M (vX5_reads M) ∧ m_m (vX5_reads M) = m_m M ∧ m_bad (vX5_reads M) = 0 := by
  have hc : cd k < 22 := by
    obtain ⟨hT, hM, q, tok', c1, c2, c3, c4, c5, c6, -⟩ := id h
    rcases cd_val k hk with g | g
    · omega
    · exfalso
      have := c5.symm.trans ht
      rw [n_eq (by omega) (by omega)] at this
      omega
  obtain ⟨n1, n2, n3, n4, n5, n6⟩ := step_ok hn hB h ht hc
  obtain ⟨hT, hM, q, tok', c1, c2, c3, c4, c5, c6, c7, -⟩ := h
  have e : tok' = cd k := by
    have := c5.symm.trans ht
    rw [n_eq (by omega) (by omega)] at this
    exact this
  have w := c7 k hk
  rw [if_pos e] at w
  have z1 : ¬ (1 : Int32) = 0 := by decide
  unfold kX3_takeWord vX3_takeWord kX5_takes vX5_takes
  rw [w.2, if_neg z1, if_pos hb, if_pos ht]
  exact ⟨w.1, rfl, ⟨w.1, fun g => absurd g z1, fun _ => ⟨n1, trivial⟩⟩, rfl, ⟨fun _ => ⟨fun _ => ⟨n2, trivial⟩, fun g => absurd ht g⟩, fun g => absurd hb g⟩, rfl, n3, n4, n5, n6.trans hb⟩
theorem Tk.tok (h : Tk n B b T M) : ∃ tok, tok ≤ 23 ∧ m_token M = nI tok := by
  obtain ⟨hT, hM, q, tok', c1, c2, c3, c4, c5, c6, -⟩ := h
  exact ⟨tok', c6, c5⟩
/-- a trait that may be told -/
theorem perh_ok (hn : n ≤ 120) (hB : ∀ i, i < n → B i < 256) (h : Tk n B b T M) (hb : m_bad M = 0) {k hi : Nat} (hk : k < 15) (hk2 : cd k < 14) (hhi : hi ≤ 9999) (so : Int32) : kX5_perhaps M (nI (cd k)) (nI 0) (nI hi) so ∧ kX3_takeWord T k ∧ ((vX3_takeWord T k = (0, T) ∧ vX5_perhaps M (nI (cd k)) (nI 0) (nI hi) so = (so, M)) ∨ ∃ T1, vX3_takeWord T k = (1, T1) ∧ kX3_takeNumber T1 (nI 0) (nI hi) ∧ ((∃ T' M' v, vX3_takeNumber T1 (nI 0) (nI hi) = (1, T') ∧ vX5_perhaps M (nI (cd k)) (nI 0) (nI hi) so = (nI v, M') ∧ v ≤ hi ∧ t_taken T' = nI v ∧ Tk n B b T' M' ∧ m_bad M' = 0 ∧ Fr M M' ∧ m_m M' = m_m M) ∨ ∃ u M', vX3_takeNumber T1 (nI 0) (nI hi) = (0, T1) ∧ vX5_perhaps M (nI (cd k)) (nI 0) (nI hi) so = (u, M') ∧ Bd n T1 M' ∧ Fr M M')) := by
  obtain ⟨tok, t1, t2⟩ := h.tok
  unfold kX5_perhaps vX5_perhaps kX5_perhaps_c5 vX5_perhaps_c5
  by_cases e : tok = cd k
  · rw [e] at t2
    obtain ⟨w1, w2, w3, w4, w5, w6, w7, w8, w9, w10⟩ := word_yes hn hB h hb hk t2
    obtain ⟨m1, m2, m3⟩ := num_ok hn hB w7 w10 (lo := 0) (hi := hi) (by omega) hhi
    have z1 : ¬ (1 : Int32) = 0 := by decide
    rw [w6, if_neg z1]
    refine ⟨⟨w5, fun g => absurd g z1, fun _ => ⟨m2, trivial⟩⟩, w3, Or.inr ⟨_, w4, m1, ?_⟩⟩
    rcases m3 with ⟨T', M', v, a1, a2, a3, a4, a5, a6, a7, a8, a9⟩ | ⟨u, a1, a2⟩
    · exact Or.inl ⟨T', M', v, a1, by rw [a2], a4, a5, a6.weak (by omega), a7, w8.trans a8, a9.trans w9⟩
    · exact Or.inr ⟨u, m_s_bad (vX5_reads M) 1, a1, by rw [a2], w7.bd, w8.trans (Fr_bad _ _)⟩
  · obtain ⟨w1, w2, w3, w4⟩ := word_no h t2 t1 hk e
    obtain ⟨g1, g2⟩ := takes_no (M := M) t2 t1 (show cd k ≤ 100 by omega) e
    rw [g2]
    exact ⟨⟨g1, fun _ => trivial, fun g => absurd rfl g⟩, w3, Or.inl ⟨w4, rfl⟩⟩
end TR
