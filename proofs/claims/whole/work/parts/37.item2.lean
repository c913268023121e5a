-- both readers: home, offers, silence, blows, items, the text
section TJ
variable {n : Nat} {B : Nat → Nat} {b : Nat} {T : TS} {M : MS}
def hLeast (i : Nat) : Nat := if i = 1 then 1 else 0
theorem hLeast_le (i : Nat) : hLeast i ≤ 1 := by unfold hLeast; split <;> omega
theorem takeHome_ok (hn : n ≤ 120) (hB : ∀ i, i < n → B i < 256) (h : Tk n B b T M) (hb : m_bad M = 0) {E : ES} {i : Nat} (hi : i < 7) : kX3_takeHome T E (nI i) ∧ kX5_number M (nI (hLeast i)) (nI (hMost i)) ∧ ((∃ T' M' v, vX3_takeHome T E (nI i) = (1, T', e_s_home E (upd (e_home E) i (nI v))) ∧ vX5_number M (nI (hLeast i)) (nI (hMost i)) = (nI v, M') ∧ hLeast i ≤ v ∧ v ≤ hMost i ∧ Tk n B (b + 1) T' M' ∧ m_bad M' = 0 ∧ Fr M M' ∧ m_m M' = m_m M) ∨ ∃ u, vX3_takeHome T E (nI i) = (0, T, E) ∧ vX5_number M (nI (hLeast i)) (nI (hMost i)) = (u, m_s_bad M 1)) := by
  have hm := hMostv i hi
  have hl := hLeast_le i
  have ho := hMost_le i
  have z1 : ¬ (1 : Int32) = 0 := by decide
  have hin : vp_in (nI i) 7 := n_in (by omega) (by omega)
  obtain ⟨n1, n2, n3⟩ := num_ok hn hB h hb (lo := hLeast i) (hi := hMost i) (by omega) ho
  have el : jHL.getD i 0 = nI (hLeast i) := hm.2.1
  unfold kX3_takeHome vX3_takeHome kX3_takeHome_c14 vX3_takeHome_c14
  rw [n_cl (by omega : i < 2147483648), el, hm.1]
  rcases n3 with ⟨T', M', v, a1, a2, a3, a4, a5, a6, a7, a8, a9⟩ | ⟨u, a1, a2⟩
  · rw [a1, if_neg z1, a5]
    exact ⟨⟨hin, hin, n1, fun g => absurd g z1, fun _ => ⟨hin, trivial⟩⟩, n2, Or.inl ⟨T', M', v, rfl, a2, a3, a4, a6, a7, a8, a9⟩⟩
  · rw [a1, if_pos rfl]
    exact ⟨⟨hin, hin, n1, fun _ => trivial, fun g => absurd rfl g⟩, n2, Or.inr ⟨u, rfl, a2⟩⟩
theorem two_ok (hn : n ≤ 120) (hB : ∀ i, i < n → B i < 256) (h : Tk n B b T M) (hb : m_bad M = 0) {x : AS} {E : ES} (rE : RpE x E) (rM : RpM x (m_m M)) (w : WF x) {i j : Nat} (hi : i < 7) (hi1 : i ≠ 1) (hj : j < 7) : kX3_takeHome T E (nI i) ∧ kX5_twoItem M (nI (3 + i)) (nI (hMost i)) (nI (3 + j)) (nI (hLeast j)) (nI (hMost j)) ∧ Fr M (vX5_twoItem M (nI (3 + i)) (nI (hMost i)) (nI (3 + j)) (nI (hLeast j)) (nI (hMost j))) ∧ ((vX3_takeHome T E (nI i) = (0, T, E) ∧ Bd n T (vX5_twoItem M (nI (3 + i)) (nI (hMost i)) (nI (3 + j)) (nI (hLeast j)) (nI (hMost j)))) ∨ ∃ T1 E1, vX3_takeHome T E (nI i) = (1, T1, E1) ∧ kX3_takeHome T1 E1 (nI j) ∧ ((vX3_takeHome T1 E1 (nI j) = (0, T1, E1) ∧ Bd n T1 (vX5_twoItem M (nI (3 + i)) (nI (hMost i)) (nI (3 + j)) (nI (hLeast j)) (nI (hMost j)))) ∨ ∃ T2 E2 x', vX3_takeHome T1 E1 (nI j) = (1, T2, E2) ∧ Tk n B (b + 1) T2 (vX5_twoItem M (nI (3 + i)) (nI (hMost i)) (nI (3 + j)) (nI (hLeast j)) (nI (hMost j))) ∧ RpE x' E2 ∧ RpM x' (m_m (vX5_twoItem M (nI (3 + i)) (nI (hMost i)) (nI (3 + j)) (nI (hLeast j)) (nI (hMost j)))) ∧ WF x' ∧ m_bad (vX5_twoItem M (nI (3 + i)) (nI (hMost i)) (nI (3 + j)) (nI (hLeast j)) (nI (hMost j))) = 0)) := by
  have z1 : ¬ (1 : Int32) = 0 := by decide
  obtain ⟨k1, k2, o1⟩ := takeHome_ok hn hB h hb (E := E) hi
  have eL : hLeast i = 0 := by unfold hLeast; rw [if_neg hi1]
  rw [eL] at k2 o1
  have k2' : kX5_number M (0 : Int32) (nI (hMost i)) := k2
  have zb : ¬ m_bad (m_s_bad M 1) = 0 := z1
  unfold kX5_twoItem vX5_twoItem kX5_twoItem_c6 vX5_twoItem_c6 kX5_twoItem_c16 vX5_twoItem_c16 kX5_twoItem_c33 vX5_twoItem_c33
  rw [n_cl (by omega : 3 + i < 2147483648), n_cl (by omega : 3 + j < 2147483648)]
  refine ⟨k1, ?_⟩
  rcases o1 with ⟨T1, M1, v, a1, a2, a3, a4, a5, a6, a7, a8⟩ | ⟨u, a1, a2⟩
  · have a2' : vX5_number M (0 : Int32) (nI (hMost i)) = (nI v, M1) := a2
    obtain ⟨m1, m2, o2⟩ := takeHome_ok hn hB a5 a6 (E := e_s_home E (upd (e_home E) i (nI v))) hj
    rw [a2']
    rcases o2 with ⟨T2, M2, y, c1, c2, c3, c4, c5, c6, c7, c8⟩ | ⟨u, c1, c2⟩
    · rw [c2, if_pos c6]
      have em : m_m M2 = m_m M := c8.trans a8
      have r1 := (rE.home (i := i) (v := v)).home (i := j) (v := y)
      have rm1 := (rM.home (v := v) hi).home (v := y) hj
      have w1 := (w.home (i := i) (v := v) a4 (fun g => absurd g hi1)).home (i := j) (v := y) c4 (fun g => by unfold hLeast at c3; rw [if_pos g] at c3; exact c3)
      refine ⟨⟨k2', m2, fun _ => ⟨n_in (by omega) (by omega), n_in (by omega) (by omega), trivial⟩, fun g => absurd c6 g⟩, a7.trans (c7.trans ((Fr_m M2 _).trans (Fr_m _ _))), Or.inr ⟨T1, _, a1, m1, Or.inr ⟨T2, _, _, c1, ?_, r1, ?_, w1, c6⟩⟩⟩
      · obtain ⟨i1, i2, i3⟩ := c5.weak (show b + 1 ≤ b + 1 + 1 by omega)
        exact ⟨i1, (i2.fr (Fr_m M2 _)).fr (Fr_m _ _), i3⟩
      · rw [mm_ss, mm_s, mm_s, em]
        exact rm1
    · rw [c2]
      have zb1 : ¬ m_bad (m_s_bad M1 1) = 0 := z1
      rw [if_neg zb1]
      exact ⟨⟨k2', m2, fun g => absurd g zb1, fun _ => trivial⟩, a7.trans (Fr_bad M1 1), Or.inr ⟨T1, _, a1, m1, Or.inl ⟨c1, a5.bd⟩⟩⟩
  · have a2' : vX5_number M (0 : Int32) (nI (hMost i)) = (u, m_s_bad M 1) := a2
    obtain ⟨m1, u2, m2⟩ := num_bad (M := m_s_bad M 1) (nI (hLeast j)) (nI (hMost j)) rfl
    rw [a2', m2, if_neg zb]
    exact ⟨⟨k2', m1, fun g => absurd g zb, fun _ => trivial⟩, Fr_bad M 1, Or.inl ⟨a1, h.bd⟩⟩
theorem blow_ok (hn : n ≤ 120) (hB : ∀ i, i < n → B i < 256) (h : Tk n B b T M) (hb : m_bad M = 0) {x : AS} {E : ES} (rE : RpE x E) (rM : RpM x (m_m M)) (w : WF x) : IOut n B (b + 1) (kX3_readBlow T E) (kX5_blowItem M) (vX3_readBlow T E) M (vX5_blowItem M) := by
  have z1 : ¬ (1 : Int32) = 0 := by decide
  have zb : ∀ M', ¬ m_bad (m_s_bad M' 1) = 0 := fun _ => z1
  obtain ⟨k1, k2, o1⟩ := num_ok hn hB h hb (lo := 0) (hi := 5) (by omega) (by omega)
  have k1' : kX3_takeNumber T (0 : Int32) (5 : Int32) := k1
  have k2' : kX5_number M (0 : Int32) (5 : Int32) := k2
  unfold IOut kX3_readBlow vX3_readBlow kX3_readBlow_c6 vX3_readBlow_c6 kX5_blowItem vX5_blowItem kX5_blowItem_c6 vX5_blowItem_c6 kX5_blowItem_c14 vX5_blowItem_c14
  rcases o1 with ⟨T1, M1, v, a1, a2, a3, a4, a5, a6, a7, a8, a9⟩ | ⟨u, a1, a2⟩
  · have a1' : vX3_takeNumber T (0 : Int32) (5 : Int32) = (1, T1) := a1
    have a2' : vX5_number M (0 : Int32) (5 : Int32) = (nI v, M1) := a2
    obtain ⟨l1, l2, o2⟩ := num_ok hn hB a6 a7 (lo := 0) (hi := 7) (by omega) (by omega)
    have l1' : kX3_takeNumber T1 (0 : Int32) (7 : Int32) := l1
    have l2' : kX5_number M1 (0 : Int32) (7 : Int32) := l2
    rw [a1', a2', if_neg z1, a5]
    unfold kX3_readBlow_c23 vX3_readBlow_c23
    rcases o2 with ⟨T2, M2, t, c1, c2, c3, c4, c5, c6, c7, c8, c9⟩ | ⟨u, c1, c2⟩
    · have c1' : vX3_takeNumber T1 (0 : Int32) (7 : Int32) = (1, T2) := c1
      have c2' : vX5_number M1 (0 : Int32) (7 : Int32) = (nI t, M2) := c2
      obtain ⟨p1, p2, o3⟩ := num_ok hn hB c6 c7 (lo := 0) (hi := 9) (by omega) (by omega)
      have p1' : kX3_takeNumber T2 (0 : Int32) (9 : Int32) := p1
      have p2' : kX5_number M2 (0 : Int32) (9 : Int32) := p2
      rw [c1', c2', if_neg z1, c5]
      unfold kX3_readBlow_c40 vX3_readBlow_c40 kX5_blowItem_c22 vX5_blowItem_c22
      rcases o3 with ⟨T3, M3, f, d1, d2, d3, d4, d5, d6, d7, d8, d9⟩ | ⟨u, d1, d2⟩
      · have d1' : vX3_takeNumber T2 (0 : Int32) (9 : Int32) = (1, T3) := d1
        have d2' : vX5_number M2 (0 : Int32) (9 : Int32) = (nI f, M3) := d2
        have eb : vX4_blowOf (nI t) (nI f) = nI (10 * t + f) := by unfold vX4_blowOf; rw [nz, pk_mul, nI_add]
        have em2 : (10 : Int32) * nI t + nI f = nI (10 * t + f) := by rw [nz, pk_mul, nI_add]
        have ea : (10 : Int32) + nI v = nI (10 + v) := by rw [nz, nI_add]
        have em : m_m M3 = m_m M := d9.trans (c9.trans a9)
        rw [d1', d2', if_neg z1, if_pos d7, d5, eb, em2, ea, n_cl (by omega : v < 2147483648), n_cl (by omega : 10 + v < 2147483648)]
        refine ⟨⟨k1', fun g => absurd g z1, fun _ => ⟨l1', fun g => absurd g z1, fun _ => ⟨p1', fun g => absurd g z1, fun _ => ⟨n_in (by omega) (by omega), trivial⟩⟩⟩⟩, ⟨k2', l2', p2', fun _ => ⟨n_in (by omega) (by omega), trivial⟩, fun g => absurd d7 g⟩, a8.trans (c8.trans (d8.trans (Fr_m M3 _))), Or.inl ⟨sList x v (10 * t + f), T3, _, rfl, ?_, rE.list, ?_, w.list (by omega), d7⟩⟩
        · obtain ⟨i1, i2, i3⟩ := d6.weak (show b + 1 ≤ b + 1 + 1 + 1 by omega)
          exact ⟨i1, i2.fr (Fr_m M3 _), i3⟩
        · rw [mm_s, em]
          exact rM.list (by omega)
      · have d1' : vX3_takeNumber T2 (0 : Int32) (9 : Int32) = (0, T2) := d1
        have d2' : vX5_number M2 (0 : Int32) (9 : Int32) = (u, m_s_bad M2 1) := d2
        rw [d1', d2', if_pos rfl, if_neg (zb M2)]
        exact ⟨⟨k1', fun g => absurd g z1, fun _ => ⟨l1', fun g => absurd g z1, fun _ => ⟨p1', fun _ => trivial, fun g => absurd rfl g⟩⟩⟩, ⟨k2', l2', p2', fun g => absurd g (zb M2), fun _ => trivial⟩, a8.trans (c8.trans (Fr_bad M2 1)), Or.inr ⟨T2, E, rfl, c6.bd⟩⟩
    · have c1' : vX3_takeNumber T1 (0 : Int32) (7 : Int32) = (0, T1) := c1
      have c2' : vX5_number M1 (0 : Int32) (7 : Int32) = (u, m_s_bad M1 1) := c2
      obtain ⟨p1, u2, p2⟩ := num_bad (M := m_s_bad M1 1) (0 : Int32) (9 : Int32) rfl
      unfold kX5_blowItem_c22 vX5_blowItem_c22
      rw [c1', c2', if_pos rfl, p2, if_neg (zb M1)]
      exact ⟨⟨k1', fun g => absurd g z1, fun _ => ⟨l1', fun _ => trivial, fun g => absurd rfl g⟩⟩, ⟨k2', l2', p1, fun g => absurd g (zb M1), fun _ => trivial⟩, a8.trans (Fr_bad M1 1), Or.inr ⟨T1, E, rfl, a6.bd⟩⟩
  · have a1' : vX3_takeNumber T (0 : Int32) (5 : Int32) = (0, T) := a1
    have a2' : vX5_number M (0 : Int32) (5 : Int32) = (u, m_s_bad M 1) := a2
    obtain ⟨p1, u2, p2⟩ := num_bad (M := m_s_bad M 1) (0 : Int32) (7 : Int32) rfl
    obtain ⟨q1, u3, q2⟩ := num_bad (M := m_s_bad M 1) (0 : Int32) (9 : Int32) rfl
    unfold kX5_blowItem_c22 vX5_blowItem_c22
    rw [a1', a2', if_pos rfl, p2, q2, if_neg (zb M)]
    exact ⟨⟨k1', fun _ => trivial, fun g => absurd rfl g⟩, ⟨k2', p1, q1, fun g => absurd g (zb M), fun _ => trivial⟩, Fr_bad M 1, Or.inr ⟨T, E, rfl, h.bd⟩⟩
/-- the class looks for a kind's word: it is the one -/
theorem kind_L (h : Tk n B b T M) {tok : Nat} (ht : m_token M = nI tok) (h6 : tok ≤ 6) (hw : ∀ k, k < 15 → cd k = tok → kX3_wordIs T k ∧ vX3_wordIs T k = 1) {E : ES} (hk : kX3_readThing T E (nI tok)) (h01 : (vX3_readThing T E (nI tok)).1 = 0 ∨ (vX3_readThing T E (nI tok)).1 = 1) : ∀ (r k f : Nat), k + r = tok → r < f → kX3_readItem_c2 f T E (nI k) ∧ vX3_readItem_c2 f T E (nI k) = vX3_readThing T E (nI tok)
  | r, k, 0, h1, h2 => by omega
  | 0, k, f + 1, h1, h2 => by
    have e : k = tok := by omega
    subst e
    have wk := wk_all k (by omega)
    have wi := hw _ wk.1 wk.2
    have z1 : ¬ (1 : Int32) = 0 := by decide
    have c : ¬ (7 : Int32) ≤ nI k := by rw [nz, n_le (by omega) (by omega)]; omega
    unfold kX3_readItem_c2 vX3_readItem_c2
    rw [wi.2, if_neg c, if_neg z1]
    exact ⟨⟨fun g => absurd g c, fun _ => ⟨wk.1, wi.1, fun g => absurd g z1, fun _ => ⟨hk, h01, trivial⟩⟩⟩, rfl⟩
  | r + 1, k, f + 1, h1, h2 => by
    have wk := wk_all k (by omega)
    have wi := word_no h ht (by omega) wk.1 (by omega)
    have c : ¬ (7 : Int32) ≤ nI k := by rw [nz, n_le (by omega) (by omega)]; omega
    have ei : nI k + (1 : Int32) = nI (k + 1) := by rw [nz, nI_add]
    obtain ⟨i1, i2⟩ := kind_L h ht h6 hw hk h01 r (k + 1) f (by omega) (by omega)
    unfold kX3_readItem_c2 vX3_readItem_c2
    rw [wi.2.1, if_neg c, if_pos rfl, ei]
    exact ⟨⟨fun g => absurd g c, fun _ => ⟨wk.1, wi.1, fun _ => i1, fun g => absurd rfl g⟩⟩, i2⟩
/-- none is -/
theorem noKind_L (h : Tk n B b T M) {tok : Nat} (ht : m_token M = nI tok) (h7 : 7 ≤ tok) (h23 : tok ≤ 23) {E : ES} (hk : kX3_takeWord T 11 ∧ kX3_readItem_c38 (vX3_takeWord T 11).2 E (vX3_takeWord T 11).1) : ∀ (r k f : Nat), k + r = 7 → r < f → kX3_readItem_c2 f T E (nI k) ∧ vX3_readItem_c2 f T E (nI k) = vX3_readItem_c38 (vX3_takeWord T 11).2 E (vX3_takeWord T 11).1
  | r, k, 0, h1, h2 => by omega
  | 0, k, f + 1, h1, h2 => by
    have e : k = 7 := by omega
    subst e
    have c : (7 : Int32) ≤ nI 7 := by decide
    unfold kX3_readItem_c2 vX3_readItem_c2
    rw [if_pos c]
    exact ⟨⟨fun _ => hk, fun g => absurd c g⟩, rfl⟩
  | r + 1, k, f + 1, h1, h2 => by
    have wk := wk_all k (by omega)
    have wi := word_no h ht h23 wk.1 (by omega)
    have c : ¬ (7 : Int32) ≤ nI k := by rw [nz, n_le (by omega) (by omega)]; omega
    have ei : nI k + (1 : Int32) = nI (k + 1) := by rw [nz, nI_add]
    obtain ⟨i1, i2⟩ := noKind_L h ht h7 h23 hk r (k + 1) f (by omega) (by omega)
    unfold kX3_readItem_c2 vX3_readItem_c2
    rw [wi.2.1, if_neg c, if_pos rfl, ei]
    exact ⟨⟨fun g => absurd g c, fun _ => ⟨wk.1, wi.1, fun _ => i1, fun g => absurd rfl g⟩⟩, i2⟩
theorem item_ok (hn : n ≤ 120) (hB : ∀ i, i < n → B i < 256) (h : Tk n B b T M) (hb : m_bad M = 0) {x : AS} {E : ES} (rE : RpE x E) (rM : RpM x (m_m M)) (w : WF x) : IOut n B (b + 1) (kX3_readItem T E) (kX5_item M) (vX3_readItem T E) M (vX5_item M) := by
  obtain ⟨tok, t23, ht⟩ := h.tok
  have z1 : ¬ (1 : Int32) = 0 := by decide
  by_cases h6 : tok ≤ 6
  · have c6 : ¬ (6 : Int32) < m_token M := by rw [ht, nz, n_lt (by omega) (by omega)]; omega
    obtain ⟨o1, o2, o3, o4⟩ := thing_ok hn hB h hb rE rM w h6 ht
    have h01 : (vX3_readThing T E (nI tok)).1 = 0 ∨ (vX3_readThing T E (nI tok)).1 = 1 := by
      rcases o4 with ⟨_, _, _, e, -⟩ | ⟨_, _, e, -⟩
      · rw [e]; exact Or.inr rfl
      · rw [e]; exact Or.inl rfl
    obtain ⟨k1, k2⟩ := kind_L h ht h6 (fun k hk e => by
      have wy := word_yes hn hB h hb hk (by rw [e]; exact ht)
      exact ⟨wy.1, wy.2.1⟩) o1 h01 tok 0 1024 (by omega) (by omega)
    have k1' : kX3_readItem_c2 1024 T E 0 := k1
    have k2' : vX3_readItem_c2 1024 T E 0 = vX3_readThing T E (nI tok) := k2
    unfold IOut kX3_readItem vX3_readItem kX5_item vX5_item
    rw [k2', if_neg c6]
    exact ⟨k1', ⟨fun g => absurd g c6, fun _ => ⟨o2, trivial⟩⟩, o3, o4⟩
  · have c6 : (6 : Int32) < m_token M := by rw [ht, nz, n_lt (by omega) (by omega)]; omega
    have tn : ∀ c, c ≤ 100 → tok ≠ c → kX5_takes M (nI c) ∧ vX5_takes M (nI c) = (0, M) := fun c hc hne => takes_no ht t23 hc hne
    have wn : ∀ k, k < 15 → tok ≠ cd k → kX3_takeWord T k ∧ vX3_takeWord T k = (0, T) := fun k hk hne => (word_no h ht t23 hk hne).2.2
    have main : ∀ r, r = vX3_readItem_c38 (vX3_takeWord T 11).2 E (vX3_takeWord T 11).1 → IOut n B (b + 1) (kX3_takeWord T 11 ∧ kX3_readItem_c38 (vX3_takeWord T 11).2 E (vX3_takeWord T 11).1) (kX5_takes M (10 : Int32) ∧ kX5_item_c22 (vX5_takes M (10 : Int32)).2 (vX5_takes M (10 : Int32)).1) r M (vX5_item_c22 (vX5_takes M (10 : Int32)).2 (vX5_takes M (10 : Int32)).1) → IOut n B (b + 1) (kX3_readItem T E) (kX5_item M) (vX3_readItem T E) M (vX5_item M) := fun r hr g => by
      obtain ⟨g1, g2, g3, g4⟩ := g
      obtain ⟨k1, k2⟩ := noKind_L h ht (by omega) t23 g1 7 0 1024 (by omega) (by omega)
      have k1' : kX3_readItem_c2 1024 T E 0 := k1
      have k2' : vX3_readItem_c2 1024 T E 0 = vX3_readItem_c38 (vX3_takeWord T 11).2 E (vX3_takeWord T 11).1 := k2
      unfold IOut kX3_readItem vX3_readItem kX5_item vX5_item
      rw [k2', if_pos c6, ← hr]
      exact ⟨k1', ⟨fun _ => g2, fun q => absurd c6 q⟩, g3, g4⟩
    refine main _ rfl ?_
    clear main
    unfold IOut
    by_cases e10 : tok = 10
    · subst e10
      obtain ⟨y1, y2, y3, y4, y5, y6, y7, y8, y9, y10⟩ := word_yes hn hB h hb (k := 11) (by omega) ht
      have y5' : kX5_takes M (10 : Int32) := y5
      have y6' : vX5_takes M (10 : Int32) = (1, vX5_reads M) := y6
      obtain ⟨q1, q2, q3, q4⟩ := two_ok hn hB y7 y10 rE (by rw [y9]; exact rM) w (i := 0) (j := 1) (by omega) (by omega) (by omega)
      have q1' : kX3_takeHome (vX3_nextToken T) E (0 : Int32) := q1
      have q2' : kX5_twoItem (vX5_reads M) (3 : Int32) (9999 : Int32) (4 : Int32) (1 : Int32) (9 : Int32) := q2
      have eM : vX5_twoItem (vX5_reads M) (3 : Int32) (9999 : Int32) (4 : Int32) (1 : Int32) (9 : Int32) = vX5_twoItem (vX5_reads M) (nI (3 + 0)) (nI (hMost 0)) (nI (3 + 1)) (nI (hLeast 1)) (nI (hMost 1)) := rfl
      unfold kX3_readItem_c38 vX3_readItem_c38 kX5_item_c22 vX5_item_c22 kX3_readItem_c47 vX3_readItem_c47 vX3_readItem_c56
      rw [y4, y6', if_neg z1, if_neg z1, eM]
      generalize vX5_twoItem (vX5_reads M) (nI (3 + 0)) (nI (hMost 0)) (nI (3 + 1)) (nI (hLeast 1)) (nI (hMost 1)) = M' at q3 q4 ⊢
      rcases q4 with ⟨a1, a2⟩ | ⟨T1, E1, a1, a2, ⟨c1, c2⟩ | ⟨T2, E2, x', c1, c2, c3, c4, c5, c6⟩⟩
      · have a1' : vX3_takeHome (vX3_nextToken T) E (0 : Int32) = (0, vX3_nextToken T, E) := a1
        rw [a1', if_pos rfl]
        exact ⟨⟨y3, fun g => absurd g z1, fun _ => ⟨q1', fun _ => trivial, fun g => absurd rfl g⟩⟩, ⟨y5', fun g => absurd g z1, fun _ => ⟨q2', trivial⟩⟩, y8.trans q3, Or.inr ⟨_, _, rfl, a2⟩⟩
      · have a1' : vX3_takeHome (vX3_nextToken T) E (0 : Int32) = (1, T1, E1) := a1
        have a2' : kX3_takeHome T1 E1 (1 : Int32) := a2
        have c1' : vX3_takeHome T1 E1 (1 : Int32) = (0, T1, E1) := c1
        rw [a1', if_neg z1, c1', if_pos rfl]
        exact ⟨⟨y3, fun g => absurd g z1, fun _ => ⟨q1', fun g => absurd g z1, fun _ => ⟨a2', trivial⟩⟩⟩, ⟨y5', fun g => absurd g z1, fun _ => ⟨q2', trivial⟩⟩, y8.trans q3, Or.inr ⟨_, _, rfl, c2⟩⟩
      · have a1' : vX3_takeHome (vX3_nextToken T) E (0 : Int32) = (1, T1, E1) := a1
        have a2' : kX3_takeHome T1 E1 (1 : Int32) := a2
        have c1' : vX3_takeHome T1 E1 (1 : Int32) = (1, T2, E2) := c1
        rw [a1', if_neg z1, c1', if_neg z1]
        exact ⟨⟨y3, fun g => absurd g z1, fun _ => ⟨q1', fun g => absurd g z1, fun _ => ⟨a2', trivial⟩⟩⟩, ⟨y5', fun g => absurd g z1, fun _ => ⟨q2', trivial⟩⟩, y8.trans q3, Or.inl ⟨x', T2, E2, rfl, c2.weak (by omega), c3, c4, c5, c6⟩⟩
    obtain ⟨w11, v11⟩ := wn 11 (by omega) e10
    obtain ⟨s10, u10⟩ := tn 10 (by omega) e10
    have s10' : kX5_takes M (10 : Int32) := s10
    have u10' : vX5_takes M (10 : Int32) = (0, M) := u10
    unfold kX3_readItem_c38 vX3_readItem_c38 kX5_item_c22 vX5_item_c22
    rw [v11, u10', if_pos rfl, if_pos rfl]
    by_cases e11 : tok = 11
    · subst e11
      obtain ⟨y1, y2, y3, y4, y5, y6, y7, y8, y9, y10⟩ := word_yes hn hB h hb (k := 14) (by omega) ht
      have y5' : kX5_takes M (11 : Int32) := y5
      have y6' : vX5_takes M (11 : Int32) = (1, vX5_reads M) := y6
      obtain ⟨w12, v12⟩ := wn 12 (by omega) (by decide)
      obtain ⟨w13, v13⟩ := wn 13 (by omega) (by decide)
      obtain ⟨q1, q2, q3, q4⟩ := blow_ok hn hB y7 y10 rE (by rw [y9]; exact rM) w
      unfold kX3_readItem_c71 vX3_readItem_c71 kX3_readItem_c105 vX3_readItem_c105 kX3_readItem_c121 vX3_readItem_c121 vX3_readItem_c129 kX5_item_c46 vX5_item_c46
      rw [v12, if_pos rfl, v13, if_pos rfl, y4, if_neg z1, y6', if_neg z1]
      have kj : kX3_takeWord T 11 ∧ (((0 : Int32) = 0 → kX3_takeWord T 12 ∧ (((0 : Int32) = 0 → kX3_takeWord T 13 ∧ (((0 : Int32) = 0 → kX3_takeWord T 14 ∧ (((1 : Int32) = 0 → True) ∧ (¬ (1 : Int32) = 0 → kX3_readBlow (vX3_nextToken T) E ∧ True))) ∧ (¬ (0 : Int32) = 0 → kX3_takeHome T E (4 : Int32) ∧ ((vX3_takeHome T E (4 : Int32)).1 = 0 ∨ (vX3_takeHome T E (4 : Int32)).1 = 1) ∧ True))) ∧ (¬ (0 : Int32) = 0 → kX3_takeHome T E (5 : Int32) ∧ kX3_readItem_c80 (vX3_takeHome T E (5 : Int32)).2.1 (vX3_takeHome T E (5 : Int32)).2.2 (vX3_takeHome T E (5 : Int32)).1))) ∧ (¬ (0 : Int32) = 0 → kX3_takeHome T E (0 : Int32) ∧ kX3_readItem_c47 (vX3_takeHome T E (0 : Int32)).2.1 (vX3_takeHome T E (0 : Int32)).2.2 (vX3_takeHome T E (0 : Int32)).1)) :=
        ⟨w11, fun _ => ⟨w12, fun _ => ⟨w13, fun _ => ⟨y3, fun g => absurd g z1, fun _ => ⟨q1, trivial⟩⟩, fun g => absurd rfl g⟩, fun g => absurd rfl g⟩, fun g => absurd rfl g⟩
      refine ⟨kj, ⟨s10', fun _ => ⟨y5', fun g => absurd g z1, fun _ => ⟨q2, trivial⟩⟩, fun g => absurd rfl g⟩, y8.trans q3, ?_⟩
      rcases q4 with ⟨x', T', E', a1, a2, a3, a4, a5, a6⟩ | ⟨T', E', a1, a2⟩
      · rw [a1, if_neg z1]
        exact Or.inl ⟨x', T', E', rfl, a2.weak (by omega), a3, a4, a5, a6⟩
      · rw [a1, if_pos rfl]
        exact Or.inr ⟨T', E', rfl, a2⟩
    obtain ⟨s11, u11⟩ := tn 11 (by omega) e11
    have s11' : kX5_takes M (11 : Int32) := s11
    have u11' : vX5_takes M (11 : Int32) = (0, M) := u11
    unfold kX3_readItem_c71 vX3_readItem_c71 kX5_item_c46 vX5_item_c46
    rw [u11', if_pos rfl]
    by_cases e12 : tok = 12
    · subst e12
      obtain ⟨y1, y2, y3, y4, y5, y6, y7, y8, y9, y10⟩ := word_yes hn hB h hb (k := 12) (by omega) ht
      have y5' : kX5_takes M (12 : Int32) := y5
      have y6' : vX5_takes M (12 : Int32) = (1, vX5_reads M) := y6
      obtain ⟨q1, q2, q3, q4⟩ := two_ok hn hB y7 y10 rE (by rw [y9]; exact rM) w (i := 5) (j := 6) (by omega) (by omega) (by omega)
      have q1' : kX3_takeHome (vX3_nextToken T) E (5 : Int32) := q1
      have q2' : kX5_twoItem (vX5_reads M) (8 : Int32) (9999 : Int32) (9 : Int32) (0 : Int32) (9999 : Int32) := q2
      have eM : vX5_twoItem (vX5_reads M) (8 : Int32) (9999 : Int32) (9 : Int32) (0 : Int32) (9999 : Int32) = vX5_twoItem (vX5_reads M) (nI (3 + 5)) (nI (hMost 5)) (nI (3 + 6)) (nI (hLeast 6)) (nI (hMost 6)) := rfl
      unfold kX5_item_c62 vX5_item_c62 kX3_readItem_c80 vX3_readItem_c80 vX3_readItem_c90
      rw [y4, y6', if_neg z1, if_neg z1, eM]
      generalize vX5_twoItem (vX5_reads M) (nI (3 + 5)) (nI (hMost 5)) (nI (3 + 6)) (nI (hLeast 6)) (nI (hMost 6)) = M' at q3 q4 ⊢
      rcases q4 with ⟨a1, a2⟩ | ⟨T1, E1, a1, a2, ⟨c1, c2⟩ | ⟨T2, E2, x', c1, c2, c3, c4, c5, c6⟩⟩
      · have a1' : vX3_takeHome (vX3_nextToken T) E (5 : Int32) = (0, vX3_nextToken T, E) := a1
        rw [a1', if_pos rfl]
        exact ⟨⟨w11, fun _ => ⟨y3, fun g => absurd g z1, fun _ => ⟨q1', fun _ => trivial, fun g => absurd rfl g⟩⟩, fun g => absurd rfl g⟩, ⟨s10', fun _ => ⟨s11', fun _ => ⟨y5', fun g => absurd g z1, fun _ => ⟨q2', trivial⟩⟩, fun g => absurd rfl g⟩, fun g => absurd rfl g⟩, y8.trans q3, Or.inr ⟨_, _, rfl, a2⟩⟩
      · have a1' : vX3_takeHome (vX3_nextToken T) E (5 : Int32) = (1, T1, E1) := a1
        have a2' : kX3_takeHome T1 E1 (6 : Int32) := a2
        have c1' : vX3_takeHome T1 E1 (6 : Int32) = (0, T1, E1) := c1
        rw [a1', if_neg z1, c1', if_pos rfl]
        exact ⟨⟨w11, fun _ => ⟨y3, fun g => absurd g z1, fun _ => ⟨q1', fun g => absurd g z1, fun _ => ⟨a2', trivial⟩⟩⟩, fun g => absurd rfl g⟩, ⟨s10', fun _ => ⟨s11', fun _ => ⟨y5', fun g => absurd g z1, fun _ => ⟨q2', trivial⟩⟩, fun g => absurd rfl g⟩, fun g => absurd rfl g⟩, y8.trans q3, Or.inr ⟨_, _, rfl, c2⟩⟩
      · have a1' : vX3_takeHome (vX3_nextToken T) E (5 : Int32) = (1, T1, E1) := a1
        have a2' : kX3_takeHome T1 E1 (6 : Int32) := a2
        have c1' : vX3_takeHome T1 E1 (6 : Int32) = (1, T2, E2) := c1
        rw [a1', if_neg z1, c1', if_neg z1]
        exact ⟨⟨w11, fun _ => ⟨y3, fun g => absurd g z1, fun _ => ⟨q1', fun g => absurd g z1, fun _ => ⟨a2', trivial⟩⟩⟩, fun g => absurd rfl g⟩, ⟨s10', fun _ => ⟨s11', fun _ => ⟨y5', fun g => absurd g z1, fun _ => ⟨q2', trivial⟩⟩, fun g => absurd rfl g⟩, fun g => absurd rfl g⟩, y8.trans q3, Or.inl ⟨x', T2, E2, rfl, c2.weak (by omega), c3, c4, c5, c6⟩⟩
    obtain ⟨w12, v12⟩ := wn 12 (by omega) e12
    obtain ⟨s12, u12⟩ := tn 12 (by omega) e12
    have s12' : kX5_takes M (12 : Int32) := s12
    have u12' : vX5_takes M (12 : Int32) = (0, M) := u12
    unfold kX3_readItem_c105 vX3_readItem_c105 kX5_item_c62 vX5_item_c62
    rw [v12, if_pos rfl, u12', if_pos rfl]
    by_cases e13 : tok = 13
    · subst e13
      obtain ⟨y1, y2, y3, y4, y5, y6, y7, y8, y9, y10⟩ := word_yes hn hB h hb (k := 13) (by omega) ht
      have y5' : kX5_takes M (13 : Int32) := y5
      have y6' : vX5_takes M (13 : Int32) = (1, vX5_reads M) := y6
      obtain ⟨q1, q2, q3⟩ := takeHome_ok hn hB y7 y10 (E := E) (i := 4) (by omega)
      have q1' : kX3_takeHome (vX3_nextToken T) E (4 : Int32) := q1
      have q2' : kX5_number (vX5_reads M) (0 : Int32) (2 : Int32) := q2
      have c7t : ((7 : Int32)).toNatClampNeg = 3 + 4 := rfl
      unfold kX5_item_c89 vX5_item_c89
      rw [y4, y6', if_neg z1, if_neg z1, c7t]
      rcases q3 with ⟨T', M', v, a1, a2, a3, a4, a5, a6, a7, a8⟩ | ⟨u, a1, a2⟩
      · have a1' : vX3_takeHome (vX3_nextToken T) E (4 : Int32) = (1, T', e_s_home E (upd (e_home E) 4 (nI v))) := a1
        have a2' : vX5_number (vX5_reads M) (0 : Int32) (2 : Int32) = (nI v, M') := a2
        rw [a1', a2']
        refine ⟨⟨w11, fun _ => ⟨w12, fun _ => ⟨y3, fun g => absurd g z1, fun _ => ⟨q1', Or.inr rfl, trivial⟩⟩, fun g => absurd rfl g⟩, fun g => absurd rfl g⟩, ⟨s10', fun _ => ⟨s11', fun _ => ⟨s12', fun _ => ⟨y5', fun g => absurd g z1, fun _ => ⟨q2', trivial⟩⟩, fun g => absurd rfl g⟩, fun g => absurd rfl g⟩, fun g => absurd rfl g⟩, y8.trans (a7.trans (Fr_m M' _)), Or.inl ⟨sHome x 4 v, T', _, rfl, ?_, rE.home, ?_, w.home a4 (fun g => absurd g (by omega)), a6⟩⟩
        · obtain ⟨i1, i2, i3⟩ := a5.weak (show b + 1 ≤ b + 1 + 1 by omega)
          exact ⟨i1, i2.fr (Fr_m M' _), i3⟩
        · have em : m_m M' = m_m M := a8.trans y9
          rw [mm_s, em]
          exact rM.home (by omega)
      · have a1' : vX3_takeHome (vX3_nextToken T) E (4 : Int32) = (0, vX3_nextToken T, E) := a1
        have a2' : vX5_number (vX5_reads M) (0 : Int32) (2 : Int32) = (u, m_s_bad (vX5_reads M) 1) := a2
        rw [a1', a2']
        exact ⟨⟨w11, fun _ => ⟨w12, fun _ => ⟨y3, fun g => absurd g z1, fun _ => ⟨q1', Or.inl rfl, trivial⟩⟩, fun g => absurd rfl g⟩, fun g => absurd rfl g⟩, ⟨s10', fun _ => ⟨s11', fun _ => ⟨s12', fun _ => ⟨y5', fun g => absurd g z1, fun _ => ⟨q2', trivial⟩⟩, fun g => absurd rfl g⟩, fun g => absurd rfl g⟩, fun g => absurd rfl g⟩, y8.trans ((Fr_bad _ 1).trans (Fr_m _ _)), Or.inr ⟨_, _, rfl, y7.bd⟩⟩
    obtain ⟨w13, v13⟩ := wn 13 (by omega) e13
    obtain ⟨s13, u13⟩ := tn 13 (by omega) e13
    have s13' : kX5_takes M (13 : Int32) := s13
    have u13' : vX5_takes M (13 : Int32) = (0, M) := u13
    obtain ⟨w14, v14⟩ := wn 14 (by omega) e11
    unfold kX3_readItem_c121 vX3_readItem_c121 kX5_item_c89 vX5_item_c89
    rw [v13, if_pos rfl, u13', if_pos rfl, v14, if_pos rfl]
    exact ⟨⟨w11, fun _ => ⟨w12, fun _ => ⟨w13, fun _ => ⟨w14, fun _ => trivial, fun g => absurd rfl g⟩, fun g => absurd rfl g⟩, fun g => absurd rfl g⟩, fun g => absurd rfl g⟩, ⟨s10', fun _ => ⟨s11', fun _ => ⟨s12', fun _ => ⟨s13', fun _ => trivial, fun g => absurd rfl g⟩, fun g => absurd rfl g⟩, fun g => absurd rfl g⟩, fun g => absurd rfl g⟩, Fr_bad M 1, Or.inr ⟨T, E, rfl, h.bd⟩⟩
end TJ
