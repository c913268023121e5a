-- both readers: an item
def IOut (n : Nat) (B : Nat → Nat) (b : Nat) (kj km : Prop) (r : Int32 × TS × ES) (M M' : MS) : Prop := kj ∧ km ∧ Fr M M' ∧ ((∃ x' T' E', r = (1, T', E') ∧ Tk n B b T' M' ∧ RpE x' E' ∧ RpM x' (m_m M') ∧ WF x' ∧ m_bad M' = 0) ∨ ∃ T' E', r = (0, T', E') ∧ Bd n T' M')
theorem wk_all : ∀ k, k < 7 → vX3_wordOfKind (nI k) < 15 ∧ cd (vX3_wordOfKind (nI k)) = k := by decide +kernel
theorem wt_all : vX3_wordOfTrait (nI 2) = 7 ∧ vX3_wordOfTrait (nI 3) = 10 ∧ vX3_wordOfTrait (nI 4) = 8 ∧ vX3_wordOfTrait (nI 5) = 10 ∧ vX3_wordOfTrait (nI 6) = 9 := by decide +kernel
section TI
variable {n : Nat} {B : Nat → Nat} {b : Nat} {T : TS} {M : MS}
theorem th82_bad (x1 x2 x3 x4 y : Int32) (h : m_bad M = 1) : kX5_thingItem_c82 M x1 x2 x3 x4 y ∧ vX5_thingItem_c82 M x1 x2 x3 x4 y = M := by
  have z : ¬ m_bad M = 0 := by rw [h]; decide
  unfold kX5_thingItem_c82 vX5_thingItem_c82
  rw [if_neg z]
  exact ⟨⟨fun g => absurd g z, fun _ => trivial⟩, rfl⟩
theorem th69_bad (x1 x2 x3 y : Int32) (h : m_bad M = 1) : kX5_thingItem_c69 M x1 x2 x3 y ∧ vX5_thingItem_c69 M x1 x2 x3 y = M := by
  obtain ⟨p1, p2⟩ := perh_bad (M := M) (9 : Int32) (0 : Int32) (999 : Int32) (0 : Int32) h
  unfold kX5_thingItem_c69 vX5_thingItem_c69
  rw [p2]
  have t := th82_bad x1 x2 x3 y 0 h
  exact ⟨⟨p1, t.1⟩, t.2⟩
theorem th57_bad (x1 x2 y : Int32) (h : m_bad M = 1) : kX5_thingItem_c57 M x1 x2 y ∧ vX5_thingItem_c57 M x1 x2 y = M := by
  obtain ⟨p1, p2⟩ := perh_bad (M := M) (8 : Int32) (0 : Int32) (99 : Int32) (99 : Int32) h
  unfold kX5_thingItem_c57 vX5_thingItem_c57
  rw [p2]
  have t := th69_bad x1 x2 y 99 h
  exact ⟨⟨p1, t.1⟩, t.2⟩
theorem th45_bad (x1 y : Int32) (h : m_bad M = 1) : kX5_thingItem_c45 M x1 y ∧ vX5_thingItem_c45 M x1 y = M := by
  obtain ⟨p1, p2⟩ := perh_bad (M := M) (7 : Int32) (0 : Int32) (9999 : Int32) (0 : Int32) h
  unfold kX5_thingItem_c45 vX5_thingItem_c45
  rw [p2]
  have t := th57_bad x1 y 0 h
  exact ⟨⟨p1, t.1⟩, t.2⟩
theorem th_skip (h : Tk n B b T M) {E : ES} {x3 p2 : Int32} {u : Nat} (hu : u < 7) (hw : vX3_wordOfTrait (nI u) = 10) (f : Nat) : (kX3_readThing_c43 p2 f T E x3 (nI (u + 1)) → kX3_readThing_c43 p2 (f + 1) T E x3 (nI u)) ∧ vX3_readThing_c43 p2 (f + 1) T E x3 (nI u) = vX3_readThing_c43 p2 f T E x3 (nI (u + 1)) := by
  obtain ⟨tok, t1, t2⟩ := h.tok
  obtain ⟨w1, w2, w3, w4⟩ := word_no h t2 t1 (k := 10) (by omega) (by show tok ≠ 99; omega)
  have c : ¬ (7 : Int32) ≤ nI u := by rw [nz, n_le (by omega) (by omega)]; omega
  have ei : nI u + (1 : Int32) = nI (u + 1) := by rw [nz, nI_add]
  rw [kX3_readThing_c43, vX3_readThing_c43]
  unfold kX3_readThing_c59 vX3_readThing_c59 kX3_readThing_c89 vX3_readThing_c89
  rw [hw, w4, if_neg c, if_pos rfl, ei]
  exact ⟨fun k => ⟨fun g => absurd g c, fun _ => ⟨by omega, w3, fun _ => k, fun g => absurd rfl g⟩⟩, rfl⟩
theorem th_end (T : TS) (E : ES) (x3 p2 : Int32) (f : Nat) : kX3_readThing_c43 p2 (f + 1) T E x3 (nI 7) ∧ vX3_readThing_c43 p2 (f + 1) T E x3 (nI 7) = (1, T, E) := by
  have c : (7 : Int32) ≤ nI 7 := by decide
  rw [kX3_readThing_c43, vX3_readThing_c43, if_pos c]
  exact ⟨⟨fun _ => trivial, fun g => absurd c g⟩, rfl⟩
theorem th_perh (hn : n ≤ 120) (hB : ∀ i, i < n → B i < 256) (h : Tk n B b T M) (hb : m_bad M = 0) {y : AS} {E : ES} (rE : RpE y E) (wy : WF y) {t u k d : Nat} (ht : t < a_things y) (hu : u < 7) (hw : vX3_wordOfTrait (nI u) = k) (hk : k < 15) (hk2 : cd k < 14) (hd : a_tr y t u = d) (p2 : Int32) (f : Nat) : kX5_perhaps M (nI (cd k)) (nI 0) (nI (tMost u)) (nI d) ∧ ((∃ T' E' M' v, vX5_perhaps M (nI (cd k)) (nI 0) (nI (tMost u)) (nI d) = (nI v, M') ∧ Tk n B b T' M' ∧ m_bad M' = 0 ∧ Fr M M' ∧ m_m M' = m_m M ∧ v ≤ tMost u ∧ RpE (sPut y t u v) E' ∧ (kX3_readThing_c43 p2 f T' E' (nI t) (nI (u + 1)) → kX3_readThing_c43 p2 (f + 1) T E (nI t) (nI u)) ∧ vX3_readThing_c43 p2 (f + 1) T E (nI t) (nI u) = vX3_readThing_c43 p2 f T' E' (nI t) (nI (u + 1))) ∨ ∃ T' w M', vX5_perhaps M (nI (cd k)) (nI 0) (nI (tMost u)) (nI d) = (w, M') ∧ Bd n T' M' ∧ Fr M M' ∧ kX3_readThing_c43 p2 (f + 1) T E (nI t) (nI u) ∧ vX3_readThing_c43 p2 (f + 1) T E (nI t) (nI u) = (0, T', E)) := by
  have hm := hMostv u (by omega)
  obtain ⟨p, q, r⟩ := perh_ok hn hB h hb hk hk2 (tMost_le u) (nI d)
  refine ⟨p, ?_⟩
  have c : ¬ (7 : Int32) ≤ nI u := by rw [nz, n_le (by omega) (by omega)]; omega
  have ei : nI u + (1 : Int32) = nI (u + 1) := by rw [nz, nI_add]
  have z1 : ¬ (1 : Int32) = 0 := by decide
  have hin : vp_in (nI u) 7 := n_in (by omega) (by omega)
  rw [kX3_readThing_c43, vX3_readThing_c43]
  unfold kX3_readThing_c59 vX3_readThing_c59 kX3_readThing_c73 vX3_readThing_c73 kX3_readThing_c89 vX3_readThing_c89
  rw [hw, if_neg c, n_cl (by omega : u < 2147483648), hm.2.2.1, ei]
  rcases r with ⟨e1, e2⟩ | ⟨T1, e1, k1, ⟨T', M', v, e2, e3, e4, e5, e6, e7, e8, e9⟩ | ⟨w, M', e2, e3, e4, e5⟩⟩
  · rw [e1, if_pos rfl]
    refine Or.inl ⟨T, E, M, d, e2, h, hb, Fr.refl M, rfl, ?_, ?_, fun kk => ⟨fun g => absurd g c, fun _ => ⟨hk, q, fun _ => kk, fun g => absurd rfl g⟩⟩, rfl⟩
    · rw [← hd]; exact wy.2.2.2.2.2.1 t ht u hu
    · exact rE.tr (f := fun t' u' => if t' = t ∧ u' = u then d else a_tr y t' u') (fun t' _ u' _ => by
        by_cases e : t' = t ∧ u' = u
        · rw [if_pos e, e.1, e.2, hd]
        · rw [if_neg e])
  · have e2' : vX3_takeNumber T1 (0 : Int32) (nI (tMost u)) = (1, T') := e2
    have k1' : kX3_takeNumber T1 (0 : Int32) (nI (tMost u)) := k1
    rw [e1, if_neg z1, e2', if_neg z1, e5]
    refine Or.inl ⟨T', _, M', v, e3, e6, e7, e8, e9, e4, E_put rE wy ht hu, fun kk => ⟨fun g => absurd g c, fun _ => ⟨hk, q, fun g => absurd g z1, fun _ => ⟨hin, k1', fun g => absurd g z1, fun _ => ⟨E_putk wy ht hu, kk⟩⟩⟩⟩, rfl⟩
  · have e2' : vX3_takeNumber T1 (0 : Int32) (nI (tMost u)) = (0, T1) := e2
    have k1' : kX3_takeNumber T1 (0 : Int32) (nI (tMost u)) := k1
    rw [e1, if_neg z1, e2', if_pos rfl]
    exact Or.inr ⟨T1, w, M', e3, e4, e5, ⟨fun g => absurd g c, fun _ => ⟨hk, q, fun g => absurd g z1, fun _ => ⟨hin, k1', fun _ => trivial, fun g => absurd rfl g⟩⟩⟩, rfl⟩
theorem thing_ok (hn : n ≤ 120) (hB : ∀ i, i < n → B i < 256) (h : Tk n B b T M) (hb : m_bad M = 0) {x : AS} {E : ES} (rE : RpE x E) (rM : RpM x (m_m M)) (w : WF x) {kd : Nat} (hkd : kd ≤ 6) (htok : m_token M = nI kd) : IOut n B (b + 1) (kX3_readThing T E (nI kd)) (kX5_thingItem M) (vX3_readThing T E (nI kd)) M (vX5_thingItem M) := by
  have h8 := w.1
  have z1 : ¬ (1 : Int32) = 0 := by decide
  unfold IOut kX3_readThing vX3_readThing kX5_thingItem vX5_thingItem kX5_thingItem_c22 vX5_thingItem_c22 kX5_thingItem_c25 vX5_thingItem_c25
  rw [rE.1, c2t, rM.1, htok, bad_self hb]
  by_cases full : a_things x < 8
  · have c3 : nI (a_things x) < (8 : Int32) := by rw [nz, n_lt (by omega) (by omega)]; exact full
    have c4 : ¬ nI (a_things x) = (8 : Int32) := by rw [nz, n_eq (by omega) (by omega)]; omega
    obtain ⟨s1, s2, s3, s4, s5, s6⟩ := step_ok hn hB h htok (by omega)
    rw [if_pos c3, if_neg c4, if_pos hb]
    generalize vX3_nextToken T = T1 at s3 ⊢
    generalize vX5_reads M = M1 at s3 s4 s5 s6 ⊢
    have hb1 : m_bad M1 = 0 := s6.trans hb
    obtain ⟨n1, n2, n3⟩ := num_ok hn hB s3 hb1 (lo := 0) (hi := 999) (by omega) (by omega)
    have n1' : kX3_takeNumber T1 (0 : Int32) (999 : Int32) := n1
    have n2' : kX5_number M1 (0 : Int32) (999 : Int32) := n2
    have j1 : jTM.getD ((1 : Int32)).toNatClampNeg 0 = (999 : Int32) := by decide
    suffices g : (kX3_readThing_c15 (nI kd) T1 E) ∧ (kX5_thingItem_c37 M1 (nI kd)) ∧ Fr M1 (vX5_thingItem_c37 M1 (nI kd)) ∧ ((∃ x' T' E', vX3_readThing_c15 (nI kd) T1 E = (1, T', E') ∧ Tk n B (b + 1) T' (vX5_thingItem_c37 M1 (nI kd)) ∧ RpE x' E' ∧ RpM x' (m_m (vX5_thingItem_c37 M1 (nI kd))) ∧ WF x' ∧ m_bad (vX5_thingItem_c37 M1 (nI kd)) = 0) ∨ ∃ T' E', vX3_readThing_c15 (nI kd) T1 E = (0, T', E') ∧ Bd n T' (vX5_thingItem_c37 M1 (nI kd))) from ⟨⟨fun _ => ⟨s1, g.1⟩, fun q => absurd c3 q⟩, ⟨fun q => absurd q c4, fun _ => ⟨Or.inl rfl, fun _ => ⟨s2, g.2.1⟩, fun q => absurd hb q⟩⟩, s4.trans g.2.2.1, g.2.2.2⟩
    unfold kX3_readThing_c15 vX3_readThing_c15 kX3_readThing_c25 vX3_readThing_c25 kX3_readThing_c39 vX3_readThing_c39 kX5_thingItem_c37 vX5_thingItem_c37
    rw [j1]
    rcases n3 with ⟨T2, M2, p, a1, a2, a3, a4, a5, a6, a7, a8, a9⟩ | ⟨u, a1, a2⟩
    · have a1' : vX3_takeNumber T1 (0 : Int32) (999 : Int32) = (1, T2) := a1
      have a2' : vX5_number M1 (0 : Int32) (999 : Int32) = (nI p, M2) := a2
      rw [a1', a2', if_neg z1, a5]
      have ad := E_add rE full (k := kd) (p := p)
      rw [ad.2.1]
      generalize vX0_add E (nI kd) (nI p) = R at ad ⊢
      have wy := w.add full hkd (show p ≤ 999 by omega)
      have ht : a_things x < a_things (sAdd x kd p) := Nat.lt_succ_self _
      have d2 : a_tr (sAdd x kd p) (a_things x) 2 = 0 := by
        show (if a_things x = a_things x then (if 2 = 0 then kd else if 2 = 1 then p else if 2 = 3 then 99 else if 2 = 4 then 99 else 0) else a_tr x (a_things x) 2) = 0
        simp
      have d4 : a_tr (sAdd x kd p) (a_things x) 4 = 99 := by
        show (if a_things x = a_things x then (if 4 = 0 then kd else if 4 = 1 then p else if 4 = 3 then 99 else if 4 = 4 then 99 else 0) else a_tr x (a_things x) 4) = 99
        simp
      have d6 : a_tr (sAdd x kd p) (a_things x) 6 = 0 := by
        show (if a_things x = a_things x then (if 6 = 0 then kd else if 6 = 1 then p else if 6 = 3 then 99 else if 6 = 4 then 99 else 0) else a_tr x (a_things x) 6) = 0
        simp
      have wt := wt_all
      have tb := th_perh hn hB a6 a7 ad.2.2 wy ht (u := 2) (by omega) wt.1 (by omega) (by decide) d2 (nI kd) 1023
      obtain ⟨pk1, o1⟩ := tb
      have pk1' : kX5_perhaps M2 (7 : Int32) (0 : Int32) (9999 : Int32) (0 : Int32) := pk1
      unfold kX5_thingItem_c45 vX5_thingItem_c45
      rcases o1 with ⟨T3, E3, M3, v2, q1, q2, q3, q4, q5, q6, q7, q8, q9⟩ | ⟨T3, u, M3, q1, q2, q3, q4, q5⟩
      · have q1' : vX5_perhaps M2 (7 : Int32) (0 : Int32) (9999 : Int32) (0 : Int32) = (nI v2, M3) := q1
        have w3 : WF (sPut (sAdd x kd p) (a_things x) 2 v2) := wy.put q6
        have sk3 := th_skip q2 (E := E3) (x3 := nI (a_things x)) (p2 := nI kd) (u := 3) (by omega) wt.2.1 1022
        have d4' : a_tr (sPut (sAdd x kd p) (a_things x) 2 v2) (a_things x) 4 = 99 := by
          show (if a_things x = a_things x ∧ 4 = 2 then v2 else a_tr (sAdd x kd p) (a_things x) 4) = 99
          rw [if_neg (by omega), d4]
        obtain ⟨pk2, o2⟩ := th_perh hn hB q2 q3 q7 w3 (t := a_things x) ht (u := 4) (by omega) wt.2.2.1 (by omega) (by decide) d4' (nI kd) 1021
        have pk2' : kX5_perhaps M3 (8 : Int32) (0 : Int32) (99 : Int32) (99 : Int32) := pk2
        unfold kX5_thingItem_c57 vX5_thingItem_c57
        rcases o2 with ⟨T4, E4, M4, v4, r1, r2, r3, r4, r5, r6, r7, r8, r9⟩ | ⟨T4, u, M4, r1, r2, r3, r4, r5⟩
        · have r1' : vX5_perhaps M3 (8 : Int32) (0 : Int32) (99 : Int32) (99 : Int32) = (nI v4, M4) := r1
          have w4 : WF (sPut (sPut (sAdd x kd p) (a_things x) 2 v2) (a_things x) 4 v4) := w3.put r6
          have sk5 := th_skip r2 (E := E4) (x3 := nI (a_things x)) (p2 := nI kd) (u := 5) (by omega) wt.2.2.2.1 1020
          have d6' : a_tr (sPut (sPut (sAdd x kd p) (a_things x) 2 v2) (a_things x) 4 v4) (a_things x) 6 = 0 := by
            show (if a_things x = a_things x ∧ 6 = 4 then v4 else if a_things x = a_things x ∧ 6 = 2 then v2 else a_tr (sAdd x kd p) (a_things x) 6) = 0
            rw [if_neg (by omega), if_neg (by omega), d6]
          obtain ⟨pk3, o3⟩ := th_perh hn hB r2 r3 r7 w4 (t := a_things x) ht (u := 6) (by omega) wt.2.2.2.2 (by omega) (by decide) d6' (nI kd) 1019
          have pk3' : kX5_perhaps M4 (9 : Int32) (0 : Int32) (999 : Int32) (0 : Int32) := pk3
          unfold kX5_thingItem_c69 vX5_thingItem_c69
          rcases o3 with ⟨T5, E5, M5, v6, t1, t2, t3, t4, t5, t6, t7, t8, t9⟩ | ⟨T5, u, M5, t1, t2, t3, t4, t5⟩
          · have t1' : vX5_perhaps M4 (9 : Int32) (0 : Int32) (999 : Int32) (0 : Int32) = (nI v6, M5) := t1
            have w5 : WF (sPut (sPut (sPut (sAdd x kd p) (a_things x) 2 v2) (a_things x) 4 v4) (a_things x) 6 v6) := w4.put t6
            have en := th_end T5 E5 (nI (a_things x)) (nI kd) 1018
            have cv : vX3_readThing_c43 (nI kd) 1024 T2 R.2 (nI (a_things x)) (2 : Int32) = (1, T5, E5) := q9.trans (sk3.2.trans (r9.trans (sk5.2.trans (t9.trans en.2))))
            have ck : kX3_readThing_c43 (nI kd) 1024 T2 R.2 (nI (a_things x)) (2 : Int32) := q8 (sk3.1 (r8 (sk5.1 (t8 en.1))))
            have em : m_m M5 = m_m M := t5.trans (r5.trans (q5.trans (a9.trans s5)))
            have rM5 : RpM x (m_m M5) := by rw [em]; exact rM
            obtain ⟨k5, f1, g1, g2⟩ := M_comes rM5 full (k := kd) (p := p)
            obtain ⟨f2, g3, g4⟩ := M_put (M := m_s_m M5 f1) (v := v2) g2 wy (t := a_things x) ht (by decide : 2 < 7)
            have g3' : vX5_put (m_s_m M5 f1) (nI (a_things x)) (2 : Int32) (nI v2) = m_s_m (m_s_m M5 f1) f2 := g3
            rw [mm_ss] at g3'
            obtain ⟨f3, g5, g6⟩ := M_put (M := m_s_m M5 f2) (v := v4) g4 w3 (t := a_things x) ht (by decide : 4 < 7)
            have g5' : vX5_put (m_s_m M5 f2) (nI (a_things x)) (4 : Int32) (nI v4) = m_s_m (m_s_m M5 f2) f3 := g5
            rw [mm_ss] at g5'
            obtain ⟨f4, g7, g8⟩ := M_put (M := m_s_m M5 f3) (v := v6) g6 w4 (t := a_things x) ht (by decide : 6 < 7)
            have g7' : vX5_put (m_s_m M5 f3) (nI (a_things x)) (6 : Int32) (nI v6) = m_s_m (m_s_m M5 f3) f4 := g7
            rw [mm_ss] at g7'
            have h1 : kX5_put (m_s_m M5 f1) (nI (a_things x)) (2 : Int32) (nI v2) := m_putk_ix _ _ full (by decide : 2 < 7)
            have h2 : kX5_put (m_s_m M5 f2) (nI (a_things x)) (4 : Int32) (nI v4) := m_putk_ix _ _ full (by decide : 4 < 7)
            have h3 : kX5_put (m_s_m M5 f3) (nI (a_things x)) (6 : Int32) (nI v6) := m_putk_ix _ _ full (by decide : 6 < 7)
            have c8 : kX5_thingItem_c82 M5 (nI kd) (nI p) (nI v2) (nI v4) (nI v6) ∧ vX5_thingItem_c82 M5 (nI kd) (nI p) (nI v2) (nI v4) (nI v6) = m_s_m M5 f4 := by
              unfold kX5_thingItem_c82 vX5_thingItem_c82 kX5_thingItem_c97 vX5_thingItem_c97 kX5_thingItem_c107 vX5_thingItem_c107 kX5_thingItem_c116 vX5_thingItem_c116
              rw [if_pos t3, g1, g3', g5', g7']
              exact ⟨⟨fun _ => ⟨k5, h1, h2, h3, trivial⟩, fun q => absurd t3 q⟩, rfl⟩
            have fr : Fr M1 (m_s_m M5 f4) := a8.trans (q4.trans (r4.trans (t4.trans (Fr_m M5 f4))))
            rw [q1', r1', t1', c8.2, cv]
            refine ⟨⟨n1', fun g => absurd g z1, fun _ => ⟨ad.1, ck⟩⟩, ⟨n2', pk1', pk2', pk3', c8.1⟩, fr, Or.inl ⟨_, T5, E5, rfl, ?_, t7, g8, w5, t3⟩⟩
            obtain ⟨i1, i2, i3⟩ := t2.weak (show b + 1 ≤ b + 1 + 1 by omega)
            exact ⟨i1, i2.fr (Fr_m M5 f4), i3⟩
          · have t1' : vX5_perhaps M4 (9 : Int32) (0 : Int32) (999 : Int32) (0 : Int32) = (u, M5) := t1
            have tb := th82_bad (M := M5) (nI kd) (nI p) (nI v2) (nI v4) u t2.1
            have cv : vX3_readThing_c43 (nI kd) 1024 T2 R.2 (nI (a_things x)) (2 : Int32) = (0, T5, E4) := q9.trans (sk3.2.trans (r9.trans (sk5.2.trans t5)))
            have ck : kX3_readThing_c43 (nI kd) 1024 T2 R.2 (nI (a_things x)) (2 : Int32) := q8 (sk3.1 (r8 (sk5.1 t4)))
            rw [q1', r1', t1', tb.2, cv]
            exact ⟨⟨n1', fun g => absurd g z1, fun _ => ⟨ad.1, ck⟩⟩, ⟨n2', pk1', pk2', pk3', tb.1⟩, a8.trans (q4.trans (r4.trans t3)), Or.inr ⟨T5, E4, rfl, t2⟩⟩
        · have r1' : vX5_perhaps M3 (8 : Int32) (0 : Int32) (99 : Int32) (99 : Int32) = (u, M4) := r1
          have tb := th69_bad (M := M4) (nI kd) (nI p) (nI v2) u r2.1
          have cv : vX3_readThing_c43 (nI kd) 1024 T2 R.2 (nI (a_things x)) (2 : Int32) = (0, T4, E3) := q9.trans (sk3.2.trans r5)
          have ck : kX3_readThing_c43 (nI kd) 1024 T2 R.2 (nI (a_things x)) (2 : Int32) := q8 (sk3.1 r4)
          rw [q1', r1', tb.2, cv]
          exact ⟨⟨n1', fun g => absurd g z1, fun _ => ⟨ad.1, ck⟩⟩, ⟨n2', pk1', pk2', tb.1⟩, a8.trans (q4.trans r3), Or.inr ⟨T4, E3, rfl, r2⟩⟩
      · have q1' : vX5_perhaps M2 (7 : Int32) (0 : Int32) (9999 : Int32) (0 : Int32) = (u, M3) := q1
        have tb := th57_bad (M := M3) (nI kd) (nI p) u q2.1
        have cv : vX3_readThing_c43 (nI kd) 1024 T2 R.2 (nI (a_things x)) (2 : Int32) = (0, T3, R.2) := q5
        have ck : kX3_readThing_c43 (nI kd) 1024 T2 R.2 (nI (a_things x)) (2 : Int32) := q4
        rw [q1', tb.2, cv]
        exact ⟨⟨n1', fun g => absurd g z1, fun _ => ⟨ad.1, ck⟩⟩, ⟨n2', pk1', tb.1⟩, a8.trans q3, Or.inr ⟨T3, R.2, rfl, q2⟩⟩
    · have a1' : vX3_takeNumber T1 (0 : Int32) (999 : Int32) = (0, T1) := a1
      have a2' : vX5_number M1 (0 : Int32) (999 : Int32) = (u, m_s_bad M1 1) := a2
      have tb := th45_bad (M := m_s_bad M1 1) (nI kd) u rfl
      rw [a1', a2', if_pos rfl, tb.2]
      exact ⟨⟨n1', fun _ => trivial, fun g => absurd rfl g⟩, ⟨n2', tb.1⟩, Fr_bad _ _, Or.inr ⟨T1, E, rfl, s3.bd⟩⟩
  · have c3 : ¬ nI (a_things x) < (8 : Int32) := by rw [nz, n_lt (by omega) (by omega)]; exact full
    have c4 : nI (a_things x) = (8 : Int32) := by rw [nz, n_eq (by omega) (by omega)]; omega
    have zb : ¬ m_bad (m_s_bad M 1) = 0 := z1
    rw [if_neg c3, if_pos c4, if_neg zb]
    exact ⟨⟨fun q => absurd q c3, fun _ => trivial⟩, ⟨fun _ => ⟨Or.inr rfl, fun g => absurd g zb, fun _ => trivial⟩, fun q => absurd c4 q⟩, Fr_bad M 1, Or.inr ⟨T, E, rfl, h.bd⟩⟩
end TI
