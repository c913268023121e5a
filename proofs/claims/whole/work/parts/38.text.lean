-- the whole text
def FrT (M M' : MS) : Prop := m_kept M' = m_kept M ∧ m_isKept M' = m_isKept M ∧ m_found M' = m_found M ∧ m_bitsOf M' = m_bitsOf M ∧ m_sizeOf M' = m_sizeOf M ∧ m_cells M' = m_cells M ∧ m_taped M' = 0
theorem Fr.t {M M' M'' : MS} (h : Fr M M') (g : FrT M' M'') : FrT M M'' := ⟨g.1.trans h.1, g.2.1.trans h.2.2.1, g.2.2.1.trans h.2.2.2.1, g.2.2.2.1.trans h.2.2.2.2.1, g.2.2.2.2.1.trans h.2.2.2.2.2.1, g.2.2.2.2.2.1.trans h.2.2.2.2.2.2.1, g.2.2.2.2.2.2⟩
theorem FrT_0 (M : MS) (b : Int32) : FrT M (m_s_taped (m_s_bad M b) 0) := ⟨rfl, rfl, rfl, rfl, rfl, rfl, rfl⟩
theorem FrT_1 (M : MS) (b : Int32) (f : FA) : FrT M (m_s_m (m_s_taped (m_s_bad M b) 0) f) := ⟨rfl, rfl, rfl, rfl, rfl, rfl, rfl⟩
theorem neg_q {q : Nat} (h : q ≤ 1000) : (-1 : Int32) - nI q < 0 := by
  have e : (-1 : Int32) - nI q = nI 0 - nI (1 + q) := by
    rw [← n_ssub]
    rfl
  rw [e]
  exact n_neg (by omega) (by omega)
section TX
variable {n : Nat} {B : Nat → Nat}
/-- the reference's end with a fault -/
theorem end_bad {M : MS} {x0 : AS} (w0 : WF x0) (r0 : RpM x0 (m_was M)) {q : Nat} (hq : m_begin M = nI q) (x1 : Int32) : kX5_text_c60 M x1 ∧ ∃ M', vX5_text_c60 M x1 = ((-1 : Int32) - nI q, M') ∧ RpM x0 (m_m M') ∧ FrT M M' := by
  have z : ¬ m_bad (m_s_taped (m_s_bad M 1) 0) = 0 := by
    show ¬ (1 : Int32) = 0
    decide
  obtain ⟨k, f, e1, e2⟩ := M_putsBack (M := m_s_taped (m_s_bad M 1) 0) r0 w0
  unfold kX5_text_c60 vX5_text_c60 kX5_text_c65 vX5_text_c65 kX5_text_c68 vX5_text_c68 kX5_text_c73 vX5_text_c73 vX5_text_c86
  rw [if_neg z, e1]
  refine ⟨⟨Or.inr rfl, fun g => absurd g z, fun _ => ⟨k, trivial⟩⟩, m_s_m (m_s_taped (m_s_bad M 1) 0) f, ?_, e2, FrT_1 M 1 f⟩
  have eb : m_begin (m_s_m (m_s_taped (m_s_bad M 1) 0) f) = nI q := hq
  rw [eb]
theorem items_L (hn : n ≤ 120) (hB : ∀ i, i < n → B i < 256) {x0 : AS} (w0 : WF x0) : ∀ (f i b : Nat) (T : TS) (E : ES) (M : MS) (x : AS), Tk n B b T M → m_bad M = 0 → RpE x E → RpM x (m_m M) → WF x → RpM x0 (m_was M) → 2 * i ≤ b + 2 → 1 ≤ i → 62 ≤ i + f → kX3_readItems_c11 f T E (nI i) ∧ kX5_item M ∧ kX5_text_c24 f (vX5_item M) (nI i) ∧ ((∃ j T' E' M' x', j ≤ 1000 ∧ vX3_readItems_c11 f T E (nI i) = (nI j, T', E') ∧ vX5_text_c24 f (vX5_item M) (nI i) = (nI j, M') ∧ RpE x' E' ∧ RpM x' (m_m M') ∧ WF x' ∧ FrT M M') ∨ ∃ q T' E' M', q ≤ 120 ∧ vX3_readItems_c11 f T E (nI i) = ((-1 : Int32) - nI q, T', E') ∧ vX5_text_c24 f (vX5_item M) (nI i) = ((-1 : Int32) - nI q, M') ∧ RpM x0 (m_m M') ∧ FrT M M')
  | 0, i, b, T, E, M, x, h, hb, rE, rM, w, r0, h1, h2, h3 => by
    obtain ⟨_, _, q, tok, c1, c2, _⟩ := h
    omega
  | f + 1, i, b, T, E, M, x, h, hb, rE, rM, w, r0, h1, h2, h3 => by
    have hi : i ≤ 61 := by
      obtain ⟨_, _, q, tok, c1, c2, _⟩ := id h
      omega
    have z1 : ¬ (1 : Int32) = 0 := by decide
    have c : ¬ (120 : Int32) < nI i := by rw [nz, n_lt (by omega) (by omega)]; omega
    obtain ⟨o1, o2, o3, o4⟩ := item_ok hn hB h hb rE rM w
    generalize vX5_item M = M1 at o3 o4 ⊢
    have r1 : RpM x0 (m_was M1) := by rw [o3.2.1]; exact r0
    unfold kX3_readItems_c11 vX3_readItems_c11 kX3_readItems_c22 vX3_readItems_c22 kX5_text_c24 vX5_text_c24 kX5_text_c30 vX5_text_c30
    rcases o4 with ⟨x', T1, E1, e1, t1, t2, t3, t4, t5⟩ | ⟨T1, E1, e1, t1, q, t2, t3, t4⟩
    · rw [e1, if_neg c, if_neg z1]
      obtain ⟨hT, hM, q, tok, c1, c2, c3, c4, c5, c6, c7, c8, c9, c10, c11, c12⟩ := id t1
      by_cases e22 : tok = 22
      · have s0 : t_sort T1 = 0 := c10.mpr e22
        have m22 : m_token M1 = (22 : Int32) := by rw [c5, e22]; rfl
        obtain ⟨k1, v1⟩ := takes_no (M := M1) c5 c6 (c := 21) (by omega) (by omega)
        have k1' : kX5_takes M1 (21 : Int32) := k1
        have v1' : vX5_takes M1 (21 : Int32) = (0, M1) := v1
        have zb : m_bad (m_s_taped (m_s_bad M1 0) 0) = 0 := rfl
        unfold kX5_text_c65 vX5_text_c65 kX5_text_c68 vX5_text_c68 kX5_text_c73 vX5_text_c73
        rw [if_pos s0, v1', if_pos rfl, if_pos t5, if_pos m22, if_pos zb]
        exact ⟨⟨fun g => absurd g c, fun _ => ⟨o1, fun g => absurd g z1, fun _ => ⟨fun _ => trivial, fun g => absurd s0 g⟩⟩⟩, o2, ⟨k1', fun _ => ⟨fun _ => ⟨fun _ => ⟨Or.inl rfl, fun _ => trivial, fun g => absurd zb g⟩, fun g => absurd m22 g⟩, fun g => absurd t5 g⟩, fun g => absurd rfl g⟩, Or.inl ⟨i, T1, E1, _, x', by omega, rfl, rfl, t2, t3, t4, o3.t (FrT_0 M1 0)⟩⟩
      · have s0 : ¬ t_sort T1 = 0 := fun g => e22 (c10.mp g)
        have m22 : ¬ m_token M1 = (22 : Int32) := by rw [c5, nz, n_eq (by omega) (by omega)]; exact e22
        rw [if_neg s0]
        by_cases e21 : tok = 21
        · have s3 : t_sort T1 = 3 := c9.mpr e21
          have m21 : m_token M1 = nI 21 := by rw [c5, e21]
          obtain ⟨n1, n2, n3, n4, n5, n6⟩ := step_ok hn hB t1 m21 (by omega)
          have v1 : vX5_takes M1 (21 : Int32) = (1, vX5_reads M1) := by
            have m21' : m_token M1 = (21 : Int32) := m21
            unfold vX5_takes
            rw [if_pos t5, if_pos m21']
          have k1 : kX5_takes M1 (21 : Int32) := by
            have m21' : m_token M1 = (21 : Int32) := m21
            unfold kX5_takes
            exact ⟨fun _ => ⟨fun _ => ⟨n2, trivial⟩, fun g => absurd m21' g⟩, fun g => absurd t5 g⟩
          have ei : nI i + (1 : Int32) = nI (i + 1) := by rw [nz, nI_add]
          obtain ⟨i1, i2, i3, i4⟩ := items_L hn hB w0 f (i + 1) (b + 2) (vX3_nextToken T1) E1 (vX5_reads M1) x' n3 (n6.trans t5) t2 (by rw [n5]; exact t3) t4 (by rw [n4.2.1]; exact r1) (by omega) (by omega) (by omega)
          unfold kX3_readItems_c60 vX3_readItems_c60 kX5_text_c37 vX5_text_c37
          rw [if_pos s3, v1, if_neg z1, ei]
          refine ⟨⟨fun g => absurd g c, fun _ => ⟨o1, fun g => absurd g z1, fun _ => ⟨fun g => absurd g s0, fun _ => ⟨fun _ => ⟨n1, i1⟩, fun g => absurd s3 g⟩⟩⟩⟩, o2, ⟨k1, fun g => absurd g z1, fun _ => ⟨i2, i3⟩⟩, ?_⟩
          rcases i4 with ⟨j, T', E', M', y, a1, a2, a3, a4, a5, a6, a7⟩ | ⟨j, T', E', M', a1, a2, a3, a4, a5⟩
          · exact Or.inl ⟨j, T', E', M', y, a1, a2, a3, a4, a5, a6, (o3.trans n4).t a7⟩
          · exact Or.inr ⟨j, T', E', M', a1, a2, a3, a4, (o3.trans n4).t a5⟩
        · have s3 : ¬ t_sort T1 = 3 := fun g => e21 (c9.mp g)
          obtain ⟨k1, v1⟩ := takes_no (M := M1) c5 c6 (c := 21) (by omega) e21
          have k1' : kX5_takes M1 (21 : Int32) := k1
          have v1' : vX5_takes M1 (21 : Int32) = (0, M1) := v1
          obtain ⟨g1, M', g2, g3, g4⟩ := end_bad w0 r1 c4 (nI i)
          rw [if_neg s3, v1', if_pos rfl, if_pos t5, if_neg m22, c3]
          exact ⟨⟨fun g => absurd g c, fun _ => ⟨o1, fun g => absurd g z1, fun _ => ⟨fun g => absurd g s0, fun _ => ⟨fun g => absurd g s3, fun _ => trivial⟩⟩⟩⟩, o2, ⟨k1', fun _ => ⟨fun _ => ⟨fun g => absurd g m22, fun _ => g1⟩, fun g => absurd t5 g⟩, fun g => absurd rfl g⟩, Or.inr ⟨q, T1, E1, M', by omega, rfl, g2, g3, o3.t g4⟩⟩
    · have zb : ¬ m_bad M1 = 0 := by rw [t1]; decide
      obtain ⟨k1, v1⟩ := takes_bad (M := M1) (21 : Int32) t1
      obtain ⟨g1, M', g2, g3, g4⟩ := end_bad w0 r1 t4 (nI i)
      rw [e1, if_neg c, if_pos rfl, v1, if_pos rfl, if_neg zb, t3]
      exact ⟨⟨fun g => absurd g c, fun _ => ⟨o1, fun _ => trivial, fun g => absurd rfl g⟩⟩, o2, ⟨k1, fun _ => ⟨fun g => absurd g zb, fun _ => g1⟩, fun g => absurd rfl g⟩, Or.inr ⟨q, T1, E1, M', by omega, rfl, g2, g3, o3.t g4⟩⟩
end TX
theorem RelT_0 (T : TS) (tape : FA) : RelT (t_s_length T 0) tape 0 := ⟨0, by omega, rfl, rfl, fun i hi => absurd hi (Nat.not_lt_zero i)⟩
theorem P_text {J : JS} {M : MS} (h : Rel J M) : OK (kX4_text J) (kX5_text M) (vX4_text J) (vX5_text M) := by
  obtain ⟨x, rE, rM, w⟩ := id h.1
  obtain ⟨n, hn, e1, e2, hb⟩ := id h.2.2.2.1
  obtain ⟨B, hB⟩ : ∃ B : Nat → Nat, ∀ i, i < n → B i < 256 ∧ m_tape M i = nI (B i) ∧ t_bytes (j_tape J) i = sby (B i) :=
    ⟨fun i => if q : i < n then (hb i q).choose else 0, fun i hi => by
      simp only [dif_pos hi]
      exact (hb i hi).choose_spec⟩
  have b := E_become (E := j_T J) rE w
  obtain ⟨k, g, q1, q2⟩ := M_thinks rM w
  unfold kX4_text kX5_text vX4_text vX5_text kX4_text_c11 vX4_text_c11 kX5_text_c4 vX5_text_c4 kX5_text_c9 vX5_text_c9 kX5_text_c14 vX5_text_c14 kX5_text_c18 vX5_text_c18 kX5_text_c22 vX5_text_c22 kX3_readItems vX3_readItems kX3_readItems_c5 vX3_readItems_c5 kX3_readItems_c9 vX3_readItems_c9
  rw [q1]
  generalize vX0_become (j_T J) (j_E J) = Q at b ⊢
  have e3 : j_tape (j_s_T J Q) = j_tape J := rfl
  have e4 : j_T (j_s_T J Q) = Q := rfl
  rw [e3, e4]
  obtain ⟨n1, n2, n3, n4, n5, n6, n7⟩ := nextTk hn (fun i hi => (hB i hi).1) (T := t_s_end (j_tape J) 0) (M := m_s_bad (m_s_at (m_s_was M g) 0) 0) (p := 0) ⟨e1, fun i hi => (hB i hi).2.2⟩ ⟨e2, fun i hi => (hB i hi).2.1⟩ (by omega) rfl rfl
  generalize vX3_nextToken (t_s_end (j_tape J) 0) = T1 at n3 ⊢
  generalize vX5_reads (m_s_bad (m_s_at (m_s_was M g) 0) 0) = M1 at n3 n4 n5 n6 ⊢
  obtain ⟨i1, i2, i3, i4⟩ := items_L hn (fun i hi => (hB i hi).1) w 1024 1 0 T1 Q M1 x n3 n6 b.2 (by rw [n5]; exact rM) w (by rw [n4.2.1]; exact q2) (by omega) (by omega) (by omega)
  have i1' : kX3_readItems_c11 1024 T1 Q (1 : Int32) := i1
  have i3' : kX5_text_c24 1024 (vX5_item M1) (1 : Int32) := i3
  have fr0 : Fr M (m_s_bad (m_s_at (m_s_was M g) 0) 0) ∨ True := Or.inr trivial
  rcases i4 with ⟨j, T', E', M', x', a1, a2, a3, a4, a5, a6, a7⟩ | ⟨q, T', E', M', a1, a2, a3, a4, a5⟩
  · have a2' : vX3_readItems_c11 1024 T1 Q (1 : Int32) = (nI j, T', E') := a2
    have a3' : vX5_text_c24 1024 (vX5_item M1) (1 : Int32) = (nI j, M') := a3
    rw [a2', a3']
    unfold kX4_text_c22 vX4_text_c22 vX4_text_c38
    have np : ¬ nI j < (0 : Int32) := nI_pos (by omega)
    have bb := E_become (E := j_E J) a4 a6
    have e5 : j_E (j_s_T (j_s_tape (j_s_T J Q) T') E') = j_E J := rfl
    have e6 : j_T (j_s_T (j_s_tape (j_s_T J Q) T') E') = E' := rfl
    rw [e5, e6, if_neg np]
    generalize vX0_become (j_E J) E' = Q2 at bb ⊢
    obtain ⟨f1, f2, f3, f4, f5, f6, f7⟩ := n4.t a7
    refine ⟨⟨b.1, ⟨n1, i1'⟩, fun g => absurd g np, fun _ => ⟨bb.1, trivial⟩⟩, ⟨k, n2, i2, i3'⟩, rfl, ⟨x', bb.2, a5, a6⟩, ?_, ?_, ?_, ?_⟩
    · rw [f1, f2]; exact h.2.1
    · rw [f3]; exact h.2.2.1
    · rw [f7]; exact RelT_0 _ _
    · rw [f4, f5, f6]; exact h.2.2.2.2
  · have a2' : vX3_readItems_c11 1024 T1 Q (1 : Int32) = ((-1 : Int32) - nI q, T', E') := a2
    have a3' : vX5_text_c24 1024 (vX5_item M1) (1 : Int32) = ((-1 : Int32) - nI q, M') := a3
    rw [a2', a3']
    unfold kX4_text_c22 vX4_text_c22 vX4_text_c38
    have np : (-1 : Int32) - nI q < 0 := neg_q (by omega)
    rw [if_pos np]
    obtain ⟨f1, f2, f3, f4, f5, f6, f7⟩ := n4.t a5
    refine ⟨⟨b.1, ⟨n1, i1'⟩, fun _ => trivial, fun g => absurd np g⟩, ⟨k, n2, i2, i3'⟩, rfl, ⟨x, rE, a4, w⟩, ?_, ?_, ?_, ?_⟩
    · rw [f1, f2]; exact h.2.1
    · rw [f3]; exact h.2.2.1
    · rw [f7]; exact RelT_0 _ _
    · rw [f4, f5, f6]; exact h.2.2.2.2
