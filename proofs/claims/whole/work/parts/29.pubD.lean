-- told awards
/-- from i on, r numbers c are any (-1) or as a says: 1, else 0 -/
def sTell (c : Nat → Int32) (a : Nat → Nat) : Nat → Nat → Int32
  | _, 0 => 1
  | i, n + 1 => if c i = -1 then sTell c a (i + 1) n else if c i = nI (a i) then sTell c a (i + 1) n else 0
theorem sTell01 (c : Nat → Int32) (a : Nat → Nat) : ∀ n i, sTell c a i n = 0 ∨ sTell c a i n = 1
  | 0, _ => Or.inr rfl
  | n + 1, i => by
    unfold sTell
    split
    · exact sTell01 c a n (i + 1)
    · split
      · exact sTell01 c a n (i + 1)
      · exact Or.inl rfl
theorem sTell_eq {c c' : Nat → Int32} {a a' : Nat → Nat} : ∀ n i, (∀ j, i ≤ j → j < i + n → c j = c' j ∧ a j = a' j) → sTell c a i n = sTell c' a' i n
  | 0, _, _ => rfl
  | n + 1, i, h => by
    unfold sTell
    have h0 := h i (Nat.le_refl i) (by omega)
    rw [h0.1, h0.2, sTell_eq n (i + 1) (fun j h1 h2 => h j (by omega) (by omega))]
section PM
variable {J : JS} {M : MS}
theorem M_tell {x y : AS} (w : WF x) {g : FA} (rg : RpM x g) (wy : WF y) {t s z : Nat} (ht : t < a_things y) (hs : s < 4) (hz : z ≤ 40) (e1 : m_sizeOf M s = nI z) : ∀ (r i n : Nat) (f : FA), RpM (sDays y i) f → i + r = min z 10 → r + 1 < n → kX5_isTold_c5 (nI s) (nI t) n (m_s_m (m_s_was M g) f) 1 (nI i) ∧ ∃ f', vX5_isTold_c5 (nI s) (nI t) n (m_s_m (m_s_was M g) f) 1 (nI i) = (sTell (fun j => m_cells M (40 * s + j)) (fun j => sAward (sDays y j) t) i r, m_s_m (m_s_was M g) f') ∧ RpM x f'
  | r, i, 0, f, rf, h1, h2 => by omega
  | 0, i, n + 1, f, rf, h1, h2 => by
    have hin : vp_in (nI s) 4 := n_in (by omega) (by omega)
    obtain ⟨k, f', e2, e3⟩ := M_putsBack (M := m_s_m (m_s_was M g) f) rg w
    rw [mm_ss] at e2
    have es : m_sizeOf (m_s_m (m_s_was M g) f) s = nI z := e1
    unfold kX5_isTold_c5 vX5_isTold_c5 kX5_isTold_c73 vX5_isTold_c73
    rw [n_cl (by omega : s < 2147483648), es, e2]
    by_cases c : z ≤ i
    · have c1 : nI z ≤ nI i := by rw [n_le (by omega) (by omega)]; exact c
      rw [if_pos c1]
      exact ⟨⟨hin, fun _ => ⟨k, Or.inr rfl, trivial⟩, fun q => absurd c1 q⟩, f', rfl, e3⟩
    · have c1 : ¬ nI z ≤ nI i := by rw [n_le (by omega) (by omega)]; exact c
      have c2 : (10 : Int32) ≤ nI i := by rw [nz, n_le (by omega) (by omega)]; omega
      rw [if_neg c1, if_pos c2]
      exact ⟨⟨hin, fun q => absurd q c1, fun _ => ⟨fun _ => ⟨k, Or.inr rfl, trivial⟩, fun q => absurd c2 q⟩⟩, f', rfl, e3⟩
  | r + 1, i, n + 1, f, rf, h1, h2 => by
    have hin : vp_in (nI s) 4 := n_in (by omega) (by omega)
    have es : m_sizeOf (m_s_m (m_s_was M g) f) s = nI z := e1
    have ex : (40 : Int32) * nI s + nI i = nI (40 * s + i) := by rw [nz, pk_mul, nI_add]
    have hin3 : vp_in (nI (40 * s + i)) 160 := n_in (by omega) (by omega)
    have ei : nI i + (1 : Int32) = nI (i + 1) := by rw [nz, nI_add]
    have ec : m_cells (m_s_m (m_s_was M g) f) (40 * s + i) = m_cells M (40 * s + i) := rfl
    have wi := wy.days i
    have ht' : t < a_things (sDays y i) := by rw [sDays_things]; exact ht
    have aw := M_award (M := m_s_m (m_s_was M g) f) rf wi ht'
    have ak := M_awardk (M := m_s_m (m_s_was M g) f) rf wi ht'
    obtain ⟨kg, f2, g1, g2⟩ := M_goes (M := m_s_m (m_s_was M g) f) rf wi
    rw [mm_ss] at g1
    have c1 : ¬ nI z ≤ nI i := by rw [n_le (by omega) (by omega)]; omega
    have c2 : ¬ (10 : Int32) ≤ nI i := by rw [nz, n_le (by omega) (by omega)]; omega
    have c3 : ¬ (1 : Int32) = 0 := by decide
    obtain ⟨k5, f5, g5, r5⟩ := M_tell w rg wy ht hs hz e1 r (i + 1) n f2 g2 (by omega) (by omega)
    unfold kX5_isTold_c5 vX5_isTold_c5 kX5_isTold_c57 vX5_isTold_c57 kX5_isTold_c62 vX5_isTold_c62 kX5_isTold_c67 vX5_isTold_c67 sTell
    rw [n_cl (by omega : s < 2147483648), es, ex, n_cl (by omega : 40 * s + i < 2147483648), ec, g1, aw, ei, if_neg c1, if_neg c2, if_neg c3]
    by_cases q1 : m_cells M (40 * s + i) = -1
    · rw [if_pos q1, if_pos q1]
      exact ⟨⟨hin, fun q => absurd q c1, fun _ => ⟨fun q => absurd q c2, fun _ => ⟨fun q => absurd q c3, fun _ => ⟨hin3, fun _ => ⟨kg, k5⟩, fun q => absurd q1 q⟩⟩⟩⟩, f5, g5, r5⟩
    · rw [if_neg q1, if_neg q1]
      by_cases q2 : m_cells M (40 * s + i) = nI (sAward (sDays y i) t)
      · rw [if_pos q2, if_pos q2]
        exact ⟨⟨hin, fun q => absurd q c1, fun _ => ⟨fun q => absurd q c2, fun _ => ⟨fun q => absurd q c3, fun _ => ⟨hin3, fun q => absurd q q1, fun _ => ⟨ak, fun _ => ⟨kg, k5⟩, fun q => absurd q2 q⟩⟩⟩⟩⟩, f5, g5, r5⟩
      · rw [if_neg q2, if_neg q2]
        obtain ⟨n', rfl⟩ : ∃ n', n = n' + 1 := ⟨n - 1, by omega⟩
        obtain ⟨k, f', e2, e3⟩ := M_putsBack (M := m_s_m (m_s_was M g) f2) rg w
        rw [mm_ss] at e2
        have es2 : m_sizeOf (m_s_m (m_s_was M g) f2) s = nI z := e1
        have last : kX5_isTold_c5 (nI s) (nI t) (n' + 1) (m_s_m (m_s_was M g) f2) 0 (nI (i + 1)) ∧ vX5_isTold_c5 (nI s) (nI t) (n' + 1) (m_s_m (m_s_was M g) f2) 0 (nI (i + 1)) = (0, m_s_m (m_s_was M g) f') := by
          unfold kX5_isTold_c5 vX5_isTold_c5 kX5_isTold_c73 vX5_isTold_c73
          rw [n_cl (by omega : s < 2147483648), es2, e2]
          have z0 : (0 : Int32) = 0 := rfl
          by_cases d1 : nI z ≤ nI (i + 1)
          · rw [if_pos d1]
            exact ⟨⟨hin, fun _ => ⟨k, Or.inl rfl, trivial⟩, fun q => absurd d1 q⟩, rfl⟩
          · rw [if_neg d1]
            by_cases d2 : (10 : Int32) ≤ nI (i + 1)
            · rw [if_pos d2]
              exact ⟨⟨hin, fun q => absurd q d1, fun _ => ⟨fun _ => ⟨k, Or.inl rfl, trivial⟩, fun q => absurd d2 q⟩⟩, rfl⟩
            · rw [if_neg d2, if_pos z0]
              exact ⟨⟨hin, fun q => absurd q d1, fun _ => ⟨fun q => absurd q d2, fun _ => ⟨fun _ => ⟨k, Or.inl rfl, trivial⟩, fun q => absurd z0 q⟩⟩⟩, rfl⟩
        exact ⟨⟨hin, fun q => absurd q c1, fun _ => ⟨fun q => absurd q c2, fun _ => ⟨fun q => absurd q c3, fun _ => ⟨hin3, fun q => absurd q q1, fun _ => ⟨ak, fun q => absurd q q2, fun _ => ⟨kg, last.1⟩⟩⟩⟩⟩⟩, f', last.2, e3⟩
theorem J_tell {y : AS} (wy : WF y) {t s z : Nat} (p3 : Int32) (ht : t < a_things y) (hz : z ≤ 40) : ∀ (r i n : Nat) (T : ES), RpE (sDays y i) T → i + r = min z 10 → r < n → kX4_kindFits_c35 s (nI t) p3 n (j_s_T J T) (nI (min z 10)) (nI i) ∧ ∃ T', vX4_kindFits_c35 s (nI t) p3 n (j_s_T J T) (nI (min z 10)) (nI i) = (sTell (fun j => s_numbers (j_s J s) j) (fun j => sAward (sDays y j) t) i r, j_s_T J T')
  | r, i, 0, T, rT, h1, h2 => by omega
  | 0, i, n + 1, T, rT, h1, h2 => by
    unfold kX4_kindFits_c35 vX4_kindFits_c35
    have c1 : nI (min z 10) ≤ nI i := by rw [n_le (by omega) (by omega)]; omega
    rw [if_pos c1]
    exact ⟨⟨fun _ => trivial, fun q => absurd c1 q⟩, T, rfl⟩
  | r + 1, i, n + 1, T, rT, h1, h2 => by
    have wi := wy.days i
    have ht' : t < a_things (sDays y i) := by rw [sDays_things]; exact ht
    have aw := E_award rT wi ht'
    have ak := E_awardk rT wi ht'
    have dy := E_passDay rT wi
    have ei : nI i + (1 : Int32) = nI (i + 1) := by rw [nz, nI_add]
    have c1 : ¬ nI (min z 10) ≤ nI i := by rw [n_le (by omega) (by omega)]; omega
    have hin : vp_in (nI i) 40 := n_in (by omega) (by omega)
    have ec : s_numbers (j_s (j_s_T J T) s) i = s_numbers (j_s J s) i := rfl
    unfold kX4_kindFits_c35 vX4_kindFits_c35 kX4_kindFits_c72 vX4_kindFits_c72 kX4_kindFits_c79 vX4_kindFits_c79 sTell
    rw [n_cl (by omega : i < 2147483648), ec, jt, jtt, aw, ei, if_neg c1]
    generalize vX0_passDay T = B at dy ⊢
    obtain ⟨k5, T5, g5⟩ := J_tell wy p3 ht hz r (i + 1) n B dy.2 (by omega) (by omega)
    by_cases q1 : s_numbers (j_s J s) i = -1
    · rw [if_pos q1, if_pos q1]
      exact ⟨⟨fun q => absurd q c1, fun _ => ⟨hin, fun _ => ⟨dy.1, k5⟩, fun q => absurd q1 q⟩⟩, T5, g5⟩
    · rw [if_neg q1, if_neg q1]
      by_cases q2 : s_numbers (j_s J s) i = nI (sAward (sDays y i) t)
      · rw [if_pos q2, if_pos q2]
        exact ⟨⟨fun q => absurd q c1, fun _ => ⟨hin, fun q => absurd q q1, fun _ => ⟨ak, fun _ => ⟨dy.1, k5⟩, fun q => absurd q2 q⟩⟩⟩, T5, g5⟩
      · rw [if_neg q2, if_neg q2]
        exact ⟨⟨fun q => absurd q c1, fun _ => ⟨hin, fun q => absurd q q1, fun _ => ⟨ak, fun q => absurd q q2, fun _ => trivial⟩⟩⟩, T, rfl⟩
theorem lackT (h : Rel J M) {x : AS} (rM : RpM x (m_m M)) (w : WF x) (p v : Int32) : (kX4_lackFor J p v ∧ kX5_notAsked M p v) ∧ ((vX4_lackFor J p v = 0 ∧ vX5_notAsked M p v = -1000001) ∨ (vX4_lackFor J p v = 5 ∧ vX5_notAsked M p v = -1000006) ∨ (vX4_lackFor J p v = -1 ∧ vX5_notAsked M p v = 0 ∧ ∃ s, s < 4 ∧ p = nI s ∧ ∃ t, t < a_things x ∧ v = nI t)) := by
  obtain ⟨⟨k1, k2⟩, hc⟩ := lack h p
  unfold kX4_lackFor kX5_notAsked vX4_lackFor vX5_notAsked
  refine ⟨⟨⟨k1, fun _ => ⟨kT4 _ _, trivial⟩, fun _ => trivial⟩, ⟨k2, fun _ => ⟨kT5 _ _, trivial⟩, fun _ => trivial⟩⟩, ?_⟩
  rcases hc with ⟨e1, e2⟩ | ⟨e1, e2⟩ | ⟨e1, e2, s, hs, hp, hb⟩
  · rw [e1, e2]
    exact Or.inl ⟨rfl, rfl⟩
  · rw [e1, e2]
    exact Or.inr (Or.inl ⟨rfl, rfl⟩)
  · rw [e1, e2, isT h, if_pos (by decide : (-1 : Int32) < 0), if_pos rfl]
    by_cases c : vX5_isThing M v = 0
    · rw [if_pos c, if_pos c]; exact Or.inl ⟨rfl, rfl⟩
    · rw [if_neg c, if_neg c]; exact Or.inr (Or.inr ⟨rfl, rfl, s, hs, hp, isTn rM w c⟩)
theorem OK_lackT (h : Rel J M) {x : AS} (rM : RpM x (m_m M)) (w : WF x) {p v : Int32} {k l : Prop} {a : Int32 × JS} {b : Int32 × MS} (body : ∀ s, s < 4 → p = nI s → ∀ t, t < a_things x → v = nI t → OK k l a b) : OK (kX4_lackFor J p v ∧ (vX4_lackFor J p v < 0 → k) ∧ (¬ vX4_lackFor J p v < 0 → kX4_tell J (vX4_lackFor J p v) ∧ True)) (kX5_notAsked M p v ∧ (vX5_notAsked M p v = 0 → l) ∧ (¬ vX5_notAsked M p v = 0 → kX5_finds M (vX5_notAsked M p v) ∧ True)) (if vX4_lackFor J p v < 0 then a else ((vX4_tell J (vX4_lackFor J p v)).1, (vX4_tell J (vX4_lackFor J p v)).2)) (if vX5_notAsked M p v = 0 then b else ((vX5_finds M (vX5_notAsked M p v)).1, (vX5_finds M (vX5_notAsked M p v)).2)) := by
  obtain ⟨⟨k1, k2⟩, hc⟩ := lackT h rM w p v
  refine OK.kj k1 (OK.km k2 ?_)
  rcases hc with ⟨e1, e2⟩ | ⟨e1, e2⟩ | ⟨e1, e2, s, hs, hp, t, ht, hv⟩
  · rw [e1, e2]
    exact OK_J (fun g => absurd g (by decide)) (fun _ => OK_M (fun g => absurd g (by decide)) (fun _ => (tell0 h).t))
  · rw [e1, e2]
    exact OK_J (fun g => absurd g (by decide)) (fun _ => OK_M (fun g => absurd g (by decide)) (fun _ => (tell5 h).t))
  · rw [e1, e2]
    exact OK_J (fun _ => OK_M (fun _ => body s hs hp t ht hv) (fun g => absurd rfl g)) (fun g => absurd (by decide) g)
theorem kinds_L (h : Rel J M) {x : AS} (rE : RpE x (j_E J)) (w : WF x) {g : FA} (rg : RpM x g) {s t : Nat} (hs : s < 4) (ht : t < a_things x) : ∀ (n i : Nat) (T : ES) (f : FA) (a : Int32), RpM x f → i ≤ 7 → 7 < i + n → OK (kX4_kinds_c23 (nI s) (nI t) n (j_s_T J T) a (nI i)) (kX5_kinds_c27 (nI s) (nI t) n (m_s_m (m_s_was M g) f) a (nI i)) (vX4_kinds_c23 (nI s) (nI t) n (j_s_T J T) a (nI i)) (vX5_kinds_c27 (nI s) (nI t) n (m_s_m (m_s_was M g) f) a (nI i))
  | 0, i, T, f, a, rf, h1, h2 => by omega
  | n + 1, i, T, f, a, rf, h1, h2 => by
    have h8 := w.1
    unfold kX4_kinds_c23 kX5_kinds_c27 vX4_kinds_c23 vX5_kinds_c27
    by_cases c : 7 ≤ i
    · have c1 : (7 : Int32) ≤ nI i := by rw [nz, n_le (by omega) (by omega)]; exact c
      have c2 : (6 : Int32) < nI i := by rw [nz, n_lt (by omega) (by omega)]; omega
      exact OK_J (fun _ => OK_M (fun _ => ⟨trivial, trivial, rfl, RelThink h rE w rf⟩) (fun q => absurd c2 q)) (fun q => absurd c1 q)
    · have c1 : ¬ (7 : Int32) ≤ nI i := by rw [nz, n_le (by omega) (by omega)]; exact c
      have c2 : ¬ (6 : Int32) < nI i := by rw [nz, n_lt (by omega) (by omega)]; omega
      have hin : vp_in (nI s) 4 := n_in (by omega) (by omega)
      obtain ⟨q1, q2, q3, ⟨z, hz, q4, q5⟩, q6⟩ := h.2.2.2.2 s hs
      have z1 : s_size (j_s J s) = nI z := q2.trans q4
      have b := E_become (E := T) rE w
      have wy : WF (sPut x t 0 i) := w.put (by show i ≤ 6; omega)
      have ht8 : t < 8 := by omega
      have pk : kX5_put (m_s_m (m_s_was M g) f) (nI t) (0 : Int32) (nI i) := m_putk_ix _ _ ht8 (by decide : 0 < 7)
      have pv : vX5_put (m_s_m (m_s_was M g) f) (nI t) (0 : Int32) (nI i) = m_s_m (m_s_was M g) (upd f (16 + 7 * t + 0) (nI i)) := m_put_ix _ _ ht8 (by decide : 0 < 7)
      have rm : RpM (sPut x t 0 i) (upd f (16 + 7 * t + 0) (nI i)) := rf.put w ht (by decide : 0 < 7)
      obtain ⟨mk, f', mv, rf'⟩ := M_tell (M := M) w rg wy (t := t) ht hs hz q4 (min z 10) 0 1024 _ rm (by omega) (by omega)
      refine OK_J (fun q => absurd q c1) (fun _ => OK_M (fun q => absurd q c2) (fun _ => OK.kj hin ?_))
      unfold kX4_kindFits vX4_kindFits kX4_kindFits_c11 vX4_kindFits_c11 kX4_kindFits_c21 vX4_kindFits_c21 kX5_kinds_c42 vX5_kinds_c42 kX5_isTold vX5_isTold
      have ez : s_size (j_s (j_s_T (j_s_T (j_s_T J T) (vX0_become T (j_E J))) (vX0_put (vX0_become T (j_E J)) (nI t) (0 : Int32) (nI i))) s) = nI z := z1
      have em : jmin (nI z) (10 : Int32) = nI (min z 10) := n_min (b := 10) (by omega) (by omega)
      rw [jt, jte, jt, n_cl (by omega : s < 2147483648), ez, em, jtt, jtt, pv]
      generalize vX0_become T (j_E J) = B at b ⊢
      have ry : RpE (sPut x t 0 i) (vX0_put B (nI t) (0 : Int32) (nI i)) := E_put b.2 w ht (by decide : 0 < 7)
      have pk2 : kX0_put B (nI t) (0 : Int32) (nI i) := E_putk w ht (by decide : 0 < 7)
      obtain ⟨jk, T', jv⟩ := J_tell (J := J) wy (t := t) (s := s) (nI i) ht hz (min z 10) 0 1024 _ ry (by omega) (by omega)
      have jk' : kX4_kindFits_c35 s (nI t) (nI i) 1024 (j_s_T J (vX0_put B (nI t) (0 : Int32) (nI i))) (nI (min z 10)) 0 := jk
      have jv' : vX4_kindFits_c35 s (nI t) (nI i) 1024 (j_s_T J (vX0_put B (nI t) (0 : Int32) (nI i))) (nI (min z 10)) 0 = _ := jv
      have mk' : kX5_isTold_c5 (nI s) (nI t) 1024 (m_s_m (m_s_was M g) (upd f (16 + 7 * t + 0) (nI i))) 1 0 := mk
      have mv' : vX5_isTold_c5 (nI s) (nI t) 1024 (m_s_m (m_s_was M g) (upd f (16 + 7 * t + 0) (nI i))) 1 0 = _ := mv
      have et : sTell (fun j => s_numbers (j_s J s) j) (fun j => sAward (sDays (sPut x t 0 i) j) t) 0 (min z 10) = sTell (fun j => m_cells M (40 * s + j)) (fun j => sAward (sDays (sPut x t 0 i) j) t) 0 (min z 10) := sTell_eq _ _ (fun j g1 g2 => ⟨q6 j (by omega), rfl⟩)
      rw [jv', mv', et]
      generalize sTell (fun j => m_cells M (40 * s + j)) (fun j => sAward (sDays (sPut x t 0 i) j) t) 0 (min z 10) = u
      unfold kX4_kinds_c43 vX4_kinds_c43 kX4_kinds_c55 vX4_kinds_c55 kX5_kinds_c50 vX5_kinds_c50 kX5_kinds_c61 vX5_kinds_c61
      have ei : nI i + (1 : Int32) = nI (i + 1) := by rw [nz, nI_add]
      rw [ei, Int32.or_zero]
      refine OK.kj ⟨b.1, pk2, jk'⟩ (OK.km pk (OK.km mk' (OK_ite Iff.rfl (fun _ => ?_) (fun _ => ?_))))
      · exact kinds_L h rE w rg hs ht n (i + 1) T' f' _ rf' (by omega) (by omega)
      · exact kinds_L h rE w rg hs ht n (i + 1) T' f' _ rf' (by omega) (by omega)
theorem P_kinds (h : Rel J M) (p v : Int32) : OK (kX4_kinds J p v) (kX5_kinds M p v) (vX4_kinds J p v) (vX5_kinds M p v) := by
  unfold kX4_kinds kX5_kinds vX4_kinds vX5_kinds
  obtain ⟨x, rE, rM, w⟩ := id h.1
  refine OK_lackT h rM w (fun s hs e t ht e2 => ?_)
  subst e e2
  obtain ⟨k, g, q1, q2⟩ := M_thinks rM w
  unfold kX5_kinds_c21 vX5_kinds_c21
  rw [q1]
  have a := kinds_L h rE w q2 hs ht 1024 0 (j_T J) (m_m M) 0 rM (by omega) (by omega)
  exact ⟨a.1, ⟨k, a.2.1⟩, a.2.2⟩
-- ages
theorem sDay_home (x : AS) : a_home (sDay x) = a_home x := by
  show a_home (sStrike x) = a_home x
  unfold sStrike
  split <;> rfl
theorem sDays_home (x : AS) : ∀ n, a_home (sDays x n) = a_home x
  | 0 => rfl
  | n + 1 => (sDay_home _).trans (sDays_home x n)
theorem sDay_tr (x : AS) (t : Nat) {u : Nat} (h2 : u ≠ 2) (h4 : u ≠ 4) (h5 : u ≠ 5) : a_tr (sDay x) t u = a_tr x t u := by
  have e : a_tr (sStrike x) t u = a_tr x t u := by
    unfold sStrike
    split
    · exact if_neg (fun q => h4 q.2)
    · rfl
  show sWearF (sStrike x) _ _ t u = _
  unfold sWearF
  rw [if_neg h2, if_neg h5, if_neg h4, e]
  split <;> rfl
theorem sDays_tr (x : AS) (t : Nat) {u : Nat} (h2 : u ≠ 2) (h4 : u ≠ 4) (h5 : u ≠ 5) : ∀ n, a_tr (sDays x n) t u = a_tr x t u
  | 0 => rfl
  | n + 1 => (sDay_tr _ t h2 h4 h5).trans (sDays_tr x t h2 h4 h5 n)
theorem sAwardOf_home {x y : AS} (h : a_home y = a_home x) (a b c : Nat) : sAwardOf y a b c = sAwardOf x a b c := by
  unfold sAwardOf
  rw [h]
theorem sAward_aged (x : AS) {t v n : Nat} (ht : t < a_things x) (h : v + n ≤ 9999) : sAward (sDays (sPut x t 2 v) n) t = sAwardOf x (sWorth (a_tr x t 0) (a_tr x t 1) (v + n)) (sWorseT (sDays x n) t) (a_tr x t 6) := by
  obtain ⟨c', h1, h2⟩ := sAges_days x (fun t' => if t' = t then v else a_tr x t' 2) n
  have h3 := h2 t ht (by simp only [if_true]; omega)
  simp only [if_true] at h3
  rw [sPut2, h1, sAward_ages, h3, sAwardOf_home (sDays_home x n), sDays_tr x t (by decide) (by decide) (by decide), sDays_tr x t (by decide) (by decide) (by decide), sDays_tr x t (by decide) (by decide) (by decide)]
theorem foresee_L {x : AS} (w : WF x) {t : Nat} (ht : t < a_things x) : ∀ (n i : Nat) (T : ES) (W : FA), RpE (sDays x i) T → i ≤ 10 → 10 < i + n → (∀ j, j < i → W j = nI (sWorseT (sDays x j) t)) → kX4_foreseeWorses_c13 (nI t) n (j_s_worses (j_s_T J T) W) (nI i) ∧ ∃ T' W', vX4_foreseeWorses_c13 (nI t) n (j_s_worses (j_s_T J T) W) (nI i) = j_s_worses (j_s_T J T') W' ∧ ∀ j, j < 10 → W' j = nI (sWorseT (sDays x j) t)
  | 0, i, T, W, rT, h1, h2, h3 => by omega
  | n + 1, i, T, W, rT, h1, h2, h3 => by
    unfold kX4_foreseeWorses_c13 vX4_foreseeWorses_c13 kX4_foreseeWorses_c33 vX4_foreseeWorses_c33 kX4_foreseeWorses_c40 vX4_foreseeWorses_c40
    by_cases c : 10 ≤ i
    · have e : i = 10 := by omega
      subst e
      have c1 : (10 : Int32) ≤ nI 10 := by decide
      rw [if_pos c1]
      exact ⟨⟨fun _ => trivial, fun q => absurd c1 q⟩, T, W, rfl, h3⟩
    · have c1 : ¬ (10 : Int32) ≤ nI i := by rw [nz, n_le (by omega) (by omega)]; exact c
      have wi := w.days i
      have ht' : t < a_things (sDays x i) := by rw [sDays_things]; exact ht
      have ew : vX0_worse (j_T (j_s_worses (j_s_T J T) W)) (nI t) = nI (sWorseT (sDays x i) t) := E_worse rT wi ht'
      have ek : kX0_worse (j_T (j_s_worses (j_s_T J T) W)) (nI t) := E_worsek wi ht'
      have dy := E_passDay rT wi
      have ei : nI i + (1 : Int32) = nI (i + 1) := by rw [nz, nI_add]
      have hin : vp_in (nI i) 10 := n_in (by omega) (by omega)
      have e1 : ∀ W2, j_T (j_s_worses (j_s_worses (j_s_T J T) W) W2) = T := fun _ => rfl
      have e2 : ∀ W2 T2, j_s_T (j_s_worses (j_s_worses (j_s_T J T) W) W2) T2 = j_s_worses (j_s_T J T2) W2 := fun _ _ => rfl
      have e3 : j_worses (j_s_worses (j_s_T J T) W) = W := rfl
      rw [if_neg c1, ew, e1, e2, e3, n_cl (by omega : i < 2147483648), ei]
      generalize vX0_passDay T = B at dy ⊢
      obtain ⟨i1, T', W', i2, i3⟩ := foresee_L w ht n (i + 1) B (upd W i (nI (sWorseT (sDays x i) t))) dy.2 (by omega) (by omega) (fun j hj => by
        by_cases e : j = i
        · rw [e, upd_s]
        · rw [upd_n e]; exact h3 j (by omega))
      exact ⟨⟨fun q => absurd q c1, fun _ => ⟨ek, hin, dy.1, i1⟩⟩, T', W', i2, i3⟩
theorem age_L {x : AS} (rE : RpE x (j_E J)) (w : WF x) {t s z v : Nat} (ht : t < a_things x) (hv : v < 600) (hz : z ≤ 40) (hW : ∀ j, j < 10 → j_worses J j = nI (sWorseT (sDays x j) t)) : ∀ (r i n : Nat), i + r = min z 10 → r < n → kX4_ageFits_c48 J s (nI t) (nI v) n (nI (a_tr x t 0)) (nI (a_tr x t 1)) (nI (a_tr x t 6)) (nI (min z 10)) (nI i) ∧ vX4_ageFits_c48 J s (nI t) (nI v) n (nI (a_tr x t 0)) (nI (a_tr x t 1)) (nI (a_tr x t 6)) (nI (min z 10)) (nI i) = sTell (fun j => s_numbers (j_s J s) j) (fun j => sAward (sDays (sPut x t 2 v) j) t) i r
  | r, i, 0, h1, h2 => by omega
  | 0, i, n + 1, h1, h2 => by
    unfold kX4_ageFits_c48 vX4_ageFits_c48
    have c1 : nI (min z 10) ≤ nI i := by rw [n_le (by omega) (by omega)]; omega
    rw [if_pos c1]
    exact ⟨⟨fun _ => trivial, fun q => absurd c1 q⟩, rfl⟩
  | r + 1, i, n + 1, h1, h2 => by
    have hb := w.t ht
    have c1 : ¬ nI (min z 10) ≤ nI i := by rw [n_le (by omega) (by omega)]; omega
    have hin : vp_in (nI i) 40 := n_in (by omega) (by omega)
    have hin2 : vp_in (nI i) 10 := n_in (by omega) (by omega)
    have ei : nI i + (1 : Int32) = nI (i + 1) := by rw [nz, nI_add]
    have ih := age_L rE w (s := s) ht hv hz hW r (i + 1) n (by omega) (by omega)
    have ev : nI v + nI i = nI (v + i) := nI_add _ _
    have ew : vX1_worth (nI (a_tr x t 0)) (nI (a_tr x t 1)) (nI (v + i)) = nI (sWorth (a_tr x t 0) (a_tr x t 1) (v + i)) := vworth (by omega) (by omega) (by omega)
    have ek : kX1_worth (nI (a_tr x t 0)) (nI (a_tr x t 1)) (nI (v + i)) := kworth (by omega) (by omega)
    have wi := w.days i
    have ht' : t < a_things (sDays x i) := by rw [sDays_things]; exact ht
    have ea : vX0_awardOf (j_E J) (nI (sWorth (a_tr x t 0) (a_tr x t 1) (v + i))) (nI (sWorseT (sDays x i) t)) (nI (a_tr x t 6)) = nI (sAward (sDays (sPut x t 2 v) i) t) := by
      rw [sAward_aged x ht (by omega)]
      exact E_awardOf rE w (sWorth_le (by omega)) (sWorse_le wi ht') (by omega)
    unfold kX4_ageFits_c48 vX4_ageFits_c48 kX4_ageFits_c104 vX4_ageFits_c104 sTell
    rw [if_neg c1, n_cl (by omega : i < 2147483648), ei, ev, ew, hW i (by omega), ea]
    by_cases q1 : s_numbers (j_s J s) i = -1
    · rw [if_pos q1, if_pos q1]
      exact ⟨⟨fun q => absurd q c1, fun _ => ⟨hin, fun _ => ih.1, fun q => absurd q1 q⟩⟩, ih.2⟩
    · rw [if_neg q1, if_neg q1]
      by_cases q2 : s_numbers (j_s J s) i = nI (sAward (sDays (sPut x t 2 v) i) t)
      · rw [if_pos q2, if_pos q2]
        exact ⟨⟨fun q => absurd q c1, fun _ => ⟨hin, fun q => absurd q q1, fun _ => ⟨ek, hin2, fun _ => ih.1, fun q => absurd q2 q⟩⟩⟩, ih.2⟩
      · rw [if_neg q2, if_neg q2]
        exact ⟨⟨fun q => absurd q c1, fun _ => ⟨hin, fun q => absurd q q1, fun _ => ⟨ek, hin2, fun q => absurd q q2, fun _ => trivial⟩⟩⟩, rfl⟩
theorem fits_L (h : Rel J M) {x : AS} (rE : RpE x (j_E J)) (w : WF x) {g : FA} (rg : RpM x g) {s t : Nat} (hs : s < 4) (ht : t < a_things x) (hW : ∀ j, j < 10 → j_worses J j = nI (sWorseT (sDays x j) t)) : ∀ (n i : Nat) (f : FA) (a : Int32), RpM x f → i ≤ 600 → 600 < i + n → OK (kX4_fits_c28 (nI s) (nI t) n J a (nI i)) (kX5_fits_c27 (nI s) (nI t) n (m_s_m (m_s_was M g) f) a (nI i)) (vX4_fits_c28 (nI s) (nI t) n J a (nI i)) (vX5_fits_c27 (nI s) (nI t) n (m_s_m (m_s_was M g) f) a (nI i))
  | 0, i, f, a, rf, h1, h2 => by omega
  | n + 1, i, f, a, rf, h1, h2 => by
    have h8 := w.1
    unfold kX4_fits_c28 kX5_fits_c27 vX4_fits_c28 vX5_fits_c27
    by_cases c : 600 ≤ i
    · have c1 : (599 : Int32) < nI i := by rw [nz, n_lt (by omega) (by omega)]; omega
      have c2 : (600 : Int32) ≤ nI i := by rw [nz, n_le (by omega) (by omega)]; exact c
      exact OK_J (fun _ => OK_M (fun _ => ⟨trivial, trivial, rfl, ⟨x, rE, rf, w⟩, h.2⟩) (fun q => absurd c2 q)) (fun q => absurd c1 q)
    · have c1 : ¬ (599 : Int32) < nI i := by rw [nz, n_lt (by omega) (by omega)]; omega
      have c2 : ¬ (600 : Int32) ≤ nI i := by rw [nz, n_le (by omega) (by omega)]; exact c
      have hin : vp_in (nI s) 4 := n_in (by omega) (by omega)
      obtain ⟨q1, q2, q3, ⟨z, hz, q4, q5⟩, q6⟩ := h.2.2.2.2 s hs
      have z1 : s_size (j_s J s) = nI z := q2.trans q4
      have wy : WF (sPut x t 2 i) := w.put (by show i ≤ 9999; omega)
      have ht8 : t < 8 := by omega
      have pk : kX5_put (m_s_m (m_s_was M g) f) (nI t) (2 : Int32) (nI i) := m_putk_ix _ _ ht8 (by decide : 2 < 7)
      have pv : vX5_put (m_s_m (m_s_was M g) f) (nI t) (2 : Int32) (nI i) = m_s_m (m_s_was M g) (upd f (16 + 7 * t + 2) (nI i)) := m_put_ix _ _ ht8 (by decide : 2 < 7)
      have rm : RpM (sPut x t 2 i) (upd f (16 + 7 * t + 2) (nI i)) := rf.put w ht (by decide : 2 < 7)
      obtain ⟨mk, f', mv, rf'⟩ := M_tell (M := M) w rg wy (t := t) ht hs hz q4 (min z 10) 0 1024 _ rm (by omega) (by omega)
      have mk' : kX5_isTold_c5 (nI s) (nI t) 1024 (m_s_m (m_s_was M g) (upd f (16 + 7 * t + 2) (nI i))) 1 0 := mk
      have mv' : vX5_isTold_c5 (nI s) (nI t) 1024 (m_s_m (m_s_was M g) (upd f (16 + 7 * t + 2) (nI i))) 1 0 = _ := mv
      have et : sTell (fun j => s_numbers (j_s J s) j) (fun j => sAward (sDays (sPut x t 2 i) j) t) 0 (min z 10) = sTell (fun j => m_cells M (40 * s + j)) (fun j => sAward (sDays (sPut x t 2 i) j) t) 0 (min z 10) := sTell_eq _ _ (fun j g1 g2 => ⟨q6 j (by omega), rfl⟩)
      obtain ⟨ak, av⟩ := age_L (J := J) rE w (s := s) (v := i) ht (by omega) hz hW (min z 10) 0 1024 (by omega) (by omega)
      have t0 : vX0_trait (j_E J) (nI t) (0 : Int32) = nI (a_tr x t 0) := E_trait rE w ht (by decide : 0 < 7)
      have t1 : vX0_trait (j_E J) (nI t) (1 : Int32) = nI (a_tr x t 1) := E_trait rE w ht (by decide : 1 < 7)
      have t6 : vX0_trait (j_E J) (nI t) (6 : Int32) = nI (a_tr x t 6) := E_trait rE w ht (by decide : 6 < 7)
      have tk0 : kX0_trait (j_E J) (nI t) (0 : Int32) := E_traitk w ht (by decide : 0 < 7)
      have tk1 : kX0_trait (j_E J) (nI t) (1 : Int32) := E_traitk w ht (by decide : 1 < 7)
      have tk6 : kX0_trait (j_E J) (nI t) (6 : Int32) := E_traitk w ht (by decide : 6 < 7)
      have em : jmin (nI z) (10 : Int32) = nI (min z 10) := n_min (b := 10) (by omega) (by omega)
      have va : vX4_ageFits J s (nI t) (nI i) = sTell (fun j => m_cells M (40 * s + j)) (fun j => sAward (sDays (sPut x t 2 i) j) t) 0 (min z 10) := by
        unfold vX4_ageFits
        rw [t0, t1, t6, z1, em]
        exact av.trans et
      have ka : kX4_ageFits J s (nI t) (nI i) := by
        unfold kX4_ageFits
        rw [t0, t1, t6, z1, em]
        exact ⟨tk0, tk1, tk6, ak⟩
      refine OK_J (fun q => absurd q c1) (fun _ => OK_M (fun q => absurd q c2) (fun _ => OK.kj hin ?_))
      unfold kX5_fits_c43 vX5_fits_c43 kX5_isTold vX5_isTold
      rw [n_cl (by omega : s < 2147483648), pv, va, mv']
      generalize sTell (fun j => m_cells M (40 * s + j)) (fun j => sAward (sDays (sPut x t 2 i) j) t) 0 (min z 10) = u
      unfold kX4_fits_c55 vX4_fits_c55 kX5_fits_c51 vX5_fits_c51 kX5_fits_c59 vX5_fits_c59
      have ei : nI i + (1 : Int32) = nI (i + 1) := by rw [nz, nI_add]
      rw [ei, Int32.add_zero]
      refine OK.kj ka (OK.km pk (OK.km mk' (OK_ite Iff.rfl (fun _ => ?_) (fun _ => ?_))))
      · exact fits_L h rE w rg hs ht hW n (i + 1) f' _ rf' (by omega) (by omega)
      · exact fits_L h rE w rg hs ht hW n (i + 1) f' _ rf' (by omega) (by omega)
theorem P_fits (h : Rel J M) (p v : Int32) : OK (kX4_fits J p v) (kX5_fits M p v) (vX4_fits J p v) (vX5_fits M p v) := by
  unfold kX4_fits kX5_fits vX4_fits vX5_fits
  obtain ⟨x, rE, rM, w⟩ := id h.1
  refine OK_lackT h rM w (fun s hs e t ht e2 => ?_)
  subst e e2
  obtain ⟨k, g, q1, q2⟩ := M_thinks rM w
  have b := E_become (E := j_T J) rE w
  unfold kX4_foreseeWorses vX4_foreseeWorses kX4_foreseeWorses_c11 vX4_foreseeWorses_c11 kX4_fits_c22 vX4_fits_c22 kX5_fits_c21 vX5_fits_c21
  rw [q1]
  generalize vX0_become (j_T J) (j_E J) = B at b ⊢
  obtain ⟨k1, T', W', e1, e2⟩ := foresee_L (J := J) w ht 1024 0 B (j_worses J) b.2 (by omega) (by omega) (fun j hj => absurd hj (Nat.not_lt_zero j))
  have e1' : vX4_foreseeWorses_c13 (nI t) 1024 (j_s_T J B) 0 = j_s_worses (j_s_T J T') W' := e1
  have k1' : kX4_foreseeWorses_c13 (nI t) 1024 (j_s_T J B) 0 := k1
  have h' : Rel (j_s_worses (j_s_T J T') W') M := h
  rw [e1']
  have a := fits_L h' rE w q2 hs ht e2 1024 0 (m_m M) 0 rM (by omega) (by omega)
  exact ⟨⟨⟨b.1, k1'⟩, a.1⟩, ⟨k, a.2.1⟩, a.2.2⟩
end PM
