-- both readers at one token
def Fr (M M' : MS) : Prop := m_kept M' = m_kept M ∧ m_was M' = m_was M ∧ m_isKept M' = m_isKept M ∧ m_found M' = m_found M ∧ m_bitsOf M' = m_bitsOf M ∧ m_sizeOf M' = m_sizeOf M ∧ m_cells M' = m_cells M ∧ m_tape M' = m_tape M ∧ m_taped M' = m_taped M
theorem Fr.refl (M : MS) : Fr M M := ⟨rfl, rfl, rfl, rfl, rfl, rfl, rfl, rfl, rfl⟩
theorem Fr.trans {M M' M'' : MS} (h : Fr M M') (g : Fr M' M'') : Fr M M'' := ⟨g.1.trans h.1, g.2.1.trans h.2.1, g.2.2.1.trans h.2.2.1, g.2.2.2.1.trans h.2.2.2.1, g.2.2.2.2.1.trans h.2.2.2.2.1, g.2.2.2.2.2.1.trans h.2.2.2.2.2.1, g.2.2.2.2.2.2.1.trans h.2.2.2.2.2.2.1, g.2.2.2.2.2.2.2.1.trans h.2.2.2.2.2.2.2.1, g.2.2.2.2.2.2.2.2.trans h.2.2.2.2.2.2.2.2⟩
theorem Fr_rd (M : MS) (q e v tok : Nat) : Fr M (mrd M q e v tok) := ⟨rfl, rfl, rfl, rfl, rfl, rfl, rfl, rfl, rfl⟩
theorem Fr_bad (M : MS) (b : Int32) : Fr M (m_s_bad M b) := ⟨rfl, rfl, rfl, rfl, rfl, rfl, rfl, rfl, rfl⟩
theorem Fr_m (M : MS) (f : FA) : Fr M (m_s_m M f) := ⟨rfl, rfl, rfl, rfl, rfl, rfl, rfl, rfl, rfl⟩
theorem mrd_m (M : MS) (q e v tok : Nat) : m_m (mrd M q e v tok) = m_m M := rfl
theorem mrd_bad (M : MS) (q e v tok : Nat) : m_bad (mrd M q e v tok) = m_bad M := rfl
theorem mrd_begin (M : MS) (q e v tok : Nat) : m_begin (mrd M q e v tok) = nI q := rfl
theorem mrd_at (M : MS) (q e v tok : Nat) : m_at (mrd M q e v tok) = nI e := rfl
theorem mrd_value (M : MS) (q e v tok : Nat) : m_value (mrd M q e v tok) = nI v := rfl
theorem mrd_token (M : MS) (q e v tok : Nat) : m_token (mrd M q e v tok) = nI tok := rfl
theorem MT.fr {n : Nat} {B : Nat → Nat} {M M' : MS} (h : MT n B M) (g : Fr M M') : MT n B M' := ⟨g.2.2.2.2.2.2.2.2.trans h.1, fun i hi => (congrFun g.2.2.2.2.2.2.2.1 i).trans (h.2 i hi)⟩
/-- the class's constant texts by the reference's numbers of words (the empty one: none) -/
def cd (k : Nat) : Nat := [1, 2, 3, 4, 5, 6, 0, 7, 8, 9, 99, 10, 12, 13, 11].getD k 99
theorem cd_all : ∀ k, k < 15 → (k = 10 ∧ jLen.getD k 0 = 0 ∧ cd k = 99) ∨ (k ≠ 10 ∧ cd k < 14 ∧ 0 < jLen.getD k 0 ∧ jLen.getD k 0 ≤ 7 ∧ (jLen.getD k 0 = 7 ∨ nm (7 * cd k + jLen.getD k 0) = 0)) := by decide +kernel
theorem cd_ch : ∀ k, k < 15 → ∀ j, j < jLen.getD k 0 → vJ0_charAt_5068e k (nI j) = nm (7 * cd k + j) ∧ nm (7 * cd k + j) ≠ 0 := by decide +kernel
theorem cd_len : ∀ k, k < 15 → vJ0_length_8abf5 k = nI (jLen.getD k 0) ∧ jLen.getD k 0 < 100 := by decide +kernel
def nmBad (s j j' : Nat) : Bool := decide (j ≠ j') && (decide (s = 7) || decide (nm (7 * j + s) = 0)) && (decide (s = 7) || decide (nm (7 * j' + s) = 0)) && (List.range s).all (fun i => decide (nm (7 * j + i) = nm (7 * j' + i)))
theorem nm_dif0 : (List.range 8).all (fun s => (List.range 14).all (fun j => (List.range 14).all (fun j' => !nmBad s j j'))) = true := by decide +kernel
theorem nm_dif {s j j' : Nat} (hs : s < 8) (hj : j < 14) (hj' : j' < 14) (h : j ≠ j') (h1 : s = 7 ∨ nm (7 * j + s) = 0) (h2 : s = 7 ∨ nm (7 * j' + s) = 0) (h3 : ∀ i, i < s → nm (7 * j + i) = nm (7 * j' + i)) : False := by
  have g1 := List.all_eq_true.mp nm_dif0 s (List.mem_range.mpr hs)
  have g2 := List.all_eq_true.mp g1 j (List.mem_range.mpr hj)
  have g3 := List.all_eq_true.mp g2 j' (List.mem_range.mpr hj')
  have g4 : nmBad s j j' = true := by
    unfold nmBad
    rw [Bool.and_eq_true, Bool.and_eq_true, Bool.and_eq_true, Bool.or_eq_true, Bool.or_eq_true]
    refine ⟨⟨⟨decide_eq_true h, ?_⟩, ?_⟩, List.all_eq_true.mpr (fun i hi => decide_eq_true (h3 i (List.mem_range.mp hi)))⟩
    · rcases h1 with e | e
      · exact Or.inl (decide_eq_true e)
      · exact Or.inr (decide_eq_true e)
    · rcases h2 with e | e
      · exact Or.inl (decide_eq_true e)
      · exact Or.inr (decide_eq_true e)
  rw [g4] at g3
  exact Bool.noConfusion g3
theorem Wd_one {B : Nat → Nat} {q s j j' : Nat} (hj : j < 14) (hj' : j' < 14) (h : Wd B q s j) (h' : Wd B q s j') : j = j' := by
  by_cases e : j = j'
  · exact e
  · exfalso
    exact nm_dif (by have := h.1; omega) hj hj' e h.2.1 h'.2.1 (fun i hi => (h.2.2 i hi).trans (h'.2.2 i hi).symm)
theorem kchar {k j : Nat} (h : j < jLen.getD k 0) (hl : jLen.getD k 0 < 100) : kJ0_charAt_5068e k (nI j) := by
  unfold kJ0_charAt_5068e kJ1_charAt_3b067 kJ0_checkIndex_df160
  refine ⟨fun g => absurd g (by unfold vJ0_isLatin1_aae02; decide), fun _ => ⟨⟨⟨nI_pos (by omega), nI_lt h (by omega)⟩, n_in h (by omega), ?_, trivial⟩, ?_, trivial⟩⟩
  · exact pk_nc _
  · exact pk_nc _
section TQ
variable {n : Nat} {B : Nat → Nat}
theorem wis_L (hn : n ≤ 120) {T : TS} (hT : TT n B T) {q s k : Nat} (hq : t_begin T = nI q) (hqs : q + s ≤ n) (hk : k < 15) (hs : s = jLen.getD k 0) (hl : ∀ i, i < s → 97 ≤ B (q + i) ∧ B (q + i) ≤ 122) (hB : ∀ i, i < n → B i < 256) : ∀ (r i f : Nat), i + r = s → r < f → kX3_wordIs_c28 T k f (nI i) ∧ ((vX3_wordIs_c28 T k f (nI i) = 1 ∧ ∀ j, i ≤ j → j < s → nm (7 * cd k + j) = nI (B (q + j))) ∨ (vX3_wordIs_c28 T k f (nI i) = 0 ∧ ¬ ∀ j, i ≤ j → j < s → nm (7 * cd k + j) = nI (B (q + j))))
  | r, i, 0, h1, h2 => by omega
  | 0, i, f + 1, h1, h2 => by
    have cl := cd_len k hk
    unfold kX3_wordIs_c28 vX3_wordIs_c28
    have c : nI (jLen.getD k 0) ≤ nI i := by rw [n_le (by omega) (by omega)]; omega
    rw [cl.1, if_pos c]
    exact ⟨⟨fun _ => trivial, fun g => absurd c g⟩, Or.inl ⟨rfl, fun j h3 h4 => by omega⟩⟩
  | r + 1, i, f + 1, h1, h2 => by
    have cl := cd_len k hk
    unfold kX3_wordIs_c28 vX3_wordIs_c28
    have c : ¬ nI (jLen.getD k 0) ≤ nI i := by rw [n_le (by omega) (by omega)]; omega
    have ey : t_begin T + nI i = nI (q + i) := by rw [hq, nI_add]
    have ei : nI i + (1 : Int32) = nI (i + 1) := by rw [nz, nI_add]
    have hb := hl i (by omega)
    have hsb := (sby_all (B (q + i)) (hB _ (by omega))).2.2 (by omega)
    have hch := cd_ch k hk i (by omega)
    have hin : vp_in (nI (q + i)) 120 := n_in (by omega) (by omega)
    have kc := kchar (k := k) (j := i) (by omega) cl.2
    rw [cl.1, if_neg c, ey, n_cl (by omega : q + i < 2147483648), hT.2 (q + i) (by omega), hsb, hch.1, ei]
    by_cases g : nI (B (q + i)) = nm (7 * cd k + i)
    · obtain ⟨i1, i2⟩ := wis_L hn hT hq hqs hk hs hl hB r (i + 1) f (by omega) (by omega)
      rw [if_pos g]
      refine ⟨⟨fun g => absurd g c, fun _ => ⟨hin, kc, fun _ => i1, fun q => absurd g q⟩⟩, ?_⟩
      rcases i2 with ⟨e1, e2⟩ | ⟨e1, e2⟩
      · refine Or.inl ⟨e1, fun j h3 h4 => ?_⟩
        by_cases e : j = i
        · rw [e]; exact g.symm
        · exact e2 j (by omega) h4
      · exact Or.inr ⟨e1, fun h3 => e2 (fun j h4 h5 => h3 j (by omega) h5)⟩
    · rw [if_neg g]
      exact ⟨⟨fun g => absurd g c, fun _ => ⟨hin, kc, fun q => absurd q g, fun _ => trivial⟩⟩, Or.inr ⟨rfl, fun h3 => g (h3 i (Nat.le_refl i) (by omega)).symm⟩⟩
theorem wis (hn : n ≤ 120) {T : TS} (hT : TT n B T) {q s k : Nat} (hsort : t_sort T = 1) (hq : t_begin T = nI q) (he : t_end T = nI (q + s)) (h0 : 0 < s) (hqs : q + s ≤ n) (hk : k < 15) (hl : ∀ i, i < s → 97 ≤ B (q + i) ∧ B (q + i) ≤ 122) (hB : ∀ i, i < n → B i < 256) : kX3_wordIs T k ∧ ((vX3_wordIs T k = 1 ∧ cd k < 14 ∧ Wd B q s (cd k)) ∨ (vX3_wordIs T k = 0 ∧ (cd k < 14 → ¬ Wd B q s (cd k)))) := by
  have cl := cd_len k hk
  have ca := cd_all k hk
  have es : t_end T - t_begin T = nI s := by
    rw [he, hq, n_sub (by omega), show q + s - q = s by omega]
  unfold kX3_wordIs vX3_wordIs
  rw [es, cl.1, if_pos hsort]
  by_cases c : s = jLen.getD k 0
  · have c1 : nI s = nI (jLen.getD k 0) := by rw [← c]
    obtain ⟨k1, k2⟩ := wis_L hn hT hq hqs hk c hl hB s 0 1024 (by omega) (by omega)
    have k1' : kX3_wordIs_c28 T k 1024 0 := k1
    have k2' : (vX3_wordIs_c28 T k 1024 0 = 1 ∧ ∀ j, 0 ≤ j → j < s → nm (7 * cd k + j) = nI (B (q + j))) ∨ (vX3_wordIs_c28 T k 1024 0 = 0 ∧ ¬ ∀ j, 0 ≤ j → j < s → nm (7 * cd k + j) = nI (B (q + j))) := k2
    rw [if_pos c1]
    refine ⟨⟨fun _ => ⟨fun _ => k1', fun g => absurd c1 g⟩, fun g => absurd hsort g⟩, ?_⟩
    rcases ca with ⟨a1, a2, a3⟩ | ⟨a1, a2, a3, a4, a5⟩
    · exfalso; rw [a2] at c; omega
    · rcases k2' with ⟨e1, e2⟩ | ⟨e1, e2⟩
      · exact Or.inl ⟨e1, a2, by omega, by rw [c]; exact a5, fun i hi => e2 i (Nat.zero_le i) hi⟩
      · exact Or.inr ⟨e1, fun _ g => e2 (fun j _ hj => g.2.2 j hj)⟩
  · have c1 : ¬ nI s = nI (jLen.getD k 0) := by rw [n_eq (by omega) (by omega)]; exact c
    rw [if_neg c1]
    refine ⟨⟨fun _ => ⟨fun g => absurd g c1, fun _ => trivial⟩, fun g => absurd hsort g⟩, Or.inr ⟨rfl, fun hc g => ?_⟩⟩
    rcases ca with ⟨a1, a2, a3⟩ | ⟨a1, a2, a3, a4, a5⟩
    · omega
    · by_cases lt : s < jLen.getD k 0
      · have := (cd_ch k hk s lt).2
        rcases g.2.1 with e | e
        · omega
        · exact this e
      · have h7 := g.1
        rcases a5 with e | e
        · omega
        · have hm := g.2.2 (jLen.getD k 0) (by omega)
          rw [e] at hm
          have hb := hl (jLen.getD k 0) (by omega)
          have : nI 0 = nI (B (q + jLen.getD k 0)) := hm
          rw [n_eq (by omega) (by omega)] at this
          omega
def Tk (n : Nat) (B : Nat → Nat) (b : Nat) (T : TS) (M : MS) : Prop := TT n B T ∧ MT n B M ∧ ∃ q tok, b ≤ q ∧ q ≤ n ∧ t_begin T = nI q ∧ m_begin M = nI q ∧ m_token M = nI tok ∧ tok ≤ 23 ∧ (∀ k, k < 15 → kX3_wordIs T k ∧ vX3_wordIs T k = if tok = cd k then 1 else 0) ∧ (t_sort T = 2 ↔ tok = 20) ∧ (t_sort T = 3 ↔ tok = 21) ∧ (t_sort T = 0 ↔ tok = 22) ∧ (tok = 20 → ∃ v, v ≤ 99999 ∧ m_value M = nI v ∧ t_number T = nI (min 10000 v)) ∧ (tok < 22 → ∃ e, q < e ∧ e ≤ n ∧ t_end T = nI e ∧ m_at M = nI e)
theorem cd_val (k : Nat) (hk : k < 15) : cd k < 14 ∨ cd k = 99 := by
  rcases cd_all k hk with ⟨_, _, a⟩ | ⟨_, a, _⟩
  · exact Or.inr a
  · exact Or.inl a
theorem ts_sort (T : TS) (a b c d : Int32) : t_sort (t_s_number (t_s_end (t_s_sort (t_s_begin T a) b) c) d) = b := rfl
theorem ts_begin (T : TS) (a b c d : Int32) : t_begin (t_s_number (t_s_end (t_s_sort (t_s_begin T a) b) c) d) = a := rfl
theorem ts_end (T : TS) (a b c d : Int32) : t_end (t_s_number (t_s_end (t_s_sort (t_s_begin T a) b) c) d) = c := rfl
theorem ts_number (T : TS) (a b c d : Int32) : t_number (t_s_number (t_s_end (t_s_sort (t_s_begin T a) b) c) d) = d := rfl
theorem ts_taken (T : TS) (a b c d : Int32) : t_taken (t_s_number (t_s_end (t_s_sort (t_s_begin T a) b) c) d) = t_taken T := rfl
theorem ts_TT {T : TS} (h : TT n B T) (a b c d : Int32) : TT n B (t_s_number (t_s_end (t_s_sort (t_s_begin T a) b) c) d) := h
theorem wis_no {T : TS} (k : Nat) (h : ¬ t_sort T = 1) : kX3_wordIs T k ∧ vX3_wordIs T k = 0 := by
  unfold kX3_wordIs vX3_wordIs
  rw [if_neg h]
  exact ⟨⟨fun g => absurd g h, fun _ => trivial⟩, rfl⟩
theorem nextTk (hn : n ≤ 120) (hB : ∀ i, i < n → B i < 256) {T : TS} {M : MS} (hT : TT n B T) (hM : MT n B M) {p : Nat} (hp : p ≤ n) (e1 : t_end T = nI p) (e2 : m_at M = nI p) : kX3_nextToken T ∧ kX5_reads M ∧ Tk n B p (vX3_nextToken T) (vX5_reads M) ∧ Fr M (vX5_reads M) ∧ m_m (vX5_reads M) = m_m M ∧ m_bad (vX5_reads M) = m_bad M ∧ t_taken (vX3_nextToken T) = t_taken T := by
  obtain ⟨a1, a2⟩ := T_next hn hB hT hp e1
  obtain ⟨b1, e, v, tok, b2, b3⟩ := M_next hn hB hM hp e2
  have hr := sk_rng B (n - p) p
  generalize sk B (n - p) p = q at *
  have hqn : q ≤ n := by omega
  refine ⟨a1, b1, ?_, by rw [b2]; exact Fr_rd _ _ _ _ _, by rw [b2, mrd_m], by rw [b2, mrd_bad], by rw [a2, ts_taken]⟩
  have hs4 := tk_le n B q
  have hTT := ts_TT hT (nI q) (nI (tkSort n B q)) (nI (tkEnd n B q)) (nI (tkNum n B q))
  refine ⟨by rw [a2]; exact hTT, by rw [b2]; exact hM.fr (Fr_rd _ _ _ _ _), q, tok, by omega, hqn, by rw [a2, ts_begin], by rw [b2, mrd_begin], by rw [b2, mrd_token], ?_⟩
  rw [a2, b2, ts_sort, ts_number, ts_end, mrd_value, mrd_at]
  have eqs : ∀ u, (u : Nat) ≤ 4 → ((nI (tkSort n B q) = nI u) ↔ tkSort n B q = u) := fun u hu => by rw [n_eq (by omega) (by omega)]
  have e2' : (nI (tkSort n B q) = (2 : Int32)) ↔ tkSort n B q = 2 := eqs 2 (by omega)
  have e3' : (nI (tkSort n B q) = (3 : Int32)) ↔ tkSort n B q = 3 := eqs 3 (by omega)
  have e0' : (nI (tkSort n B q) = (0 : Int32)) ↔ tkSort n B q = 0 := eqs 0 (by omega)
  have e1' : (nI (tkSort n B q) = (1 : Int32)) ↔ tkSort n B q = 1 := eqs 1 (by omega)
  rw [e2', e3', e0']
  have noW : tkSort n B q ≠ 1 → 14 ≤ tok → tok ≤ 23 → ∀ k, k < 15 → kX3_wordIs (t_s_number (t_s_end (t_s_sort (t_s_begin T (nI q)) (nI (tkSort n B q))) (nI (tkEnd n B q))) (nI (tkNum n B q))) k ∧ vX3_wordIs (t_s_number (t_s_end (t_s_sort (t_s_begin T (nI q)) (nI (tkSort n B q))) (nI (tkEnd n B q))) (nI (tkNum n B q))) k = if tok = cd k then 1 else 0 := fun h1 h2 h3 k hk => by
    have w := wis_no (T := t_s_number (t_s_end (t_s_sort (t_s_begin T (nI q)) (nI (tkSort n B q))) (nI (tkEnd n B q))) (nI (tkNum n B q))) k (by rw [ts_sort]; exact fun g => h1 (e1'.mp g))
    rw [if_neg (by rcases cd_val k hk with g | g <;> omega)]
    exact w
  rcases b3 with ⟨s, t, u⟩ | ⟨s, t, u⟩ | ⟨s, t, u, z⟩ | ⟨s, t, u⟩ | ⟨s, t⟩
  · refine ⟨by omega, noW (by omega) (by omega) (by omega), by omega, by omega, by omega, fun g => by omega, fun g => by omega⟩
  · have hq : q < n := by
      unfold tkSort at s
      by_cases c : n ≤ q
      · rw [if_pos c] at s; omega
      · omega
    have hc : cls (B q) = 1 := by
      unfold tkSort at s
      rw [if_neg (by omega)] at s
      exact s
    have rr := rn_rng B 1 (n - q) q
    have hgt : q < e := by
      rw [t]
      obtain ⟨m, hm⟩ : ∃ m, n - q = m + 1 := ⟨n - q - 1, by omega⟩
      rw [hm, rn, if_pos hc]
      have := rn_rng B 1 m (q + 1)
      omega
    have ee : tkEnd n B q = e := by unfold tkEnd; rw [if_pos s, t]
    have hlet : ∀ i, i < e - q → 97 ≤ B (q + i) ∧ B (q + i) ≤ 122 := fun i hi => cls1 (rr.2.2 (q + i) (by omega) (by rw [← t]; omega))
    have ht23 : tok ≤ 23 := by rcases u with ⟨g, -⟩ | ⟨g, -⟩ <;> omega
    refine ⟨ht23, fun k hk => ?_, ⟨fun g => by omega, fun g => by rcases u with ⟨g2, -⟩ | ⟨g2, -⟩ <;> omega⟩, ⟨fun g => by omega, fun g => by rcases u with ⟨g2, -⟩ | ⟨g2, -⟩ <;> omega⟩, ⟨fun g => by omega, fun g => by rcases u with ⟨g2, -⟩ | ⟨g2, -⟩ <;> omega⟩, fun g => by rcases u with ⟨g2, -⟩ | ⟨g2, -⟩ <;> omega, fun g => ⟨e, hgt, by omega, by rw [ee], rfl⟩⟩
    have w := wis hn hTT (q := q) (s := e - q) (k := k) (by rw [ts_sort]; exact e1'.mpr s) (ts_begin _ _ _ _ _) (by rw [ts_end, ee, show q + (e - q) = e by omega]) (by omega) (by omega) hk hlet hB
    refine ⟨w.1, ?_⟩
    rcases w.2 with ⟨w1, w2, w3⟩ | ⟨w1, w2⟩
    · rw [w1]
      rcases u with ⟨g1, g2⟩ | ⟨g1, g2⟩
      · rw [if_pos (Wd_one g1 w2 g2 w3)]
      · exact absurd w3 (g2 _ w2)
    · rw [w1, if_neg]
      intro g
      rcases u with ⟨g1, g2⟩ | ⟨g1, g2⟩
      · rw [g] at g1 g2
        exact w2 g1 g2
      · rcases cd_val k hk with g3 | g3 <;> omega
  · have hq : q < n := by
      unfold tkSort at s
      by_cases c : n ≤ q
      · rw [if_pos c] at s; omega
      · omega
    have hc : cls (B q) = 2 := by
      unfold tkSort at s
      rw [if_neg (by omega)] at s
      exact s
    have rr := rn_rng B 2 (n - q) q
    have hgt : q < e := by
      rw [t]
      obtain ⟨m, hm⟩ : ∃ m, n - q = m + 1 := ⟨n - q - 1, by omega⟩
      rw [hm, rn, if_pos hc]
      have := rn_rng B 2 m (q + 1)
      omega
    have ee : tkEnd n B q = e := by unfold tkEnd; rw [if_neg (by omega), if_pos s, t]
    have vv := vc_vm B (n - q) q 0 (by omega)
    have ev : tkNum n B q = min 10000 v := by unfold tkNum; rw [if_pos s, z, ← vv.1]; rfl
    refine ⟨by omega, noW (by omega) (by omega) (by omega), by omega, by omega, by omega, fun g => ⟨v, by rw [z]; exact vv.2, rfl, by rw [ev]⟩, fun g => ⟨e, hgt, by omega, by rw [ee], rfl⟩⟩
  · have hq : q < n := by
      unfold tkSort at s
      by_cases c : n ≤ q
      · rw [if_pos c] at s; omega
      · omega
    have ee : tkEnd n B q = q + 1 := by unfold tkEnd; rw [if_neg (by omega), if_neg (by omega), if_pos s]
    refine ⟨by omega, noW (by omega) (by omega) (by omega), by omega, by omega, by omega, fun g => by omega, fun g => ⟨e, by omega, by omega, by rw [ee, t], rfl⟩⟩
  · refine ⟨by omega, noW (by omega) (by omega) (by omega), by omega, by omega, by omega, fun g => by omega, fun g => by omega⟩
end TQ
