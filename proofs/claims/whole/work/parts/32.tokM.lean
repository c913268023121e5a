-- the reference's tokens
section TM
variable {n : Nat} {B : Nat → Nat}
theorem isB (hn : n ≤ 120) {M : MS} (hM : MT n B M) (hB : ∀ i, i < n → B i < 256) (p lo hi : Nat) (hp : p ≤ n) (hl : lo < 1000) (hh : hi < 1000) : kX5_isByte M (nI p) (nI lo) (nI hi) ∧ vX5_isByte M (nI p) (nI lo) (nI hi) = if p < n ∧ lo ≤ B p ∧ B p ≤ hi then 1 else 0 := by
  unfold kX5_isByte vX5_isByte
  rw [hM.1]
  by_cases c : n ≤ p
  · have c1 : nI n ≤ nI p := by rw [n_le (by omega) (by omega)]; exact c
    rw [if_pos c1, if_neg (by omega)]
    exact ⟨⟨fun _ => trivial, fun g => absurd c1 g⟩, rfl⟩
  · have c1 : ¬ nI n ≤ nI p := by rw [n_le (by omega) (by omega)]; exact c
    have hb := hB p (by omega)
    rw [if_neg c1, n_cl (by omega), hM.2 p (by omega)]
    refine ⟨⟨fun g => absurd g c1, fun _ => ⟨n_in (by omega) (by omega), trivial⟩⟩, ?_⟩
    by_cases q : lo ≤ B p ∧ B p ≤ hi
    · have z : ¬ vX5_in (nI (B p)) (nI lo) (nI hi) = nI 0 := vin_N (by omega) (by omega) q.1 q.2
      have z' : ¬ vX5_in (nI (B p)) (nI lo) (nI hi) = 0 := z
      rw [if_neg z', if_pos ⟨by omega, q⟩]
    · have z : vX5_in (nI (B p)) (nI lo) (nI hi) = 0 := by
        rcases vin01 (nI (B p)) (nI lo) (nI hi) with g | g
        · exact g
        · exfalso
          have := (vin_iff (nI (B p)) (nI lo) (nI hi)).mp (by rw [g]; decide)
          rw [n_le (by omega) (by omega), n_le (by omega) (by omega)] at this
          exact q this
      rw [if_pos z, if_neg (fun g => q g.2)]
/-- the word between q and q + s is name j -/
def nm (k : Nat) : Int32 := jNames.getD k 0
def Wd (B : Nat → Nat) (q s j : Nat) : Prop := s ≤ 7 ∧ (s = 7 ∨ nm (7 * j + s) = 0) ∧ ∀ i, i < s → nm (7 * j + i) = nI (B (q + i))
theorem name_L (hn : n ≤ 120) {M : MS} (hM : MT n B M) {q s j : Nat} (hq : m_begin M = nI q) (hqs : q + s ≤ n) (hs : s ≤ 7) (hj : j < 14) : ∀ (r k f : Nat), k + r = s → r + 1 < f → kX5_isName_c34 M (nI j) (nI s) f 1 (nI k) ∧ ((vX5_isName_c34 M (nI j) (nI s) f 1 (nI k) = 1 ∧ ∀ i, k ≤ i → i < s → nm (7 * j + i) = nI (B (q + i))) ∨ (vX5_isName_c34 M (nI j) (nI s) f 1 (nI k) = 0 ∧ ¬ ∀ i, k ≤ i → i < s → nm (7 * j + i) = nI (B (q + i))))
  | r, k, 0, h1, h2 => by omega
  | 0, k, f + 1, h1, h2 => by
    unfold kX5_isName_c34 vX5_isName_c34
    have c : nI s ≤ nI k := by rw [n_le (by omega) (by omega)]; omega
    rw [if_pos c]
    exact ⟨⟨fun _ => ⟨Or.inr rfl, trivial⟩, fun g => absurd c g⟩, Or.inl ⟨rfl, fun i h3 h4 => by omega⟩⟩
  | r + 1, k, f + 1, h1, h2 => by
    unfold kX5_isName_c34 vX5_isName_c34 kX5_isName_c75 vX5_isName_c75
    have c : ¬ nI s ≤ nI k := by rw [n_le (by omega) (by omega)]; omega
    have c2 : ¬ (1 : Int32) = 0 := by decide
    have ex : (7 : Int32) * nI j + nI k = nI (7 * j + k) := by rw [nz, pk_mul, nI_add]
    have ey : m_begin M + nI k = nI (q + k) := by rw [hq, nI_add]
    have ei : nI k + (1 : Int32) = nI (k + 1) := by rw [nz, nI_add]
    have hin : vp_in (nI (7 * j + k)) 98 := n_in (by omega) (by omega)
    have hin2 : vp_in (nI (q + k)) 120 := n_in (by omega) (by omega)
    have eN : jNames.getD (7 * j + k) 0 = nm (7 * j + k) := rfl
    rw [if_neg c, if_neg c2, ex, ey, ei, n_cl (by omega : 7 * j + k < 2147483648), n_cl (by omega : q + k < 2147483648), hM.2 (q + k) (by omega), eN]
    by_cases g : nm (7 * j + k) = nI (B (q + k))
    · obtain ⟨i1, i2⟩ := name_L hn hM hq hqs hs hj r (k + 1) f (by omega) (by omega)
      rw [if_pos g]
      refine ⟨⟨fun g => absurd g c, fun _ => ⟨fun g => absurd g c2, fun _ => ⟨hin, hin2, fun _ => i1, fun q => absurd g q⟩⟩⟩, ?_⟩
      rcases i2 with ⟨e1, e2⟩ | ⟨e1, e2⟩
      · refine Or.inl ⟨e1, fun i h3 h4 => ?_⟩
        by_cases e : i = k
        · rw [e]; exact g
        · exact e2 i (by omega) h4
      · exact Or.inr ⟨e1, fun h3 => e2 (fun i h4 h5 => h3 i (by omega) h5)⟩
    · obtain ⟨f', rfl⟩ : ∃ f', f = f' + 1 := ⟨f - 1, by omega⟩
      have last : kX5_isName_c34 M (nI j) (nI s) (f' + 1) 0 (nI (k + 1)) ∧ vX5_isName_c34 M (nI j) (nI s) (f' + 1) 0 (nI (k + 1)) = 0 := by
        unfold kX5_isName_c34 vX5_isName_c34
        have z : (0 : Int32) = 0 := rfl
        refine ⟨⟨fun _ => ⟨Or.inl rfl, trivial⟩, fun _ => ⟨fun _ => ⟨Or.inl rfl, trivial⟩, fun g => absurd z g⟩⟩, ?_⟩
        rw [if_pos z]
        split <;> rfl
      rw [if_neg g]
      refine ⟨⟨fun g => absurd g c, fun _ => ⟨fun g => absurd g c2, fun _ => ⟨hin, hin2, fun q => absurd q g, fun _ => last.1⟩⟩⟩, Or.inr ⟨last.2, fun h3 => g (h3 k (Nat.le_refl k) (by omega))⟩⟩
theorem name_0 (M : MS) (p s : Int32) (f : Nat) : kX5_isName_c34 M p s (f + 1) 0 0 ∧ vX5_isName_c34 M p s (f + 1) 0 0 = 0 := by
  unfold kX5_isName_c34 vX5_isName_c34
  have z : (0 : Int32) = 0 := rfl
  refine ⟨⟨fun _ => ⟨Or.inl rfl, trivial⟩, fun _ => ⟨fun _ => ⟨Or.inl rfl, trivial⟩, fun g => absurd z g⟩⟩, ?_⟩
  rw [if_pos z]
  split <;> rfl
theorem isN (hn : n ≤ 120) {M : MS} (hM : MT n B M) {q s j : Nat} (hq : m_begin M = nI q) (hqs : q + s ≤ n) (hj : j < 14) : kX5_isName M (nI j) (nI s) ∧ ((vX5_isName M (nI j) (nI s) = 1 ∧ Wd B q s j) ∨ (vX5_isName M (nI j) (nI s) = 0 ∧ ¬ Wd B q s j)) := by
  unfold kX5_isName vX5_isName kX5_isName_c29 vX5_isName_c29 kX5_isName_c25 vX5_isName_c25 kX5_isName_c30 vX5_isName_c30
  have no := name_0 M (nI j) (nI s) 1023
  by_cases c : 7 < s
  · have c1 : (7 : Int32) < nI s := by rw [nz, n_lt (by omega) (by omega)]; exact c
    rw [if_pos c1]
    exact ⟨⟨fun _ => no.1, fun g => absurd c1 g⟩, Or.inr ⟨no.2, fun g => absurd g.1 (by omega)⟩⟩
  · have c1 : ¬ (7 : Int32) < nI s := by rw [nz, n_lt (by omega) (by omega)]; exact c
    obtain ⟨k1, k2⟩ := name_L hn hM hq hqs (by omega : s ≤ 7) hj s 0 1024 (by omega) (by omega)
    have k1' : kX5_isName_c34 M (nI j) (nI s) 1024 1 0 := k1
    have k2' : (vX5_isName_c34 M (nI j) (nI s) 1024 1 0 = 1 ∧ ∀ i, 0 ≤ i → i < s → nm (7 * j + i) = nI (B (q + i))) ∨ (vX5_isName_c34 M (nI j) (nI s) 1024 1 0 = 0 ∧ ¬ ∀ i, 0 ≤ i → i < s → nm (7 * j + i) = nI (B (q + i))) := k2
    have fin : (s = 7 ∨ nm (7 * j + s) = 0) → (vX5_isName_c34 M (nI j) (nI s) 1024 1 0 = 1 ∧ Wd B q s j) ∨ (vX5_isName_c34 M (nI j) (nI s) 1024 1 0 = 0 ∧ ¬ Wd B q s j) := fun h => by
      rcases k2' with ⟨e1, e2⟩ | ⟨e1, e2⟩
      · exact Or.inl ⟨e1, by omega, h, fun i hi => e2 i (Nat.zero_le i) hi⟩
      · exact Or.inr ⟨e1, fun g => e2 (fun i _ hi => g.2.2 i hi)⟩
    have ex : (7 : Int32) * nI j + nI s = nI (7 * j + s) := by rw [nz, pk_mul, nI_add]
    rw [if_neg c1, ex, n_cl (by omega : 7 * j + s < 2147483648)]
    have eN : jNames.getD (7 * j + s) 0 = nm (7 * j + s) := rfl
    rw [eN]
    by_cases c7 : s = 7
    · have d : nI s = (7 : Int32) := by rw [c7]; rfl
      rw [if_pos d]
      exact ⟨⟨fun g => absurd g c1, fun _ => ⟨fun _ => k1', fun g => absurd d g⟩⟩, fin (Or.inl c7)⟩
    · have d : ¬ nI s = (7 : Int32) := by rw [nz, n_eq (by omega) (by omega)]; exact c7
      have hin : vp_in (nI (7 * j + s)) 98 := n_in (by omega) (by omega)
      rw [if_neg d]
      by_cases z : nm (7 * j + s) = 0
      · rw [if_pos z]
        exact ⟨⟨fun g => absurd g c1, fun _ => ⟨fun g => absurd g d, fun _ => ⟨hin, fun _ => k1', fun g => absurd z g⟩⟩⟩, fin (Or.inr z)⟩
      · rw [if_neg z]
        refine ⟨⟨fun g => absurd g c1, fun _ => ⟨fun g => absurd g d, fun _ => ⟨hin, fun g => absurd g z, fun _ => no.1⟩⟩⟩, Or.inr ⟨no.2, fun g => ?_⟩⟩
        rcases g.2.1 with e | e
        · exact c7 e
        · exact z e
theorem word_L (hn : n ≤ 120) {M : MS} (hM : MT n B M) {q s : Nat} (hq : m_begin M = nI q) (ha : m_at M = nI (q + s)) (hqs : q + s ≤ n) : ∀ (f j : Nat), j ≤ 14 → 14 < j + f → (∀ i, i < j → ¬ Wd B q s i) → kX5_wordHere_c2 M f (nI j) ∧ ∃ w, vX5_wordHere_c2 M f (nI j) = nI w ∧ ((w < 14 ∧ Wd B q s w) ∨ (w = 23 ∧ ∀ i, i < 14 → ¬ Wd B q s i))
  | 0, j, h1, h2, h3 => by omega
  | f + 1, j, h1, h2, h3 => by
    unfold kX5_wordHere_c2 vX5_wordHere_c2 vX5_wordHere_c31
    by_cases c : 14 ≤ j
    · have c1 : (14 : Int32) ≤ nI j := by rw [nz, n_le (by omega) (by omega)]; exact c
      rw [if_pos c1, if_pos c1]
      exact ⟨⟨fun _ => trivial, fun g => absurd c1 g⟩, 23, rfl, Or.inr ⟨rfl, fun i hi => h3 i (by omega)⟩⟩
    · have c1 : ¬ (14 : Int32) ≤ nI j := by rw [nz, n_le (by omega) (by omega)]; exact c
      have es : m_at M - m_begin M = nI s := by
        rw [ha, hq, n_sub (by omega)]
        rw [show q + s - q = s by omega]
      have ei : nI j + (1 : Int32) = nI (j + 1) := by rw [nz, nI_add]
      obtain ⟨k1, k2⟩ := isN hn hM hq hqs (by omega : j < 14)
      rw [es, if_neg c1, if_neg c1, ei]
      rcases k2 with ⟨e1, e2⟩ | ⟨e1, e2⟩
      · have z : ¬ (1 : Int32) = 0 := by decide
        rw [e1, if_neg z]
        exact ⟨⟨fun g => absurd g c1, fun _ => ⟨k1, fun g => absurd g z, fun _ => trivial⟩⟩, j, rfl, Or.inl ⟨by omega, e2⟩⟩
      · have z : (0 : Int32) = 0 := rfl
        rw [e1, if_pos z]
        obtain ⟨i1, i2⟩ := word_L hn hM hq ha hqs f (j + 1) (by omega) (by omega) (fun i hi => by
          by_cases e : i = j
          · rw [e]; exact e2
          · exact h3 i (by omega))
        exact ⟨⟨fun g => absurd g c1, fun _ => ⟨k1, fun _ => i1, fun g => absurd z g⟩⟩, i2⟩
theorem M_skip (hn : n ≤ 120) (hB : ∀ i, i < n → B i < 256) {M0 : MS} (hM : MT n B M0) : ∀ (r p f : Nat), p + r = n → r < f → (kX5_reads_c36 (m_s_begin (m_s_at M0 (nI (sk B r p))) (nI (sk B r p))) → kX5_reads_c0 f (m_s_at M0 (nI p))) ∧ vX5_reads_c0 f (m_s_at M0 (nI p)) = vX5_reads_c36 (m_s_begin (m_s_at M0 (nI (sk B r p))) (nI (sk B r p)))
  | r, p, 0, h1, h2 => by omega
  | r, p, f + 1, h1, h2 => by
    unfold kX5_reads_c0 vX5_reads_c0 kX5_reads_c25 vX5_reads_c25
    have e1 : m_at (m_s_at M0 (nI p)) = nI p := rfl
    have b := isB hn (M := m_s_at M0 (nI p)) hM hB p 32 32 (by omega) (by omega) (by omega)
    have b1 : kX5_isByte (m_s_at M0 (nI p)) (nI p) (32 : Int32) (32 : Int32) := b.1
    have b2 : vX5_isByte (m_s_at M0 (nI p)) (nI p) (32 : Int32) (32 : Int32) = if p < n ∧ 32 ≤ B p ∧ B p ≤ 32 then 1 else 0 := b.2
    have ei : nI p + (1 : Int32) = nI (p + 1) := by rw [nz, nI_add]
    have e2 : ∀ v, m_s_at (m_s_at M0 (nI p)) v = m_s_at M0 v := fun _ => rfl
    rw [e1, b2, e2, ei]
    have z1 : ¬ (1 : Int32) = 0 := by decide
    have z0 : (0 : Int32) = 0 := rfl
    cases r with
    | zero =>
      rw [if_neg (by omega)]
      unfold sk
      rw [if_pos z0]
      exact ⟨fun k => ⟨b1, fun _ => k, fun g => absurd z0 g⟩, rfl⟩
    | succ r =>
      unfold sk
      by_cases c : B p = 32
      · have ih := M_skip hn hB hM r (p + 1) f (by omega) (by omega)
        rw [if_pos c, if_pos (by omega), if_neg z1]
        exact ⟨fun k => ⟨b1, fun g => absurd g z1, fun _ => ih.1 k⟩, ih.2⟩
      · rw [if_neg c, if_neg (by omega), if_pos z0]
        exact ⟨fun k => ⟨b1, fun _ => k, fun g => absurd z0 g⟩, rfl⟩
theorem cls_1 {b : Nat} : cls b = 1 ↔ 97 ≤ b ∧ b ≤ 122 := ⟨cls1, fun h => by unfold cls; rw [if_pos h]⟩
theorem cls_2 {b : Nat} : cls b = 2 ↔ 48 ≤ b ∧ b ≤ 57 := ⟨cls2, fun h => by unfold cls; rw [if_neg (by omega), if_pos h]⟩
theorem cls_3 {b : Nat} : cls b = 3 ↔ b = 59 := by
  unfold cls
  constructor
  · intro h
    repeat' split at h
    all_goals first | omega | assumption
  · intro h
    rw [if_neg (by omega), if_neg (by omega), if_pos h]
theorem M_word (hn : n ≤ 120) (hB : ∀ i, i < n → B i < 256) {M0 : MS} (hM : MT n B M0) {q : Nat} (hq : m_begin M0 = nI q) : ∀ (r p f : Nat), p + r = n → r < f → q ≤ p → kX5_reads_c76 f (m_s_at M0 (nI p)) ∧ ∃ w, vX5_reads_c76 f (m_s_at M0 (nI p)) = m_s_token (m_s_at M0 (nI (rn B 1 r p))) (nI w) ∧ ((w < 14 ∧ Wd B q (rn B 1 r p - q) w) ∨ (w = 23 ∧ ∀ i, i < 14 → ¬ Wd B q (rn B 1 r p - q) i))
  | r, p, 0, h1, h2, h3 => by omega
  | r, p, f + 1, h1, h2, h3 => by
    unfold kX5_reads_c76 vX5_reads_c76 kX5_reads_c101 vX5_reads_c101
    have e1 : m_at (m_s_at M0 (nI p)) = nI p := rfl
    have b := isB hn (M := m_s_at M0 (nI p)) hM hB p 97 122 (by omega) (by omega) (by omega)
    have b1 : kX5_isByte (m_s_at M0 (nI p)) (nI p) (97 : Int32) (122 : Int32) := b.1
    have b2 : vX5_isByte (m_s_at M0 (nI p)) (nI p) (97 : Int32) (122 : Int32) = if p < n ∧ 97 ≤ B p ∧ B p ≤ 122 then 1 else 0 := b.2
    have ei : nI p + (1 : Int32) = nI (p + 1) := by rw [nz, nI_add]
    have e2 : ∀ v, m_s_at (m_s_at M0 (nI p)) v = m_s_at M0 v := fun _ => rfl
    rw [e1, b2, e2, ei]
    have z1 : ¬ (1 : Int32) = 0 := by decide
    have z0 : (0 : Int32) = 0 := rfl
    obtain ⟨w1, w, w2, w3⟩ := word_L hn (M := m_s_at M0 (nI p)) hM (q := q) (s := p - q) hq (by show nI p = _; rw [show q + (p - q) = p by omega]) (by omega) 1024 0 (by omega) (by omega) (fun i hi => absurd hi (Nat.not_lt_zero i))
    have w2' : vX5_wordHere (m_s_at M0 (nI p)) = nI w := w2
    have w1' : kX5_wordHere (m_s_at M0 (nI p)) := w1
    cases r with
    | zero =>
      rw [if_neg (by omega)]
      unfold rn
      rw [if_pos z0, w2']
      exact ⟨⟨b1, fun _ => ⟨w1', trivial⟩, fun g => absurd z0 g⟩, w, rfl, w3⟩
    | succ r =>
      unfold rn
      by_cases c : cls (B p) = 1
      · have c' := cls_1.mp c
        obtain ⟨i1, i2⟩ := M_word hn hB hM hq r (p + 1) f (by omega) (by omega) (by omega)
        rw [if_pos c, if_pos (by omega), if_neg z1]
        exact ⟨⟨b1, fun g => absurd g z1, fun _ => i1⟩, i2⟩
      · rw [if_neg c, if_neg (fun g => c (cls_1.mpr g.2)), if_pos z0, w2']
        exact ⟨⟨b1, fun _ => ⟨w1', trivial⟩, fun g => absurd z0 g⟩, w, rfl, w3⟩
theorem M_num (hn : n ≤ 120) (hB : ∀ i, i < n → B i < 256) {M0 : MS} (hM : MT n B M0) : ∀ (r p f a : Nat), p + r = n → r < f → a ≤ 99999 → kX5_reads_c130 f (m_s_value (m_s_at M0 (nI p)) (nI a)) ∧ vX5_reads_c130 f (m_s_value (m_s_at M0 (nI p)) (nI a)) = m_s_token (m_s_value (m_s_at M0 (nI (rn B 2 r p))) (nI (vm B r p a))) (nI 20)
  | r, p, 0, a, h1, h2, h3 => by omega
  | r, p, f + 1, a, h1, h2, h3 => by
    unfold kX5_reads_c130 vX5_reads_c130 kX5_reads_c183 vX5_reads_c183 kX5_reads_c186 vX5_reads_c186 kX5_reads_c196 vX5_reads_c196
    have e1 : m_at (m_s_value (m_s_at M0 (nI p)) (nI a)) = nI p := rfl
    have e3 : m_value (m_s_value (m_s_at M0 (nI p)) (nI a)) = nI a := rfl
    have b := isB hn (M := m_s_value (m_s_at M0 (nI p)) (nI a)) hM hB p 48 57 (by omega) (by omega) (by omega)
    have b1 : kX5_isByte (m_s_value (m_s_at M0 (nI p)) (nI a)) (nI p) (48 : Int32) (57 : Int32) := b.1
    have b2 : vX5_isByte (m_s_value (m_s_at M0 (nI p)) (nI a)) (nI p) (48 : Int32) (57 : Int32) = if p < n ∧ 48 ≤ B p ∧ B p ≤ 57 then 1 else 0 := b.2
    have ei : nI p + (1 : Int32) = nI (p + 1) := by rw [nz, nI_add]
    have e2 : ∀ v w, m_s_at (m_s_value (m_s_value (m_s_at M0 (nI p)) (nI a)) v) w = m_s_value (m_s_at M0 w) v := fun _ _ => rfl
    have e4 : ∀ v, m_at (m_s_value (m_s_value (m_s_at M0 (nI p)) (nI a)) v) = nI p := fun _ => rfl
    rw [e1, e3, b2, e4, e2, e4, e2, ei]
    have z1 : ¬ (1 : Int32) = 0 := by decide
    have z0 : (0 : Int32) = 0 := rfl
    cases r with
    | zero =>
      rw [if_neg (by omega)]
      unfold rn vm
      rw [if_pos z0]
      exact ⟨⟨b1, fun _ => trivial, fun g => absurd z0 g⟩, rfl⟩
    | succ r =>
      unfold rn vm
      by_cases c : cls (B p) = 2
      · have c' := cls_2.mp c
        have hin : vp_in (nI p) 120 := n_in (by omega) (by omega)
        have et : m_tape (m_s_value (m_s_at M0 (nI p)) (nI a)) (nI p).toNatClampNeg = nI (B p) := by rw [n_cl (by omega)]; exact hM.2 p (by omega)
        rw [if_pos c, if_pos c, if_pos (by omega), if_neg z1, et]
        by_cases q : a ≤ 9999
        · have q1 : nI a ≤ (9999 : Int32) := by rw [nz, n_le (by omega) (by omega)]; exact q
          have ev : (10 : Int32) * nI a + nI (B p) - (48 : Int32) = nI (10 * a + (B p - 48)) := by
            rw [nz, nz, pk_mul, nI_add, n_sub (by omega)]
            rw [show 10 * a + B p - 48 = 10 * a + (B p - 48) by omega]
          have ih := M_num hn hB hM r (p + 1) f (10 * a + (B p - 48)) (by omega) (by omega) (by omega)
          rw [if_pos q1, if_pos q, ev]
          exact ⟨⟨b1, fun g => absurd g z1, fun _ => ⟨fun _ => ⟨hin, ih.1⟩, fun g => absurd q1 g⟩⟩, ih.2⟩
        · have q1 : ¬ nI a ≤ (9999 : Int32) := by rw [nz, n_le (by omega) (by omega)]; exact q
          have ih := M_num hn hB hM r (p + 1) f a (by omega) (by omega) h3
          rw [if_neg q1, if_neg q]
          exact ⟨⟨b1, fun g => absurd g z1, fun _ => ⟨fun g => absurd g q1, fun _ => ih.1⟩⟩, ih.2⟩
      · rw [if_neg c, if_neg c, if_neg (fun g => c (cls_2.mpr g.2)), if_pos z0]
        exact ⟨⟨b1, fun _ => trivial, fun g => absurd z0 g⟩, rfl⟩
end TM
