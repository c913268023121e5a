-- tokens: both readers against one reading of the bytes
def cls (b : Nat) : Nat := if 97 ≤ b ∧ b ≤ 122 then 1 else if 48 ≤ b ∧ b ≤ 57 then 2 else if b = 59 then 3 else 4
def sk (B : Nat → Nat) : Nat → Nat → Nat
  | 0, p => p
  | r + 1, p => if B p = 32 then sk B r (p + 1) else p
def rn (B : Nat → Nat) (c : Nat) : Nat → Nat → Nat
  | 0, p => p
  | r + 1, p => if cls (B p) = c then rn B c r (p + 1) else p
def vc (B : Nat → Nat) : Nat → Nat → Nat → Nat
  | 0, _, a => a
  | r + 1, p, a => if cls (B p) = 2 then vc B r (p + 1) (min 10000 (10 * a + (B p - 48))) else a
def vm (B : Nat → Nat) : Nat → Nat → Nat → Nat
  | 0, _, a => a
  | r + 1, p, a => if cls (B p) = 2 then vm B r (p + 1) (if a ≤ 9999 then 10 * a + (B p - 48) else a) else a
theorem sk_rng (B : Nat → Nat) : ∀ r p, p ≤ sk B r p ∧ sk B r p ≤ p + r ∧ (sk B r p < p + r → B (sk B r p) ≠ 32)
  | 0, p => ⟨Nat.le_refl p, Nat.le_refl _, fun h => absurd h (Nat.lt_irrefl _)⟩
  | r + 1, p => by
    unfold sk
    by_cases c : B p = 32
    · rw [if_pos c]
      have ih := sk_rng B r (p + 1)
      exact ⟨by omega, by omega, fun h => ih.2.2 (by omega)⟩
    · rw [if_neg c]
      exact ⟨Nat.le_refl p, by omega, fun _ => c⟩
theorem rn_rng (B : Nat → Nat) (c : Nat) : ∀ r p, p ≤ rn B c r p ∧ rn B c r p ≤ p + r ∧ ∀ i, p ≤ i → i < rn B c r p → cls (B i) = c
  | 0, p => ⟨Nat.le_refl p, Nat.le_refl _, fun i h1 h2 => absurd (Nat.lt_of_le_of_lt h1 h2) (Nat.lt_irrefl _)⟩
  | r + 1, p => by
    unfold rn
    by_cases e : cls (B p) = c
    · rw [if_pos e]
      have ih := rn_rng B c r (p + 1)
      refine ⟨by omega, by omega, fun i h1 h2 => ?_⟩
      by_cases q : i = p
      · rw [q]; exact e
      · exact ih.2.2 i (by omega) h2
    · rw [if_neg e]
      exact ⟨Nat.le_refl p, by omega, fun i h1 h2 => absurd (Nat.lt_of_le_of_lt h1 h2) (Nat.lt_irrefl _)⟩
theorem cls2 {b : Nat} (h : cls b = 2) : 48 ≤ b ∧ b ≤ 57 := by
  unfold cls at h
  repeat' split at h
  all_goals first | omega | assumption
theorem cls1 {b : Nat} (h : cls b = 1) : 97 ≤ b ∧ b ≤ 122 := by
  unfold cls at h
  repeat' split at h
  all_goals first | omega | assumption
theorem vc_vm (B : Nat → Nat) : ∀ r p a, a ≤ 99999 → vc B r p (min 10000 a) = min 10000 (vm B r p a) ∧ vm B r p a ≤ 99999
  | 0, p, a, h => ⟨rfl, h⟩
  | r + 1, p, a, h => by
    unfold vc vm
    by_cases c : cls (B p) = 2
    · have hb := cls2 c
      rw [if_pos c, if_pos c]
      by_cases q : a ≤ 9999
      · rw [if_pos q]
        have ih := vc_vm B r (p + 1) (10 * a + (B p - 48)) (by omega)
        rw [show min 10000 a = a by omega]
        exact ih
      · rw [if_neg q]
        have ih := vc_vm B r (p + 1) a h
        rw [show min 10000 (10 * min 10000 a + (B p - 48)) = min 10000 a by omega]
        exact ih
    · rw [if_neg c, if_neg c]
      exact ⟨rfl, h⟩
def sby (b : Nat) : Int32 := (nI b).toInt8.toInt32
theorem sby_all : ∀ b, b < 256 → (sby b = (32 : Int32) ↔ b = 32) ∧ vX3_sortOf (sby b) = nI (cls b) ∧ (b < 128 → sby b = nI b) := by decide +kernel
def TT (n : Nat) (B : Nat → Nat) (T : TS) : Prop := t_length T = nI n ∧ ∀ i, i < n → t_bytes T i = sby (B i)
def MT (n : Nat) (B : Nat → Nat) (M : MS) : Prop := m_taped M = nI n ∧ ∀ i, i < n → m_tape M i = nI (B i)
section TK
variable {n : Nat} {B : Nat → Nat}
theorem T_skip (hn : n ≤ 120) (hB : ∀ i, i < n → B i < 256) {T0 : TS} (hT : TT n B T0) : ∀ (r p f : Nat), p + r = n → r < f → (kX3_nextToken_c46 (t_s_begin T0 (nI (sk B r p))) → kX3_nextToken_c8 f (t_s_begin T0 (nI p))) ∧ vX3_nextToken_c8 f (t_s_begin T0 (nI p)) = vX3_nextToken_c46 (t_s_begin T0 (nI (sk B r p)))
  | r, p, 0, h1, h2 => by omega
  | 0, p, f + 1, h1, h2 => by
    unfold kX3_nextToken_c8 vX3_nextToken_c8 sk
    have e1 : t_length (t_s_begin T0 (nI p)) = nI n := hT.1
    have e2 : t_begin (t_s_begin T0 (nI p)) = nI p := rfl
    have c : nI n ≤ nI p := by rw [n_le (by omega) (by omega)]; omega
    rw [e1, e2, if_pos c]
    exact ⟨fun k => ⟨fun _ => k, fun q => absurd c q⟩, rfl⟩
  | r + 1, p, f + 1, h1, h2 => by
    unfold kX3_nextToken_c8 vX3_nextToken_c8 sk
    have e1 : t_length (t_s_begin T0 (nI p)) = nI n := hT.1
    have e2 : t_begin (t_s_begin T0 (nI p)) = nI p := rfl
    have e3 : t_bytes (t_s_begin T0 (nI p)) p = sby (B p) := hT.2 p (by omega)
    have c : ¬ nI n ≤ nI p := by rw [n_le (by omega) (by omega)]; omega
    have hin : vp_in (nI p) 120 := n_in (by omega) (by omega)
    have ei : nI p + (1 : Int32) = nI (p + 1) := by rw [nz, nI_add]
    have hs := sby_all (B p) (hB p (by omega))
    unfold kX3_nextToken_c43 vX3_nextToken_c43
    rw [e1, e2, n_cl (by omega), e3, ei, if_neg c]
    by_cases q : B p = 32
    · have q1 : sby (B p) = (32 : Int32) := hs.1.mpr q
      have ih := T_skip hn hB hT r (p + 1) f (by omega) (by omega)
      rw [if_pos q, if_pos q1]
      exact ⟨fun k => ⟨fun g => absurd g c, fun _ => ⟨hin, fun _ => ih.1 k, fun g => absurd q1 g⟩⟩, ih.2⟩
    · have q1 : ¬ sby (B p) = (32 : Int32) := fun g => q (hs.1.mp g)
      rw [if_neg q, if_neg q1]
      exact ⟨fun k => ⟨fun g => absurd g c, fun _ => ⟨hin, fun g => absurd g q1, fun _ => k⟩⟩, rfl⟩
theorem T_word (hn : n ≤ 120) (hB : ∀ i, i < n → B i < 256) {T0 : TS} (hT : TT n B T0) (hs : t_sort T0 = 1) : ∀ (r p f : Nat), p + r = n → r < f → kX3_nextToken_c108 f (t_s_end T0 (nI p)) ∧ vX3_nextToken_c108 f (t_s_end T0 (nI p)) = t_s_end T0 (nI (rn B 1 r p))
  | r, p, 0, h1, h2 => by omega
  | 0, p, f + 1, h1, h2 => by
    unfold kX3_nextToken_c108 vX3_nextToken_c108 rn
    have e1 : t_length (t_s_end T0 (nI p)) = nI n := hT.1
    have e2 : t_end (t_s_end T0 (nI p)) = nI p := rfl
    have c : nI n ≤ nI p := by rw [n_le (by omega) (by omega)]; omega
    rw [e1, e2, if_pos c]
    exact ⟨⟨fun _ => trivial, fun q => absurd c q⟩, rfl⟩
  | r + 1, p, f + 1, h1, h2 => by
    unfold kX3_nextToken_c108 vX3_nextToken_c108 rn kX3_nextToken_c135 vX3_nextToken_c135 kX3_nextToken_c192 vX3_nextToken_c192 kX3_nextToken_c202 vX3_nextToken_c202
    have e1 : t_length (t_s_end T0 (nI p)) = nI n := hT.1
    have e2 : t_end (t_s_end T0 (nI p)) = nI p := rfl
    have e3 : t_bytes (t_s_end T0 (nI p)) p = sby (B p) := hT.2 p (by omega)
    have e4 : t_sort (t_s_end T0 (nI p)) = 1 := hs
    have c : ¬ nI n ≤ nI p := by rw [n_le (by omega) (by omega)]; omega
    have hin : vp_in (nI p) 120 := n_in (by omega) (by omega)
    have ei : nI p + (1 : Int32) = nI (p + 1) := by rw [nz, nI_add]
    have hb := sby_all (B p) (hB p (by omega))
    have n12 : ¬ (1 : Int32) = 2 := by decide
    rw [e1, e2, n_cl (by omega), e3, e4, hb.2.1, ei, if_neg c, if_pos rfl]
    by_cases q : cls (B p) = 1
    · have q1 : nI (cls (B p)) = (1 : Int32) := by rw [q]; rfl
      have ih := T_word hn hB hT hs r (p + 1) f (by omega) (by omega)
      rw [if_pos q, if_pos q1, if_neg n12]
      exact ⟨⟨fun g => absurd g c, fun _ => ⟨fun _ => ⟨hin, fun _ => ⟨fun g => absurd g n12, fun _ => ih.1⟩, fun g => absurd q1 g⟩, fun g => absurd rfl g⟩⟩, ih.2⟩
    · have hc : cls (B p) ≤ 4 := by unfold cls; repeat' split
                                    all_goals omega
      have q1 : ¬ nI (cls (B p)) = (1 : Int32) := by rw [nz, n_eq (by omega) (by omega)]; exact q
      rw [if_neg q, if_neg q1]
      exact ⟨⟨fun g => absurd g c, fun _ => ⟨fun _ => ⟨hin, fun g => absurd g q1, fun _ => trivial⟩, fun g => absurd rfl g⟩⟩, rfl⟩
theorem T_num (hn : n ≤ 120) (hB : ∀ i, i < n → B i < 256) {T0 : TS} (hT : TT n B T0) (hs : t_sort T0 = 2) : ∀ (r p f a : Nat), p + r = n → r < f → a ≤ 10000 → kX3_nextToken_c108 f (t_s_number (t_s_end T0 (nI p)) (nI a)) ∧ vX3_nextToken_c108 f (t_s_number (t_s_end T0 (nI p)) (nI a)) = t_s_number (t_s_end T0 (nI (rn B 2 r p))) (nI (vc B r p a))
  | r, p, 0, a, h1, h2, h3 => by omega
  | 0, p, f + 1, a, h1, h2, h3 => by
    unfold kX3_nextToken_c108 vX3_nextToken_c108 rn vc
    have e1 : t_length (t_s_number (t_s_end T0 (nI p)) (nI a)) = nI n := hT.1
    have e2 : t_end (t_s_number (t_s_end T0 (nI p)) (nI a)) = nI p := rfl
    have c : nI n ≤ nI p := by rw [n_le (by omega) (by omega)]; omega
    rw [e1, e2, if_pos c]
    exact ⟨⟨fun _ => trivial, fun q => absurd c q⟩, rfl⟩
  | r + 1, p, f + 1, a, h1, h2, h3 => by
    unfold kX3_nextToken_c108 vX3_nextToken_c108 rn vc kX3_nextToken_c135 vX3_nextToken_c135 kX3_nextToken_c192 vX3_nextToken_c192 kX3_nextToken_c202 vX3_nextToken_c202
    have e1 : t_length (t_s_number (t_s_end T0 (nI p)) (nI a)) = nI n := hT.1
    have e2 : t_end (t_s_number (t_s_end T0 (nI p)) (nI a)) = nI p := rfl
    have e3 : t_bytes (t_s_number (t_s_end T0 (nI p)) (nI a)) p = sby (B p) := hT.2 p (by omega)
    have e4 : t_sort (t_s_number (t_s_end T0 (nI p)) (nI a)) = 2 := hs
    have e5 : t_number (t_s_number (t_s_end T0 (nI p)) (nI a)) = nI a := rfl
    have e6 : ∀ v, t_s_number (t_s_number (t_s_end T0 (nI p)) (nI a)) v = t_s_number (t_s_end T0 (nI p)) v := fun _ => rfl
    have e7 : ∀ v w, t_s_end (t_s_number (t_s_end T0 (nI p)) v) w = t_s_number (t_s_end T0 w) v := fun _ _ => rfl
    have e8 : ∀ v, t_end (t_s_number (t_s_end T0 (nI p)) v) = nI p := fun _ => rfl
    have c : ¬ nI n ≤ nI p := by rw [n_le (by omega) (by omega)]; omega
    have hin : vp_in (nI p) 120 := n_in (by omega) (by omega)
    have ei : nI p + (1 : Int32) = nI (p + 1) := by rw [nz, nI_add]
    have hb := sby_all (B p) (hB p (by omega))
    have n21 : ¬ (2 : Int32) = 1 := by decide
    have t2 : (2 : Int32) = 2 := rfl
    rw [e1, e2, n_cl (by omega), e3, e4, hb.2.1, e5, e6, e8, e7, ei, if_neg c, if_neg n21, if_pos t2]
    by_cases q : cls (B p) = 2
    · have q1 : nI (cls (B p)) = (2 : Int32) := by rw [q]; rfl
      have hb2 := cls2 q
      have ev : jmin (10000 : Int32) ((10 : Int32) * nI a + (sby (B p) - (48 : Int32))) = nI (min 10000 (10 * a + (B p - 48))) := by
        rw [hb.2.2 (by omega)]
        simp only [nz]
        rw [n_sub (by omega), pk_mul, nI_add, n_min (by omega) (by omega)]
      have ih := T_num hn hB hT hs r (p + 1) f (min 10000 (10 * a + (B p - 48))) (by omega) (by omega) (by omega)
      rw [if_pos q, if_pos q, if_pos q1, ev]
      exact ⟨⟨fun g => absurd g c, fun _ => ⟨fun g => absurd g n21, fun _ => ⟨fun _ => ⟨hin, fun _ => ⟨fun _ => ⟨hin, ih.1⟩, fun g => absurd t2 g⟩, fun g => absurd q1 g⟩, fun g => absurd t2 g⟩⟩⟩, ih.2⟩
    · have hc : cls (B p) ≤ 4 := by unfold cls; repeat' split
                                    all_goals omega
      have q1 : ¬ nI (cls (B p)) = (2 : Int32) := by rw [nz, n_eq (by omega) (by omega)]; exact q
      rw [if_neg q, if_neg q, if_neg q1]
      exact ⟨⟨fun g => absurd g c, fun _ => ⟨fun g => absurd g n21, fun _ => ⟨fun _ => ⟨hin, fun g => absurd g q1, fun _ => trivial⟩, fun g => absurd t2 g⟩⟩⟩, rfl⟩
theorem T_stop {T : TS} (h1 : ¬ t_sort T = 1) (h2 : ¬ t_sort T = 2) (f : Nat) : kX3_nextToken_c108 (f + 1) T ∧ vX3_nextToken_c108 (f + 1) T = T := by
  unfold kX3_nextToken_c108 vX3_nextToken_c108
  refine ⟨⟨fun _ => trivial, fun _ => ⟨fun g => absurd g h1, fun _ => ⟨fun g => absurd g h2, fun _ => trivial⟩⟩⟩, ?_⟩
  rw [if_neg h1, if_neg h2]
  split <;> rfl
/-- the class's next token, from p on -/
def tkSort (n : Nat) (B : Nat → Nat) (q : Nat) : Nat := if n ≤ q then 0 else cls (B q)
def tkEnd (n : Nat) (B : Nat → Nat) (q : Nat) : Nat := if tkSort n B q = 1 then rn B 1 (n - q) q else if tkSort n B q = 2 then rn B 2 (n - q) q else if tkSort n B q = 3 then q + 1 else q
def tkNum (n : Nat) (B : Nat → Nat) (q : Nat) : Nat := if tkSort n B q = 2 then vc B (n - q) q 0 else 0
theorem cls_le (b : Nat) : 1 ≤ cls b ∧ cls b ≤ 4 := by
  unfold cls
  repeat' split
  all_goals omega
theorem tk_le (n : Nat) (B : Nat → Nat) (q : Nat) : tkSort n B q ≤ 4 := by
  unfold tkSort
  have := cls_le (B q)
  split <;> omega
theorem T_next (hn : n ≤ 120) (hB : ∀ i, i < n → B i < 256) {T : TS} (hT : TT n B T) {p : Nat} (hp : p ≤ n) (he : t_end T = nI p) : kX3_nextToken T ∧ vX3_nextToken T = t_s_number (t_s_end (t_s_sort (t_s_begin T (nI (sk B (n - p) p))) (nI (tkSort n B (sk B (n - p) p)))) (nI (tkEnd n B (sk B (n - p) p)))) (nI (tkNum n B (sk B (n - p) p))) := by
  have s1 := T_skip hn hB hT (n - p) p 1024 (by omega) (by omega)
  have hr := sk_rng B (n - p) p
  unfold kX3_nextToken vX3_nextToken
  rw [he, s1.2]
  generalize sk B (n - p) p = q at s1 hr ⊢
  suffices g : kX3_nextToken_c46 (t_s_begin T (nI q)) ∧ vX3_nextToken_c46 (t_s_begin T (nI q)) = t_s_number (t_s_end (t_s_sort (t_s_begin T (nI q)) (nI (tkSort n B q))) (nI (tkEnd n B q))) (nI (tkNum n B q)) from ⟨s1.1 g.1, g.2⟩
  unfold kX3_nextToken_c46 vX3_nextToken_c46 kX3_nextToken_c54 vX3_nextToken_c54 kX3_nextToken_c82 vX3_nextToken_c82 kX3_nextToken_c85 vX3_nextToken_c85
  have e1 : t_length (t_s_end (t_s_begin T (nI q)) (t_begin (t_s_begin T (nI q)))) = nI n := hT.1
  have e2 : t_begin (t_s_end (t_s_begin T (nI q)) (t_begin (t_s_begin T (nI q)))) = nI q := rfl
  have e9 : t_begin (t_s_begin T (nI q)) = nI q := rfl
  rw [e1, e2, e9]
  have core : ∀ c : Nat, c = tkSort n B q → kX3_nextToken_c90 (t_s_number (t_s_sort (t_s_end (t_s_begin T (nI q)) (nI q)) (nI c)) 0) ∧ vX3_nextToken_c90 (t_s_number (t_s_sort (t_s_end (t_s_begin T (nI q)) (nI q)) (nI c)) 0) = t_s_number (t_s_end (t_s_sort (t_s_begin T (nI q)) (nI (tkSort n B q))) (nI (tkEnd n B q))) (nI (tkNum n B q)) := fun c hc => by
    have h4 : c ≤ 4 := by rw [hc]; exact tk_le n B q
    unfold kX3_nextToken_c90 vX3_nextToken_c90 tkEnd tkNum
    rw [← hc]
    have es : ∀ x y, t_sort (t_s_number (t_s_sort (t_s_end (t_s_begin T (nI q)) x) (nI c)) y) = nI c := fun _ _ => rfl
    rw [es]
    have hTn : TT n B (t_s_sort (t_s_begin T (nI q)) (nI c)) := hT
    by_cases c3 : c = 3
    · have q3 : nI c = (3 : Int32) := by rw [c3]; rfl
      have st := T_stop (T := t_s_end (t_s_number (t_s_sort (t_s_end (t_s_begin T (nI q)) (nI q)) (nI c)) 0) (t_end (t_s_number (t_s_sort (t_s_end (t_s_begin T (nI q)) (nI q)) (nI c)) 0) + (1 : Int32))) (by show ¬ nI c = 1; rw [c3]; decide) (by show ¬ nI c = 2; rw [c3]; decide) 1023
      have ei : nI q + (1 : Int32) = nI (q + 1) := by rw [nz, nI_add]
      rw [if_pos q3, if_neg (by omega), if_neg (by omega), if_pos c3, if_neg (by omega)]
      refine ⟨⟨fun _ => st.1, fun g => absurd q3 g⟩, st.2.trans ?_⟩
      show t_s_end (t_s_number (t_s_sort (t_s_end (t_s_begin T (nI q)) (nI q)) (nI c)) 0) (nI q + (1 : Int32)) = _
      rw [ei]
      rfl
    · have q3 : ¬ nI c = (3 : Int32) := by rw [nz, n_eq (by omega) (by omega)]; exact c3
      rw [if_neg q3]
      by_cases c1 : c = 1
      · subst c1
        have hqn : q ≤ n := by omega
        have w := T_word hn hB (T0 := t_s_number (t_s_sort (t_s_begin T (nI q)) (nI 1)) 0) hTn rfl (n - q) q 1024 (by omega) (by omega)
        rw [if_pos rfl, if_neg (by omega)]
        exact ⟨⟨fun g => absurd g q3, fun _ => w.1⟩, w.2⟩
      · by_cases c2 : c = 2
        · subst c2
          have hqn : q ≤ n := by omega
          have w := T_num hn hB (T0 := t_s_sort (t_s_begin T (nI q)) (nI 2)) hTn rfl (n - q) q 1024 0 (by omega) (by omega) (by omega)
          rw [if_neg (by omega), if_pos rfl, if_pos rfl]
          exact ⟨⟨fun g => absurd g q3, fun _ => w.1⟩, w.2⟩
        · have st := T_stop (T := t_s_number (t_s_sort (t_s_end (t_s_begin T (nI q)) (nI q)) (nI c)) 0) (by show ¬ nI c = nI 1; rw [n_eq (by omega) (by omega)]; exact c1) (by show ¬ nI c = nI 2; rw [n_eq (by omega) (by omega)]; exact c2) 1023
          rw [if_neg c1, if_neg c2, if_neg c3, if_neg c2]
          exact ⟨⟨fun g => absurd g q3, fun _ => st.1⟩, st.2⟩
  by_cases c : n ≤ q
  · have c1 : nI n ≤ nI q := by rw [n_le (by omega) (by omega)]; exact c
    have k := core 0 (by unfold tkSort; rw [if_pos c])
    rw [if_pos c1]
    exact ⟨⟨fun _ => k.1, fun g => absurd c1 g⟩, k.2⟩
  · have c1 : ¬ nI n ≤ nI q := by rw [n_le (by omega) (by omega)]; exact c
    have k := core (cls (B q)) (by unfold tkSort; rw [if_neg c])
    have e3 : t_bytes (t_s_end (t_s_begin T (nI q)) (nI q)) q = sby (B q) := hT.2 q (by omega)
    have hb := sby_all (B q) (hB q (by omega))
    rw [if_neg c1, n_cl (by omega), e3, hb.2.1]
    exact ⟨⟨fun g => absurd g c1, fun _ => ⟨n_in (by omega) (by omega), k.1⟩⟩, k.2⟩
end TK
