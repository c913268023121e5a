section TN
variable {n : Nat} {B : Nat → Nat}
/-- the reference's next token -/
def mrd (M : MS) (q e : Nat) (v tok : Nat) : MS := m_s_token (m_s_value (m_s_begin (m_s_at M (nI e)) (nI q)) (nI v)) (nI tok)
theorem at_token (M : MS) (a t : Int32) : m_s_at (m_s_token M t) a = m_s_token (m_s_at M a) t := rfl
theorem at_value (M : MS) (a t : Int32) : m_s_at (m_s_value M t) a = m_s_value (m_s_at M a) t := rfl
theorem at_begin (M : MS) (a t : Int32) : m_s_at (m_s_begin M t) a = m_s_begin (m_s_at M a) t := rfl
theorem at_at (M : MS) (a t : Int32) : m_s_at (m_s_at M t) a = m_s_at M a := rfl
def mX (M : MS) (q : Nat) : MS := m_s_value (m_s_begin (m_s_at M (nI q)) (nI q)) 0
theorem mX_w (M : MS) (q : Nat) : mX M q = m_s_at (m_s_value (m_s_begin M (nI q)) 0) (nI q) := by
  unfold mX
  rw [at_value, at_begin]
theorem mX_n (M : MS) (q : Nat) : mX M q = m_s_value (m_s_at (m_s_begin M (nI q)) (nI q)) (nI 0) := by
  unfold mX
  rw [at_begin]
  rfl
theorem mrd_w (M : MS) (q e w : Nat) : m_s_token (m_s_at (m_s_value (m_s_begin M (nI q)) 0) (nI e)) (nI w) = mrd M q e 0 w := by
  unfold mrd
  rw [at_value, at_begin]
  rfl
theorem mrd_n (M : MS) (q e v : Nat) : m_s_token (m_s_value (m_s_at (m_s_begin M (nI q)) (nI e)) (nI v)) (nI 20) = mrd M q e v 20 := by
  unfold mrd
  rw [at_begin]
theorem mrd_22 (M : MS) (q : Nat) : m_s_token (mX M q) (22 : Int32) = mrd M q q 0 22 := rfl
theorem mrd_s (M : MS) (q : Nat) (t : Nat) : m_s_at (m_s_token (mX M q) (nI t)) (nI (q + 1)) = mrd M q (q + 1) 0 t := by
  unfold mX mrd
  rw [at_token, at_value, at_begin, at_at]
  rfl
theorem mX_at (M : MS) (q : Nat) (t : Int32) : m_at (m_s_token (mX M q) t) = nI q := rfl
theorem mX_at0 (M : MS) (q : Nat) : m_at (mX M q) = nI q := rfl
theorem mX_MT {n : Nat} {B : Nat → Nat} {M : MS} (h : MT n B M) (q : Nat) : MT n B (mX M q) := h
theorem M_next (hn : n ≤ 120) (hB : ∀ i, i < n → B i < 256) {M : MS} (hM : MT n B M) {p : Nat} (hp : p ≤ n) (he : m_at M = nI p) : kX5_reads M ∧ ∃ e v tok, vX5_reads M = mrd M (sk B (n - p) p) e v tok ∧ ((tkSort n B (sk B (n - p) p) = 0 ∧ tok = 22 ∧ e = sk B (n - p) p) ∨ (tkSort n B (sk B (n - p) p) = 1 ∧ e = rn B 1 (n - sk B (n - p) p) (sk B (n - p) p) ∧ ((tok < 14 ∧ Wd B (sk B (n - p) p) (e - sk B (n - p) p) tok) ∨ (tok = 23 ∧ ∀ i, i < 14 → ¬ Wd B (sk B (n - p) p) (e - sk B (n - p) p) i))) ∨ (tkSort n B (sk B (n - p) p) = 2 ∧ e = rn B 2 (n - sk B (n - p) p) (sk B (n - p) p) ∧ tok = 20 ∧ v = vm B (n - sk B (n - p) p) (sk B (n - p) p) 0) ∨ (tkSort n B (sk B (n - p) p) = 3 ∧ e = sk B (n - p) p + 1 ∧ tok = 21) ∨ (tkSort n B (sk B (n - p) p) = 4 ∧ tok = 23)) := by
  have s1 := M_skip hn hB (M0 := M) hM (n - p) p 1024 (by omega) (by omega)
  have hr := sk_rng B (n - p) p
  have e0 : m_s_at M (nI p) = M := by rw [← he]; rfl
  rw [e0] at s1
  unfold kX5_reads vX5_reads
  rw [s1.2]
  generalize sk B (n - p) p = q at s1 hr ⊢
  suffices g : kX5_reads_c36 (m_s_begin (m_s_at M (nI q)) (nI q)) ∧ ∃ e v tok, vX5_reads_c36 (m_s_begin (m_s_at M (nI q)) (nI q)) = mrd M q e v tok ∧ ((tkSort n B q = 0 ∧ tok = 22 ∧ e = q) ∨ (tkSort n B q = 1 ∧ e = rn B 1 (n - q) q ∧ ((tok < 14 ∧ Wd B q (e - q) tok) ∨ (tok = 23 ∧ ∀ i, i < 14 → ¬ Wd B q (e - q) i))) ∨ (tkSort n B q = 2 ∧ e = rn B 2 (n - q) q ∧ tok = 20 ∧ v = vm B (n - q) q 0) ∨ (tkSort n B q = 3 ∧ e = q + 1 ∧ tok = 21) ∨ (tkSort n B q = 4 ∧ tok = 23)) from ⟨s1.1 g.1, g.2⟩
  clear s1 e0
  have hqn : q ≤ n := by omega
  unfold kX5_reads_c36 vX5_reads_c36
  have e9 : m_s_value (m_s_begin (m_s_at M (nI q)) (nI q)) (0 : Int32) = mX M q := rfl
  rw [e9]
  clear e9
  unfold kX5_reads_c41 vX5_reads_c41 vX5_reads_c231 vX5_reads_c234
  have hM' := mX_MT hM q
  have b1 := isB hn hM' hB q 97 122 hqn (by omega) (by omega)
  have b2 := isB hn hM' hB q 48 57 hqn (by omega) (by omega)
  have b3 := isB hn hM' hB q 59 59 hqn (by omega) (by omega)
  have b1k : kX5_isByte (mX M q) (nI q) (97 : Int32) (122 : Int32) := b1.1
  have b2k : kX5_isByte (mX M q) (nI q) (48 : Int32) (57 : Int32) := b2.1
  have b3k : kX5_isByte (mX M q) (nI q) (59 : Int32) (59 : Int32) := b3.1
  have b1v : vX5_isByte (mX M q) (nI q) (97 : Int32) (122 : Int32) = if q < n ∧ 97 ≤ B q ∧ B q ≤ 122 then 1 else 0 := b1.2
  have b2v : vX5_isByte (mX M q) (nI q) (48 : Int32) (57 : Int32) = if q < n ∧ 48 ≤ B q ∧ B q ≤ 57 then 1 else 0 := b2.2
  have b3v : vX5_isByte (mX M q) (nI q) (59 : Int32) (59 : Int32) = if q < n ∧ 59 ≤ B q ∧ B q ≤ 59 then 1 else 0 := b3.2
  clear b1 b2 b3
  have z1 : ¬ (1 : Int32) = 0 := by decide
  have z0 : (0 : Int32) = 0 := rfl
  have ei : nI q + (1 : Int32) = nI (q + 1) := by rw [nz, nI_add]
  have l21 : (21 : Int32) = nI 21 := rfl
  have l23 : (23 : Int32) = nI 23 := rfl
  rw [mX_at0, hM'.1, b1v, b2v, b3v, mX_at, mX_at, ei, l21, l23, mrd_s, mrd_s, mrd_22]
  by_cases c : n ≤ q
  · have e : q = n := by omega
    have c1 : nI q = nI n := by rw [e]
    rw [if_pos c1]
    exact ⟨⟨fun _ => trivial, fun g => absurd c1 g⟩, q, 0, 22, rfl, Or.inl ⟨by unfold tkSort; rw [if_pos c], rfl, rfl⟩⟩
  · have c1 : ¬ nI q = nI n := by rw [n_eq (by omega) (by omega)]; omega
    have es : tkSort n B q = cls (B q) := by unfold tkSort; rw [if_neg c]
    rw [if_neg c1, es]
    by_cases l1 : cls (B q) = 1
    · have l1' := cls_1.mp l1
      rw [if_pos (by omega : q < n ∧ 97 ≤ B q ∧ B q ≤ 122), if_neg z1]
      obtain ⟨w1, w, w2, w3⟩ := M_word hn hB (M0 := m_s_value (m_s_begin M (nI q)) 0) hM (q := q) rfl (n - q) q 1024 (by omega) (by omega) (Nat.le_refl q)
      rw [← mX_w] at w1 w2
      rw [mrd_w] at w2
      exact ⟨⟨fun g => absurd g c1, fun _ => ⟨b1k, fun g => absurd g z1, fun _ => w1⟩⟩, rn B 1 (n - q) q, 0, w, w2, Or.inr (Or.inl ⟨l1, rfl, w3⟩)⟩
    · have n1 : ¬ (q < n ∧ 97 ≤ B q ∧ B q ≤ 122) := fun g => l1 (cls_1.mpr g.2)
      rw [if_neg n1, if_pos z0]
      by_cases l2 : cls (B q) = 2
      · have l2' := cls_2.mp l2
        rw [if_pos (by omega : q < n ∧ 48 ≤ B q ∧ B q ≤ 57), if_neg z1]
        obtain ⟨w1, w2⟩ := M_num hn hB (M0 := m_s_begin M (nI q)) hM (n - q) q 1024 0 (by omega) (by omega) (by omega)
        rw [← mX_n] at w1 w2
        rw [mrd_n] at w2
        exact ⟨⟨fun g => absurd g c1, fun _ => ⟨b1k, fun _ => ⟨b2k, fun g => absurd g z1, fun _ => w1⟩, fun g => absurd z0 g⟩⟩, rn B 2 (n - q) q, vm B (n - q) q 0, 20, w2, Or.inr (Or.inr (Or.inl ⟨l2, rfl, rfl, rfl⟩))⟩
      · have n2 : ¬ (q < n ∧ 48 ≤ B q ∧ B q ≤ 57) := fun g => l2 (cls_2.mpr g.2)
        rw [if_neg n2, if_pos z0]
        by_cases l3 : cls (B q) = 3
        · have l3' := cls_3.mp l3
          rw [if_pos (by omega : q < n ∧ 59 ≤ B q ∧ B q ≤ 59), if_neg z1]
          exact ⟨⟨fun g => absurd g c1, fun _ => ⟨b1k, fun _ => ⟨b2k, fun _ => ⟨b3k, trivial⟩, fun g => absurd z0 g⟩, fun g => absurd z0 g⟩⟩, q + 1, 0, 21, rfl, Or.inr (Or.inr (Or.inr (Or.inl ⟨l3, rfl, rfl⟩)))⟩
        · have n3 : ¬ (q < n ∧ 59 ≤ B q ∧ B q ≤ 59) := fun g => l3 (cls_3.mpr (by omega))
          have h4 : cls (B q) = 4 := by
            have := cls_le (B q)
            omega
          rw [if_neg n3, if_pos z0]
          exact ⟨⟨fun g => absurd g c1, fun _ => ⟨b1k, fun _ => ⟨b2k, fun _ => ⟨b3k, trivial⟩, fun g => absurd z0 g⟩, fun g => absurd z0 g⟩⟩, q + 1, 0, 23, rfl, Or.inr (Or.inr (Or.inr (Or.inr ⟨h4, rfl⟩)))⟩
end TN
