-- the relation between the class's state and the reference's
def RelE (E : ES) (m : FA) : Prop := ∃ x : AS, RpE x E ∧ RpM x m ∧ WF x
def RelK (K : ES) (m : FA) (a b : Int32) : Prop := a = b ∧ (a = 0 ∨ (a = 1 ∧ RelE K m))
def RelF (f g : FA) : Prop := ∀ i, i < 7 → f i = g i
def RelT (T : TS) (tape : FA) (taped : Int32) : Prop := ∃ n : Nat, n ≤ 120 ∧ t_length T = nI n ∧ taped = nI n ∧ ∀ i, i < n → ∃ b : Nat, b < 256 ∧ tape i = nI b ∧ t_bytes T i = (nI b).toInt8.toInt32
def RelS (sh : Nat → SS) (bits size cells : FA) : Prop := ∀ j, j < 4 → s_bits (sh j) = bits j ∧ s_size (sh j) = size j ∧ (bits j = 0 ∨ bits j = 8 ∨ bits j = 16 ∨ bits j = 32) ∧ (∃ n : Nat, n ≤ 40 ∧ size j = nI n ∧ (bits j = 0 → n = 0)) ∧ ∀ i, i < 40 → s_numbers (sh j) i = cells (40 * j + i)
def Rel (J : JS) (M : MS) : Prop := RelE (j_E J) (m_m M) ∧ RelK (j_K J) (m_kept M) (j_imageKept J) (m_isKept M) ∧ RelF (j_found J) (m_found M) ∧ RelT (j_tape J) (m_tape M) (m_taped M) ∧ RelS (j_sh J) (m_bitsOf M) (m_sizeOf M) (m_cells M)
def OK (kj km : Prop) (rj : Int32 × JS) (rm : Int32 × MS) : Prop := kj ∧ km ∧ rj.1 = rm.1 ∧ Rel rj.2 rm.2
theorem vwi (a b c : Int32) : vX4_within a b c = vX5_in a b c := rfl
theorem vin01 (a b c : Int32) : vX5_in a b c = 0 ∨ vX5_in a b c = 1 := by
  unfold vX5_in
  split
  · exact Or.inl rfl
  · split
    · exact Or.inl rfl
    · exact Or.inr rfl
theorem vin_iff (a b c : Int32) : ¬ vX5_in a b c = 0 ↔ (b ≤ a ∧ a ≤ c) := by
  unfold vX5_in
  by_cases h : a < b
  · rw [if_pos h]; simp [Int32.not_le.mpr h]
  · rw [if_neg h]
    by_cases h2 : c < a
    · rw [if_pos h2]; simp [Int32.not_le.mpr h2]
    · rw [if_neg h2]
      simp [Int32.not_lt.mp h, Int32.not_lt.mp h2]
theorem vin_nat {p : Int32} {b : Nat} (hb : b < 2147483648) (h : ¬ vX5_in p (nI 0) (nI b) = 0) : ∃ k, k ≤ b ∧ p = nI k := by
  obtain ⟨h1, h2⟩ := (vin_iff _ _ _).mp h
  obtain ⟨j, hj, e⟩ := nI_of (Int32.not_lt.mpr h1)
  refine ⟨j, ?_, e⟩
  rw [e, n_le hj hb] at h2
  exact h2
theorem vin_natA {p : Int32} {a b : Nat} (ha : a < 2147483648) (hb : b < 2147483648) (h : ¬ vX5_in p (nI a) (nI b) = 0) : ∃ k, a ≤ k ∧ k ≤ b ∧ p = nI k := by
  obtain ⟨h1, h2⟩ := (vin_iff _ _ _).mp h
  have h0 : nI 0 ≤ p := Int32.le_trans (by rw [n_le (by omega) ha]; omega) h1
  obtain ⟨j, hj, e⟩ := nI_of (Int32.not_lt.mpr h0)
  subst e
  rw [n_le ha hj] at h1
  rw [n_le hj hb] at h2
  exact ⟨j, h1, h2, rfl⟩
theorem vin_lt {p : Int32} {n : Nat} (hn : n ≤ 1000000) (h : ¬ vX5_in p (nI 0) (nI n - nI 1) = 0) : ∃ k, k < n ∧ p = nI k := by
  by_cases h0 : n = 0
  · subst h0
    obtain ⟨h1, h2⟩ := (vin_iff _ _ _).mp h
    exact absurd (Int32.le_trans h1 h2) (Int32.not_le.mpr (n_neg (by omega) (by omega)))
  · rw [n_sub (by omega)] at h
    obtain ⟨k, hk, e⟩ := vin_nat (by omega) h
    exact ⟨k, by omega, e⟩
theorem vin_ltN {k n : Nat} (hn : n ≤ 1000000) (hk : k < n) : vX5_in (nI k) (nI 0) (nI n - nI 1) = 1 := by
  rcases vin01 (nI k) (nI 0) (nI n - nI 1) with h | h
  · exfalso
    refine (vin_iff _ _ _).mpr ⟨?_, ?_⟩ h
    · rw [n_le (by omega) (by omega)]; omega
    · rw [n_sub (by omega), n_le (by omega) (by omega)]; omega
  · exact h
theorem OK_tell {J : JS} {M : MS} (h : Rel J M) (k : Nat) (f : Int32) (hk : k ≤ 6) (e1 : (-1000001 : Int32) - f = nI k) (e2 : (-1000001 : Int32) - nI k = f) : OK (kX4_tell J (nI k)) (kX5_finds M f) (vX4_tell J (nI k)) (vX5_finds M f) := by
  have hin : vp_in (nI k) 7 := n_in (by omega) (by omega)
  have hw : ¬ vX4_within (nI k) 0 6 = 0 := by
    rw [vwi]
    refine (vin_iff _ _ _).mpr ⟨?_, ?_⟩
    · rw [nz, n_le (by omega) (by omega)]; omega
    · rw [nz, n_le (by omega) (by omega)]; omega
  refine ⟨⟨fun _ => trivial, fun _ => ⟨hin, hin, trivial⟩⟩, ?_, ?_, ?_⟩
  · unfold kX5_finds; rw [e1]; exact ⟨hin, hin, trivial⟩
  · unfold vX4_tell vX4_tell_c20; rw [if_neg hw]; exact e2
  · unfold vX4_tell vX4_tell_c20 vX5_finds; rw [if_neg hw, e1, n_cl (by omega)]
    refine ⟨h.1, h.2.1, fun i hi => ?_, h.2.2.2.1, h.2.2.2.2⟩
    show upd (j_found J) k _ i = upd (m_found M) k _ i
    by_cases e : i = k
    · rw [e, upd_s, upd_s, h.2.2.1 k (by omega)]
    · rw [upd_n e, upd_n e]; exact h.2.2.1 i hi
section RP
variable {J : JS} {M : MS}
theorem tell0 (h : Rel J M) : OK (kX4_tell J 0) (kX5_finds M (-1000001)) (vX4_tell J 0) (vX5_finds M (-1000001)) := OK_tell h 0 _ (by omega) (by decide) (by decide)
theorem tell1 (h : Rel J M) : OK (kX4_tell J 1) (kX5_finds M (-1000002)) (vX4_tell J 1) (vX5_finds M (-1000002)) := OK_tell h 1 _ (by omega) (by decide) (by decide)
theorem tell2 (h : Rel J M) : OK (kX4_tell J 2) (kX5_finds M (-1000003)) (vX4_tell J 2) (vX5_finds M (-1000003)) := OK_tell h 2 _ (by omega) (by decide) (by decide)
theorem tell3 (h : Rel J M) : OK (kX4_tell J 3) (kX5_finds M (-1000004)) (vX4_tell J 3) (vX5_finds M (-1000004)) := OK_tell h 3 _ (by omega) (by decide) (by decide)
theorem tell4 (h : Rel J M) : OK (kX4_tell J 4) (kX5_finds M (-1000005)) (vX4_tell J 4) (vX5_finds M (-1000005)) := OK_tell h 4 _ (by omega) (by decide) (by decide)
theorem tell5 (h : Rel J M) : OK (kX4_tell J 5) (kX5_finds M (-1000006)) (vX4_tell J 5) (vX5_finds M (-1000006)) := OK_tell h 5 _ (by omega) (by decide) (by decide)
theorem tell6 (h : Rel J M) : OK (kX4_tell J 6) (kX5_finds M (-1000007)) (vX4_tell J 6) (vX5_finds M (-1000007)) := OK_tell h 6 _ (by omega) (by decide) (by decide)
/-- a test on both sides -/
theorem OK_ite {c d k1 k2 l1 l2 : Prop} {_ : Decidable c} {_ : Decidable d} {a1 a2 : Int32 × JS} {b1 b2 : Int32 × MS} (e : c ↔ d) (h1 : c → OK k1 l1 a1 b1) (h2 : ¬ c → OK k2 l2 a2 b2) : OK ((c → k1) ∧ (¬ c → k2)) ((d → l1) ∧ (¬ d → l2)) (if c then a1 else a2) (if d then b1 else b2) := by
  by_cases h : c
  · have hd := e.mp h
    rw [if_pos h, if_pos hd]
    have := h1 h
    exact ⟨⟨fun _ => this.1, fun q => absurd h q⟩, ⟨fun _ => this.2.1, fun q => absurd hd q⟩, this.2.2⟩
  · have hd : ¬ d := fun q => h (e.mpr q)
    rw [if_neg h, if_neg hd]
    have := h2 h
    exact ⟨⟨fun q => absurd q h, fun _ => this.1⟩, ⟨fun q => absurd q hd, fun _ => this.2.1⟩, this.2.2⟩
/-- more is asked first, on either side -/
theorem OK.kj {p k1 l1 : Prop} {a : Int32 × JS} {b : Int32 × MS} (hp : p) (h : OK k1 l1 a b) : OK (p ∧ k1) l1 a b := ⟨⟨hp, h.1⟩, h.2⟩
theorem OK.km {p k1 l1 : Prop} {a : Int32 × JS} {b : Int32 × MS} (hp : p) (h : OK k1 l1 a b) : OK k1 (p ∧ l1) a b := ⟨h.1, ⟨hp, h.2.1⟩, h.2.2⟩
theorem OK.t {k1 l1 : Prop} {a : Int32 × JS} {b : Int32 × MS} (h : OK k1 l1 a b) : OK (k1 ∧ True) (l1 ∧ True) (a.1, a.2) (b.1, b.2) := ⟨⟨h.1, trivial⟩, ⟨h.2.1, trivial⟩, h.2.2⟩
theorem P_home (h : Rel J M) (p : Int32) : OK (kX4_home J p) (kX5_home M p) (vX4_home J p) (vX5_home M p) := by
  unfold kX4_home kX5_home vX4_home vX5_home
  rw [vwi]
  refine OK_ite Iff.rfl (fun _ => (tell0 h).t) (fun c => ?_)
  obtain ⟨k, hk, rfl⟩ := vin_nat (b := 6) (by omega) c
  obtain ⟨x, rE, rM, w⟩ := h.1
  refine ⟨⟨n_in (by omega) (by omega), trivial⟩, ?_, ?_, h⟩
  · rw [nz, nI_add]; exact ⟨n_in (by omega) (by omega), trivial⟩
  · show e_home (j_E J) (nI k).toNatClampNeg = m_m M ((3 : Int32) + nI k).toNatClampNeg
    rw [nz, nI_add, n_cl (by omega), n_cl (by omega), rE.2.2.2.1 k (by omega), rM.2.2.2.1 k (by omega)]
theorem P_seed (h : Rel J M) (p : Int32) : OK True (kX5_seed M p) (vX4_seed J p) (vX5_seed M p) := by
  obtain ⟨x, rE, rM, w⟩ := h.1
  have e1 : vX5_seed M p = (m_m M 1, m_s_m M (upd (m_m M) 1 p)) := rfl
  refine ⟨trivial, ?_, ?_, ?_, h.2.1, h.2.2.1, h.2.2.2.1, h.2.2.2.2⟩
  · refine ⟨⟨?_, ?_, trivial⟩, trivial⟩ <;> exact n_in (n := 1) (by omega) (by omega)
  · show e_z (j_E J) = m_m M 1
    rw [rE.2.2.1, rM.2.2.1]
  · rw [e1]
    refine ⟨a_s_z x p, ⟨rE.1, rE.2.1, rfl, rE.2.2.2.1, rE.2.2.2.2.1, rE.2.2.2.2.2.1, rE.2.2.2.2.2.2⟩, ⟨?_, ?_, ?_, fun i hi => ?_, fun i hi => ?_, fun t ht u hu => ?_, fun i hi => ?_⟩, w⟩
    · show upd (m_m M) 1 p 2 = _; rw [upd_n (by omega)]; exact rM.1
    · show upd (m_m M) 1 p 0 = _; rw [upd_n (by omega)]; exact rM.2.1
    · show upd (m_m M) 1 p 1 = _; rw [upd_s]; rfl
    · show upd (m_m M) 1 p _ = _; rw [upd_n (by omega)]; exact rM.2.2.2.1 i hi
    · show upd (m_m M) 1 p _ = _; rw [upd_n (by omega)]; exact rM.2.2.2.2.1 i hi
    · show upd (m_m M) 1 p _ = _; rw [upd_n (by omega)]; exact rM.2.2.2.2.2.1 t ht u hu
    · show upd (m_m M) 1 p _ = _; rw [upd_n (by omega)]; exact rM.2.2.2.2.2.2 i hi
end RP
