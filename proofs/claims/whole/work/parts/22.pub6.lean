section PF
variable {J : JS} {M : MS}
theorem status_all (h : Rel J M) : ∀ (n i : Nat) (a : Int32), i ≤ 7 → 7 < i + n → OK (kX4_status_c9 (-1) n J a (nI i)) (kX5_status_c21 (-1) n M a (nI i)) (vX4_status_c9 (-1) n J a (nI i)) (vX5_status_c21 (-1) n M a (nI i))
  | 0, i, a, h1, h2 => by omega
  | n + 1, i, a, h1, h2 => by
    unfold kX4_status_c9 kX5_status_c21 vX4_status_c9 vX5_status_c21 kX5_status_c37 vX5_status_c37 kX5_status_c47 vX5_status_c47
    by_cases c : 7 ≤ i
    · have c1 : (7 : Int32) ≤ nI i := by rw [nz, n_le (by omega) (by omega)]; exact c
      rw [if_pos c1, if_pos c1]
      exact ⟨⟨fun _ => trivial, fun q => absurd c1 q⟩, ⟨fun _ => trivial, fun q => absurd c1 q⟩, rfl, h⟩
    · have c1 : ¬ (7 : Int32) ≤ nI i := by rw [nz, n_le (by omega) (by omega)]; exact c
      have c2 : (-1 : Int32) < 0 := by decide
      have ei : nI i + (1 : Int32) = nI (i + 1) := by rw [nz, nI_add]
      have hin : vp_in (nI i) 7 := n_in (by omega) (by omega)
      have ef := h.2.2.1 i (by omega)
      have ih := status_all h n (i + 1) (a + m_found M i) (by omega) (by omega)
      rw [if_neg c1, if_neg c1, if_pos c2, ei, n_cl (by omega), ef]
      exact ⟨⟨fun q => absurd q c1, fun _ => ⟨hin, ih.1⟩⟩, ⟨fun q => absurd q c1, fun _ => ⟨fun _ => ⟨hin, ih.2.1⟩, fun q => absurd c2 q⟩⟩, ih.2.2⟩
theorem status_one {k : Nat} (hk : k ≤ 6) : ∀ (n i : Nat) (a : Int32), i ≤ 7 → 7 < i + n → kX5_status_c21 (nI k) n M a (nI i) ∧ vX5_status_c21 (nI k) n M a (nI i) = (if i ≤ k then a + m_found M k else a, M)
  | 0, i, a, h1, h2 => by omega
  | n + 1, i, a, h1, h2 => by
    unfold kX5_status_c21 vX5_status_c21 kX5_status_c37 vX5_status_c37 kX5_status_c47 vX5_status_c47
    by_cases c : 7 ≤ i
    · have c1 : (7 : Int32) ≤ nI i := by rw [nz, n_le (by omega) (by omega)]; exact c
      rw [if_pos c1, if_neg (by omega)]
      exact ⟨⟨fun _ => trivial, fun q => absurd c1 q⟩, rfl⟩
    · have c1 : ¬ (7 : Int32) ≤ nI i := by rw [nz, n_le (by omega) (by omega)]; exact c
      have c2 : ¬ nI k < (0 : Int32) := by rw [nz, n_lt (by omega) (by omega)]; omega
      have ei : nI i + (1 : Int32) = nI (i + 1) := by rw [nz, nI_add]
      have hin : vp_in (nI i) 7 := n_in (by omega) (by omega)
      rw [if_neg c1, if_neg c2, ei, n_cl (by omega)]
      by_cases e : k = i
      · have e1 : nI k = nI i := by rw [e]
        have ih := status_one hk n (i + 1) (a + m_found M i) (by omega) (by omega)
        rw [if_neg (by omega)] at ih
        rw [if_pos e1, if_pos (by omega), e]
        rw [e] at ih c2
        exact ⟨⟨fun q => absurd q c1, fun _ => ⟨fun q => absurd q c2, fun _ => ⟨fun _ => ⟨hin, ih.1⟩, fun q => absurd rfl q⟩⟩⟩, ih.2⟩
      · have e1 : ¬ nI k = nI i := by rw [n_eq (by omega) (by omega)]; exact e
        have ih := status_one hk n (i + 1) (a + 0) (by omega) (by omega)
        rw [if_neg e1]
        refine ⟨⟨fun q => absurd q c1, fun _ => ⟨fun q => absurd q c2, fun _ => ⟨fun q => absurd q e1, fun _ => ih.1⟩⟩⟩, ?_⟩
        refine ih.2.trans ?_
        rw [Int32.add_zero]
        by_cases g : i ≤ k
        · rw [if_pos g, if_pos (by omega)]
        · rw [if_neg g, if_neg (by omega)]
theorem P_status (h : Rel J M) (p : Int32) : OK (kX4_status J p) (kX5_status M p) (vX4_status J p) (vX5_status M p) := by
  unfold kX4_status kX5_status vX4_status vX5_status
  by_cases e : p = -1
  · subst e
    have c : ¬ vX5_in (-1) (-1) 6 = 0 := by decide
    have s := status_all h 1024 0 0 (by omega) (by omega)
    rw [if_pos rfl, if_neg c]
    exact ⟨⟨fun _ => s.1, fun q => absurd rfl q⟩, ⟨fun q => absurd q c, fun _ => s.2.1⟩, s.2.2⟩
  · rw [if_neg e]
    have key : ∀ {a b : Int32 × JS} {c d : Int32 × MS}, True := trivial
    by_cases c : vX5_in p 0 6 = 0
    · have c2 : vX5_in p (-1) 6 = 0 := by
        rcases vin01 p (-1) 6 with q | q
        · exact q
        · exfalso
          obtain ⟨h1, h2⟩ := (vin_iff p (-1) 6).mp (by rw [q]; decide)
          refine (vin_iff p 0 6).mpr ⟨?_, h2⟩ c
          have a1 := Int32.le_iff_toInt_le.mp h1
          have a2 : p.toInt ≠ (-1 : Int32).toInt := fun z => e (Int32.toInt_inj.mp z)
          refine Int32.le_iff_toInt_le.mpr ?_
          have b1 : (-1 : Int32).toInt = -1 := by decide
          have b2 : (0 : Int32).toInt = 0 := by decide
          omega
      have t := tell0 h
      rw [vwi, if_pos c, if_pos c2]
      exact ⟨⟨fun q => absurd q e, fun _ => ⟨fun _ => ⟨t.1, trivial⟩, fun q => absurd c q⟩⟩, ⟨fun _ => ⟨t.2.1, trivial⟩, fun q => absurd c2 q⟩, t.2.2⟩
    · obtain ⟨k, hk, rfl⟩ := vin_nat (b := 6) (by omega) c
      have c2 : ¬ vX5_in (nI k) (-1) 6 = 0 := by
        obtain ⟨h1, h2⟩ := (vin_iff (nI k) 0 6).mp c
        exact (vin_iff _ _ _).mpr ⟨Int32.le_trans (by decide) h1, h2⟩
      have s := status_one (M := M) hk 1024 0 0 (by omega) (by omega)
      rw [if_pos (by omega)] at s
      have s2 : vX5_status_c21 (nI k) 1024 M 0 0 = (0 + m_found M k, M) := s.2
      rw [vwi, if_neg c, if_neg c2, s2, n_cl (by omega)]
      refine ⟨⟨fun q => absurd q e, fun _ => ⟨fun q => absurd q c, fun _ => ⟨n_in (by omega) (by omega), trivial⟩⟩⟩, ⟨fun q => absurd q c2, fun _ => s.1⟩, ?_, h⟩
      show j_found J k = 0 + m_found M k
      rw [Int32.zero_add, h.2.2.1 k (by omega)]
end PF
