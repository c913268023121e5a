section PE
variable {J : JS} {M : MS}
theorem ahead21 (h : Rel J M) (p q v y : Int32) (hy : ¬ y = 0 → ∃ u, u ≤ 11 ∧ q = nI u) : OK (kX4_ahead_c21 p q v J y) (kX5_ahead_c21 p q v M y) (vX4_ahead_c21 p q v J y) (vX5_ahead_c21 p q v M y) := by
  unfold kX4_ahead_c21 kX5_ahead_c21 vX4_ahead_c21 vX5_ahead_c21
  refine OK.kj (kT4 _ _) (OK.km (kT5 _ _) (OK_ite (by rw [isT h]) (fun _ => (tell0 h).t) (fun c => OK_ite Iff.rfl (fun _ => (tell0 h).t) (fun c2 => OK_ite Iff.rfl (fun _ => (tell0 h).t) (fun c3 => ?_)))))
  rw [isT h] at c
  obtain ⟨x, rE, rM, w⟩ := id h.1
  obtain ⟨t, ht, rfl⟩ := isTn rM w c
  obtain ⟨u, hu, rfl⟩ := hy c2
  obtain ⟨n, hn, rfl⟩ := vin_nat (b := 100) (by omega) c3
  have b := E_become (E := j_T J) rE w
  obtain ⟨k, g, q1, q2⟩ := M_thinks rM w
  rw [q1]
  generalize vX0_become (j_T J) (j_E J) = B at b ⊢
  have a := E_passDays b.2 w (d := n) (by omega)
  have ht' : t < a_things (sDays x n) := by rw [sDays_things]; exact ht
  have a2 := E_told a.2 (w.days n) ht' hu
  obtain ⟨k3, f, q3, q4⟩ := M_goesFor (M := m_s_was M g) rM w (d := n) (by omega)
  have o := M_of (M := m_s_m (m_s_was M g) f) q4 (w.days n) ht' hu
  obtain ⟨kb, f2, q5, q6⟩ := M_putsBack (M := m_s_m (m_s_was M g) f) q2 w
  unfold kX4_ahead_c63 kX5_ahead_c57 vX4_ahead_c63 vX5_ahead_c57 kX4_ahead_c71 vX4_ahead_c71 kX5_ahead_c62 vX5_ahead_c62 kX5_ahead_c68 vX5_ahead_c68
  rw [q3, o.2, q5]
  have a' : kX0_passDays (j_T (j_s_T J B)) (nI n) := a.1
  have e : vX0_passDays (j_T (j_s_T J B)) (nI n) = vX0_passDays B (nI n) := rfl
  rw [e]
  generalize vX0_passDays B (nI n) = C at a2 a ⊢
  exact ⟨⟨b.1, a', a2.1, trivial⟩, ⟨k, k3, o.1, kb, trivial⟩, a2.2, RelThink h rE w q6⟩
theorem P_ahead (h : Rel J M) (p q v : Int32) : OK (kX4_ahead J p q v) (kX5_ahead M p q v) (vX4_ahead J p q v) (vX5_ahead M p q v) := by
  unfold kX4_ahead kX5_ahead vX4_ahead vX5_ahead
  refine OK_ite Iff.rfl (fun c => ahead21 h p q v 1 (fun _ => ⟨4, by omega, c⟩)) (fun c => OK_ite Iff.rfl (fun c2 => ahead21 h p q v 0 (fun e => absurd rfl e)) (fun c2 => ahead21 h p q v 1 (fun _ => ?_)))
  obtain ⟨u, h1, h2, e⟩ := vin_natA (a := 8) (b := 11) (by omega) (by omega) c2
  exact ⟨u, h2, e⟩
theorem set21 (h : Rel J M) {k : Nat} (hk : k ≤ 6) (v : Int32) (lo : Nat) (hlo : lo = if k = 1 then 1 else 0) : OK ((vX5_in v (nI lo) (nI (hMost k)) = 0 → kX4_set_c27 (nI k) v J) ∧ (¬ vX5_in v (nI lo) (nI (hMost k)) = 0 → vp_in (nI k) 7 ∧ vp_in (nI k) 7 ∧ True)) (kX5_set_c21 (nI k) v M (nI lo) v) (if vX5_in v (nI lo) (nI (hMost k)) = 0 then vX4_set_c27 (nI k) v J else (e_home (j_E J) (nI k).toNatClampNeg, j_s_E J (e_s_home (j_E J) (upd (e_home (j_E J)) (nI k).toNatClampNeg v)))) (vX5_set_c21 (nI k) v M (nI lo) v) := by
  have hm := hMostv k (by omega)
  have hl := hMost_le k
  have hlo2 : lo ≤ 1 := by rw [hlo]; split <;> omega
  unfold kX5_set_c21 vX5_set_c21
  rw [hm.2.2.2.2]
  refine OK_ite Iff.rfl (fun _ => (tell0 h).t) (fun c => ?_)
  obtain ⟨y, h1, h2, rfl⟩ := vin_natA (a := lo) (b := hMost k) (by omega) (by omega) c
  obtain ⟨x, rE, rM, w⟩ := id h.1
  have ek : (3 : Int32) + nI k = nI (3 + k) := by rw [nz, nI_add]
  refine ⟨⟨n_in (by omega) (by omega), n_in (by omega) (by omega), trivial⟩, ⟨?_, trivial⟩, ?_, ?_, h.2⟩
  · unfold kX5_becomes; rw [ek]; exact ⟨n_in (by omega) (by omega), n_in (by omega) (by omega), trivial⟩
  · show e_home (j_E J) (nI k).toNatClampNeg = m_m M ((3 : Int32) + nI k).toNatClampNeg
    rw [ek, n_cl (by omega), n_cl (by omega), rE.2.2.2.1 k (by omega), rM.2.2.2.1 k (by omega)]
  · show RelE (e_s_home (j_E J) (upd (e_home (j_E J)) (nI k).toNatClampNeg (nI y))) (upd (m_m M) ((3 : Int32) + nI k).toNatClampNeg (nI y))
    rw [ek, n_cl (by omega), n_cl (by omega)]
    exact ⟨sHome x k y, rE.home, rM.home (by omega), w.home h2 (fun e => by rw [hlo, if_pos e] at h1; exact h1)⟩
theorem P_set (h : Rel J M) (p v : Int32) : OK (kX4_set J p v) (kX5_set M p v) (vX4_set J p v) (vX5_set M p v) := by
  unfold kX4_set kX5_set vX4_set vX5_set
  refine OK_ite Iff.rfl (fun _ => (tell0 h).t) (fun c => ?_)
  obtain ⟨k, hk, rfl⟩ := vin_nat (b := 6) (by omega) c
  have hm := hMostv k (by omega)
  have hin : vp_in (nI k) 7 := n_in (by omega) (by omega)
  rw [vwi, n_cl (by omega), hm.1, hm.2.1]
  refine OK.kj hin (OK.kj hin ?_)
  by_cases e : k = 1
  · have e1 : nI k = (1 : Int32) := by rw [e]; rfl
    have s := set21 h hk v 1 (by rw [if_pos e])
    rw [if_pos e, if_pos e1]
    rw [n_cl (by omega)] at s
    exact ⟨s.1, ⟨fun _ => s.2.1, fun q => absurd e1 q⟩, s.2.2⟩
  · have e1 : ¬ nI k = (1 : Int32) := by rw [nz, n_eq (by omega) (by omega)]; exact e
    have s := set21 h hk v 0 (by rw [if_neg e])
    rw [if_neg e, if_neg e1]
    rw [n_cl (by omega)] at s
    exact ⟨s.1, ⟨fun q => absurd q e1, fun _ => s.2.1⟩, s.2.2⟩
end PE
