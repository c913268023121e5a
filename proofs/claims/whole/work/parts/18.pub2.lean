def sTold (x : AS) (t u : Nat) : Nat := if u = 7 then sLives (a_tr x t 0) (a_tr x t 1) else if u = 8 then sWorthT x t else if u = 9 then sFairT x t else if u = 10 then sWorseT x t else if u = 11 then sAward x t else a_tr x t u
theorem E_worthk {x : AS} {E : ES} (r : RpE x E) (w : WF x) {t : Nat} (ht : t < a_things x) : kX0_worth E (nI t) := by
  have hb := w.t ht
  unfold kX0_worth
  simp only [nz, E_trait r w ht (by decide : 0 < 7), E_trait r w ht (by decide : 1 < 7), E_trait r w ht (by decide : 2 < 7)]
  exact ⟨E_traitk w ht (by decide), E_traitk w ht (by decide), E_traitk w ht (by decide), kworth (by omega) (by omega), trivial⟩
theorem E_told {x : AS} {E : ES} (r : RpE x E) (w : WF x) {t u : Nat} (ht : t < a_things x) (hu : u ≤ 11) : kX0_told E (nI t) (nI u) ∧ vX0_told E (nI t) (nI u) = nI (sTold x t u) := by
  have hb := w.t ht
  unfold kX0_told vX0_told sTold
  simp only [nz, vwi]
  simp (disch := omega) only [n_eq]
  by_cases h7 : u = 7
  · simp only [h7, if_true, not_true_eq_false, false_implies, and_true, true_implies]
    exact ⟨⟨E_traitk w ht (by decide), E_traitk w ht (by decide)⟩, by rw [E_trait r w ht (by decide : 0 < 7), E_trait r w ht (by decide : 1 < 7), vlives (by omega)]⟩
  by_cases h8 : u = 8
  · simp only [h8, if_true, not_true_eq_false, false_implies, and_true, true_implies, (by decide : ¬ (8 : Nat) = 7), if_false, not_false_eq_true, true_and]
    exact ⟨E_worthk r w ht, E_worth r w ht⟩
  by_cases h9 : u = 9
  · simp only [h9, if_true, not_true_eq_false, false_implies, and_true, true_implies, (by decide : ¬ (9 : Nat) = 7), (by decide : ¬ (9 : Nat) = 8), if_false, not_false_eq_true, true_and]
    exact ⟨E_fairk w ht, E_fair r w ht⟩
  by_cases h10 : u = 10
  · simp only [h10, if_true, not_true_eq_false, false_implies, and_true, true_implies, (by decide : ¬ (10 : Nat) = 7), (by decide : ¬ (10 : Nat) = 8), (by decide : ¬ (10 : Nat) = 9), if_false, not_false_eq_true, true_and]
    exact ⟨E_worsek w ht, E_worse r w ht⟩
  by_cases h11 : u = 11
  · simp only [h11, if_true, not_true_eq_false, false_implies, and_true, true_implies, (by decide : ¬ (11 : Nat) = 7), (by decide : ¬ (11 : Nat) = 8), (by decide : ¬ (11 : Nat) = 9), (by decide : ¬ (11 : Nat) = 10), if_false, not_false_eq_true, true_and]
    exact ⟨E_awardk r w ht, E_award r w ht⟩
  have hin : ¬ vX5_in (nI u) (nI 0) (nI 6) = nI 0 := (vin_iff _ _ _).mpr ⟨by rw [n_le (by omega) (by omega)]; omega, by rw [n_le (by omega) (by omega)]; omega⟩
  simp only [h7, h8, h9, h10, h11, hin, if_false, not_false_eq_true, false_implies, true_and, true_implies, and_true]
  exact ⟨E_traitk w ht (by omega), E_trait r w ht (by omega)⟩
theorem vin_N {k a b : Nat} (ha : a < 2147483648) (hb : b < 2147483648) (h1 : a ≤ k) (h2 : k ≤ b) : ¬ vX5_in (nI k) (nI a) (nI b) = nI 0 := (vin_iff _ _ _).mpr ⟨by rw [n_le ha (by omega)]; exact h1, by rw [n_le (by omega) hb]; exact h2⟩
theorem M_of {x : AS} {M : MS} (r : RpM x (m_m M)) (w : WF x) {t u : Nat} (ht : t < a_things x) (hu : u ≤ 11) : kX5_of M (nI t) (nI u) ∧ vX5_of M (nI t) (nI u) = (nI (sTold x t u), M) := by
  have hb := w.t ht
  have hi : ¬ vX5_isThing M (nI t) = nI 0 := by
    rw [M_isThing r w t (by have := w.1; omega), if_pos ht]; decide
  unfold kX5_of vX5_of sTold
  simp only [nz]
  have hin : ¬ vX5_in (nI u) (nI 0) (nI 11) = nI 0 := vin_N (by omega) (by omega) (by omega) hu
  simp (disch := omega) only [n_eq]
  simp only [hi, hin, if_false, not_false_eq_true, false_implies, true_and, true_implies, and_true, kT5]
  by_cases h7 : u = 7
  · simp only [h7, if_true, not_true_eq_false, false_implies, and_true, true_implies]
    exact ⟨M_livesk w ht, by rw [M_lives r w ht]⟩
  by_cases h8 : u = 8
  · simp only [h8, if_true, not_true_eq_false, false_implies, and_true, true_implies, (by decide : ¬ (8 : Nat) = 7), if_false, not_false_eq_true, true_and]
    exact ⟨M_worthk r w ht, by rw [M_worth r w ht]⟩
  by_cases h9 : u = 9
  · simp only [h9, if_true, not_true_eq_false, false_implies, and_true, true_implies, (by decide : ¬ (9 : Nat) = 7), (by decide : ¬ (9 : Nat) = 8), if_false, not_false_eq_true, true_and]
    exact ⟨M_fairk w ht, by rw [M_fair r w ht]⟩
  by_cases h10 : u = 10
  · simp only [h10, if_true, not_true_eq_false, false_implies, and_true, true_implies, (by decide : ¬ (10 : Nat) = 7), (by decide : ¬ (10 : Nat) = 8), (by decide : ¬ (10 : Nat) = 9), if_false, not_false_eq_true, true_and]
    exact ⟨M_worsek w ht, by rw [M_worse r w ht]⟩
  by_cases h11 : u = 11
  · simp only [h11, if_true, not_true_eq_false, false_implies, and_true, true_implies, (by decide : ¬ (11 : Nat) = 7), (by decide : ¬ (11 : Nat) = 8), (by decide : ¬ (11 : Nat) = 9), (by decide : ¬ (11 : Nat) = 10), if_false, not_false_eq_true, true_and]
    exact ⟨M_awardk r w ht, by rw [M_award r w ht]⟩
  simp only [h7, h8, h9, h10, h11, if_false, not_false_eq_true, false_implies, true_and, true_implies, and_true]
  exact ⟨M_itk w ht (by omega), by rw [M_it r w ht (by omega)]⟩
theorem hMostv : ∀ k, k < 7 → jHM.getD k 0 = nI (hMost k) ∧ jHL.getD k 0 = nI (if k = 1 then 1 else 0) ∧ jTM.getD k 0 = nI (tMost k) ∧ vX5_mostOf (nI k) = nI (tMost k) ∧ vX5_mostOfHome (nI k) = nI (hMost k) := by decide
theorem hMost_le (k : Nat) : hMost k ≤ 9999 := by unfold hMost; repeat' split
                                                  all_goals omega
theorem tMost_le (k : Nat) : tMost k ≤ 9999 := by unfold tMost; repeat' split
                                                  all_goals omega
section PC
variable {J : JS} {M : MS}
theorem P_of (h : Rel J M) (p q : Int32) : OK (kX4_of J p q) (kX5_of M p q) (vX4_of J p q) (vX5_of M p q) := by
  obtain ⟨x, rE, rM, w⟩ := id h.1
  by_cases c : vX5_isThing M p = 0
  · unfold kX4_of kX5_of vX4_of vX5_of
    refine OK.kj (kT4 _ _) (OK.km (kT5 _ _) (OK_ite (by rw [isT h]) (fun _ => (tell0 h).t) (fun c2 => absurd ((isT h p).trans c) c2)))
  by_cases c2 : vX5_in q 0 11 = 0
  · unfold kX4_of kX5_of vX4_of vX5_of
    refine OK.kj (kT4 _ _) (OK.km (kT5 _ _) (OK_ite (by rw [isT h]) (fun _ => (tell0 h).t) (fun _ => OK_ite Iff.rfl (fun _ => (tell0 h).t) (fun c3 => absurd c2 c3))))
  obtain ⟨t, ht, rfl⟩ := isTn rM w c
  obtain ⟨u, hu, rfl⟩ := vin_nat (b := 11) (by omega) c2
  have b := M_of rM w ht hu
  have a := E_told rE w ht hu
  have e1 : vX4_of J (nI t) (nI u) = (vX0_told (j_E J) (nI t) (nI u), J) := by
    unfold vX4_of; rw [if_neg (by rw [isT h]; exact c), vwi, if_neg c2]
  rw [b.2, e1, a.2]
  refine ⟨⟨kT4 _ _, fun q => absurd q (by rw [isT h]; exact c), fun _ => ⟨fun q => absurd q c2, fun _ => ⟨a.1, trivial⟩⟩⟩, b.1, rfl, h⟩
theorem P_change (h : Rel J M) (p q v : Int32) : OK (kX4_change J p q v) (kX5_change M p q v) (vX4_change J p q v) (vX5_change M p q v) := by
  unfold kX4_change kX5_change vX4_change vX5_change
  refine OK.kj (kT4 _ _) (OK.km (kT5 _ _) (OK_ite (by rw [isT h]) (fun _ => (tell0 h).t) (fun c => OK_ite Iff.rfl (fun _ => (tell0 h).t) (fun c2 => ?_))))
  rw [isT h] at c
  obtain ⟨x, rE, rM, w⟩ := id h.1
  obtain ⟨t, ht, rfl⟩ := isTn rM w c
  obtain ⟨u, hu, rfl⟩ := vin_nat (b := 6) (by omega) c2
  have h8 := w.1
  have hm := hMostv u (by omega)
  have hl := tMost_le u
  rw [vwi, n_cl (by omega), hm.2.2.1, hm.2.2.2.1]
  refine OK.kj (n_in (by omega) (by omega)) (OK_ite Iff.rfl (fun _ => (tell0 h).t) (fun c3 => ?_))
  obtain ⟨y, hy, rfl⟩ := vin_nat (b := tMost u) (by omega) c3
  have ek : ((16 : Int32) + (7 : Int32) * nI t) + nI u = nI (16 + 7 * t + u) := by simp only [nz, pk_mul, nI_add]
  obtain ⟨f, q1, q2⟩ := M_put (v := y) rM w ht (show u < 7 by omega)
  have e5 : vX5_becomes M (((16 : Int32) + (7 : Int32) * nI t) + nI u) (nI y) = (vX5_it M (nI t) (nI u), vX5_put M (nI t) (nI u) (nI y)) := rfl
  refine ⟨⟨E_traitk w ht (by omega), E_putk w ht (by omega), trivial⟩, ⟨?_, trivial⟩, ?_, ?_⟩
  · unfold kX5_becomes; rw [ek]; exact ⟨n_in (by omega) (by omega), n_in (by omega) (by omega), trivial⟩
  · rw [e5]
    show vX0_trait _ _ _ = vX5_it _ _ _
    rw [E_trait rE w ht (by omega), M_it rM w ht (by omega)]
  · rw [e5, q1]
    exact ⟨⟨sPut x t u y, E_put rE w ht (by omega), q2, w.put hy⟩, h.2⟩
theorem P_go (h : Rel J M) (p : Int32) : OK (kX4_go J p) (kX5_go M p) (vX4_go J p) (vX5_go M p) := by
  unfold kX4_go kX5_go vX4_go vX5_go
  obtain ⟨x, rE, rM, w⟩ := id h.1
  have hd := w.2.1
  refine OK_ite Iff.rfl (fun _ => (tell0 h).t) (fun c => ?_)
  obtain ⟨n, h1, h2, rfl⟩ := vin_natA (a := 1) (b := 60) (by omega) (by omega) c
  refine OK_ite (by rw [rE.2.1, show ((0 : Int32)).toNatClampNeg = 0 from rfl, rM.2.1]) (fun _ => ?_) (fun _ => (tell4 h).t)
  have a := E_passDays rE w (d := n) (by omega)
  obtain ⟨k, f, q1, q2⟩ := M_goesFor rM w (d := n) (by omega)
  have a2 := E_awarded a.2 (w.days n)
  have b2 := M_awarded (M := m_s_m M f) q2 (w.days n)
  unfold kX4_go_c44 kX5_go_c42 vX4_go_c44 vX5_go_c42
  rw [q1]
  generalize vX0_passDays (j_E J) (nI n) = B at a a2 ⊢
  refine ⟨⟨a.1, a2.1, trivial⟩, ⟨k, b2.1, trivial⟩, ?_, ⟨sDays x n, a.2, q2, w.days n⟩, h.2⟩
  show vX0_awarded B = vX5_awarded (m_s_m M f)
  rw [a2.2, b2.2]
theorem P_judged (h : Rel J M) (p : Int32) : OK (kX4_judged J p) (kX5_judged M p) (vX4_judged J p) (vX5_judged M p) := by
  unfold kX4_judged kX5_judged vX4_judged vX5_judged
  obtain ⟨x, rE, rM, w⟩ := id h.1
  refine OK_ite Iff.rfl (fun _ => (tell0 h).t) (fun c => ?_)
  obtain ⟨n, hn, rfl⟩ := vin_nat (b := 100) (by omega) c
  have b := E_become (E := j_T J) rE w
  obtain ⟨k, g, q1, q2⟩ := M_thinks rM w
  rw [q1]
  generalize vX0_become (j_T J) (j_E J) = B at b ⊢
  have a := E_passDays b.2 w (d := n) (by omega)
  have a2 := E_awarded a.2 (w.days n)
  obtain ⟨k3, v3, f, q3, r3⟩ := M_awardedOn (M := m_s_was M g) (y := x) rM w q2 w (d := n) (by omega)
  unfold kX4_judged_c27 kX5_judged_c21 vX4_judged_c27 vX5_judged_c21 kX4_awardedBehind vX4_awardedBehind kX4_awardedBehind_c8 vX4_awardedBehind_c8
  rw [v3, q3]
  have a' : kX0_passDays (j_T (j_s_T J B)) (nI n) := a.1
  have e : vX0_passDays (j_T (j_s_T J B)) (nI n) = vX0_passDays B (nI n) := rfl
  rw [e]
  generalize vX0_passDays B (nI n) = C at a2 a ⊢
  refine ⟨⟨b.1, ⟨a', a2.1, trivial⟩, trivial⟩, ⟨k, k3, trivial⟩, a2.2, ⟨x, rE, r3, w⟩, h.2⟩
end PC
