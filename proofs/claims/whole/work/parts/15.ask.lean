section DM2
variable {x : AS} {M : MS}
theorem M_day59 {y : AS} (ry : RpM y (m_m M)) (wy : WF y) : kX5_goes_c59 M ∧ ∃ f, vX5_goes_c59 M = m_s_m M f ∧ RpM (a_s_day (sWear y (if a_day y % 10 = 9 then 1 else 0) (a_things y)) (min 99999 (a_day y + 1))) f := by
  have hd := wy.2.1
  have h8 := wy.1
  have e2 : m_m M (nI 0).toNatClampNeg = nI (a_day y) := by rw [n_cl (by omega)]; exact ry.2.1
  unfold kX5_goes_c59 vX5_goes_c59 kX5_goes_c78 vX5_goes_c78
  simp only [nz, e2]
  simp (disch := omega) only [n_rem, n_eq]
  by_cases h : a_day y % 10 = 9
  · simp only [h, if_true, not_true_eq_false, false_implies, and_true, true_implies]
    exact M_wear_L wy 1 (by omega) 1024 0 M (sWear0M ry 1) (Nat.zero_le _) (by omega)
  · simp only [h, if_false, not_false_eq_true, false_implies, true_and, true_implies]
    exact M_wear_L wy 0 (by omega) 1024 0 M (sWear0M ry 0) (Nat.zero_le _) (by omega)
theorem M_goes (r : RpM x (m_m M)) (w : WF x) : kX5_goes M ∧ ∃ f, vX5_goes M = m_s_m M f ∧ RpM (sDay x) f := by
  have hd := w.2.1
  have h8 := w.1
  have hl := w.2.2.2.2.1 (a_day x % 6) (by omega)
  have e2 : m_m M (nI 0).toNatClampNeg = nI (a_day x) := by rw [n_cl (by omega)]; exact r.2.1
  have e3 : m_m M (nI (10 + a_day x % 6)).toNatClampNeg = nI (a_list x (a_day x % 6)) := by rw [n_cl (by omega)]; exact r.2.2.2.2.1 _ (by omega)
  have hi := M_isThing r w (a_list x (a_day x % 6) / 10) (by omega)
  have kI : kX5_isThing M (nI (a_list x (a_day x % 6) / 10)) := by
    refine ⟨?_, trivial⟩
    have : vX5_isThing M (nI (a_list x (a_day x % 6) / 10)) = 0 ∨ vX5_isThing M (nI (a_list x (a_day x % 6) / 10)) = 1 := by rw [hi]; split <;> simp
    exact this
  unfold kX5_goes vX5_goes
  simp only [nz, e2]
  simp (disch := omega) only [n_rem, nI_add]
  simp only [e3]
  simp (disch := omega) only [n_div, n_rem]
  have kin : vp_in (nI (10 + a_day x % 6)) 82 := n_in (by omega) (by omega)
  by_cases h : a_list x (a_day x % 6) / 10 < a_things x
  · rw [if_pos h] at hi
    have hu := M_hurts r w (f := a_list x (a_day x % 6) % 10) h (by omega)
    have huk := M_hurtsk (M := M) w (f := nI (a_list x (a_day x % 6) % 10)) h
    have hb := w.t h
    have hh := w.h
    have hle : sHurtT x (a_list x (a_day x % 6) / 10) (a_list x (a_day x % 6) % 10) ≤ 99 := sHurt_le (by omega) (by omega)
    obtain ⟨f, q, rf⟩ := M_put (v := a_tr x (a_list x (a_day x % 6) / 10) 4 - sHurtT x (a_list x (a_day x % 6) / 10) (a_list x (a_day x % 6) % 10)) r w (t := a_list x (a_day x % 6) / 10) (u := 4) h (by decide)
    have hpk := M_putk (M := M) (v := nI (a_tr x (a_list x (a_day x % 6) / 10) 4 - sHurtT x (a_list x (a_day x % 6) / 10) (a_list x (a_day x % 6) % 10))) w (t := a_list x (a_day x % 6) / 10) (u := 4) h (by decide)
    have h59 := M_day59 (M := m_s_m M f) rf (w.put (by rw [tm4]; omega))
    have ne : ¬ (vX5_isThing M (nI (a_list x (a_day x % 6) / 10)) = nI 0) := by rw [hi]; decide
    have itv := M_it r w h (by decide : 4 < 7)
    simp only [ne, if_false, not_false_eq_true, false_implies, true_and, true_implies, itv, hu]
    rw [vheldc (by omega) (by omega) (by omega), q]
    refine ⟨?_, ?_⟩
    · exact ⟨kin, kI, M_itk w h (by decide), huk, hpk, h59.1⟩
    · obtain ⟨g, hg, rg⟩ := h59.2
      refine ⟨g, hg, ?_⟩
      unfold sDay sStrike
      rw [if_pos h]
      exact rg
  · rw [if_neg h] at hi
    have h59 := M_day59 r w
    have ne : (vX5_isThing M (nI (a_list x (a_day x % 6) / 10)) = nI 0) := hi
    simp only [ne, if_true, not_true_eq_false, false_implies, and_true, true_implies]
    refine ⟨?_, ?_⟩
    · exact ⟨kin, kI, h59.1⟩
    · obtain ⟨g, hg, rg⟩ := h59.2
      refine ⟨g, hg, ?_⟩
      unfold sDay sStrike
      rw [if_neg h]
      exact rg
theorem M_days_L (w : WF x) {d : Nat} (hd : d ≤ 1000) : ∀ (n i : Nat) (M : MS), RpM (sDays x i) (m_m M) → i ≤ d → d < i + n → kX5_goesFor_c2 (nI d) n M (nI i) ∧ ∃ f, vX5_goesFor_c2 (nI d) n M (nI i) = m_s_m M f ∧ RpM (sDays x d) f
  | 0, i, M, r, h1, h2 => by omega
  | n + 1, i, M, r, h1, h2 => by
    unfold kX5_goesFor_c2 vX5_goesFor_c2 kX5_goesFor_c11 vX5_goesFor_c11
    simp (disch := omega) only [n_le, nz, nI_add]
    by_cases h : d ≤ i
    · have e : i = d := by omega
      subst e
      simp only [Nat.le_refl, if_true, not_true_eq_false, false_implies, and_true, implies_true, true_and]
      exact ⟨_, (mm_self M).symm, r⟩
    · obtain ⟨k, f, hf, rf⟩ := M_goes r (w.days i)
      have ih := M_days_L w hd n (i + 1) (m_s_m M f) rf (by omega) (by omega)
      simp only [h, if_false, not_false_eq_true, false_implies, true_and, true_implies, hf]
      exact ⟨⟨k, ih.1⟩, ih.2⟩
theorem M_goesFor (r : RpM x (m_m M)) (w : WF x) {d : Nat} (hd : d ≤ 1000) : kX5_goesFor M (nI d) ∧ ∃ f, vX5_goesFor M (nI d) = m_s_m M f ∧ RpM (sDays x d) f := M_days_L w hd 1024 0 M r (Nat.zero_le _) (by omega)
theorem M_awardedOf (r : RpM x (m_m M)) (w : WF x) {n : Nat} (hn : n ≤ 9999999) : (if vX5_doMeet M = 0 then vX5_awarded_c56 M (nI n) else vX5_awarded_c56 M ((m_m M (nI 8).toNatClampNeg + m_m M (nI 9).toNatClampNeg) / nI 2)) = nI (sAwardedOf x n) := by
  have hh := w.h
  unfold vX5_doMeet vX5_awarded_c56 sAwardedOf
  simp only [nz, M_h r 0 (by omega), M_h r 5 (by omega), M_h r 6 (by omega)]
  simp (disch := omega) only [n_le, n_lt, nI_add, n_div, vheld]
  by_cases h5 : a_home x 5 ≤ 0
  · simp (disch := omega) only [h5, if_true, n_eq]
    simp [show ¬ 0 < a_home x 5 by omega]
  · by_cases h6 : a_home x 6 < a_home x 5
    · simp (disch := omega) only [h5, h6, if_true, if_false, n_eq]
      simp [show ¬ a_home x 5 ≤ a_home x 6 by omega]
    · simp (disch := omega) only [h5, h6, if_false, n_eq]
      simp [show a_home x 5 ≤ a_home x 6 by omega, show 0 < a_home x 5 by omega]
theorem M_awarded_L (r : RpM x (m_m M)) (w : WF x) : ∀ (n t : Nat), t ≤ a_things x → a_things x < t + n → kX5_awarded_c4 M n (nI (sSum (sAward x) t)) (nI t) ∧ vX5_awarded_c4 M n (nI (sSum (sAward x) t)) (nI t) = nI (sAwarded x)
  | 0, t, h1, h2 => by omega
  | n + 1, t, h1, h2 => by
    have h8 := w.1
    have hs : sSum (sAward x) t ≤ t * 999 := sSum_le (fun u hu => sAward_le w (by omega))
    have hs2 : t * 999 ≤ 8 * 999 := Nat.mul_le_mul_right _ (by omega)
    have e1 : m_m M (nI 2).toNatClampNeg = nI (a_things x) := by rw [n_cl (by omega)]; exact r.1
    unfold kX5_awarded_c4 vX5_awarded_c4
    simp only [nz, e1]
    simp (disch := omega) only [n_le]
    by_cases h : a_things x ≤ t
    · have e : t = a_things x := by omega
      subst e
      simp only [Nat.le_refl, if_true, not_true_eq_false, false_implies, and_true, implies_true, true_and]
      exact M_awardedOf r w (by omega)
    · have ht : t < a_things x := by omega
      have ih := M_awarded_L r w n (t + 1) (by omega) (by omega)
      simp only [h, if_false, not_false_eq_true, true_implies, false_implies, true_and, M_award r w ht, M_awardk r w ht, nI_add]
      exact ih
theorem M_awarded (r : RpM x (m_m M)) (w : WF x) : kX5_awarded M ∧ vX5_awarded M = nI (sAwarded x) := M_awarded_L r w 1024 0 (Nat.zero_le _) (by have := w.1; omega)
theorem cpA_L (Fa : FA) : ∀ (n i : Nat) (Fb : FA), i ≤ 82 → 82 < i + n → (∀ j, j < i → Fb j = Fa j) → kX5_copyAll_c2 Fa n Fb (nI i) ∧ ∀ j, j < 82 → vX5_copyAll_c2 Fa n Fb (nI i) j = Fa j
  | 0, i, Fb, h1, h2, h3 => by omega
  | n + 1, i, Fb, h1, h2, h3 => by
    unfold kX5_copyAll_c2 vX5_copyAll_c2 kX5_copyAll_c14 vX5_copyAll_c14
    simp (disch := omega) only [nz, nI_add, n_cl]
    by_cases h : nI 82 ≤ nI i
    · have h' : 82 ≤ i := by rw [n_le (by omega) (by omega)] at h; exact h
      have e : i = 82 := by omega
      subst e
      simp only [h, if_true, not_true_eq_false, false_implies, and_true, implies_true, true_and]
      exact h3
    · have h' : ¬ 82 ≤ i := by rw [n_le (by omega) (by omega)] at h; exact h
      have ih := cpA_L Fa n (i + 1) (upd Fb i (Fa i)) (by omega) (by omega) (fun j hj => by
        by_cases e : j = i
        · rw [e, upd_s]
        · rw [upd_n e]; exact h3 j (by omega))
      simp only [h, if_false, not_false_eq_true, false_implies, true_and, true_implies]
      exact ⟨⟨n_in (by omega) (by omega), n_in (by omega) (by omega), ih.1⟩, ih.2⟩
theorem cpA (Fa Fb : FA) : kX5_copyAll Fa Fb ∧ ∀ j, j < 82 → vX5_copyAll Fa Fb j = Fa j := cpA_L Fa 1024 0 Fb (by omega) (by omega) (fun j hj => by omega)
theorem RpM.same {m g : FA} (r : RpM x m) (w : WF x) (h : ∀ j, j < 82 → g j = m j) : RpM x g := by
  have h8 := w.1
  exact ⟨(h 2 (by omega)).trans r.1, (h 0 (by omega)).trans r.2.1, (h 1 (by omega)).trans r.2.2.1, fun i hi => (h _ (by omega)).trans (r.2.2.2.1 i hi), fun i hi => (h _ (by omega)).trans (r.2.2.2.2.1 i hi), fun t ht u hu => (h _ (by omega)).trans (r.2.2.2.2.2.1 t ht u hu), fun i hi => (h _ (by omega)).trans (r.2.2.2.2.2.2 i hi)⟩
theorem M_thinks (r : RpM x (m_m M)) (w : WF x) : kX5_thinks M ∧ ∃ g, vX5_thinks M = m_s_was M g ∧ RpM x g := ⟨⟨(cpA _ _).1, trivial⟩, _, rfl, r.same w (cpA _ _).2⟩
theorem M_putsBack (r : RpM x (m_was M)) (w : WF x) : kX5_putsBack M ∧ ∃ f, vX5_putsBack M = m_s_m M f ∧ RpM x f := ⟨⟨(cpA _ _).1, trivial⟩, _, rfl, r.same w (cpA _ _).2⟩
theorem M_awardedOn {y : AS} (ry : RpM y (m_m M)) (wy : WF y) (r : RpM x (m_was M)) (w : WF x) {d : Nat} (hd : d ≤ 1000) : kX5_awardedOn M (nI d) ∧ (vX5_awardedOn M (nI d)).1 = nI (sAwarded (sDays y d)) ∧ ∃ f, (vX5_awardedOn M (nI d)).2 = m_s_m M f ∧ RpM x f := by
  obtain ⟨k, f, hf, rf⟩ := M_goesFor ry wy hd
  have a := M_awarded (M := m_s_m M f) rf (wy.days d)
  have b := M_putsBack (M := m_s_m M f) r w
  unfold kX5_awardedOn vX5_awardedOn kX5_awardedOn_c5 vX5_awardedOn_c5
  rw [hf]
  exact ⟨⟨k, a.1, b.1, trivial⟩, a.2, b.2⟩
end DM2
theorem E_become {x : AS} {E B : ES} (r : RpE x B) (w : WF x) : kX0_become E B ∧ RpE x (vX0_become E B) := by
  have h8 := w.1
  unfold kX0_become vX0_become kX0_become_c15 vX0_become_c15 kX0_become_c30 vX0_become_c30 kX0_become_c50 vX0_become_c50 vX0_become_c65 vX0_become_c73 vX0_become_c81
  rw [r.1]
  simp only [nz, pk_mul]
  simp (disch := omega) only [n_cl]
  have cp : ∀ {n a : Nat}, n ≤ a → a ≤ 1000 → jcpok (nI 0) (nI 0) (nI n) a a := fun {n a} h h2 => by
    refine ⟨?_, ?_, ?_, ?_, ?_⟩
    · rw [nz, n_lt (by omega) (by omega)]; omega
    · rw [nz, n_lt (by omega) (by omega)]; omega
    · rw [nz, n_lt (by omega) (by omega)]; omega
    · rw [n_cl (by omega), n_cl (by omega)]; omega
    · rw [n_cl (by omega), n_cl (by omega)]; omega
  refine ⟨⟨cp (by omega) (by omega), cp (by omega) (by omega), cp (by omega) (by omega), cp (by omega) (by omega), trivial⟩, ?_⟩
  refine ⟨rfl, r.2.1, r.2.2.1, fun i hi => ?_, fun i hi => ?_, fun t ht u hu => ?_, fun i hi => ?_⟩
  · show va_cpy (e_home B) (e_home E) 0 0 7 i = _
    rw [pk_cpy_in (by omega) (by omega)]
    simpa using r.2.2.2.1 i hi
  · show va_cpy (e_list B) (e_list E) 0 0 6 i = _
    rw [pk_cpy_in (by omega) (by omega)]
    simpa using r.2.2.2.2.1 i hi
  · show va_cpy (e_traits B) (e_traits E) 0 0 (a_things x * 7) (7 * t + u) = _
    rw [pk_cpy_in (by omega) (by omega)]
    simpa using r.2.2.2.2.2.1 t ht u hu
  · show va_cpy (e_spots B) (e_spots E) 0 0 10 i = _
    rw [pk_cpy_in (by omega) (by omega)]
    simpa using r.2.2.2.2.2.2 i hi
