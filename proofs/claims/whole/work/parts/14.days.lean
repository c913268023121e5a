def sDays (x : AS) : Nat → AS
  | 0 => x
  | n + 1 => sDay (sDays x n)
theorem WF.days {x : AS} (w : WF x) : ∀ n, WF (sDays x n)
  | 0 => w
  | n + 1 => (w.days n).day
theorem sDays_things (x : AS) : ∀ n, a_things (sDays x n) = a_things x
  | 0 => rfl
  | n + 1 => (sDay_things _).trans (sDays_things x n)
theorem sWear0E {x : AS} {E : ES} (r : RpE x E) (rr : Nat) : RpE (sWear x rr 0) E := r.tr (fun t _ u _ => by unfold sWearF; rw [if_neg (Nat.not_lt_zero t)])
theorem sWear0M {x : AS} {m : FA} (r : RpM x m) (rr : Nat) : RpM (sWear x rr 0) m := r.tr (fun t _ u _ => by unfold sWearF; rw [if_neg (Nat.not_lt_zero t)])
section DE2
variable {x : AS} {E : ES}
theorem E_day40 {y : AS} (ry : RpE y E) (wy : WF y) : kX0_passDay_c40 E ∧ RpE (a_s_day (sWear y (if a_day y % 10 = 9 then 1 else 0) (a_things y)) (min 99999 (a_day y + 1))) (vX0_passDay_c40 E) := by
  have hd := wy.2.1
  have h8 := wy.1
  unfold kX0_passDay_c40 vX0_passDay_c40 kX0_passDay_c57 vX0_passDay_c57
  rw [ry.2.1]
  simp (disch := omega) only [nz, n_rem, n_eq]
  by_cases h : a_day y % 10 = 9
  · simp only [h, if_true, not_true_eq_false, false_implies, and_true, true_implies]
    exact E_wear_L wy 1 (by omega) 1024 0 E (sWear0E ry 1) (Nat.zero_le _) (by omega)
  · simp only [h, if_false, not_false_eq_true, false_implies, true_and, true_implies]
    exact E_wear_L wy 0 (by omega) 1024 0 E (sWear0E ry 0) (Nat.zero_le _) (by omega)
theorem E_passDay (r : RpE x E) (w : WF x) : kX0_passDay E ∧ RpE (sDay x) (vX0_passDay E) := by
  have hd := w.2.1
  have h8 := w.1
  have hl := w.2.2.2.2.1 (a_day x % 6) (by omega)
  unfold kX0_passDay vX0_passDay vX4_thingOfBlow vX4_forceOfBlow
  rw [r.1, r.2.1]
  simp (disch := omega) only [nz, n_rem, n_cl]
  rw [r.2.2.2.2.1 (a_day x % 6) (by omega)]
  simp (disch := omega) only [n_rem, n_div, n_le]
  refine ⟨⟨n_in (by omega) (by omega), ?_⟩, ?_⟩
  · by_cases h : a_things x ≤ a_list x (a_day x % 6) / 10
    · simp only [h, not_true_eq_false, false_implies, and_true, true_implies]
      exact (E_day40 r w).1
    · have ht : a_list x (a_day x % 6) / 10 < a_things x := by omega
      have hu := E_hurt r w (f := a_list x (a_day x % 6) % 10) ht (by omega)
      have hb := w.t ht
      have hh := w.h
      have hle : sHurtT x (a_list x (a_day x % 6) / 10) (a_list x (a_day x % 6) % 10) ≤ 99 := sHurt_le (by omega) (by omega)
      have hlo := E_lower r w (t := a_list x (a_day x % 6) / 10) (b := sHurtT x (a_list x (a_day x % 6) / 10) (a_list x (a_day x % 6) % 10)) ht (by omega)
      simp only [h, not_false_eq_true, false_implies, true_and, true_implies, hu.2]
      exact ⟨hu.1, hlo.1, (E_day40 hlo.2 (w.put (by rw [tm4]; omega))).1⟩
  · unfold sDay sStrike
    by_cases h : a_things x ≤ a_list x (a_day x % 6) / 10
    · rw [if_pos h, if_neg (show ¬ a_list x (a_day x % 6) / 10 < a_things x by omega)]
      exact (E_day40 r w).2
    · have ht : a_list x (a_day x % 6) / 10 < a_things x := by omega
      have hu := E_hurt r w (f := a_list x (a_day x % 6) % 10) ht (by omega)
      have hb := w.t ht
      have hh := w.h
      have hle : sHurtT x (a_list x (a_day x % 6) / 10) (a_list x (a_day x % 6) % 10) ≤ 99 := sHurt_le (by omega) (by omega)
      have hlo := E_lower r w (t := a_list x (a_day x % 6) / 10) (b := sHurtT x (a_list x (a_day x % 6) / 10) (a_list x (a_day x % 6) % 10)) ht (by omega)
      rw [if_neg h, if_pos ht, hu.2]
      exact (E_day40 hlo.2 (w.put (by rw [tm4]; omega))).2
theorem E_days_L (w : WF x) {d : Nat} (hd : d ≤ 1000) : ∀ (n i : Nat) (E : ES), RpE (sDays x i) E → i ≤ d → d < i + n → kX0_passDays_c2 (nI d) n E (nI i) ∧ RpE (sDays x d) (vX0_passDays_c2 (nI d) n E (nI i))
  | 0, i, E, r, h1, h2 => by omega
  | n + 1, i, E, r, h1, h2 => by
    unfold kX0_passDays_c2 vX0_passDays_c2 kX0_passDays_c11 vX0_passDays_c11
    simp (disch := omega) only [n_le, nz, nI_add]
    by_cases h : d ≤ i
    · have e : i = d := by omega
      subst e
      simp only [Nat.le_refl, if_true, not_true_eq_false, false_implies, and_true, implies_true, true_and]
      exact r
    · have hp := E_passDay r (w.days i)
      have ih := E_days_L w hd n (i + 1) _ hp.2 (by omega) (by omega)
      simp only [h, if_false, not_false_eq_true, false_implies, true_and, true_implies]
      exact ⟨⟨hp.1, ih.1⟩, ih.2⟩
theorem E_passDays (r : RpE x E) (w : WF x) {d : Nat} (hd : d ≤ 1000) : kX0_passDays E (nI d) ∧ RpE (sDays x d) (vX0_passDays E (nI d)) := E_days_L w hd 1024 0 E r (Nat.zero_le _) (by omega)
end DE2
-- the reference's
theorem mm_s (M : MS) (f : FA) : m_m (m_s_m M f) = f := rfl
theorem mm_ss (M : MS) (f g : FA) : m_s_m (m_s_m M f) g = m_s_m M g := rfl
theorem mm_self (M : MS) : m_s_m M (m_m M) = M := rfl
section DM
variable {x : AS} {M : MS}
theorem M_put (r : RpM x (m_m M)) (w : WF x) {t u v : Nat} (ht : t < a_things x) (hu : u < 7) : ∃ f, vX5_put M (nI t) (nI u) (nI v) = m_s_m M f ∧ RpM (sPut x t u v) f := by
  have h8 := w.1
  unfold vX5_put
  simp only [nz, pk_mul, nI_add]
  rw [n_cl (by omega)]
  refine ⟨_, rfl, ?_, ?_, ?_, fun i hi => ?_, fun i hi => ?_, fun t' ht' u' hu' => ?_, fun i hi => ?_⟩
  · rw [upd_n (by omega)]; exact r.1
  · rw [upd_n (by omega)]; exact r.2.1
  · rw [upd_n (by omega)]; exact r.2.2.1
  · rw [upd_n (by omega)]; exact r.2.2.2.1 i hi
  · rw [upd_n (by omega)]; exact r.2.2.2.2.1 i hi
  · show _ = nI (if t' = t ∧ u' = u then v else a_tr x t' u')
    by_cases e : t' = t ∧ u' = u
    · rw [if_pos e, e.1, e.2, upd_s]
    · rw [if_neg e, upd_n (by omega)]
      exact r.2.2.2.2.2.1 t' ht' u' hu'
  · have ht2 : t < 8 := by omega
    rw [upd_n (by omega)]; exact r.2.2.2.2.2.2 i hi
theorem M_putk (w : WF x) {t u : Nat} {v : Int32} (ht : t < a_things x) (hu : u < 7) : kX5_put M (nI t) (nI u) v := by
  have h8 := w.1
  unfold kX5_put
  simp only [nz, pk_mul, nI_add]
  exact ⟨n_in (by omega) (by omega), trivial⟩
theorem vheldm {v p : Nat} (hv : v < 2147483648) (hp : p < 2147483648) : vX5_held (nI v) (nI 0) (nI p) = nI (min p v) := by rw [vheld hv hp, Nat.min_comm]
theorem vheldc {a b p : Nat} (ha : a ≤ p) (hp : p < 1073741824) (hb : b < 1073741824) : vX5_held (nI a - nI b) (nI 0) (nI p) = nI (a - b) := by
  unfold vX5_held
  by_cases h : b ≤ a
  · rw [n_sub h]
    simp (disch := omega) only [n_le]
    rw [if_pos (by omega), if_pos (by omega)]
  · have h1 := n_neg hb (Nat.not_le.mp h)
    rw [if_neg (fun h2 => absurd h1 (Int32.not_lt.mpr h2)), show a - b = 0 by omega]
theorem M_isThing (r : RpM x (m_m M)) (w : WF x) (t : Nat) (ht : t < 1000000) : vX5_isThing M (nI t) = if t < a_things x then 1 else 0 := by
  have h8 := w.1
  have e : m_m M (nI 2).toNatClampNeg = nI (a_things x) := by rw [n_cl (by omega)]; exact r.1
  unfold vX5_isThing vX5_in
  simp only [nz, e]
  rw [if_neg (show ¬ nI t < nI 0 by rw [n_lt (by omega) (by omega)]; omega)]
  by_cases h0 : a_things x = 0
  · rw [h0, if_neg (Nat.not_lt_zero t), if_pos]
    exact Int32.lt_of_lt_of_le (n_neg (a := 0) (b := 1) (by omega) (by omega)) (by rw [n_le (by omega) (by omega)]; omega)
  · rw [n_sub (by omega)]
    simp (disch := omega) only [n_lt]
    by_cases h : t < a_things x
    · rw [if_neg (by omega), if_pos h]
    · rw [if_pos (by omega), if_neg h]
theorem M_wear_L (w : WF x) (rr : Nat) (hr : rr ≤ 1) : ∀ (n i : Nat) (M : MS), RpM (sWear x rr i) (m_m M) → i ≤ a_things x → a_things x < i + n → kX5_goes_c82 n M (nI rr) (nI i) ∧ ∃ f, vX5_goes_c82 n M (nI rr) (nI i) = m_s_m M f ∧ RpM (a_s_day (sWear x rr (a_things x)) (min 99999 (a_day x + 1))) f
  | 0, i, M, r, h1, h2 => by omega
  | n + 1, i, M, r, h1, h2 => by
    have h8 := w.1
    have hd := w.2.1
    have wi := w.wear rr i
    have e1 : m_m M (nI 2).toNatClampNeg = nI (a_things x) := by rw [n_cl (by omega)]; exact r.1
    have e2 : m_m M (nI 0).toNatClampNeg = nI (a_day x) := by rw [n_cl (by omega)]; exact r.2.1
    unfold kX5_goes_c82 vX5_goes_c82
    simp only [nz, e1, e2, nI_add]
    simp (disch := omega) only [n_le, vheldm, n_cl]
    by_cases h : a_things x ≤ i
    · have e : i = a_things x := by omega
      subst e
      simp only [Nat.le_refl, if_true, not_true_eq_false, false_implies, and_true, implies_true, true_and]
      refine ⟨_, rfl, ?_, ?_, ?_, fun i hi => ?_, fun i hi => ?_, fun t' ht' u' hu' => ?_, fun i hi => ?_⟩
      · rw [upd_n (by omega)]; exact r.1
      · rw [upd_s]
        rfl
      · rw [upd_n (by omega)]; exact r.2.2.1
      · rw [upd_n (by omega)]; exact r.2.2.2.1 i hi
      · rw [upd_n (by omega)]; exact r.2.2.2.2.1 i hi
      · rw [upd_n (by omega)]; exact r.2.2.2.2.2.1 t' ht' u' hu'
      · rw [upd_n (by omega)]; exact r.2.2.2.2.2.2 i hi
    · have ht : i < a_things x := by omega
      have hb := w.t ht
      simp only [h, if_false, not_false_eq_true, true_implies, false_implies, true_and]
      have t0 : ∀ u, a_tr (sWear x rr i) i u = a_tr x i u := fun u => by
        show sWearF x rr i i u = _
        unfold sWearF; rw [if_neg (Nat.lt_irrefl i)]
      have v2 := M_it r wi (t := i) (u := 2) ht (by decide)
      rw [t0] at v2
      obtain ⟨f1, q1, r1⟩ := M_put (v := min 9999 (a_tr x i 2 + 1)) r wi (t := i) (u := 2) ht (by decide)
      have w1 : WF (sPut (sWear x rr i) i 2 (min 9999 (a_tr x i 2 + 1))) := wi.put (by rw [tm2]; omega)
      have v5 := M_it (M := m_s_m M f1) r1 w1 (t := i) (u := 5) ht (by decide)
      have t5 : a_tr (sPut (sWear x rr i) i 2 (min 9999 (a_tr x i 2 + 1))) i 5 = a_tr x i 5 := by
        show (if i = i ∧ 5 = 2 then _ else a_tr (sWear x rr i) i 5) = _
        rw [if_neg (by omega), t0]
      rw [t5] at v5
      obtain ⟨f2, q2, r2⟩ := M_put (M := m_s_m M f1) (v := min 9999 (a_tr x i 5 + 1)) r1 w1 (t := i) (u := 5) ht (by decide)
      have w2 : WF (sPut (sPut (sWear x rr i) i 2 (min 9999 (a_tr x i 2 + 1))) i 5 (min 9999 (a_tr x i 5 + 1))) := w1.put (by rw [tm5]; omega)
      have t4 : a_tr (sPut (sPut (sWear x rr i) i 2 (min 9999 (a_tr x i 2 + 1))) i 5 (min 9999 (a_tr x i 5 + 1))) i 4 = a_tr x i 4 := by
        show (if i = i ∧ 4 = 5 then _ else if i = i ∧ 4 = 2 then _ else a_tr (sWear x rr i) i 4) = _
        rw [if_neg (by omega), if_neg (by omega), t0]
      have v4 := M_it (M := m_s_m M f2) r2 w2 (t := i) (u := 4) ht (by decide)
      rw [t4] at v4
      obtain ⟨f3, q3, r3⟩ := M_put (M := m_s_m M f2) (v := a_tr x i 4 - rr) r2 w2 (t := i) (u := 4) ht (by decide)
      have k1 := M_putk (M := M) (v := nI (min 9999 (a_tr x i 2 + 1))) wi (t := i) (u := 2) ht (by decide)
      have k2 := M_putk (M := m_s_m M f1) (v := nI (min 9999 (a_tr x i 5 + 1))) w1 (t := i) (u := 5) ht (by decide)
      have k3 := M_putk (M := m_s_m M f2) (v := nI (a_tr x i 4 - rr)) w2 (t := i) (u := 4) ht (by decide)
      unfold kX5_goes_c116 vX5_goes_c116 kX5_goes_c139 vX5_goes_c139 kX5_goes_c161 vX5_goes_c161
      simp only [nz]
      simp (disch := omega) only [v2, nI_add, vheldm, q1, v5, q2, v4, vheldc, q3, mm_ss]
      have r4 : RpM (sWear x rr (i + 1)) (m_m (m_s_m M f3)) := by
        refine r3.tr (f := sWearF x rr (i + 1)) (fun t ht' u hu => ?_)
        show (if t = i ∧ u = 4 then _ else if t = i ∧ u = 5 then _ else if t = i ∧ u = 2 then _ else sWearF x rr i t u) = sWearF x rr (i + 1) t u
        unfold sWearF
        repeat' split
        all_goals first | omega | (simp_all; done) | (simp_all; omega)
      have ih := M_wear_L w rr hr n (i + 1) _ r4 (by omega) (by omega)
      rw [mm_ss] at q2 q3
      refine ⟨⟨M_itk wi ht (by decide), k1, M_itk w1 ht (by decide), k2, M_itk w2 ht (by decide), k3, ih.1⟩, ?_⟩
      obtain ⟨f, hf, rf⟩ := ih.2
      exact ⟨f, hf, rf⟩
end DM
