theorem RelThink {J : JS} {M : MS} {x : AS} (h : Rel J M) (rE : RpE x (j_E J)) (w : WF x) {T : ES} {f g : FA} (rf : RpM x f) : Rel (j_s_T J T) (m_s_m (m_s_was M g) f) := ⟨⟨x, rE, rf, w⟩, h.2⟩
section PD
variable {J : JS} {M : MS}
theorem worthless_L (h : Rel J M) {x : AS} (rE : RpE x (j_E J)) (w : WF x) {t v : Nat} (ht : t < a_things x) (hv : v ≤ 999) : ∀ (n i : Nat) (T : ES) (f g : FA), RpE (sDays x i) T → RpM (sDays x i) f → RpM x g → i ≤ 201 → 201 < i + n → OK (kX4_worthless_c38 (nI t) (nI v) n (j_s_T J T) (nI i)) (kX5_worthless_c32 (nI t) (nI v) n (m_s_m (m_s_was M g) f) (nI i)) (vX4_worthless_c38 (nI t) (nI v) n (j_s_T J T) (nI i)) (vX5_worthless_c32 (nI t) (nI v) n (m_s_m (m_s_was M g) f) (nI i))
  | 0, i, T, f, g, r1, r2, r3, h1, h2 => by omega
  | n + 1, i, T, f, g, r1, r2, r3, h1, h2 => by
    have wi := w.days i
    obtain ⟨kb, f2, q1, q2⟩ := M_putsBack (M := m_s_m (m_s_was M g) f) r3 w
    have hR : ∀ T', Rel (j_s_T J T') (m_s_m (m_s_was M g) f2) := fun T' => RelThink h rE w q2
    have q1' : vX5_putsBack (m_s_m (m_s_was M g) f) = m_s_m (m_s_was M g) f2 := q1
    have ht' : t < a_things (sDays x i) := by rw [sDays_things]; exact ht
    have hw : sWorthT (sDays x i) t ≤ 999 := sWorth_le (by have := wi.t ht'; omega)
    have t1 := E_told r1 wi ht' (u := 8) (by omega)
    have e1 : vX0_told (j_T (j_s_T J T)) (nI t) (8 : Int32) = nI (sWorthT (sDays x i) t) := t1.2
    have k1 : kX0_told (j_T (j_s_T J T)) (nI t) (8 : Int32) := t1.1
    have e2 := M_worth (M := m_s_m (m_s_was M g) f) r2 wi ht'
    have k2 := M_worthk (M := m_s_m (m_s_was M g) f) r2 wi ht'
    have z1 : (nI v < nI (sWorthT (sDays x i) t)) = (v < sWorthT (sDays x i) t) := n_lt (by omega) (by omega)
    have z2 : (nI (sWorthT (sDays x i) t) ≤ nI v) = (sWorthT (sDays x i) t ≤ v) := n_le (by omega) (by omega)
    unfold kX4_worthless_c38 kX5_worthless_c32 vX4_worthless_c38 vX5_worthless_c32 kX5_worthless_c58 vX5_worthless_c58 kX5_worthless_c62 vX5_worthless_c62 kX4_worthless_c68 vX4_worthless_c68 kX5_worthless_c52 vX5_worthless_c52
    rw [q1']
    by_cases c : 200 < i
    · have c1 : (200 : Int32) < nI i := by rw [nz, n_lt (by omega) (by omega)]; exact c
      have c2 : ¬ nI i ≤ (200 : Int32) := by rw [nz, n_le (by omega) (by omega)]; omega
      have t := tell3 (hR T)
      rw [if_pos c1, if_pos c1, if_neg c2]
      exact ⟨⟨fun _ => ⟨t.1, trivial⟩, fun q => absurd c1 q⟩, ⟨fun _ => ⟨kb, fun q => absurd q c2, fun _ => ⟨t.2.1, trivial⟩⟩, fun q => absurd c1 q⟩, t.2.2⟩
    · have c1 : ¬ (200 : Int32) < nI i := by rw [nz, n_lt (by omega) (by omega)]; exact c
      have c2 : nI i ≤ (200 : Int32) := by rw [nz, n_le (by omega) (by omega)]; omega
      have d1 := E_passDay r1 wi
      obtain ⟨d2, f3, q3, q4⟩ := M_goes (M := m_s_m (m_s_was M g) f) r2 wi
      have q3' : vX5_goes (m_s_m (m_s_was M g) f) = m_s_m (m_s_was M g) f3 := q3
      have ih := worthless_L h rE w ht hv n (i + 1) (vX0_passDay T) f3 g d1.2 q4 r3 (by omega) (by omega)
      have ei : nI i + (1 : Int32) = nI (i + 1) := by rw [nz, nI_add]
      have d1' : kX0_passDay (j_T (j_s_T J T)) := d1.1
      have eT : j_s_T (j_s_T J T) (vX0_passDay (j_T (j_s_T J T))) = j_s_T J (vX0_passDay T) := rfl
      rw [if_neg c1, if_neg c1, if_pos c2, ei, q3', eT]
      generalize vX0_passDay T = T2 at ih
      rw [e1, e2]
      by_cases s : sWorthT (sDays x i) t ≤ v
      · have s1 : ¬ nI v < nI (sWorthT (sDays x i) t) := by rw [z1]; omega
        have s2 : nI (sWorthT (sDays x i) t) ≤ nI v := by rw [z2]; exact s
        rw [if_neg s1, if_pos s2]
        exact ⟨⟨fun q => absurd q c1, fun _ => ⟨k1, fun q => absurd q s1, fun _ => trivial⟩⟩, ⟨fun q => absurd q c1, fun _ => ⟨k2, fun _ => ⟨kb, fun _ => trivial, fun q => absurd c2 q⟩, fun q => absurd s2 q⟩⟩, rfl, hR T⟩
      · have s1 : nI v < nI (sWorthT (sDays x i) t) := by rw [z1]; omega
        have s2 : ¬ nI (sWorthT (sDays x i) t) ≤ nI v := by rw [z2]; exact s
        rw [if_pos s1, if_neg s2]
        exact ⟨⟨fun q => absurd q c1, fun _ => ⟨k1, fun _ => ⟨d1', ih.1⟩, fun q => absurd s1 q⟩⟩, ⟨fun q => absurd q c1, fun _ => ⟨k2, fun q => absurd q s2, fun _ => ⟨d2, ih.2.1⟩⟩⟩, ih.2.2⟩
theorem owing_L (h : Rel J M) {x : AS} (rE : RpE x (j_E J)) (w : WF x) {t v : Nat} (ht : t < a_things x) (hv : v ≤ 999) : ∀ (n i : Nat) (T : ES) (f g : FA), RpE (sDays x i) T → RpM (sDays x i) f → RpM x g → i ≤ 201 → 201 < i + n → OK (kX4_owing_c38 (nI t) (nI v) n (j_s_T J T) (nI i)) (kX5_owing_c32 (nI t) (nI v) n (m_s_m (m_s_was M g) f) (nI i)) (vX4_owing_c38 (nI t) (nI v) n (j_s_T J T) (nI i)) (vX5_owing_c32 (nI t) (nI v) n (m_s_m (m_s_was M g) f) (nI i))
  | 0, i, T, f, g, r1, r2, r3, h1, h2 => by omega
  | n + 1, i, T, f, g, r1, r2, r3, h1, h2 => by
    have wi := w.days i
    obtain ⟨kb, f2, q1, q2⟩ := M_putsBack (M := m_s_m (m_s_was M g) f) r3 w
    have hR : ∀ T', Rel (j_s_T J T') (m_s_m (m_s_was M g) f2) := fun T' => RelThink h rE w q2
    have q1' : vX5_putsBack (m_s_m (m_s_was M g) f) = m_s_m (m_s_was M g) f2 := q1
    have ht' : t < a_things (sDays x i) := by rw [sDays_things]; exact ht
    have hw := sAward_le wi ht'
    have e1 : vX0_award (j_T (j_s_T J T)) (nI t) = nI (sAward (sDays x i) t) := E_award r1 wi ht'
    have k1 : kX0_award (j_T (j_s_T J T)) (nI t) := E_awardk r1 wi ht'
    have e2 := M_award (M := m_s_m (m_s_was M g) f) r2 wi ht'
    have k2 := M_awardk (M := m_s_m (m_s_was M g) f) r2 wi ht'
    have z1 : (nI (sAward (sDays x i) t) < nI v) = (sAward (sDays x i) t < v) := n_lt (by omega) (by omega)
    have z2 : (nI v ≤ nI (sAward (sDays x i) t)) = (v ≤ sAward (sDays x i) t) := n_le (by omega) (by omega)
    unfold kX4_owing_c38 kX5_owing_c32 vX4_owing_c38 vX5_owing_c32 kX5_owing_c58 vX5_owing_c58 kX5_owing_c62 vX5_owing_c62 kX4_owing_c66 vX4_owing_c66 kX5_owing_c52 vX5_owing_c52
    rw [q1']
    by_cases c : 200 < i
    · have c1 : (200 : Int32) < nI i := by rw [nz, n_lt (by omega) (by omega)]; exact c
      have c2 : ¬ nI i ≤ (200 : Int32) := by rw [nz, n_le (by omega) (by omega)]; omega
      have t := tell3 (hR T)
      rw [if_pos c1, if_pos c1, if_neg c2]
      exact ⟨⟨fun _ => ⟨t.1, trivial⟩, fun q => absurd c1 q⟩, ⟨fun _ => ⟨kb, fun q => absurd q c2, fun _ => ⟨t.2.1, trivial⟩⟩, fun q => absurd c1 q⟩, t.2.2⟩
    · have c1 : ¬ (200 : Int32) < nI i := by rw [nz, n_lt (by omega) (by omega)]; exact c
      have c2 : nI i ≤ (200 : Int32) := by rw [nz, n_le (by omega) (by omega)]; omega
      have d1 := E_passDay r1 wi
      obtain ⟨d2, f3, q3, q4⟩ := M_goes (M := m_s_m (m_s_was M g) f) r2 wi
      have q3' : vX5_goes (m_s_m (m_s_was M g) f) = m_s_m (m_s_was M g) f3 := q3
      have ih := owing_L h rE w ht hv n (i + 1) (vX0_passDay T) f3 g d1.2 q4 r3 (by omega) (by omega)
      have ei : nI i + (1 : Int32) = nI (i + 1) := by rw [nz, nI_add]
      have d1' : kX0_passDay (j_T (j_s_T J T)) := d1.1
      have eT : j_s_T (j_s_T J T) (vX0_passDay (j_T (j_s_T J T))) = j_s_T J (vX0_passDay T) := rfl
      rw [if_neg c1, if_neg c1, if_pos c2, ei, q3', eT]
      generalize vX0_passDay T = T2 at ih
      rw [e1, e2]
      by_cases s : v ≤ sAward (sDays x i) t
      · have s1 : ¬ nI (sAward (sDays x i) t) < nI v := by rw [z1]; omega
        have s2 : nI v ≤ nI (sAward (sDays x i) t) := by rw [z2]; exact s
        rw [if_neg s1, if_pos s2]
        exact ⟨⟨fun q => absurd q c1, fun _ => ⟨k1, fun q => absurd q s1, fun _ => trivial⟩⟩, ⟨fun q => absurd q c1, fun _ => ⟨k2, fun _ => ⟨kb, fun _ => trivial, fun q => absurd c2 q⟩, fun q => absurd s2 q⟩⟩, rfl, hR T⟩
      · have s1 : nI (sAward (sDays x i) t) < nI v := by rw [z1]; omega
        have s2 : ¬ nI v ≤ nI (sAward (sDays x i) t) := by rw [z2]; exact s
        rw [if_pos s1, if_neg s2]
        exact ⟨⟨fun q => absurd q c1, fun _ => ⟨k1, fun _ => ⟨d1', ih.1⟩, fun q => absurd s1 q⟩⟩, ⟨fun q => absurd q c1, fun _ => ⟨k2, fun q => absurd q s2, fun _ => ⟨d2, ih.2.1⟩⟩⟩, ih.2.2⟩
theorem forgiven_L (h : Rel J M) {x : AS} (rE : RpE x (j_E J)) (w : WF x) : ∀ (n i : Nat) (T : ES) (f g : FA), RpE (sDays x i) T → RpM (sDays x i) f → RpM x g → i ≤ 201 → 201 < i + n → OK (kX4_forgiven_c13 n (j_s_T J T) (nI i)) (kX5_forgiven_c6 n (m_s_m (m_s_was M g) f) (nI i)) (vX4_forgiven_c13 n (j_s_T J T) (nI i)) (vX5_forgiven_c6 n (m_s_m (m_s_was M g) f) (nI i))
  | 0, i, T, f, g, r1, r2, r3, h1, h2 => by omega
  | n + 1, i, T, f, g, r1, r2, r3, h1, h2 => by
    have wi := w.days i
    obtain ⟨kb, f2, q1, q2⟩ := M_putsBack (M := m_s_m (m_s_was M g) f) r3 w
    have hR : ∀ T', Rel (j_s_T J T') (m_s_m (m_s_was M g) f2) := fun T' => RelThink h rE w q2
    have q1' : vX5_putsBack (m_s_m (m_s_was M g) f) = m_s_m (m_s_was M g) f2 := q1
    have a1 := E_awarded r1 wi
    have e1 : vX0_awarded (j_T (j_s_T J T)) = nI (sAwarded (sDays x i)) := a1.2
    have k1 : kX0_awarded (j_T (j_s_T J T)) := a1.1
    have a2 := M_awarded (M := m_s_m (m_s_was M g) f) r2 wi
    have e2 := a2.2
    have k2 := a2.1
    have hw : sAwarded (sDays x i) ≤ 9999 := Nat.le_trans (Nat.min_le_right _ _) wi.h.1
    have z1 : (nI (sAwarded (sDays x i)) = (0 : Int32)) = (sAwarded (sDays x i) = 0) := n_eq (b := 0) (by omega) (by omega)
    have z2 : (nI (sAwarded (sDays x i)) ≤ (0 : Int32)) = (sAwarded (sDays x i) ≤ 0) := n_le (b := 0) (by omega) (by omega)
    unfold kX4_forgiven_c13 kX5_forgiven_c6 vX4_forgiven_c13 vX5_forgiven_c6 kX5_forgiven_c30 vX5_forgiven_c30 kX5_forgiven_c34 vX5_forgiven_c34 kX4_forgiven_c39 vX4_forgiven_c39 kX5_forgiven_c24 vX5_forgiven_c24
    rw [q1']
    by_cases c : 200 < i
    · have c1 : (200 : Int32) < nI i := by rw [nz, n_lt (by omega) (by omega)]; exact c
      have c2 : ¬ nI i ≤ (200 : Int32) := by rw [nz, n_le (by omega) (by omega)]; omega
      have t := tell3 (hR T)
      rw [if_pos c1, if_pos c1, if_neg c2]
      exact ⟨⟨fun _ => ⟨t.1, trivial⟩, fun q => absurd c1 q⟩, ⟨fun _ => ⟨kb, fun q => absurd q c2, fun _ => ⟨t.2.1, trivial⟩⟩, fun q => absurd c1 q⟩, t.2.2⟩
    · have c1 : ¬ (200 : Int32) < nI i := by rw [nz, n_lt (by omega) (by omega)]; exact c
      have c2 : nI i ≤ (200 : Int32) := by rw [nz, n_le (by omega) (by omega)]; omega
      have d1 := E_passDay r1 wi
      obtain ⟨d2, f3, q3, q4⟩ := M_goes (M := m_s_m (m_s_was M g) f) r2 wi
      have q3' : vX5_goes (m_s_m (m_s_was M g) f) = m_s_m (m_s_was M g) f3 := q3
      have ih := forgiven_L h rE w n (i + 1) (vX0_passDay T) f3 g d1.2 q4 r3 (by omega) (by omega)
      have ei : nI i + (1 : Int32) = nI (i + 1) := by rw [nz, nI_add]
      have d1' : kX0_passDay (j_T (j_s_T J T)) := d1.1
      have eT : j_s_T (j_s_T J T) (vX0_passDay (j_T (j_s_T J T))) = j_s_T J (vX0_passDay T) := rfl
      rw [if_neg c1, if_neg c1, if_pos c2, ei, q3', eT]
      generalize vX0_passDay T = T2 at ih
      rw [e1, e2]
      by_cases s : sAwarded (sDays x i) = 0
      · have s1 : nI (sAwarded (sDays x i)) = (0 : Int32) := by rw [z1]; exact s
        have s2 : nI (sAwarded (sDays x i)) ≤ (0 : Int32) := by rw [z2]; omega
        rw [if_pos s1, if_pos s2]
        exact ⟨⟨fun q => absurd q c1, fun _ => ⟨k1, fun _ => trivial, fun q => absurd s1 q⟩⟩, ⟨fun q => absurd q c1, fun _ => ⟨k2, fun _ => ⟨kb, fun _ => trivial, fun q => absurd c2 q⟩, fun q => absurd s2 q⟩⟩, rfl, hR T⟩
      · have s1 : ¬ nI (sAwarded (sDays x i)) = (0 : Int32) := by rw [z1]; exact s
        have s2 : ¬ nI (sAwarded (sDays x i)) ≤ (0 : Int32) := by rw [z2]; omega
        rw [if_neg s1, if_neg s2]
        exact ⟨⟨fun q => absurd q c1, fun _ => ⟨k1, fun q => absurd q s1, fun _ => ⟨d1', ih.1⟩⟩⟩, ⟨fun q => absurd q c1, fun _ => ⟨k2, fun q => absurd q s2, fun _ => ⟨d2, ih.2.1⟩⟩⟩, ih.2.2⟩
theorem P_worthless (h : Rel J M) (p v : Int32) : OK (kX4_worthless J p v) (kX5_worthless M p v) (vX4_worthless J p v) (vX5_worthless M p v) := by
  unfold kX4_worthless kX5_worthless vX4_worthless vX5_worthless
  refine OK.kj (kT4 _ _) (OK.km (kT5 _ _) (OK_ite (by rw [isT h]) (fun _ => (tell0 h).t) (fun c => OK_ite Iff.rfl (fun _ => (tell0 h).t) (fun c2 => ?_))))
  rw [isT h] at c
  obtain ⟨x, rE, rM, w⟩ := id h.1
  obtain ⟨t, ht, rfl⟩ := isTn rM w c
  obtain ⟨u, hu, rfl⟩ := vin_nat (b := 999) (by omega) c2
  have b := E_become (E := j_T J) rE w
  obtain ⟨k, g, q1, q2⟩ := M_thinks rM w
  rw [q1]
  generalize vX0_become (j_T J) (j_E J) = B at b ⊢
  have a := worthless_L h rE w ht hu 1024 0 B (m_m M) g b.2 rM q2 (by omega) (by omega)
  exact ⟨⟨b.1, a.1⟩, ⟨k, a.2.1⟩, a.2.2⟩
theorem P_owing (h : Rel J M) (p v : Int32) : OK (kX4_owing J p v) (kX5_owing M p v) (vX4_owing J p v) (vX5_owing M p v) := by
  unfold kX4_owing kX5_owing vX4_owing vX5_owing
  refine OK.kj (kT4 _ _) (OK.km (kT5 _ _) (OK_ite (by rw [isT h]) (fun _ => (tell0 h).t) (fun c => OK_ite Iff.rfl (fun _ => (tell0 h).t) (fun c2 => ?_))))
  rw [isT h] at c
  obtain ⟨x, rE, rM, w⟩ := id h.1
  obtain ⟨t, ht, rfl⟩ := isTn rM w c
  obtain ⟨u, hu, rfl⟩ := vin_nat (b := 999) (by omega) c2
  have b := E_become (E := j_T J) rE w
  obtain ⟨k, g, q1, q2⟩ := M_thinks rM w
  rw [q1]
  generalize vX0_become (j_T J) (j_E J) = B at b ⊢
  have a := owing_L h rE w ht hu 1024 0 B (m_m M) g b.2 rM q2 (by omega) (by omega)
  exact ⟨⟨b.1, a.1⟩, ⟨k, a.2.1⟩, a.2.2⟩
theorem P_forgiven (h : Rel J M) : OK (kX4_forgiven J) (kX5_forgiven M) (vX4_forgiven J) (vX5_forgiven M) := by
  unfold kX4_forgiven kX5_forgiven vX4_forgiven vX5_forgiven
  obtain ⟨x, rE, rM, w⟩ := id h.1
  have b := E_become (E := j_T J) rE w
  obtain ⟨k, g, q1, q2⟩ := M_thinks rM w
  rw [q1]
  generalize vX0_become (j_T J) (j_E J) = B at b ⊢
  have a := forgiven_L h rE w 1024 0 B (m_m M) g b.2 rM q2 (by omega) (by omega)
  exact ⟨⟨b.1, a.1⟩, ⟨k, a.2.1⟩, a.2.2⟩
end PD
