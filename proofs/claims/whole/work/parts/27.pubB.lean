-- asking ahead with something changed
theorem jt (J : JS) (X : ES) : j_T (j_s_T J X) = X := rfl
theorem jtt (J : JS) (X Y : ES) : j_s_T (j_s_T J X) Y = j_s_T J Y := rfl
theorem jte (J : JS) (X : ES) : j_E (j_s_T J X) = j_E J := rfl
theorem RpM.put {x : AS} {m : FA} (r : RpM x m) (w : WF x) {t u v : Nat} (ht : t < a_things x) (hu : u < 7) : RpM (sPut x t u v) (upd m (16 + 7 * t + u) (nI v)) := by
  have h8 := w.1
  refine ⟨?_, ?_, ?_, fun i hi => ?_, fun i hi => ?_, fun t' ht' u' hu' => ?_, fun i hi => ?_⟩
  · rw [upd_n (by omega)]; exact r.1
  · rw [upd_n (by omega)]; exact r.2.1
  · rw [upd_n (by omega)]; exact r.2.2.1
  · rw [upd_n (by omega)]; exact r.2.2.2.1 i hi
  · rw [upd_n (by omega)]; exact r.2.2.2.2.1 i hi
  · show _ = nI (if t' = t ∧ u' = u then v else a_tr x t' u')
    by_cases e : t' = t ∧ u' = u
    · rw [if_pos e, e.1, e.2, upd_s]
    · rw [if_neg e, upd_n (by omega)]
      exact r.2.2.2.2.2.1 t' ht' u' hu'
  · have ht2 : t < 8 := by omega
    rw [upd_n (by omega)]; exact r.2.2.2.2.2.2 i hi
theorem sAwarded_le {x : AS} (w : WF x) : sAwarded x ≤ 9999 := Nat.le_trans (Nat.min_le_right _ _) w.h.1
theorem E_behind {y : AS} {X : ES} (J : JS) (r : RpE y X) (w : WF y) {d : Nat} (hd : d ≤ 1000) : kX4_awardedBehind (j_s_T J X) (nI d) ∧ ∃ C, vX4_awardedBehind (j_s_T J X) (nI d) = (nI (sAwarded (sDays y d)), j_s_T J C) ∧ RpE (sDays y d) C := by
  have a := E_passDays r w hd
  have b := E_awarded a.2 (w.days d)
  unfold kX4_awardedBehind vX4_awardedBehind kX4_awardedBehind_c8 vX4_awardedBehind_c8
  rw [jt, jtt, jt, b.2]
  exact ⟨⟨a.1, b.1, trivial⟩, _, rfl, a.2⟩
theorem M_on {x y : AS} (M : MS) {f g : FA} (ry : RpM y f) (wy : WF y) (r : RpM x g) (w : WF x) {d : Nat} (hd : d ≤ 1000) : kX5_awardedOn (m_s_m (m_s_was M g) f) (nI d) ∧ ∃ f', vX5_awardedOn (m_s_m (m_s_was M g) f) (nI d) = (nI (sAwarded (sDays y d)), m_s_m (m_s_was M g) f') ∧ RpM x f' := by
  obtain ⟨a1, a2, f', a3, a4⟩ := M_awardedOn (M := m_s_m (m_s_was M g) f) ry wy r w hd
  refine ⟨a1, f', ?_, a4⟩
  rw [← a2]
  rw [mm_ss] at a3
  rw [← a3]
section PK
variable {J : JS} {M : MS}
theorem jHM1 : jHM.getD ((1 : Int32)).toNatClampNeg 0 = (9 : Int32) := by decide
theorem jHM0 : jHM.getD ((0 : Int32)).toNatClampNeg 0 + (1 : Int32) = nI 10000 := by decide
theorem jHL1 : jHL.getD ((1 : Int32)).toNatClampNeg 0 = (1 : Int32) := by decide
theorem peopleFor_L (h : Rel J M) {x : AS} (rE : RpE x (j_E J)) (w : WF x) {g : FA} (rg : RpM x g) {d : Nat} (hd : d ≤ 60) : ∀ (n i : Nat) (T : ES) (f : FA) (bJ lJ bM lM : Int32), 1 ≤ i → RpM x f → i ≤ 10 → 10 < i + n → ((bM = bJ ∧ lM = lJ ∧ (∃ b, b < 100 ∧ bJ = nI b) ∧ ∃ l, l < 100000 ∧ lJ = nI l) ∨ (bM = -1 ∧ lJ = nI 10000 ∧ i ≤ 9)) → OK (kX4_peopleFor_c37 (nI d) n (j_s_T J T) bJ lJ (nI i)) (kX5_leastBy_c13 (nI 4) (nI 1) (nI 9) (nI d) n (m_s_m (m_s_was M g) f) bM lM (nI i)) (vX4_peopleFor_c37 (nI d) n (j_s_T J T) bJ lJ (nI i)) (vX5_leastBy_c13 (nI 4) (nI 1) (nI 9) (nI d) n (m_s_m (m_s_was M g) f) bM lM (nI i))
  | 0, i, T, f, bJ, lJ, bM, lM, hi1, rf, h1, h2, hS => by omega
  | n + 1, i, T, f, bJ, lJ, bM, lM, hi1, rf, h1, h2, hS => by
    unfold kX4_peopleFor_c37 kX5_leastBy_c13 vX4_peopleFor_c37 vX5_leastBy_c13
    rw [jHM1]
    by_cases c : 9 < i
    · have c1 : (9 : Int32) < nI i := by rw [nz, n_lt (by omega) (by omega)]; exact c
      have c2 : nI 9 < nI i := by rw [n_lt (by omega) (by omega)]; exact c
      rw [if_pos c1, if_pos c2]
      rcases hS with ⟨e1, -, -, -⟩ | ⟨-, -, g⟩
      · exact ⟨⟨fun _ => trivial, fun q => absurd c1 q⟩, ⟨fun _ => trivial, fun q => absurd c2 q⟩, e1.symm, RelThink h rE w rf⟩
      · exact absurd g (by omega)
    · have c1 : ¬ (9 : Int32) < nI i := by rw [nz, n_lt (by omega) (by omega)]; exact c
      have c2 : ¬ nI 9 < nI i := by rw [n_lt (by omega) (by omega)]; exact c
      have b := E_become (E := T) rE w
      have wy : WF (sHome x 1 i) := w.home (by show i ≤ 9; omega) (fun _ => hi1)
      unfold kX4_peopleFor_c58 vX4_peopleFor_c58 kX4_peopleFor_c69 vX4_peopleFor_c69 kX5_leastBy_c27 vX5_leastBy_c27
      rw [jte, jt, jtt, n_cl (by omega : 4 < 2147483648), mm_s, mm_ss]
      simp only [jt, jtt]
      generalize vX0_become T (j_E J) = B at b ⊢
      have ry : RpE (sHome x 1 i) (e_s_home B (upd (e_home B) 1 (nI i))) := b.2.home
      have e1t : ((1 : Int32)).toNatClampNeg = 1 := rfl
      rw [e1t]
      have rm : RpM (sHome x 1 i) (upd f (4) (nI i)) := rf.home (i := 1) (by omega)
      obtain ⟨kJ, C, vJ, rC⟩ := E_behind J ry wy (d := d) (by omega)
      obtain ⟨kM, f', vM, rf'⟩ := M_on M rm wy rg w (d := d) (by omega)
      have hA := sAwarded_le (wy.days d)
      rw [vJ, vM]
      generalize sAwarded (sDays (sHome x 1 i) d) = A at hA ⊢
      unfold kX4_peopleFor_c74 vX4_peopleFor_c74 kX4_peopleFor_c88 vX4_peopleFor_c88 kX5_leastBy_c33 vX5_leastBy_c33 kX5_leastBy_c47 vX5_leastBy_c47 kX5_leastBy_c52 vX5_leastBy_c52 kX5_leastBy_c66 vX5_leastBy_c66 kX5_leastBy_c80 vX5_leastBy_c80
      have ei : nI i + (1 : Int32) = nI (i + 1) := by rw [nz, nI_add]
      have hin : vp_in (nI (4)) 82 := n_in (by omega) (by omega)
      rw [ei]
      have zz : ¬ (1 : Int32) = 0 := by decide
      have z0 : (0 : Int32) = 0 := rfl
      refine OK_J (fun q => absurd q c1) (fun _ => OK_M (fun q => absurd q c2) (fun _ => OK.kj b.1 (OK.kj kJ (OK.km hin (OK.km kM ?_)))))
      have less : OK (kX4_peopleFor_c37 (nI d) n (j_s_T J C) (nI i) (nI A) (nI (i + 1))) (kX5_leastBy_c13 (nI 4) (nI 1) (nI 9) (nI d) n (m_s_m (m_s_was M g) f') (nI i) (nI A) (nI (i + 1))) (vX4_peopleFor_c37 (nI d) n (j_s_T J C) (nI i) (nI A) (nI (i + 1))) (vX5_leastBy_c13 (nI 4) (nI 1) (nI 9) (nI d) n (m_s_m (m_s_was M g) f') (nI i) (nI A) (nI (i + 1))) :=
        peopleFor_L h rE w rg hd n (i + 1) C f' _ _ _ _ (by omega) rf' (by omega) (by omega) (Or.inl ⟨rfl, rfl, ⟨i, by omega, rfl⟩, ⟨A, by omega, rfl⟩⟩)
      rcases hS with ⟨e1, e2, ⟨b', hb', e3⟩, ⟨l, hl, e4⟩⟩ | ⟨e1, e2, -⟩
      · subst e1 e2 e3 e4
        have nb : ¬ nI b' < (0 : Int32) := nI_pos (by omega)
        by_cases q : nI l ≤ nI A
        · exact OK_J (fun _ => OK_M (fun g => absurd g nb) (fun _ => OK_M (fun _ => OK_M (fun _ => OK_M (fun _ => peopleFor_L h rE w rg hd n (i + 1) C f' _ _ _ _ (by omega) rf' (by omega) (by omega) (Or.inl ⟨rfl, rfl, ⟨b', hb', rfl⟩, ⟨l, hl, rfl⟩⟩)) (fun g => absurd z0 g)) (fun g => absurd z0 g)) (fun g => absurd q g))) (fun g => absurd q g)
        · exact OK_J (fun g => absurd g q) (fun _ => OK_M (fun g => absurd g nb) (fun _ => OK_M (fun g => absurd g q) (fun _ => OK_M (fun g => absurd g zz) (fun _ => OK_M (fun g => absurd g zz) (fun _ => less)))))
      · subst e1 e2
        have nb : (-1 : Int32) < 0 := by decide
        have q : ¬ nI 10000 ≤ nI A := by rw [n_le (by omega) (by omega)]; omega
        exact OK_J (fun g => absurd g q) (fun _ => OK_M (fun _ => OK_M (fun g => absurd g zz) (fun _ => OK_M (fun g => absurd g zz) (fun _ => less))) (fun g => absurd nb g))
theorem kindFor_L (h : Rel J M) {x : AS} (rE : RpE x (j_E J)) (w : WF x) {g : FA} (rg : RpM x g) {d : Nat} (hd : d ≤ 60) {t : Nat} (ht : t < a_things x) : ∀ (n i : Nat) (T : ES) (f : FA) (bJ lJ bM lM : Int32), RpM x f → i ≤ 7 → 7 < i + n → ((bM = bJ ∧ lM = lJ ∧ (∃ b, b < 100 ∧ bJ = nI b) ∧ ∃ l, l < 100000 ∧ lJ = nI l) ∨ (bM = -1 ∧ lJ = nI 10000 ∧ i ≤ 6)) → OK (kX4_kindFor_c38 (nI t) (nI d) n (j_s_T J T) bJ lJ (nI i)) (kX5_leastBy_c13 (nI (16 + 7 * t + 0)) (nI 0) (nI 6) (nI d) n (m_s_m (m_s_was M g) f) bM lM (nI i)) (vX4_kindFor_c38 (nI t) (nI d) n (j_s_T J T) bJ lJ (nI i)) (vX5_leastBy_c13 (nI (16 + 7 * t + 0)) (nI 0) (nI 6) (nI d) n (m_s_m (m_s_was M g) f) bM lM (nI i))
  | 0, i, T, f, bJ, lJ, bM, lM, rf, h1, h2, hS => by omega
  | n + 1, i, T, f, bJ, lJ, bM, lM, rf, h1, h2, hS => by
    unfold kX4_kindFor_c38 kX5_leastBy_c13 vX4_kindFor_c38 vX5_leastBy_c13
    have h8 := w.1
    by_cases c : 6 < i
    · have c1 : (7 : Int32) ≤ nI i := by rw [nz, n_le (by omega) (by omega)]; exact c
      have c2 : nI 6 < nI i := by rw [n_lt (by omega) (by omega)]; exact c
      rw [if_pos c1, if_pos c2]
      rcases hS with ⟨e1, -, -, -⟩ | ⟨-, -, g⟩
      · exact ⟨⟨fun _ => trivial, fun q => absurd c1 q⟩, ⟨fun _ => trivial, fun q => absurd c2 q⟩, e1.symm, RelThink h rE w rf⟩
      · exact absurd g (by omega)
    · have c1 : ¬ (7 : Int32) ≤ nI i := by rw [nz, n_le (by omega) (by omega)]; exact c
      have c2 : ¬ nI 6 < nI i := by rw [n_lt (by omega) (by omega)]; exact c
      have b := E_become (E := T) rE w
      have wy : WF (sPut x t 0 i) := w.put (by show i ≤ 6; omega)
      unfold kX4_kindFor_c56 vX4_kindFor_c56 kX4_kindFor_c67 vX4_kindFor_c67 kX5_leastBy_c27 vX5_leastBy_c27
      rw [jte, jt, jtt, n_cl (by omega : (16 + 7 * t + 0) < 2147483648), mm_s, mm_ss]
      simp only [jt, jtt]
      generalize vX0_become T (j_E J) = B at b ⊢
      have ry : RpE (sPut x t 0 i) (vX0_put B (nI t) (0 : Int32) (nI i)) := E_put b.2 w ht (by decide : 0 < 7)
      have pk : kX0_put B (nI t) (0 : Int32) (nI i) := E_putk w ht (by decide : 0 < 7)
      have rm : RpM (sPut x t 0 i) (upd f ((16 + 7 * t + 0)) (nI i)) := rf.put w ht (by decide : 0 < 7)
      obtain ⟨kJ, C, vJ, rC⟩ := E_behind J ry wy (d := d) (by omega)
      obtain ⟨kM, f', vM, rf'⟩ := M_on M rm wy rg w (d := d) (by omega)
      have hA := sAwarded_le (wy.days d)
      rw [vJ, vM]
      generalize sAwarded (sDays (sPut x t 0 i) d) = A at hA ⊢
      unfold kX4_kindFor_c72 vX4_kindFor_c72 kX4_kindFor_c88 vX4_kindFor_c88 kX5_leastBy_c33 vX5_leastBy_c33 kX5_leastBy_c47 vX5_leastBy_c47 kX5_leastBy_c52 vX5_leastBy_c52 kX5_leastBy_c66 vX5_leastBy_c66 kX5_leastBy_c80 vX5_leastBy_c80
      have ei : nI i + (1 : Int32) = nI (i + 1) := by rw [nz, nI_add]
      have hin : vp_in (nI ((16 + 7 * t + 0))) 82 := n_in (by omega) (by omega)
      rw [ei]
      have zz : ¬ (1 : Int32) = 0 := by decide
      have z0 : (0 : Int32) = 0 := rfl
      refine OK_J (fun q => absurd q c1) (fun _ => OK_M (fun q => absurd q c2) (fun _ => OK.kj b.1 (OK.kj pk (OK.kj kJ (OK.km hin (OK.km kM ?_))))))
      have less : OK (kX4_kindFor_c38 (nI t) (nI d) n (j_s_T J C) (nI i) (nI A) (nI (i + 1))) (kX5_leastBy_c13 (nI (16 + 7 * t + 0)) (nI 0) (nI 6) (nI d) n (m_s_m (m_s_was M g) f') (nI i) (nI A) (nI (i + 1))) (vX4_kindFor_c38 (nI t) (nI d) n (j_s_T J C) (nI i) (nI A) (nI (i + 1))) (vX5_leastBy_c13 (nI (16 + 7 * t + 0)) (nI 0) (nI 6) (nI d) n (m_s_m (m_s_was M g) f') (nI i) (nI A) (nI (i + 1))) :=
        kindFor_L h rE w rg hd ht n (i + 1) C f' _ _ _ _ rf' (by omega) (by omega) (Or.inl ⟨rfl, rfl, ⟨i, by omega, rfl⟩, ⟨A, by omega, rfl⟩⟩)
      rcases hS with ⟨e1, e2, ⟨b', hb', e3⟩, ⟨l, hl, e4⟩⟩ | ⟨e1, e2, -⟩
      · subst e1 e2 e3 e4
        have nb : ¬ nI b' < (0 : Int32) := nI_pos (by omega)
        by_cases q : nI l ≤ nI A
        · exact OK_J (fun _ => OK_M (fun g => absurd g nb) (fun _ => OK_M (fun _ => OK_M (fun _ => OK_M (fun _ => kindFor_L h rE w rg hd ht n (i + 1) C f' _ _ _ _ rf' (by omega) (by omega) (Or.inl ⟨rfl, rfl, ⟨b', hb', rfl⟩, ⟨l, hl, rfl⟩⟩)) (fun g => absurd z0 g)) (fun g => absurd z0 g)) (fun g => absurd q g))) (fun g => absurd q g)
        · exact OK_J (fun g => absurd g q) (fun _ => OK_M (fun g => absurd g nb) (fun _ => OK_M (fun g => absurd g q) (fun _ => OK_M (fun g => absurd g zz) (fun _ => OK_M (fun g => absurd g zz) (fun _ => less)))))
      · subst e1 e2
        have nb : (-1 : Int32) < 0 := by decide
        have q : ¬ nI 10000 ≤ nI A := by rw [n_le (by omega) (by omega)]; omega
        exact OK_J (fun g => absurd g q) (fun _ => OK_M (fun _ => OK_M (fun g => absurd g zz) (fun _ => OK_M (fun g => absurd g zz) (fun _ => less))) (fun g => absurd nb g))
theorem jTself (J : JS) : j_s_T J (j_T J) = J := rfl
theorem P_peopleFor (h : Rel J M) (p : Int32) : OK (kX4_peopleFor J p) (kX5_peopleFor M p) (vX4_peopleFor J p) (vX5_peopleFor M p) := by
  unfold kX4_peopleFor kX5_peopleFor vX4_peopleFor vX5_peopleFor
  refine OK_ite Iff.rfl (fun _ => (tell0 h).t) (fun c => ?_)
  obtain ⟨d, hd, rfl⟩ := vin_nat (b := 60) (by omega) c
  obtain ⟨x, rE, rM, w⟩ := id h.1
  obtain ⟨k, g, q1, q2⟩ := M_thinks rM w
  unfold kX5_leastBy vX5_leastBy kX5_leastBy_c4 vX5_leastBy_c4
  rw [q1, jHM0, jHL1]
  have a := peopleFor_L h rE w q2 hd 1024 1 (j_T J) (m_m M) (nI 1) (nI 10000) (-1) 0 (by omega) rM (by omega) (by omega) (Or.inr ⟨rfl, rfl, by omega⟩)
  exact ⟨a.1, ⟨⟨k, a.2.1⟩, trivial⟩, a.2.2⟩
theorem P_kindFor (h : Rel J M) (p v : Int32) : OK (kX4_kindFor J p v) (kX5_kindFor M p v) (vX4_kindFor J p v) (vX5_kindFor M p v) := by
  unfold kX4_kindFor kX5_kindFor vX4_kindFor vX5_kindFor
  refine OK.kj (kT4 _ _) (OK.km (kT5 _ _) (OK_ite (by rw [isT h]) (fun _ => (tell0 h).t) (fun c => OK_ite Iff.rfl (fun _ => (tell0 h).t) (fun c2 => ?_))))
  rw [isT h] at c
  obtain ⟨x, rE, rM, w⟩ := id h.1
  obtain ⟨t, ht, rfl⟩ := isTn rM w c
  obtain ⟨d, hd, rfl⟩ := vin_nat (b := 60) (by omega) c2
  obtain ⟨k, g, q1, q2⟩ := M_thinks rM w
  unfold kX5_leastBy vX5_leastBy kX5_leastBy_c4 vX5_leastBy_c4
  have ea : (16 : Int32) + (7 : Int32) * nI t = nI (16 + 7 * t + 0) := by rw [nz, nz, pk_mul, nI_add]; rfl
  rw [q1, jHM0, ea]
  have a := kindFor_L h rE w q2 hd ht 1024 0 (j_T J) (m_m M) (nI 0) (nI 10000) (-1) 0 rM (by omega) (by omega) (Or.inr ⟨rfl, rfl, by omega⟩)
  exact ⟨a.1, ⟨⟨k, a.2.1⟩, trivial⟩, a.2.2⟩
theorem forceFor_L (h : Rel J M) {x : AS} (rE : RpE x (j_E J)) (w : WF x) {g : FA} (rg : RpM x g) {d i0 v q : Nat} (hd : d ≤ 60) (hi0 : i0 < 6) (hq : q < 8) (hv : v ≤ 9999) : ∀ (n i : Nat) (T : ES) (f : FA), RpM x f → i ≤ 10 → 10 < i + n → OK (kX4_forceFor_c51 (nI i0) (nI v) (nI d) n (j_s_T J T) (nI q) (nI i)) (kX5_forceFor_c62 (nI i0) (nI v) (nI d) n (m_s_m (m_s_was M g) f) (nI (q * 10)) (-1) (nI i)) (vX4_forceFor_c51 (nI i0) (nI v) (nI d) n (j_s_T J T) (nI q) (nI i)) (vX5_forceFor_c62 (nI i0) (nI v) (nI d) n (m_s_m (m_s_was M g) f) (nI (q * 10)) (-1) (nI i))
  | 0, i, T, f, rf, h1, h2 => by omega
  | n + 1, i, T, f, rf, h1, h2 => by
    unfold kX4_forceFor_c51 kX5_forceFor_c62 vX4_forceFor_c51 vX5_forceFor_c62
    have nn : ¬ (0 : Int32) ≤ -1 := by decide
    by_cases c : 10 ≤ i
    · have c1 : (10 : Int32) ≤ nI i := by rw [nz, n_le (by omega) (by omega)]; exact c
      refine OK_J (fun _ => OK_M (fun _ => ?_) (fun g => absurd c1 g)) (fun g => absurd c1 g)
      unfold kX5_forceFor_c111 vX5_forceFor_c111 kX5_orNone vX5_orNone
      have t := tell3 (RelThink (M := M) (T := T) (g := g) h rE w rf)
      rw [if_neg nn]
      exact ⟨⟨t.1, trivial⟩, ⟨⟨fun q => absurd q nn, fun _ => ⟨t.2.1, trivial⟩⟩, trivial⟩, t.2.2⟩
    · have c1 : ¬ (10 : Int32) ≤ nI i := by rw [nz, n_le (by omega) (by omega)]; exact c
      have b := E_become (E := T) rE w
      have wy : WF (sList x i0 (10 * q + i)) := w.list (by omega)
      unfold kX4_forceFor_c69 vX4_forceFor_c69 kX4_forceFor_c85 vX4_forceFor_c85 kX5_forceFor_c88 vX5_forceFor_c88
      have eb : vX4_blowOf (nI q) (nI i) = nI (10 * q + i) := by unfold vX4_blowOf; rw [nz, pk_mul, nI_add]
      have em : nI (q * 10) + nI i = nI (10 * q + i) := by rw [nI_add, Nat.mul_comm]
      have ea : (10 : Int32) + nI i0 = nI (10 + i0) := by rw [nz, nI_add]
      have ei : nI i + (1 : Int32) = nI (i + 1) := by rw [nz, nI_add]
      rw [jte, jt, jtt, eb, em, ea, n_cl (by omega : i0 < 2147483648), n_cl (by omega : 10 + i0 < 2147483648), mm_s, mm_ss]
      simp only [jt, jtt]
      generalize vX0_become T (j_E J) = B at b ⊢
      have ry : RpE (sList x i0 (10 * q + i)) (e_s_list B (upd (e_list B) i0 (nI (10 * q + i)))) := b.2.list
      have rm : RpM (sList x i0 (10 * q + i)) (upd f (10 + i0) (nI (10 * q + i))) := rf.list (by omega)
      obtain ⟨kJ, C, vJ, rC⟩ := E_behind J ry wy (d := d) (by omega)
      obtain ⟨kM, f', vM, rf'⟩ := M_on M rm wy rg w (d := d) (by omega)
      have hA := sAwarded_le (wy.days d)
      rw [vJ, vM]
      generalize sAwarded (sDays (sList x i0 (10 * q + i)) d) = A at hA ⊢
      unfold kX4_forceFor_c90 vX4_forceFor_c90 kX5_forceFor_c93 vX5_forceFor_c93 kX5_forceFor_c103 vX5_forceFor_c103
      have hin : vp_in (nI i0) 6 := n_in (by omega) (by omega)
      have hin2 : vp_in (nI (10 + i0)) 82 := n_in (by omega) (by omega)
      simp only [ei]
      refine OK_J (fun q => absurd q c1) (fun _ => OK_M (fun q => absurd q c1) (fun _ => OK_M (fun q => absurd q nn) (fun _ => OK.kj b.1 (OK.kj hin (OK.kj kJ (OK.km hin2 (OK.km kM ?_)))))))
      refine OK_ite Iff.rfl (fun _ => ?_) (fun _ => ?_)
      · exact forceFor_L h rE w rg hd hi0 hq hv n (i + 1) C f' rf' (by omega) (by omega)
      · obtain ⟨n', rfl⟩ : ∃ n', n = n' + 1 := ⟨n - 1, by omega⟩
        unfold kX5_forceFor_c62 vX5_forceFor_c62 kX5_forceFor_c111 vX5_forceFor_c111 kX5_orNone vX5_orNone
        have np : (0 : Int32) ≤ nI i := nI_pos' (by omega)
        have hR := RelThink (M := M) (T := C) (g := g) h rE w rf'
        rw [if_pos np]
        by_cases c3 : (10 : Int32) ≤ nI (i + 1)
        · rw [if_pos c3]
          exact ⟨trivial, ⟨fun _ => ⟨⟨fun _ => trivial, fun q => absurd np q⟩, trivial⟩, fun q => absurd c3 q⟩, rfl, hR⟩
        · rw [if_neg c3, if_pos np]
          exact ⟨trivial, ⟨fun q => absurd q c3, fun _ => ⟨fun _ => ⟨⟨fun _ => trivial, fun q => absurd np q⟩, trivial⟩, fun q => absurd np q⟩⟩, rfl, hR⟩
theorem P_forceFor (h : Rel J M) (p q v : Int32) : OK (kX4_forceFor J p q v) (kX5_forceFor M p q v) (vX4_forceFor J p q v) (vX5_forceFor M p q v) := by
  unfold kX4_forceFor kX5_forceFor vX4_forceFor vX5_forceFor
  refine OK.kj ⟨vin01 _ _ _, trivial⟩ (OK.km ⟨vin01 _ _ _, trivial⟩ (OK_ite Iff.rfl (fun _ => (tell0 h).t) (fun c => OK_ite Iff.rfl (fun _ => (tell0 h).t) (fun c2 => OK_ite Iff.rfl (fun _ => (tell0 h).t) (fun c3 => ?_)))))
  obtain ⟨i, hi, rfl⟩ := vin_nat (b := 5) (by omega) c
  obtain ⟨u, hu, rfl⟩ := vin_nat (b := 9999) (by omega) c2
  obtain ⟨d, hd, rfl⟩ := vin_nat (b := 60) (by omega) c3
  obtain ⟨x, rE, rM, w⟩ := id h.1
  obtain ⟨k, g, q1, q2⟩ := M_thinks rM w
  have hl := w.2.2.2.2.1 i (by omega)
  unfold kX5_forceFor_c39 vX5_forceFor_c39
  have ea : (10 : Int32) + nI i = nI (10 + i) := by rw [nz, nI_add]
  have e1 : e_list (j_E J) i = nI (a_list x i) := rE.2.2.2.2.1 i (by omega)
  have e2 : m_m (m_s_was M g) (10 + i) = nI (a_list x i) := rM.2.2.2.2.1 i (by omega)
  have e3 : vX4_thingOfBlow (nI (a_list x i)) = nI (a_list x i / 10) := n_div (d := 10) (by omega) (by omega) (by omega)
  have e4 : nI (a_list x i) / (10 : Int32) * (10 : Int32) = nI (a_list x i / 10 * 10) := by
    rw [nz, n_div (by omega) (by omega) (by omega), pk_mul]
  have hin : vp_in (nI i) 6 := n_in (by omega) (by omega)
  have hin2 : vp_in (nI (10 + i)) 82 := n_in (by omega) (by omega)
  rw [q1, ea, n_cl (by omega : i < 2147483648), n_cl (by omega : 10 + i < 2147483648), e1, e2, e3, e4]
  have a := forceFor_L h rE w q2 hd (show i < 6 by omega) (show a_list x i / 10 < 8 by omega) hu 1024 0 (j_T J) (m_m M) rM (by omega) (by omega)
  exact ⟨⟨hin, a.1⟩, ⟨k, hin2, a.2.1⟩, a.2.2⟩
end PK
