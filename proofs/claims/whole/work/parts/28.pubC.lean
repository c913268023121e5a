-- claims and ages told otherwise: what days make of them
def sClaim (x : AS) (c : Nat → Nat) : AS := a_s_tr x (fun t u => if u = 6 then c t else a_tr x t u)
def sAges (x : AS) (c : Nat → Nat) : AS := a_s_tr x (fun t u => if u = 2 then c t else a_tr x t u)
theorem sClaim_at (x : AS) (c : Nat → Nat) (t : Nat) {u : Nat} (h : u ≠ 6) : a_tr (sClaim x c) t u = a_tr x t u := if_neg h
theorem sAges_at (x : AS) (c : Nat → Nat) (t : Nat) {u : Nat} (h : u ≠ 2) : a_tr (sAges x c) t u = a_tr x t u := if_neg h
theorem sClaim_strike (x : AS) (c : Nat → Nat) : sStrike (sClaim x c) = sClaim (sStrike x) c := by
  have key : ∀ (h v : Nat), sPut (sClaim x c) h 4 v = sClaim (sPut x h 4 v) c := fun h v => by
    show a_s_tr x (fun t u => if t = h ∧ u = 4 then v else if u = 6 then c t else a_tr x t u) = a_s_tr x (fun t u => if u = 6 then c t else if t = h ∧ u = 4 then v else a_tr x t u)
    refine congrArg (a_s_tr x) ?_
    funext t u
    by_cases e : u = 6
    · rw [if_neg (by omega), if_pos e]; simp [e]
    · rw [if_neg e, if_neg e]
  unfold sStrike
  show (if a_list x (a_day x % 6) / 10 < a_things x then sPut (sClaim x c) (a_list x (a_day x % 6) / 10) 4 (a_tr (sClaim x c) (a_list x (a_day x % 6) / 10) 4 - sHurt (a_tr (sClaim x c) (a_list x (a_day x % 6) / 10) 0) (a_list x (a_day x % 6) % 10) (a_home x 1)) else sClaim x c) = _
  rw [sClaim_at x c _ (by decide), sClaim_at x c _ (by decide)]
  unfold sHurtT
  by_cases e : a_list x (a_day x % 6) / 10 < a_things x
  · rw [if_pos e, if_pos e]; exact key _ _
  · rw [if_neg e, if_neg e]
theorem sAges_strike (x : AS) (c : Nat → Nat) : sStrike (sAges x c) = sAges (sStrike x) c := by
  have key : ∀ (h v : Nat), sPut (sAges x c) h 4 v = sAges (sPut x h 4 v) c := fun h v => by
    show a_s_tr x (fun t u => if t = h ∧ u = 4 then v else if u = 2 then c t else a_tr x t u) = a_s_tr x (fun t u => if u = 2 then c t else if t = h ∧ u = 4 then v else a_tr x t u)
    refine congrArg (a_s_tr x) ?_
    funext t u
    by_cases e : u = 2
    · rw [if_neg (by omega), if_pos e]; simp [e]
    · rw [if_neg e, if_neg e]
  unfold sStrike
  show (if a_list x (a_day x % 6) / 10 < a_things x then sPut (sAges x c) (a_list x (a_day x % 6) / 10) 4 (a_tr (sAges x c) (a_list x (a_day x % 6) / 10) 4 - sHurt (a_tr (sAges x c) (a_list x (a_day x % 6) / 10) 0) (a_list x (a_day x % 6) % 10) (a_home x 1)) else sAges x c) = _
  rw [sAges_at x c _ (by decide), sAges_at x c _ (by decide)]
  unfold sHurtT
  by_cases e : a_list x (a_day x % 6) / 10 < a_things x
  · rw [if_pos e, if_pos e]; exact key _ _
  · rw [if_neg e, if_neg e]
theorem sClaim_wear (x : AS) (c : Nat → Nat) (r i : Nat) : sWear (sClaim x c) r i = sClaim (sWear x r i) c := by
  show a_s_tr x (sWearF (sClaim x c) r i) = a_s_tr x (fun t u => if u = 6 then c t else sWearF x r i t u)
  refine congrArg (a_s_tr x) ?_
  funext t u
  unfold sWearF
  rw [sClaim_at x c t (by decide : 2 ≠ 6), sClaim_at x c t (by decide : 5 ≠ 6), sClaim_at x c t (by decide : 4 ≠ 6)]
  by_cases e : u = 6
  · subst e
    have e6 : a_tr (sClaim x c) t 6 = c t := rfl
    simp [e6]
  · rw [sClaim_at x c t e, if_neg e]
theorem sAges_wear (x : AS) (c : Nat → Nat) (r i : Nat) : sWear (sAges x c) r i = sAges (sWear x r i) (fun t => if t < i then min 9999 (c t + 1) else c t) := by
  show a_s_tr x (sWearF (sAges x c) r i) = a_s_tr x (fun t u => if u = 2 then (if t < i then min 9999 (c t + 1) else c t) else sWearF x r i t u)
  refine congrArg (a_s_tr x) ?_
  funext t u
  unfold sWearF
  rw [sAges_at x c t (by decide : 5 ≠ 2), sAges_at x c t (by decide : 4 ≠ 2)]
  have e6 : a_tr (sAges x c) t 2 = c t := rfl
  rw [e6]
  by_cases e : u = 2
  · subst e
    simp [e6]
  · rw [sAges_at x c t e, if_neg e, if_neg e, if_neg e]
theorem sClaim_day (x : AS) (c : Nat → Nat) : sDay (sClaim x c) = sClaim (sDay x) c := by
  show a_s_day (sWear (sStrike (sClaim x c)) (if a_day x % 10 = 9 then 1 else 0) (a_things x)) (min 99999 (a_day x + 1)) = _
  rw [sClaim_strike, sClaim_wear]
  rfl
theorem sAges_day (x : AS) (c : Nat → Nat) : sDay (sAges x c) = sAges (sDay x) (fun t => if t < a_things x then min 9999 (c t + 1) else c t) := by
  show a_s_day (sWear (sStrike (sAges x c)) (if a_day x % 10 = 9 then 1 else 0) (a_things x)) (min 99999 (a_day x + 1)) = _
  rw [sAges_strike, sAges_wear]
  rfl
theorem sClaim_days (x : AS) (c : Nat → Nat) : ∀ n, sDays (sClaim x c) n = sClaim (sDays x n) c
  | 0 => rfl
  | n + 1 => by
    show sDay (sDays (sClaim x c) n) = sClaim (sDay (sDays x n)) c
    rw [sClaim_days x c n, sClaim_day]
theorem sAges_days (x : AS) (c : Nat → Nat) : ∀ n, ∃ c', sDays (sAges x c) n = sAges (sDays x n) c' ∧ ∀ t, t < a_things x → c t + n ≤ 9999 → c' t = c t + n
  | 0 => ⟨c, rfl, fun _ _ _ => rfl⟩
  | n + 1 => by
    obtain ⟨c', h1, h2⟩ := sAges_days x c n
    refine ⟨fun t => if t < a_things (sDays x n) then min 9999 (c' t + 1) else c' t, ?_, fun t ht hc => ?_⟩
    · show sDay (sDays (sAges x c) n) = sAges (sDay (sDays x n)) _
      rw [h1, sAges_day]
    · show (if t < a_things (sDays x n) then min 9999 (c' t + 1) else c' t) = _
      rw [sDays_things, if_pos ht, h2 t ht (by omega)]
      omega
theorem sPut6 (x : AS) (t v : Nat) : sPut x t 6 v = sClaim x (fun t' => if t' = t then v else a_tr x t' 6) := by
  show a_s_tr x (fun t' u' => if t' = t ∧ u' = 6 then v else a_tr x t' u') = a_s_tr x (fun t' u' => if u' = 6 then (if t' = t then v else a_tr x t' 6) else a_tr x t' u')
  refine congrArg (a_s_tr x) ?_
  funext t' u'
  by_cases e : u' = 6
  · subst e; simp
  · rw [if_neg e, if_neg (fun h => e h.2)]
theorem sPut2 (x : AS) (t v : Nat) : sPut x t 2 v = sAges x (fun t' => if t' = t then v else a_tr x t' 2) := by
  show a_s_tr x (fun t' u' => if t' = t ∧ u' = 2 then v else a_tr x t' u') = a_s_tr x (fun t' u' => if u' = 2 then (if t' = t then v else a_tr x t' 2) else a_tr x t' u')
  refine congrArg (a_s_tr x) ?_
  funext t' u'
  by_cases e : u' = 2
  · subst e; simp
  · rw [if_neg e, if_neg (fun h => e h.2)]
theorem sAward_claim (x : AS) (c : Nat → Nat) (t : Nat) : sAward (sClaim x c) t = sAwardOf x (sWorthT x t) (sWorseT x t) (c t) := rfl
theorem sAward_ages (x : AS) (c : Nat → Nat) (t : Nat) : sAward (sAges x c) t = sAwardOf x (sWorth (a_tr x t 0) (a_tr x t 1) (c t)) (sWorseT x t) (a_tr x t 6) := rfl
theorem sAward_put6 (y : AS) (t v n : Nat) : sAward (sDays (sPut y t 6 v) n) t = sAwardOf (sDays y n) (sWorthT (sDays y n) t) (sWorseT (sDays y n) t) v := by
  rw [sPut6, sClaim_days, sAward_claim, if_pos rfl]
theorem sAwardOf_cap (x : AS) {a : Nat} (b v : Nat) (ha : a ≤ 999) : sAwardOf x a b v = min v (sAwardOf x a b 999) := by
  unfold sAwardOf
  split
  · omega
  · split <;> omega
section PL
variable {J : JS} {M : MS}
theorem claimM_L {x y : AS} (w : WF x) {g : FA} (rg : RpM x g) (wy : WF y) {t : Nat} (ht : t < a_things y) (M : MS) (p2 : Int32) : ∀ (n i c : Nat) (f : FA) (bst most : Int32), RpM (sPut y t 6 c) f → i ≤ 1000 → 1000 < i + n → ((i = 0 ∧ bst = 0 ∧ most = -1) ∨ (0 < i ∧ bst = nI (min (i - 1) (sAwardOf y (sWorthT y t) (sWorseT y t) 999)) ∧ most = nI (min (i - 1) (sAwardOf y (sWorthT y t) (sWorseT y t) 999)))) → kX5_claimFor_c42 (nI t) p2 n (m_s_m (m_s_was M g) f) bst most (nI i) ∧ ∃ f', vX5_claimFor_c42 (nI t) p2 n (m_s_m (m_s_was M g) f) bst most (nI i) = (nI (sAwardOf y (sWorthT y t) (sWorseT y t) 999), m_s_m (m_s_was M g) f') ∧ RpM x f'
  | 0, i, c, f, bst, most, rf, h1, h2, hS => by omega
  | n + 1, i, c, f, bst, most, rf, h1, h2, hS => by
    have h8 := wy.1
    have hA : sAwardOf y (sWorthT y t) (sWorseT y t) 999 ≤ 999 := sAwardOf_le _ _ _ _
    unfold kX5_claimFor_c42 vX5_claimFor_c42
    by_cases q : 999 < i
    · have c1 : (999 : Int32) < nI i := by rw [nz, n_lt (by omega) (by omega)]; exact q
      obtain ⟨k, f', e1, e2⟩ := M_putsBack (M := m_s_m (m_s_was M g) f) rg w
      rw [if_pos c1, e1, mm_ss]
      refine ⟨⟨fun _ => ⟨k, trivial⟩, fun q => absurd c1 q⟩, f', ?_, e2⟩
      rcases hS with ⟨e, -, -⟩ | ⟨-, e, -⟩
      · omega
      · rw [e, show min (i - 1) (sAwardOf y (sWorthT y t) (sWorseT y t) 999) = sAwardOf y (sWorthT y t) (sWorseT y t) 999 by omega]
    · have c1 : ¬ (999 : Int32) < nI i := by rw [nz, n_lt (by omega) (by omega)]; exact q
      have ht8 : t < 8 := by omega
      have pk : kX5_put (m_s_m (m_s_was M g) f) (nI t) (6 : Int32) (nI i) := m_putk_ix _ _ ht8 (by decide : 6 < 7)
      have pv : vX5_put (m_s_m (m_s_was M g) f) (nI t) (6 : Int32) (nI i) = m_s_m (m_s_was M g) (upd f (16 + 7 * t + 6) (nI i)) := m_put_ix _ _ ht8 (by decide : 6 < 7)
      have w0 : WF (sPut y t 6 i) := wy.put (by show i ≤ 999; omega)
      have r0 : RpM (sPut (sPut y t 6 c) t 6 i) (upd f (16 + 7 * t + 6) (nI i)) := by
        have h8' := wy.1
        refine ⟨?_, ?_, ?_, fun j hj => ?_, fun j hj => ?_, fun t' ht' u' hu' => ?_, fun j hj => ?_⟩
        · rw [upd_n (by omega)]; exact rf.1
        · rw [upd_n (by omega)]; exact rf.2.1
        · rw [upd_n (by omega)]; exact rf.2.2.1
        · rw [upd_n (by omega)]; exact rf.2.2.2.1 j hj
        · rw [upd_n (by omega)]; exact rf.2.2.2.2.1 j hj
        · show _ = nI (if t' = t ∧ u' = 6 then i else a_tr (sPut y t 6 c) t' u')
          by_cases e : t' = t ∧ u' = 6
          · rw [if_pos e, e.1, e.2, upd_s]
          · rw [if_neg e, upd_n (by omega)]
            exact rf.2.2.2.2.2.1 t' ht' u' hu'
        · rw [upd_n (by omega)]; exact rf.2.2.2.2.2.2 j hj
      have r1 : RpM (sPut y t 6 i) (upd f (16 + 7 * t + 6) (nI i)) := r0.tr (f := fun t' u' => if t' = t ∧ u' = 6 then i else a_tr y t' u') (fun t' _ u' _ => by
        show (if t' = t ∧ u' = 6 then i else if t' = t ∧ u' = 6 then c else a_tr y t' u') = _
        by_cases e : t' = t ∧ u' = 6
        · rw [if_pos e, if_pos e]
        · rw [if_neg e, if_neg e, if_neg e])
      have aw := M_award (M := m_s_m (m_s_was M g) (upd f (16 + 7 * t + 6) (nI i))) r1 w0 ht
      have ak := M_awardk (M := m_s_m (m_s_was M g) (upd f (16 + 7 * t + 6) (nI i))) r1 w0 ht
      have ea : sAward (sPut y t 6 i) t = min i (sAwardOf y (sWorthT y t) (sWorseT y t) 999) := by
        have e0 := sAward_put6 y t i 0
        have e1 : sAward (sPut y t 6 i) t = sAwardOf y (sWorthT y t) (sWorseT y t) i := e0
        rw [e1]
        exact sAwardOf_cap y _ _ (sWorth_le (by have := wy.t ht; omega))
      rw [ea] at aw
      have ei : nI i + (1 : Int32) = nI (i + 1) := by rw [nz, nI_add]
      unfold kX5_claimFor_c59 vX5_claimFor_c59 kX5_claimFor_c79 vX5_claimFor_c79 kX5_claimFor_c94 vX5_claimFor_c94
      rw [if_neg c1, pv, aw, ei]
      have key : ∀ b' : Nat, b' = min i (sAwardOf y (sWorthT y t) (sWorseT y t) 999) → kX5_claimFor_c42 (nI t) p2 n (m_s_m (m_s_was M g) (upd f (16 + 7 * t + 6) (nI i))) (nI b') (nI b') (nI (i + 1)) ∧ ∃ f', vX5_claimFor_c42 (nI t) p2 n (m_s_m (m_s_was M g) (upd f (16 + 7 * t + 6) (nI i))) (nI b') (nI b') (nI (i + 1)) = (nI (sAwardOf y (sWorthT y t) (sWorseT y t) 999), m_s_m (m_s_was M g) f') ∧ RpM x f' := fun b' hb' =>
        claimM_L w rg wy ht M p2 n (i + 1) i _ _ _ r1 (by omega) (by omega) (Or.inr ⟨by omega, by rw [hb']; rfl, by rw [hb']; rfl⟩)
      generalize sAwardOf y (sWorthT y t) (sWorseT y t) 999 = A at *
      by_cases le : nI (min i A) ≤ most
      · rcases hS with ⟨e, eb, em⟩ | ⟨hi, eb, em⟩
        · exfalso
          rw [e, em] at le
          exact absurd le (by rw [show min 0 A = 0 by omega]; decide)
        · rw [em, n_le (by omega) (by omega)] at le
          have kk := key (min (i - 1) A) (by omega)
          rw [eb, em, if_pos (by rw [n_le (by omega) (by omega)]; omega), if_pos (by rw [n_le (by omega) (by omega)]; omega)]
          have lq : nI (min i A) ≤ nI (min (i - 1) A) := by rw [n_le (by omega) (by omega)]; omega
          exact ⟨⟨fun g => absurd g c1, fun _ => ⟨pk, ak, fun _ => ⟨fun _ => kk.1, fun g => absurd lq g⟩, fun g => absurd lq g⟩⟩, kk.2⟩
      · have hlt : min i A = i := by
          rcases hS with ⟨e, eb, em⟩ | ⟨hi, eb, em⟩
          · omega
          · rw [em, n_le (by omega) (by omega)] at le
            omega
        have kk := key i (by omega)
        rw [hlt] at le ⊢
        rw [if_neg le, if_neg le]
        exact ⟨⟨fun g => absurd g c1, fun _ => ⟨pk, ak, fun g => absurd g le, fun _ => ⟨fun g => absurd g le, fun _ => kk.1⟩⟩⟩, kk.2⟩
theorem P_claimFor (h : Rel J M) (p v : Int32) : OK (kX4_claimFor J p v) (kX5_claimFor M p v) (vX4_claimFor J p v) (vX5_claimFor M p v) := by
  unfold kX4_claimFor kX5_claimFor vX4_claimFor vX5_claimFor
  refine OK.kj (kT4 _ _) (OK.km (kT5 _ _) (OK_ite (by rw [isT h]) (fun _ => (tell0 h).t) (fun c => OK_ite Iff.rfl (fun _ => (tell0 h).t) (fun c2 => ?_))))
  rw [isT h] at c
  obtain ⟨x, rE, rM, w⟩ := id h.1
  obtain ⟨t, ht, rfl⟩ := isTn rM w c
  obtain ⟨n, hn, rfl⟩ := vin_nat (b := 60) (by omega) c2
  have b := E_become (E := j_T J) rE w
  obtain ⟨k, g, q1, q2⟩ := M_thinks rM w
  have h8 := w.1
  unfold kX4_claimFor_c35 vX4_claimFor_c35 kX4_claimFor_c51 vX4_claimFor_c51 kX4_claimFor_c59 vX4_claimFor_c59 kX5_claimFor_c29 vX5_claimFor_c29 kX5_claimFor_c34 vX5_claimFor_c34
  rw [q1, jTM6]
  simp only [jt, jtt]
  generalize vX0_become (j_T J) (j_E J) = B at b ⊢
  have w1 : WF (sPut x t 6 999) := w.put (by show 999 ≤ 999; omega)
  have rB : RpE (sPut x t 6 999) (vX0_put B (nI t) (6 : Int32) (999 : Int32)) := E_put (v := 999) b.2 w ht (by decide : 6 < 7)
  have kB : kX0_put B (nI t) (6 : Int32) (999 : Int32) := E_putk w ht (by decide : 6 < 7)
  have a := E_passDays rB w1 (d := n) (by omega)
  have ht' : t < a_things (sDays (sPut x t 6 999) n) := by rw [sDays_things]; exact ht
  have a2 := E_award a.2 (w1.days n) ht'
  have a3 := E_awardk a.2 (w1.days n) ht'
  rw [sAward_put6] at a2
  obtain ⟨kg, f, q3, q4⟩ := M_goesFor (M := m_s_was M g) rM w (d := n) (by omega)
  have wy := w.days n
  have r0 : RpM (sPut (sDays x n) t 6 (a_tr (sDays x n) t 6)) f := q4.tr (f := fun t' u' => if t' = t ∧ u' = 6 then a_tr (sDays x n) t 6 else a_tr (sDays x n) t' u') (fun t' _ u' _ => by
    by_cases e : t' = t ∧ u' = 6
    · rw [if_pos e, e.1, e.2]
    · rw [if_neg e])
  obtain ⟨m1, f', m2, m3⟩ := claimM_L w q2 wy (t := t) (by rw [sDays_things]; exact ht) M (nI n) 1024 0 _ f 0 (-1) r0 (by omega) (by omega) (Or.inl ⟨rfl, rfl, rfl⟩)
  have m2' : vX5_claimFor_c42 (nI t) (nI n) 1024 (m_s_m (m_s_was M g) f) 0 (-1) 0 = _ := m2
  rw [q3, m2', a2]
  exact ⟨⟨b.1, kB, a.1, a3, trivial⟩, ⟨k, kg, m1⟩, rfl, RelThink h rE w m3⟩
end PL
