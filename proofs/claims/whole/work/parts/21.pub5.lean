-- a new thing
def sAdd (x : AS) (k p : Nat) : AS := a_s_things (a_s_tr x (fun t u => if t = a_things x then (if u = 0 then k else if u = 1 then p else if u = 3 then 99 else if u = 4 then 99 else 0) else a_tr x t u)) (a_things x + 1)
theorem e_put_ix (F : ES) {n c : Nat} (v : Int32) (hn : n < 8) (hc : c < 7) : vX0_put F (nI n) (nI c) v = e_s_traits F (upd (e_traits F) (7 * n + c) v) := by
  unfold vX0_put
  rw [nz, pk_mul, nI_add, n_cl (by omega), Nat.mul_comm n]
theorem m_put_ix (M : MS) {n c : Nat} (v : Int32) (hn : n < 8) (hc : c < 7) : vX5_put M (nI n) (nI c) v = m_s_m M (upd (m_m M) (16 + 7 * n + c) v) := by
  unfold vX5_put
  simp only [nz, pk_mul, nI_add]
  rw [n_cl (by omega)]
theorem e_putk_ix (F : ES) {n c : Nat} (v : Int32) (hn : n < 8) (hc : c < 7) : kX0_put F (nI n) (nI c) v := by
  unfold kX0_put
  rw [nz, pk_mul, nI_add]
  exact ⟨n_in (by omega) (by omega), trivial⟩
theorem m_putk_ix (M : MS) {n c : Nat} (v : Int32) (hn : n < 8) (hc : c < 7) : kX5_put M (nI n) (nI c) v := by
  unfold kX5_put
  simp only [nz, pk_mul, nI_add]
  exact ⟨n_in (by omega) (by omega), trivial⟩
def u7 (f : FA) (b k p : Nat) : FA := upd (upd (upd (upd (upd (upd (upd f (b + 0) (nI k)) (b + 1) (nI p)) (b + 2) (nI 0)) (b + 3) (nI 99)) (b + 4) (nI 99)) (b + 5) (nI 0)) (b + 6) (nI 0)
theorem u7_out {f : FA} {b k p j : Nat} (h : j < b ∨ b + 7 ≤ j) : u7 f b k p j = f j := by
  unfold u7
  rw [upd_n (by omega), upd_n (by omega), upd_n (by omega), upd_n (by omega), upd_n (by omega), upd_n (by omega), upd_n (by omega)]
theorem u7_in {f : FA} {b k p u : Nat} (h : u < 7) : u7 f b k p (b + u) = nI (if u = 0 then k else if u = 1 then p else if u = 3 then 99 else if u = 4 then 99 else 0) := by
  have : u = 0 ∨ u = 1 ∨ u = 2 ∨ u = 3 ∨ u = 4 ∨ u = 5 ∨ u = 6 := by omega
  unfold u7
  rcases this with rfl | rfl | rfl | rfl | rfl | rfl | rfl
  · rw [upd_n (by omega), upd_n (by omega), upd_n (by omega), upd_n (by omega), upd_n (by omega), upd_n (by omega), upd_s]; rfl
  · rw [upd_n (by omega), upd_n (by omega), upd_n (by omega), upd_n (by omega), upd_n (by omega), upd_s]; rfl
  · rw [upd_n (by omega), upd_n (by omega), upd_n (by omega), upd_n (by omega), upd_s]; rfl
  · rw [upd_n (by omega), upd_n (by omega), upd_n (by omega), upd_s]; rfl
  · rw [upd_n (by omega), upd_n (by omega), upd_s]; rfl
  · rw [upd_n (by omega), upd_s]; rfl
  · rw [upd_s]; rfl
theorem WF.add {x : AS} (w : WF x) {k p : Nat} (h8 : a_things x < 8) (hk : k ≤ 6) (hp : p ≤ 999) : WF (sAdd x k p) := by
  refine ⟨by show a_things x + 1 ≤ 8; omega, w.2.1, w.2.2.1, w.2.2.2.1, w.2.2.2.2.1, fun t ht u hu => ?_, fun i hi => ?_⟩
  · have ht' : t < a_things x + 1 := ht
    show (if t = a_things x then (if u = 0 then k else if u = 1 then p else if u = 3 then 99 else if u = 4 then 99 else 0) else a_tr x t u) ≤ tMost u
    by_cases e : t = a_things x
    · rw [if_pos e]
      unfold tMost
      repeat' split
      all_goals omega
    · rw [if_neg e]; exact w.2.2.2.2.2.1 t (by omega) u hu
  · rcases w.2.2.2.2.2.2 i hi with e | ⟨t, ht, e⟩
    · exact Or.inl e
    · exact Or.inr ⟨t, by show t < a_things x + 1; omega, e⟩
theorem E_add {x : AS} {E : ES} (r : RpE x E) (h8 : a_things x < 8) {k p : Nat} : kX0_add E (nI k) (nI p) ∧ (vX0_add E (nI k) (nI p)).1 = nI (a_things x) ∧ RpE (sAdd x k p) (vX0_add E (nI k) (nI p)).2 := by
  unfold kX0_add vX0_add kX0_add_c26 vX0_add_c26 kX0_add_c33 vX0_add_c33 kX0_add_c40 vX0_add_c40 kX0_add_c47 vX0_add_c47 kX0_add_c55 vX0_add_c55 kX0_add_c63 vX0_add_c63 kX0_add_c70 vX0_add_c70
  rw [r.1]
  have c : nI (a_things x) < (8 : Int32) := by rw [nz, n_lt (by omega) (by omega)]; exact h8
  rw [if_pos c]
  simp only [nz, nI_add]
  refine ⟨⟨fun _ => ⟨e_putk_ix _ _ h8 (by decide), e_putk_ix _ _ h8 (by decide), e_putk_ix _ _ h8 (by decide), e_putk_ix _ _ h8 (by decide), e_putk_ix _ _ h8 (by decide), e_putk_ix _ _ h8 (by decide), e_putk_ix _ _ h8 (by decide), trivial⟩, fun q => absurd c q⟩, trivial, ?_⟩
  show RpE _ (vX0_put _ _ _ _)
  rw [e_put_ix _ _ h8 (by decide : 0 < 7), e_put_ix _ _ h8 (by decide : 1 < 7), e_put_ix _ _ h8 (by decide : 2 < 7), e_put_ix _ _ h8 (by decide : 3 < 7), e_put_ix _ _ h8 (by decide : 4 < 7), e_put_ix _ _ h8 (by decide : 5 < 7), e_put_ix _ _ h8 (by decide : 6 < 7)]
  refine ⟨rfl, r.2.1, r.2.2.1, r.2.2.2.1, r.2.2.2.2.1, fun t ht u hu => ?_, r.2.2.2.2.2.2⟩
  have ht' : t < a_things x + 1 := ht
  show u7 (e_traits E) (7 * a_things x) k p (7 * t + u) = nI (if t = a_things x then (if u = 0 then k else if u = 1 then p else if u = 3 then 99 else if u = 4 then 99 else 0) else a_tr x t u)
  by_cases e : t = a_things x
  · rw [if_pos e, e, u7_in hu]
  · rw [if_neg e, u7_out (by omega)]; exact r.2.2.2.2.2.1 t (by omega) u hu
theorem M_comes {x : AS} {M : MS} (r : RpM x (m_m M)) (h8 : a_things x < 8) {k p : Nat} : kX5_comes M (nI k) (nI p) ∧ ∃ f, vX5_comes M (nI k) (nI p) = (nI (a_things x), m_s_m M f) ∧ RpM (sAdd x k p) f := by
  unfold kX5_comes vX5_comes kX5_comes_c17 vX5_comes_c17 kX5_comes_c24 vX5_comes_c24 kX5_comes_c31 vX5_comes_c31 kX5_comes_c38 vX5_comes_c38 kX5_comes_c46 vX5_comes_c46 kX5_comes_c54 vX5_comes_c54 kX5_comes_c61 vX5_comes_c61
  rw [c2t, r.1]
  simp only [nz, nI_add]
  refine ⟨⟨m_putk_ix _ _ h8 (by decide), m_putk_ix _ _ h8 (by decide), m_putk_ix _ _ h8 (by decide), m_putk_ix _ _ h8 (by decide), m_putk_ix _ _ h8 (by decide), m_putk_ix _ _ h8 (by decide), m_putk_ix _ _ h8 (by decide), trivial⟩, ?_⟩
  rw [m_put_ix _ _ h8 (by decide : 0 < 7), m_put_ix _ _ h8 (by decide : 1 < 7), m_put_ix _ _ h8 (by decide : 2 < 7), m_put_ix _ _ h8 (by decide : 3 < 7), m_put_ix _ _ h8 (by decide : 4 < 7), m_put_ix _ _ h8 (by decide : 5 < 7), m_put_ix _ _ h8 (by decide : 6 < 7)]
  simp only [mm_s, mm_ss]
  refine ⟨_, rfl, ?_⟩
  show RpM (sAdd x k p) (u7 (upd (m_m M) 2 (nI (a_things x + 1))) (16 + 7 * a_things x) k p)
  refine ⟨?_, ?_, ?_, fun i hi => ?_, fun i hi => ?_, fun t ht u hu => ?_, fun i hi => ?_⟩
  · rw [u7_out (by omega), upd_s]; rfl
  · rw [u7_out (by omega), upd_n (by omega)]; exact r.2.1
  · rw [u7_out (by omega), upd_n (by omega)]; exact r.2.2.1
  · rw [u7_out (by omega), upd_n (by omega)]; exact r.2.2.2.1 i hi
  · rw [u7_out (by omega), upd_n (by omega)]; exact r.2.2.2.2.1 i hi
  · have ht' : t < a_things x + 1 := ht
    show _ = nI (if t = a_things x then (if u = 0 then k else if u = 1 then p else if u = 3 then 99 else if u = 4 then 99 else 0) else a_tr x t u)
    by_cases e : t = a_things x
    · rw [if_pos e, e, u7_in hu]
    · rw [if_neg e, u7_out (by omega), upd_n (by omega)]; exact r.2.2.2.2.2.1 t (by omega) u hu
  · rw [u7_out (by omega), upd_n (by omega)]; exact r.2.2.2.2.2.2 i hi
theorem P_thing {J : JS} {M : MS} (h : Rel J M) (p q : Int32) : OK (kX4_thing J p q) (kX5_thing M p q) (vX4_thing J p q) (vX5_thing M p q) := by
  unfold kX4_thing kX5_thing vX4_thing vX5_thing
  obtain ⟨x, rE, rM, w⟩ := id h.1
  have w8 := w.1
  refine OK.kj ⟨vin01 _ _ _, trivial⟩ (OK_ite Iff.rfl (fun _ => (tell0 h).t) (fun c => OK_ite Iff.rfl (fun _ => (tell0 h).t) (fun c2 => ?_)))
  obtain ⟨k, hk, rfl⟩ := vin_nat (b := 6) (by omega) c
  obtain ⟨y, hy, rfl⟩ := vin_nat (b := 999) (by omega) c2
  rw [c2t, rM.1, rE.1]
  by_cases e : a_things x < 8
  · have c3 : nI (a_things x) < (8 : Int32) := by rw [nz, n_lt (by omega) (by omega)]; exact e
    have c4 : ¬ nI (a_things x) = (8 : Int32) := by rw [nz, n_eq (by omega) (by omega)]; omega
    have a := E_add rE e (k := k) (p := y)
    obtain ⟨k5, f, q1, q2⟩ := M_comes rM e (k := k) (p := y)
    rw [if_pos c3, if_neg c4, q1]
    generalize vX0_add (j_E J) (nI k) (nI y) = B at a ⊢
    exact ⟨⟨fun _ => ⟨a.1, trivial⟩, fun q => absurd c3 q⟩, ⟨fun q => absurd q c4, fun _ => ⟨k5, trivial⟩⟩, a.2.1, ⟨sAdd x k y, a.2.2, q2, w.add e hk hy⟩, h.2⟩
  · have c3 : ¬ nI (a_things x) < (8 : Int32) := by rw [nz, n_lt (by omega) (by omega)]; exact e
    have c4 : nI (a_things x) = (8 : Int32) := by rw [nz, n_eq (by omega) (by omega)]; omega
    have t := tell1 h
    rw [if_neg c3, if_pos c4]
    exact ⟨⟨fun q => absurd q c3, fun _ => ⟨t.1, trivial⟩⟩, ⟨fun _ => ⟨t.2.1, trivial⟩, fun q => absurd c4 q⟩, t.2.2⟩
