-- giveUp
def sGiven (k : Int32) (t : Nat) : Int32 := (k >>> (nI t &&& 31)) &&& (1 : Int32)
theorem sGiven01 (k : Int32) (t : Nat) : sGiven k t = 0 ∨ sGiven k t = 1 := by
  obtain ⟨j, hj, e⟩ := pk_andE (k >>> (nI t &&& 31)) (m := 1) 1 (by decide)
  unfold sGiven
  rw [e]
  have : j = 0 ∨ j = 1 := by omega
  rcases this with rfl | rfl
  · exact Or.inl rfl
  · exact Or.inr rfl
def sKeep (f : Nat → Nat) (k : Int32) : Nat → Nat
  | 0 => 0
  | t + 1 => if sGiven k t = 0 then sKeep f k t + f t else sKeep f k t
theorem sKeep_le {f : Nat → Nat} {c : Nat} (k : Int32) : ∀ {n : Nat}, (∀ t, t < n → f t ≤ c) → sKeep f k n ≤ n * c
  | 0, _ => by simp [sKeep]
  | n + 1, h => by
    have h1 := sKeep_le k (n := n) (fun t ht => h t (by omega))
    have h2 := h n (by omega)
    rw [sKeep, Nat.succ_mul]
    split <;> omega
theorem sKeep_sum {f g : Nat → Nat} (k : Int32) : ∀ n, (∀ t, t < n → g t = if sGiven k t = 0 then f t else 0) → sSum g n = sKeep f k n
  | 0, _ => rfl
  | n + 1, h => by
    have h1 := sKeep_sum (f := f) k n (fun t ht => h t (by omega))
    have h2 := h n (by omega)
    rw [sSum, sKeep, h1, h2]
    split <;> rfl
def bOk : Nat → Int32 → Bool
  | 0, r => decide (r = 0)
  | n + 1, r => decide (r = 0) || bOk n (r &&& (r - (1 : Int32)))
theorem bits_kL (p : Int32) : ∀ (n m : Nat) (a r : Int32), n < m → bOk n r = true → kX5_bits_c4 p m a r
  | n, 0, a, r, h1, h2 => by omega
  | 0, m + 1, a, r, h1, h2 => by
    unfold kX5_bits_c4
    have e : r = 0 := of_decide_eq_true h2
    exact ⟨fun _ => trivial, fun q => absurd e q⟩
  | n + 1, m + 1, a, r, h1, h2 => by
    unfold kX5_bits_c4
    refine ⟨fun _ => trivial, fun q => bits_kL p n m _ _ (by omega) ?_⟩
    have h3 : (decide (r = 0) || bOk n (r &&& (r - (1 : Int32)))) = true := h2
    rw [decide_eq_false q, Bool.false_or] at h3
    exact h3
theorem bits_all : ∀ k, k < 256 → bOk 8 (nI k) = true ∧ vX5_bits (nI k) = vJ6_bitCount_0f7a4 (nI k) := by decide +kernel
theorem bits_k {k : Nat} (h : k < 256) : kX5_bits (nI k) := bits_kL _ 8 1024 _ _ (by omega) (bits_all k h).1
theorem pow_th : ∀ th, th < 9 → (1 : Int32) <<< (nI th &&& 31) = nI (2 ^ th) ∧ 2 ^ th ≤ 256 := by decide +kernel
section PN
variable {J : JS} {M : MS}
theorem left_L {y : AS} (hT : RpE y (j_T J)) (wy : WF y) (hW : ∀ t, t < a_things y → j_awards J t = nI (sAward y t)) (k : Int32) : ∀ (n t : Nat), t ≤ a_things y → a_things y < t + n → kX4_leftWithout_c4 J k n (nI (sKeep (sAward y) k t)) (nI t) ∧ vX4_leftWithout_c4 J k n (nI (sKeep (sAward y) k t)) (nI t) = nI (a_home y 0) - nI (sAwardedOf y (sKeep (sAward y) k (a_things y)))
  | 0, t, h1, h2 => by omega
  | n + 1, t, h1, h2 => by
    have h8 := wy.1
    have e1 : e_things (j_T J) = nI (a_things y) := hT.1
    unfold kX4_leftWithout_c4 vX4_leftWithout_c4 kX4_leftWithout_c32 vX4_leftWithout_c32
    rw [e1]
    by_cases h : a_things y ≤ t
    · have e : t = a_things y := by omega
      subst e
      have c : nI (a_things y) ≤ nI (a_things y) := Int32.le_refl _
      have hs : sKeep (sAward y) k (a_things y) ≤ a_things y * 999 := sKeep_le k (fun u hu => sAward_le wy hu)
      have hs2 : a_things y * 999 ≤ 8 * 999 := Nat.mul_le_mul_right _ h8
      have eh : e_home (j_T J) ((0 : Int32)).toNatClampNeg = nI (a_home y 0) := hT.2.2.2.1 0 (by omega)
      rw [if_pos c, E_awardedOf hT wy (by omega), eh]
      exact ⟨⟨fun _ => trivial, fun q => absurd c q⟩, rfl⟩
    · have c : ¬ nI (a_things y) ≤ nI t := by rw [n_le (by omega) (by omega)]; exact h
      have ht : t < a_things y := by omega
      have ei : nI t + (1 : Int32) = nI (t + 1) := by rw [nz, nI_add]
      have ih := left_L hT wy hW k n (t + 1) (by omega) (by omega)
      have es : sKeep (sAward y) k (t + 1) = if sGiven k t = 0 then sKeep (sAward y) k t + sAward y t else sKeep (sAward y) k t := rfl
      have eg : (k >>> (nI t &&& 31)) &&& (1 : Int32) = sGiven k t := rfl
      have hin : vp_in (nI t) 8 := n_in (by omega) (by omega)
      rw [if_neg c, ei, eg, n_cl (by omega : t < 2147483648), hW t ht, nI_add]
      rw [es] at ih
      by_cases q : sGiven k t = 0
      · rw [if_pos q] at ih
        rw [if_pos q]
        exact ⟨⟨fun g => absurd g c, fun _ => ⟨fun _ => ⟨hin, ih.1⟩, fun g => absurd q g⟩⟩, ih.2⟩
      · rw [if_neg q] at ih
        rw [if_neg q]
        exact ⟨⟨fun g => absurd g c, fun _ => ⟨fun g => absurd g q, fun _ => ih.1⟩⟩, ih.2⟩
def sGiveC (x : AS) (k : Int32) (t : Nat) : Nat → Nat := fun t' => if t' < t ∧ sGiven k t' = 1 then 0 else a_tr x t' 6
theorem WF.claim {x : AS} (w : WF x) {c : Nat → Nat} (h : ∀ t, t < a_things x → c t ≤ 999) : WF (sClaim x c) := w.tr (fun t ht u hu => by
  by_cases e : u = 6
  · rw [if_pos e, e]; exact h t ht
  · rw [if_neg e]; exact w.2.2.2.2.2.1 t ht u hu)
theorem give_sum {x : AS} (w : WF x) (k : Int32) (n : Nat) : sAwarded (sDays (sClaim x (sGiveC x k (a_things x))) n) = sAwardedOf (sDays x n) (sKeep (sAward (sDays x n)) k (a_things (sDays x n))) := by
  rw [sClaim_days]
  show sAwardedOf (sDays x n) (sSum (sAward (sClaim (sDays x n) (sGiveC x k (a_things x)))) (a_things (sDays x n))) = _
  refine congrArg (sAwardedOf (sDays x n)) (sKeep_sum k _ (fun t ht => ?_))
  rw [sAward_claim]
  rw [sDays_things] at ht
  unfold sGiveC
  rcases sGiven01 k t with g | g
  · rw [g, if_neg (by simp), if_pos rfl, ← sDays_tr x t (u := 6) (by decide) (by decide) (by decide) n]
    rfl
  · rw [g, if_pos ⟨ht, rfl⟩, if_neg (by decide)]
    exact Nat.le_zero.mp (sAwardOf_le _ _ _ _)
theorem isLeft_L {x : AS} (w : WF x) {g : FA} (rg : RpM x g) (M : MS) (k v : Int32) {d : Nat} (hd : d ≤ 20) : ∀ (n t : Nat) (f : FA), RpM (sClaim x (sGiveC x k t)) f → t ≤ a_things x → a_things x < t + n → kX5_isLeft_c3 k v (nI d) n (m_s_m (m_s_was M g) f) (nI t) ∧ ∃ f', vX5_isLeft_c3 k v (nI d) n (m_s_m (m_s_was M g) f) (nI t) = (if nI (a_home x 0) - nI (sAwardedOf (sDays x d) (sKeep (sAward (sDays x d)) k (a_things (sDays x d)))) < v then 0 else 1, m_s_m (m_s_was M g) f') ∧ RpM x f'
  | 0, t, f, rf, h1, h2 => by omega
  | n + 1, t, f, rf, h1, h2 => by
    have h8 := w.1
    have hc : ∀ t', t' < a_things x → sGiveC x k t t' ≤ 999 := fun t' ht' => by
      unfold sGiveC
      have := w.t ht'
      split <;> omega
    have wc := w.claim hc
    have e1 : m_m (m_s_m (m_s_was M g) f) ((2 : Int32)).toNatClampNeg = nI (a_things x) := rf.1
    have e3 : m_m (m_s_m (m_s_was M g) f) ((3 : Int32)).toNatClampNeg = nI (a_home x 0) := rf.2.2.2.1 0 (by omega)
    unfold kX5_isLeft_c3 vX5_isLeft_c3
    rw [e1, e3]
    by_cases h : a_things x ≤ t
    · have e : t = a_things x := by omega
      subst e
      have c : nI (a_things x) ≤ nI (a_things x) := Int32.le_refl _
      obtain ⟨kM, f', vM, rf'⟩ := M_on M rf wc rg w (d := d) (by omega)
      rw [if_pos c, vM, give_sum w]
      unfold vX5_isLeft_c61
      refine ⟨⟨fun _ => ⟨kM, trivial⟩, fun q => absurd c q⟩, f', ?_, rf'⟩
      split <;> rfl
    · have c : ¬ nI (a_things x) ≤ nI t := by rw [n_le (by omega) (by omega)]; exact h
      have ht : t < a_things x := by omega
      have ht8 : t < 8 := by omega
      have ei : nI t + (1 : Int32) = nI (t + 1) := by rw [nz, nI_add]
      have eg : (k >>> (nI t &&& 31)) &&& (1 : Int32) = sGiven k t := rfl
      have ev : vX5_it (m_s_m (m_s_was M g) f) (nI t) (6 : Int32) = nI (a_tr x t 6) := by
        have e0 : vX5_it (m_s_m (m_s_was M g) f) (nI t) (6 : Int32) = nI (a_tr (sClaim x (sGiveC x k t)) t 6) := M_it (M := m_s_m (m_s_was M g) f) rf wc (t := t) ht (by decide : 6 < 7)
        rw [e0]
        show nI (sGiveC x k t t) = _
        unfold sGiveC
        rw [if_neg (by omega)]
      have ek : kX5_it (m_s_m (m_s_was M g) f) (nI t) (6 : Int32) := M_itk wc (t := t) ht (by decide : 6 < 7)
      have pk : ∀ u, kX5_put (m_s_m (m_s_was M g) f) (nI t) (6 : Int32) u := fun u => m_putk_ix _ _ ht8 (by decide : 6 < 7)
      have pv : ∀ u, vX5_put (m_s_m (m_s_was M g) f) (nI t) (6 : Int32) u = m_s_m (m_s_was M g) (upd f (16 + 7 * t + 6) u) := fun u => m_put_ix _ _ ht8 (by decide : 6 < 7)
      have step : ∀ u, u = sGiveC x k (t + 1) t → RpM (sClaim x (sGiveC x k (t + 1))) (upd f (16 + 7 * t + 6) (nI u)) := fun u hu => by
        have r0 : RpM (sPut (sClaim x (sGiveC x k t)) t 6 u) (upd f (16 + 7 * t + 6) (nI u)) := rf.put wc (t := t) ht (by decide : 6 < 7)
        refine r0.tr (f := fun t' u' => if u' = 6 then sGiveC x k (t + 1) t' else a_tr x t' u') (fun t' _ u' _ => ?_)
        show (if t' = t ∧ u' = 6 then u else if u' = 6 then sGiveC x k t t' else a_tr x t' u') = _
        by_cases e6 : u' = 6
        · by_cases et : t' = t
          · rw [if_pos ⟨et, e6⟩, if_pos e6, hu, et]
          · rw [if_neg (fun q => et q.1), if_pos e6, if_pos e6]
            unfold sGiveC
            by_cases lt : t' < t
            · by_cases g1 : sGiven k t' = 1
              · rw [if_pos ⟨lt, g1⟩, if_pos ⟨by omega, g1⟩]
              · rw [if_neg (fun q => g1 q.2), if_neg (fun q => g1 q.2)]
            · rw [if_neg (fun q => lt q.1), if_neg (fun q => lt (by omega))]
        · rw [if_neg (fun q => e6 q.2), if_neg e6, if_neg e6]
      rw [if_neg c, eg]
      unfold kX5_isLeft_c41 vX5_isLeft_c41 kX5_isLeft_c44 vX5_isLeft_c44
      rw [ei, ev, pv, pv]
      rcases sGiven01 k t with q | q
      · have n1 : ¬ sGiven k t = 1 := by rw [q]; decide
        obtain ⟨i1, f', i2, i3⟩ := isLeft_L w rg M k v hd n (t + 1) _ (step (a_tr x t 6) (by unfold sGiveC; rw [if_neg (fun g => n1 g.2)])) (by omega) (by omega)
        rw [if_neg n1]
        exact ⟨⟨fun g => absurd g c, fun _ => ⟨fun g => absurd g n1, fun _ => ⟨ek, pk _, i1⟩⟩⟩, f', i2, i3⟩
      · obtain ⟨i1, f', i2, i3⟩ := isLeft_L w rg M k v hd n (t + 1) _ (step 0 (by unfold sGiveC; rw [if_pos ⟨by omega, q⟩])) (by omega) (by omega)
        rw [if_pos q]
        exact ⟨⟨fun g => absurd g c, fun _ => ⟨fun _ => ⟨pk _, i1⟩, fun g => absurd q g⟩⟩, f', i2, i3⟩
theorem give0 (x : AS) (k : Int32) : sClaim x (sGiveC x k 0) = x := by
  show a_s_tr x (fun t u => if u = 6 then (if t < 0 ∧ sGiven k t = 1 then 0 else a_tr x t 6) else a_tr x t u) = a_s_tr x (a_tr x)
  refine congrArg (a_s_tr x) ?_
  funext t u
  by_cases e : u = 6
  · rw [if_pos e, if_neg (by omega), e]
  · rw [if_neg e]
theorem giveUp_L (h : Rel J M) {x : AS} (rE : RpE x (j_E J)) (w : WF x) {g : FA} (rg : RpM x g) {v d : Nat} (hd : d ≤ 20) (hT : RpE (sDays x d) (j_T J)) (hW : ∀ t, t < a_things (sDays x d) → j_awards J t = nI (sAward (sDays x d) t)) : ∀ (n i : Nat) (f : FA) (b : Int32), RpM x f → i ≤ 2 ^ a_things x → 2 ^ a_things x < i + n → (b = -1 ∨ ∃ b', b' < 256 ∧ b = nI b') → OK (kX4_giveUp_c84 (nI v) (nI d) n J b (nI i)) (kX5_giveUp_c37 (nI v) (nI d) n (m_s_m (m_s_was M g) f) b (nI i)) (vX4_giveUp_c84 (nI v) (nI d) n J b (nI i)) (vX5_giveUp_c37 (nI v) (nI d) n (m_s_m (m_s_was M g) f) b (nI i))
  | 0, i, f, b, rf, h1, h2, hb => by omega
  | n + 1, i, f, b, rf, h1, h2, hb => by
    have h8 := w.1
    obtain ⟨p1, p2⟩ := pow_th (a_things x) (by omega)
    have e1 : e_things (j_T J) = nI (a_things x) := by
      have := hT.1
      rw [sDays_things] at this
      exact this
    have e2 : m_m (m_s_m (m_s_was M g) f) ((2 : Int32)).toNatClampNeg = nI (a_things x) := rf.1
    have hR : ∀ f', RpM x f' → Rel J (m_s_m (m_s_was M g) f') := fun f' rf' => ⟨⟨x, rE, rf', w⟩, h.2⟩
    have ei : nI i + (1 : Int32) = nI (i + 1) := by rw [nz, nI_add]
    unfold kX4_giveUp_c84 kX5_giveUp_c37 vX4_giveUp_c84 vX5_giveUp_c37
    rw [e1, e2, p1]
    refine OK_ite Iff.rfl (fun _ => ?_) (fun c => ?_)
    · unfold kX5_orNone vX5_orNone
      rcases hb with rfl | ⟨b', hb', rfl⟩
      · have nn : ¬ (0 : Int32) ≤ -1 := by decide
        have t := tell3 (hR f rf)
        rw [if_pos rfl, if_neg nn]
        exact ⟨⟨fun _ => ⟨t.1, trivial⟩, fun q => absurd rfl q⟩, ⟨⟨fun q => absurd q nn, fun _ => ⟨t.2.1, trivial⟩⟩, trivial⟩, t.2.2⟩
      · have np : (0 : Int32) ≤ nI b' := nI_pos' (by omega)
        have n1 : ¬ nI b' = -1 := by intro e; rw [e] at np; exact absurd np (by decide)
        rw [if_neg n1, if_pos np]
        exact ⟨⟨fun q => absurd q n1, fun _ => trivial⟩, ⟨⟨fun _ => trivial, fun q => absurd np q⟩, trivial⟩, rfl, hR f rf⟩
    · have hi : i < 2 ^ a_things x := by
        rw [n_le (by omega) (by omega)] at c
        omega
      have wy := w.days d
      obtain ⟨lk, lv⟩ := left_L hT wy hW (nI i) 1024 0 (by omega) (by have := wy.1; omega)
      have lv' : vX4_leftWithout J (nI i) = nI (a_home x 0) - nI (sAwardedOf (sDays x d) (sKeep (sAward (sDays x d)) (nI i) (a_things (sDays x d)))) := by
        have e0 : vX4_leftWithout J (nI i) = _ := lv
        rw [e0, sDays_home]
      have lk' : kX4_leftWithout J (nI i) := lk
      obtain ⟨mk, f', mv, rf'⟩ := isLeft_L w rg M (nI i) (nI v) hd 1024 0 f (by rw [give0]; exact rf) (by omega) (by omega)
      have mv' : vX5_isLeft (m_s_m (m_s_was M g) f) (nI i) (nI v) (nI d) = _ := mv
      have mk' : kX5_isLeft (m_s_m (m_s_was M g) f) (nI i) (nI v) (nI d) := mk
      have keep : ∀ f2, RpM x f2 → OK (kX4_giveUp_c84 (nI v) (nI d) n J b (nI (i + 1))) (kX5_giveUp_c37 (nI v) (nI d) n (m_s_m (m_s_was M g) f2) b (nI (i + 1))) (vX4_giveUp_c84 (nI v) (nI d) n J b (nI (i + 1))) (vX5_giveUp_c37 (nI v) (nI d) n (m_s_m (m_s_was M g) f2) b (nI (i + 1))) := fun f2 r2 =>
        giveUp_L h rE w rg hd hT hW n (i + 1) f2 b r2 (by omega) (by omega) hb
      have take : OK (kX4_giveUp_c84 (nI v) (nI d) n J (nI i) (nI (i + 1))) (kX5_giveUp_c37 (nI v) (nI d) n (m_s_m (m_s_was M g) f') (nI i) (nI (i + 1))) (vX4_giveUp_c84 (nI v) (nI d) n J (nI i) (nI (i + 1))) (vX5_giveUp_c37 (nI v) (nI d) n (m_s_m (m_s_was M g) f') (nI i) (nI (i + 1))) :=
        giveUp_L h rE w rg hd hT hW n (i + 1) f' (nI i) rf' (by omega) (by omega) (Or.inr ⟨i, by omega, rfl⟩)
      have zz : ¬ (1 : Int32) = 0 := by decide
      have try1 : OK (kX4_giveUp_c115 (nI v) (nI d) (fun J x3 x4 => kX4_giveUp_c84 (nI v) (nI d) n J x3 x4) J b (nI i)) (kX5_giveUp_c66 (nI v) (nI d) (fun M x3 x4 => kX5_giveUp_c37 (nI v) (nI d) n M x3 x4) (m_s_m (m_s_was M g) f) b (nI i)) (vX4_giveUp_c115 (nI v) (nI d) (fun J x3 x4 => vX4_giveUp_c84 (nI v) (nI d) n J x3 x4) J b (nI i)) (vX5_giveUp_c66 (nI v) (nI d) (fun M x3 x4 => vX5_giveUp_c37 (nI v) (nI d) n M x3 x4) (m_s_m (m_s_was M g) f) b (nI i)) := by
        unfold kX4_giveUp_c115 kX5_giveUp_c66 vX4_giveUp_c115 vX5_giveUp_c66 kX4_giveUp_c120 vX4_giveUp_c120 kX4_giveUp_c140 vX4_giveUp_c140 kX5_giveUp_c71 vX5_giveUp_c71
        rw [ei, lv', mv']
        refine OK_J (fun q => absurd q zz) (fun _ => OK_M (fun q => absurd q zz) (fun _ => OK.kj lk' (OK.km mk' ?_)))
        unfold kX5_giveUp_c86 vX5_giveUp_c86 kX5_giveUp_c94 vX5_giveUp_c94 kX5_giveUp_c95 vX5_giveUp_c95
        rw [ei]
        generalize nI (a_home x 0) - nI (sAwardedOf (sDays x d) (sKeep (sAward (sDays x d)) (nI i) (a_things (sDays x d)))) = u
        by_cases q : u < nI v
        · rw [if_pos q]
          exact OK_J (fun _ => OK_M (fun _ => keep f' rf') (fun q => absurd rfl q)) (fun g => absurd q g)
        · rw [if_neg q]
          exact OK_J (fun g => absurd g q) (fun _ => OK_M (fun q => absurd q zz) (fun _ => take))
      have try0 : OK (kX4_giveUp_c120 (nI v) (nI d) (fun J x3 x4 => kX4_giveUp_c84 (nI v) (nI d) n J x3 x4) J b (nI i) 0) (kX5_giveUp_c71 (nI v) (nI d) (fun M x3 x4 => kX5_giveUp_c37 (nI v) (nI d) n M x3 x4) (m_s_m (m_s_was M g) f) b (nI i) 0) (vX4_giveUp_c120 (nI v) (nI d) (fun J x3 x4 => vX4_giveUp_c84 (nI v) (nI d) n J x3 x4) J b (nI i) 0) (vX5_giveUp_c71 (nI v) (nI d) (fun M x3 x4 => vX5_giveUp_c37 (nI v) (nI d) n M x3 x4) (m_s_m (m_s_was M g) f) b (nI i) 0) := by
        unfold kX4_giveUp_c120 vX4_giveUp_c120 kX4_giveUp_c140 vX4_giveUp_c140 kX5_giveUp_c71 vX5_giveUp_c71 kX5_giveUp_c94 vX5_giveUp_c94 kX5_giveUp_c95 vX5_giveUp_c95
        rw [ei]
        exact OK_J (fun _ => OK_M (fun _ => keep f rf) (fun q => absurd rfl q)) (fun q => absurd rfl q)
      rcases hb with rfl | ⟨b', hb', rfl⟩
      · have n0 : (-1 : Int32) < 0 := by decide
        exact OK_J (fun _ => OK_M (fun _ => try1) (fun q => absurd n0 q)) (fun q => absurd rfl q)
      · have np : ¬ nI b' < (0 : Int32) := nI_pos (by omega)
        have n1 : ¬ nI b' = -1 := by intro e; rw [e] at np; exact absurd (by decide) np
        have bi := bits_all i (by omega)
        have bb := bits_all b' hb'
        refine OK_J (fun q => absurd q n1) (fun _ => OK_M (fun q => absurd q np) (fun _ => OK.km (bits_k (by omega)) (OK.km (bits_k hb') ?_)))
        exact OK_ite (by rw [bi.2, bb.2]) (fun _ => try0) (fun _ => try1)
theorem awards_L {y : AS} (wy : WF y) (J : JS) {v d : Int32} {Q : Prop} {R : Int32 × JS → Prop} (hk : ∀ J', j_E J' = j_E J → j_T J' = j_T J → (∀ M, Rel J M → Rel J' M) → (∀ t, t < a_things y → j_awards J' t = nI (sAward y t)) → Q ∧ (kX4_giveUp_c84 v d 1024 J' (-1) 0) ∧ R (vX4_giveUp_c84 v d 1024 J' (-1) 0)) : ∀ (n t : Nat) (J' : JS), j_E J' = j_E J → j_T J' = j_T J → (∀ M, Rel J M → Rel J' M) → RpE y (j_T J') → (∀ i, i < t → j_awards J' i = nI (sAward y i)) → t ≤ a_things y → a_things y < t + n → Q ∧ kX4_giveUp_c48 v d n J' (nI t) ∧ R (vX4_giveUp_c48 v d n J' (nI t))
  | 0, t, J', g1, g2, g3, rT, hW, h1, h2 => by omega
  | n + 1, t, J', g1, g2, g3, rT, hW, h1, h2 => by
    have h8 := wy.1
    have e1 : e_things (j_T J') = nI (a_things y) := rT.1
    unfold kX4_giveUp_c48 vX4_giveUp_c48 kX4_giveUp_c73 vX4_giveUp_c73
    rw [e1]
    by_cases h : a_things y ≤ t
    · have e : t = a_things y := by omega
      subst e
      have c : nI (a_things y) ≤ nI (a_things y) := Int32.le_refl _
      rw [if_pos c]
      obtain ⟨a, b, d⟩ := hk J' g1 g2 g3 hW
      exact ⟨a, ⟨fun _ => b, fun q => absurd c q⟩, d⟩
    · have c : ¬ nI (a_things y) ≤ nI t := by rw [n_le (by omega) (by omega)]; exact h
      have ht : t < a_things y := by omega
      have ei : nI t + (1 : Int32) = nI (t + 1) := by rw [nz, nI_add]
      rw [if_neg c, E_award rT wy ht, n_cl (by omega : t < 2147483648), ei]
      obtain ⟨a, b, d⟩ := awards_L wy J hk n (t + 1) (j_s_awards J' (upd (j_awards J') t (nI (sAward y t)))) g1 g2 (fun M hM => g3 M hM) rT (fun i hi => by
        show upd (j_awards J') t (nI (sAward y t)) i = _
        by_cases e : i = t
        · rw [e, upd_s]
        · rw [upd_n e]; exact hW i (by omega)) (by omega) (by omega)
      exact ⟨a, ⟨fun q => absurd q c, fun _ => ⟨E_awardk rT wy ht, n_in (by omega) (by omega), b⟩⟩, d⟩
theorem P_giveUp (h : Rel J M) (p q : Int32) : OK (kX4_giveUp J p q) (kX5_giveUp M p q) (vX4_giveUp J p q) (vX5_giveUp M p q) := by
  unfold kX4_giveUp kX5_giveUp vX4_giveUp vX5_giveUp
  refine OK_ite Iff.rfl (fun _ => (tell0 h).t) (fun c => OK_ite Iff.rfl (fun _ => (tell0 h).t) (fun c2 => ?_))
  obtain ⟨v, hv, rfl⟩ := vin_nat (b := 9999) (by omega) c
  obtain ⟨d, hd, rfl⟩ := vin_nat (b := 20) (by omega) c2
  obtain ⟨x, rE, rM, w⟩ := id h.1
  have h8 := w.1
  have hp := (pow_th (a_things x) (by omega)).2
  have b := E_become (E := j_T J) rE w
  obtain ⟨k, g, q1, q2⟩ := M_thinks rM w
  unfold kX4_giveUp_c38 vX4_giveUp_c38 kX4_giveUp_c46 vX4_giveUp_c46 kX5_giveUp_c32 vX5_giveUp_c32
  rw [q1]
  simp only [jt, jtt]
  generalize vX0_become (j_T J) (j_E J) = B at b ⊢
  have a := E_passDays b.2 w (d := d) (by omega)
  generalize vX0_passDays B (nI d) = C at a ⊢
  have wy := w.days d
  obtain ⟨u1, u2, u3⟩ := awards_L (y := sDays x d) wy (j_s_T J C) (v := nI v) (d := nI d) (Q := kX5_giveUp_c37 (nI v) (nI d) 1024 (m_s_was M g) (-1) 0) (R := fun r => r.1 = (vX5_giveUp_c37 (nI v) (nI d) 1024 (m_s_was M g) (-1) 0).1 ∧ Rel r.2 (vX5_giveUp_c37 (nI v) (nI d) 1024 (m_s_was M g) (-1) 0).2) (fun J' g1 g2 g3 hW => by
    have rE' : RpE x (j_E J') := by rw [g1]; exact rE
    have hT' : RpE (sDays x d) (j_T J') := by rw [g2]; exact a.2
    have hR' : Rel J' M := g3 M h
    have o := giveUp_L hR' rE' w q2 (v := v) hd hT' hW 1024 0 (m_m M) (-1) rM (Nat.zero_le _) (by omega) (Or.inl rfl)
    exact ⟨o.2.1, o.1, o.2.2⟩) 1024 0 (j_s_T J C) rfl rfl (fun _ hM => hM) a.2 (fun i hi => absurd hi (Nat.not_lt_zero i)) (by omega) (by have := wy.1; omega)
  exact ⟨⟨b.1, a.1, u2⟩, ⟨k, u1⟩, u3⟩
end PN
-- odds
def OKL (kj km : Prop) (rj : Int64 × JS) (rm : Int64 × MS) : Prop := kj ∧ km ∧ rj.1 = rm.1 ∧ Rel rj.2 rm.2
theorem OKL_ite {c d k1 k2 l1 l2 : Prop} {_ : Decidable c} {_ : Decidable d} {a1 a2 : Int64 × JS} {b1 b2 : Int64 × MS} (e : c ↔ d) (h1 : c → OKL k1 l1 a1 b1) (h2 : ¬ c → OKL k2 l2 a2 b2) : OKL ((c → k1) ∧ (¬ c → k2)) ((d → l1) ∧ (¬ d → l2)) (if c then a1 else a2) (if d then b1 else b2) := by
  by_cases h : c
  · have hd := e.mp h
    rw [if_pos h, if_pos hd]
    have := h1 h
    exact ⟨⟨fun _ => this.1, fun q => absurd h q⟩, ⟨fun _ => this.2.1, fun q => absurd hd q⟩, this.2.2⟩
  · have hd : ¬ d := fun q => h (e.mpr q)
    rw [if_neg h, if_neg hd]
    have := h2 h
    exact ⟨⟨fun q => absurd q h, fun _ => this.1⟩, ⟨fun q => absurd q hd, fun _ => this.2.1⟩, this.2.2⟩
theorem OKL.kj {p k1 l1 : Prop} {a : Int64 × JS} {b : Int64 × MS} (hp : p) (h : OKL k1 l1 a b) : OKL (p ∧ k1) l1 a b := ⟨⟨hp, h.1⟩, h.2⟩
theorem OKL.km {p k1 l1 : Prop} {a : Int64 × JS} {b : Int64 × MS} (hp : p) (h : OKL k1 l1 a b) : OKL k1 (p ∧ l1) a b := ⟨h.1, ⟨hp, h.2.1⟩, h.2.2⟩
theorem OK.l {k1 l1 : Prop} {a : Int32 × JS} {b : Int32 × MS} (h : OK k1 l1 a b) : OKL (k1 ∧ True) (l1 ∧ True) (a.1.toInt64, a.2) (b.1.toInt64, b.2) := ⟨⟨h.1, trivial⟩, ⟨h.2.1, trivial⟩, congrArg Int32.toInt64 h.2.2.1, h.2.2.2⟩
def rdn : Nat → Int32 → Int32 → Int32 → Int32 × Int32
  | 0, a, b, _ => (a, b)
  | n + 1, a, b, y => if y ≤ (1 : Int32) then (a, b) else if jrem a y = 0 then (if jrem b y = 0 then rdn n (a / y) (b / y) (y + (-1 : Int32)) else rdn n a b (y + (-1 : Int32))) else rdn n a b (y + (-1 : Int32))
theorem cd_k (p q : Int32) : ∀ (n i : Nat) (a b : Int32), i ≤ 64 → 64 < i + n → kX4_commonDivisor_c7 p q n a b (nI i)
  | 0, i, a, b, h1, h2 => by omega
  | n + 1, i, a, b, h1, h2 => by
    unfold kX4_commonDivisor_c7
    refine ⟨fun _ => trivial, fun c => ⟨fun _ => trivial, fun c2 => ⟨c2, ?_⟩⟩⟩
    have ei : nI i + (1 : Int32) = nI (i + 1) := by rw [nz, nI_add]
    rw [nz, n_le (by omega) (by omega)] at c
    rw [ei]
    exact cd_k p q n (i + 1) _ _ (by omega) (by omega)
theorem rdn_all : ∀ a, a < 11 → rdn 1024 (nI a) 10 10 = (nI a / vX4_commonDivisor (nI a) 10, 10 / vX4_commonDivisor (nI a) 10) ∧ ¬ vX4_commonDivisor (nI a) 10 ≤ 0 ∧ ¬ vX4_commonDivisor (nI a) 10 = 0 := by decide +kernel
section PO
variable {J : JS} {M : MS}
theorem pow_L (p q u : Int32) (M : MS) {d : Nat} (hd : d ≤ 18) (x5 x6 base : Int32) (hb : base = if u = 0 then x5 else x6) : ∀ (n i : Nat) (a : Int64), i ≤ d → d < i + n → kX4_power_c5 base (nI d) n a (nI i) ∧ kX5_odds_c142 p q (nI d) u n M x5 x6 a (nI i) ∧ vX5_odds_c142 p q (nI d) u n M x5 x6 a (nI i) = (vX4_power_c5 base (nI d) n a (nI i), M)
  | 0, i, a, h1, h2 => by omega
  | n + 1, i, a, h1, h2 => by
    unfold kX4_power_c5 kX5_odds_c142 vX5_odds_c142 vX4_power_c5 kX5_odds_c164 vX5_odds_c164
    by_cases c : d ≤ i
    · have c1 : nI d ≤ nI i := by rw [n_le (by omega) (by omega)]; exact c
      rw [if_pos c1, if_pos c1]
      exact ⟨⟨fun _ => trivial, fun q => absurd c1 q⟩, ⟨fun _ => trivial, fun q => absurd c1 q⟩, rfl⟩
    · have c1 : ¬ nI d ≤ nI i := by rw [n_le (by omega) (by omega)]; exact c
      have ei : nI i + (1 : Int32) = nI (i + 1) := by rw [nz, nI_add]
      have ih := pow_L p q u M hd x5 x6 base hb n (i + 1) (a * base.toInt64) (by omega) (by omega)
      rw [if_neg c1, if_neg c1, ei]
      by_cases e : u = 0
      · rw [if_pos e] at hb
        rw [if_pos e]
        rw [hb] at ih ⊢
        exact ⟨⟨fun g => absurd g c1, fun _ => ih.1⟩, ⟨fun g => absurd g c1, fun _ => ⟨fun _ => ih.2.1, fun g => absurd e g⟩⟩, ih.2.2⟩
      · rw [if_neg e] at hb
        rw [if_neg e]
        rw [hb] at ih ⊢
        exact ⟨⟨fun g => absurd g c1, fun _ => ih.1⟩, ⟨fun g => absurd g c1, fun _ => ⟨fun g => absurd g e, fun _ => ih.2.1⟩⟩, ih.2.2⟩
theorem red_L (p q r u : Int32) (M : MS) (K : Int32 → Int32 → Prop) (hK : ∀ a b, K a b → kX5_odds_c142 p q r u 1024 M a b 1 0) : ∀ (n i : Nat) (a b : Int32), 1 ≤ i → i ≤ n → i ≤ 1000 → K (rdn n a b (nI i)).1 (rdn n a b (nI i)).2 → kX5_odds_c94 p q r u n M a b (nI i) ∧ vX5_odds_c94 p q r u n M a b (nI i) = vX5_odds_c142 p q r u 1024 M (rdn n a b (nI i)).1 (rdn n a b (nI i)).2 1 0
  | 0, i, a, b, h1, h2, h3, hk => by omega
  | n + 1, i, a, b, h1, h2, h3, hk => by
    unfold rdn at hk
    unfold kX5_odds_c94 vX5_odds_c94 kX5_odds_c130 vX5_odds_c130 rdn
    by_cases c : i ≤ 1
    · have c1 : nI i ≤ (1 : Int32) := by rw [nz, n_le (by omega) (by omega)]; exact c
      rw [if_pos c1] at hk
      rw [if_pos c1, if_pos c1]
      exact ⟨⟨fun _ => hK _ _ hk, fun g => absurd c1 g⟩, rfl⟩
    · have c1 : ¬ nI i ≤ (1 : Int32) := by rw [nz, n_le (by omega) (by omega)]; exact c
      have e0 : ¬ nI i = (0 : Int32) := nI_ne0 (by omega) (by omega)
      obtain ⟨i', rfl⟩ : ∃ i', i = i' + 1 := ⟨i - 1, by omega⟩
      have ei : nI (i' + 1) + (-1 : Int32) = nI i' := pk_m1 i'
      rw [if_neg c1, ei] at hk
      rw [if_neg c1, if_neg c1, ei]
      by_cases q1 : jrem a (nI (i' + 1)) = 0
      · rw [if_pos q1] at hk
        rw [if_pos q1, if_pos q1]
        by_cases q2 : jrem b (nI (i' + 1)) = 0
        · rw [if_pos q2] at hk
          rw [if_pos q2, if_pos q2]
          have ih := red_L p q r u M K hK n i' _ _ (by omega) (by omega) (by omega) hk
          exact ⟨⟨fun g => absurd g c1, fun _ => ⟨e0, fun _ => ⟨e0, fun _ => ⟨e0, e0, ih.1⟩, fun g => absurd q2 g⟩, fun g => absurd q1 g⟩⟩, ih.2⟩
        · rw [if_neg q2] at hk
          rw [if_neg q2, if_neg q2]
          have ih := red_L p q r u M K hK n i' _ _ (by omega) (by omega) (by omega) hk
          exact ⟨⟨fun g => absurd g c1, fun _ => ⟨e0, fun _ => ⟨e0, fun g => absurd g q2, fun _ => ih.1⟩, fun g => absurd q1 g⟩⟩, ih.2⟩
      · rw [if_neg q1] at hk
        rw [if_neg q1, if_neg q1]
        have ih := red_L p q r u M K hK n i' _ _ (by omega) (by omega) (by omega) hk
        exact ⟨⟨fun g => absurd g c1, fun _ => ⟨e0, fun g => absurd g q1, fun _ => ih.1⟩⟩, ih.2⟩
theorem odds_L (h : Rel J M) {x : AS} (rE : RpE x (j_E J)) (rM : RpM x (m_m M)) (w : WF x) {t v d : Nat} {u : Int32} (ht : t < a_things x) (hv : v ≤ 99) (hd : d ≤ 18) : ∀ (n i a : Nat), a ≤ i → i ≤ 10 → 10 < i + n → OKL (kX4_odds_c51 (nI t) (nI v) (nI d) u n J (nI a) (nI i)) (kX5_odds_c52 (nI t) (nI v) (nI d) u n M (nI a) (nI i)) (vX4_odds_c51 (nI t) (nI v) (nI d) u n J (nI a) (nI i)) (vX5_odds_c52 (nI t) (nI v) (nI d) u n M (nI a) (nI i))
  | 0, i, a, h0, h1, h2 => by omega
  | n + 1, i, a, h0, h1, h2 => by
    unfold kX4_odds_c51 kX5_odds_c52 vX4_odds_c51 vX5_odds_c52
    refine OKL_ite Iff.rfl (fun _ => ?_) (fun c => ?_)
    · obtain ⟨r1, r2, r3⟩ := rdn_all a (by omega)
      have ck : kX4_commonDivisor (nI a) (10 : Int32) := cd_k _ _ 1024 0 _ _ (by omega) (by omega)
      unfold kX4_odds_c102 vX4_odds_c102 kX4_odds_c119 vX4_odds_c119
      generalize vX4_commonDivisor (nI a) (10 : Int32) = cd at r1 r2 r3 ⊢
      have rd := red_L (nI t) (nI v) (nI d) u M (fun y z => ∃ base : Int32, base = if u = 0 then y else z) (fun y z hb => by
        obtain ⟨base, hb⟩ := hb
        exact (pow_L (nI t) (nI v) u M hd y z base hb 1024 0 1 (by omega) (by omega)).2.1) 1024 10 (nI a) 10 (by omega) (by omega) (by omega) ⟨_, rfl⟩
      have r1' : rdn 1024 (nI a) 10 (nI 10) = (nI a / cd, 10 / cd) := r1
      rw [r1'] at rd
      have rd1 : kX5_odds_c94 (nI t) (nI v) (nI d) u 1024 M (nI a) 10 10 := rd.1
      have rd2 : vX5_odds_c94 (nI t) (nI v) (nI d) u 1024 M (nI a) 10 10 = vX5_odds_c142 (nI t) (nI v) (nI d) u 1024 M (nI a / cd) (10 / cd) 1 0 := rd.2
      rw [rd2]
      by_cases e : u = 0
      · have pw := pow_L (nI t) (nI v) u M hd (nI a / cd) (10 / cd) (nI a / cd) (by rw [if_pos e]) 1024 0 1 (by omega) (by omega)
        have pw2 : vX5_odds_c142 (nI t) (nI v) (nI d) u 1024 M (nI a / cd) (10 / cd) 1 0 = (vX4_power (nI a / cd) (nI d), M) := pw.2.2
        have pw1 : kX4_power (nI a / cd) (nI d) := pw.1
        rw [pw2, if_pos e, if_neg r2]
        exact ⟨⟨ck, fun _ => ⟨fun g => absurd g r2, fun _ => ⟨r3, pw1, trivial⟩⟩, fun g => absurd e g⟩, rd1, rfl, h⟩
      · have pw := pow_L (nI t) (nI v) u M hd (nI a / cd) (10 / cd) (10 / cd) (by rw [if_neg e]) 1024 0 1 (by omega) (by omega)
        have pw2 : vX5_odds_c142 (nI t) (nI v) (nI d) u 1024 M (nI a / cd) (10 / cd) 1 0 = (vX4_power (10 / cd) (nI d), M) := pw.2.2
        have pw1 : kX4_power (10 / cd) (nI d) := pw.1
        rw [pw2, if_neg e, if_neg r2]
        exact ⟨⟨ck, fun g => absurd g e, fun _ => ⟨fun g => absurd g r2, fun _ => ⟨r3, pw1, trivial⟩⟩⟩, rd1, rfl, h⟩
    · rw [nz, n_le (by omega) (by omega)] at c
      have eh := E_hurt rE w ht (f := i) (by omega)
      have mh := M_hurts rM w ht (f := i) (by omega)
      have ei : nI i + (1 : Int32) = nI (i + 1) := by rw [nz, nI_add]
      have ea : nI a + (1 : Int32) = nI (a + 1) := by rw [nz, nI_add]
      unfold kX4_odds_c75 vX4_odds_c75 kX5_odds_c77 vX5_odds_c77
      rw [eh.2, mh, ei, ea, Int32.add_zero]
      exact OKL.kj eh.1 (OKL.km (M_hurtsk w ht) (OKL_ite Iff.rfl (fun _ => odds_L h rE rM w ht hv hd n (i + 1) a (by omega) (by omega) (by omega)) (fun _ => odds_L h rE rM w ht hv hd n (i + 1) (a + 1) (by omega) (by omega) (by omega))))
theorem P_odds (h : Rel J M) (p q r u : Int32) : OKL (kX4_odds J p q r u) (kX5_odds M p q r u) (vX4_odds J p q r u) (vX5_odds M p q r u) := by
  unfold kX4_odds kX5_odds vX4_odds vX5_odds
  refine OKL.kj (kT4 _ _) (OKL.km (kT5 _ _) (OKL_ite (by rw [isT h]) (fun _ => (tell0 h).l) (fun c => OKL_ite Iff.rfl (fun _ => (tell0 h).l) (fun c2 => OKL_ite Iff.rfl (fun _ => (tell0 h).l) (fun c3 => OKL_ite Iff.rfl (fun _ => (tell0 h).l) (fun c4 => ?_))))))
  rw [isT h] at c
  obtain ⟨x, rE, rM, w⟩ := id h.1
  obtain ⟨t, ht, rfl⟩ := isTn rM w c
  obtain ⟨v, hv, rfl⟩ := vin_nat (b := 99) (by omega) c2
  obtain ⟨d, hd, rfl⟩ := vin_nat (b := 18) (by omega) c3
  exact odds_L h rE rM w ht hv hd 1024 0 0 (by omega) (by omega) (by omega)
end PO
