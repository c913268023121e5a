def sHome (x : AS) (i v : Nat) : AS := a_s_home x (fun j => if j = i then v else a_home x j)
def sList (x : AS) (i v : Nat) : AS := a_s_list x (fun j => if j = i then v else a_list x j)
def sSpot (x : AS) (i : Nat) (v : Int32) : AS := a_s_spots x (fun j => if j = i then v else a_spots x j)
section UP
variable {x : AS} {E : ES} {m : FA}
theorem RpE.home (r : RpE x E) {i v : Nat} : RpE (sHome x i v) (e_s_home E (upd (e_home E) i (nI v))) := by
  refine ⟨r.1, r.2.1, r.2.2.1, fun j hj => ?_, r.2.2.2.2.1, r.2.2.2.2.2.1, r.2.2.2.2.2.2⟩
  show upd (e_home E) i (nI v) j = nI (if j = i then v else a_home x j)
  by_cases e : j = i
  · rw [e, upd_s, if_pos rfl]
  · rw [upd_n e, if_neg e]; exact r.2.2.2.1 j hj
theorem RpE.list (r : RpE x E) {i v : Nat} : RpE (sList x i v) (e_s_list E (upd (e_list E) i (nI v))) := by
  refine ⟨r.1, r.2.1, r.2.2.1, r.2.2.2.1, fun j hj => ?_, r.2.2.2.2.2.1, r.2.2.2.2.2.2⟩
  show upd (e_list E) i (nI v) j = nI (if j = i then v else a_list x j)
  by_cases e : j = i
  · rw [e, upd_s, if_pos rfl]
  · rw [upd_n e, if_neg e]; exact r.2.2.2.2.1 j hj
theorem RpE.spot (r : RpE x E) {i : Nat} {v : Int32} : RpE (sSpot x i v) (e_s_spots E (upd (e_spots E) i v)) := by
  refine ⟨r.1, r.2.1, r.2.2.1, r.2.2.2.1, r.2.2.2.2.1, r.2.2.2.2.2.1, fun j hj => ?_⟩
  show upd (e_spots E) i v j = if j = i then v else a_spots x j
  by_cases e : j = i
  · rw [e, upd_s, if_pos rfl]
  · rw [upd_n e, if_neg e]; exact r.2.2.2.2.2.2 j hj
theorem RpM.home (r : RpM x m) {i v : Nat} (hi : i < 7) : RpM (sHome x i v) (upd m (3 + i) (nI v)) := by
  refine ⟨?_, ?_, ?_, fun j hj => ?_, fun j hj => ?_, fun t ht u hu => ?_, fun j hj => ?_⟩
  · rw [upd_n (by omega)]; exact r.1
  · rw [upd_n (by omega)]; exact r.2.1
  · rw [upd_n (by omega)]; exact r.2.2.1
  · show _ = nI (if j = i then v else a_home x j)
    by_cases e : j = i
    · rw [e, upd_s, if_pos rfl]
    · rw [upd_n (by omega), if_neg e]; exact r.2.2.2.1 j hj
  · rw [upd_n (by omega)]; exact r.2.2.2.2.1 j hj
  · rw [upd_n (by omega)]; exact r.2.2.2.2.2.1 t ht u hu
  · rw [upd_n (by omega)]; exact r.2.2.2.2.2.2 j hj
theorem RpM.list (r : RpM x m) {i v : Nat} (hi : i < 6) : RpM (sList x i v) (upd m (10 + i) (nI v)) := by
  refine ⟨?_, ?_, ?_, fun j hj => ?_, fun j hj => ?_, fun t ht u hu => ?_, fun j hj => ?_⟩
  · rw [upd_n (by omega)]; exact r.1
  · rw [upd_n (by omega)]; exact r.2.1
  · rw [upd_n (by omega)]; exact r.2.2.1
  · rw [upd_n (by omega)]; exact r.2.2.2.1 j hj
  · show _ = nI (if j = i then v else a_list x j)
    by_cases e : j = i
    · rw [e, upd_s, if_pos rfl]
    · rw [upd_n (by omega), if_neg e]; exact r.2.2.2.2.1 j hj
  · rw [upd_n (by omega)]; exact r.2.2.2.2.2.1 t ht u hu
  · rw [upd_n (by omega)]; exact r.2.2.2.2.2.2 j hj
theorem RpM.spot (r : RpM x m) (w : WF x) {i : Nat} {v : Int32} (hi : i < 10) : RpM (sSpot x i v) (upd m (72 + i) v) := by
  have h8 := w.1
  refine ⟨?_, ?_, ?_, fun j hj => ?_, fun j hj => ?_, fun t ht u hu => ?_, fun j hj => ?_⟩
  · rw [upd_n (by omega)]; exact r.1
  · rw [upd_n (by omega)]; exact r.2.1
  · rw [upd_n (by omega)]; exact r.2.2.1
  · rw [upd_n (by omega)]; exact r.2.2.2.1 j hj
  · rw [upd_n (by omega)]; exact r.2.2.2.2.1 j hj
  · have ht' : t < a_things x := ht
    rw [upd_n (by omega)]; exact r.2.2.2.2.2.1 t ht u hu
  · show _ = if j = i then v else a_spots x j
    by_cases e : j = i
    · rw [e, upd_s, if_pos rfl]
    · rw [upd_n (by omega), if_neg e]; exact r.2.2.2.2.2.2 j hj
theorem WF.home (w : WF x) {i v : Nat} (h : v ≤ hMost i) (h1 : i = 1 → 1 ≤ v) : WF (sHome x i v) := by
  refine ⟨w.1, w.2.1, fun j hj => ?_, ?_, w.2.2.2.2.1, w.2.2.2.2.2.1, w.2.2.2.2.2.2⟩
  · show (if j = i then v else a_home x j) ≤ _
    by_cases e : j = i
    · rw [if_pos e, e]; exact h
    · rw [if_neg e]; exact w.2.2.1 j hj
  · show 1 ≤ (if 1 = i then v else a_home x 1)
    by_cases e : 1 = i
    · rw [if_pos e]; exact h1 e.symm
    · rw [if_neg e]; exact w.2.2.2.1
theorem WF.list (w : WF x) {i v : Nat} (h : v < 80) : WF (sList x i v) := by
  refine ⟨w.1, w.2.1, w.2.2.1, w.2.2.2.1, fun j hj => ?_, w.2.2.2.2.2.1, w.2.2.2.2.2.2⟩
  show (if j = i then v else a_list x j) < 80
  by_cases e : j = i
  · rw [if_pos e]; exact h
  · rw [if_neg e]; exact w.2.2.2.2.1 j hj
theorem WF.spot (w : WF x) {i : Nat} {v : Int32} (h : v = -1 ∨ ∃ t, t < a_things x ∧ v = nI t) : WF (sSpot x i v) := by
  refine ⟨w.1, w.2.1, w.2.2.1, w.2.2.2.1, w.2.2.2.2.1, w.2.2.2.2.2.1, fun j hj => ?_⟩
  show (if j = i then v else a_spots x j) = -1 ∨ ∃ t, t < a_things x ∧ (if j = i then v else a_spots x j) = nI t
  by_cases e : j = i
  · simp only [if_pos e]; exact h
  · simp only [if_neg e]; exact w.2.2.2.2.2.2 j hj
end UP
theorem c2t : ((2 : Int32)).toNatClampNeg = 2 := rfl
section PB
variable {J : JS} {M : MS}
theorem isT (h : Rel J M) (p : Int32) : vX4_isThing J p = vX5_isThing M p := by
  obtain ⟨x, rE, rM, w⟩ := h.1
  unfold vX4_isThing vX5_isThing
  rw [vwi, rE.1, c2t, rM.1]
theorem isTn {x : AS} (rM : RpM x (m_m M)) (w : WF x) {p : Int32} (h : ¬ vX5_isThing M p = 0) : ∃ t, t < a_things x ∧ p = nI t := by
  have h8 := w.1
  unfold vX5_isThing at h
  rw [c2t, rM.1] at h
  exact vin_lt (by omega) h
theorem kT4 (J : JS) (p : Int32) : kX4_isThing J p := ⟨vin01 _ _ _, trivial⟩
theorem kT5 (M : MS) (p : Int32) : kX5_isThing M p := ⟨vin01 _ _ _, trivial⟩
theorem P_listed (h : Rel J M) (p : Int32) : OK (kX4_listed J p) (kX5_listed M p) (vX4_listed J p) (vX5_listed M p) := by
  unfold kX4_listed kX5_listed vX4_listed vX5_listed
  refine OK.kj ⟨vin01 _ _ _, trivial⟩ (OK.km ⟨vin01 _ _ _, trivial⟩ (OK_ite Iff.rfl (fun _ => (tell0 h).t) (fun c => ?_)))
  obtain ⟨k, hk, rfl⟩ := vin_nat (b := 5) (by omega) c
  obtain ⟨x, rE, rM, w⟩ := h.1
  refine ⟨⟨n_in (by omega) (by omega), trivial⟩, ?_, ?_, h⟩
  · rw [nz, nI_add]; exact ⟨n_in (by omega) (by omega), trivial⟩
  · show e_list (j_E J) (nI k).toNatClampNeg = m_m M ((10 : Int32) + nI k).toNatClampNeg
    rw [nz, nI_add, n_cl (by omega), n_cl (by omega), rE.2.2.2.2.1 k (by omega), rM.2.2.2.2.1 k (by omega)]
theorem P_blow (h : Rel J M) (p q v : Int32) : OK (kX4_blow J p q v) (kX5_blow M p q v) (vX4_blow J p q v) (vX5_blow M p q v) := by
  unfold kX4_blow kX5_blow vX4_blow vX5_blow
  refine OK.kj ⟨vin01 _ _ _, trivial⟩ (OK.km ⟨vin01 _ _ _, trivial⟩ (OK_ite Iff.rfl (fun _ => (tell0 h).t) (fun c => OK_ite Iff.rfl (fun _ => (tell0 h).t) (fun c2 => OK.kj ⟨vin01 _ _ _, trivial⟩ (OK_ite Iff.rfl (fun _ => (tell0 h).t) (fun c3 => ?_))))))
  obtain ⟨k, hk, rfl⟩ := vin_nat (b := 5) (by omega) c
  obtain ⟨t, ht, rfl⟩ := vin_nat (b := 7) (by omega) c2
  obtain ⟨f, hf, rfl⟩ := vin_nat (b := 9) (by omega) c3
  obtain ⟨x, rE, rM, w⟩ := h.1
  have ek : (10 : Int32) + nI k = nI (10 + k) := by rw [nz, nI_add]
  have ev : (10 : Int32) * nI t + nI f = nI (10 * t + f) := by rw [nz, pk_mul, nI_add]
  refine ⟨⟨n_in (by omega) (by omega), n_in (by omega) (by omega), trivial⟩, ⟨?_, trivial⟩, ?_, ?_, h.2⟩
  · unfold kX5_becomes; rw [ek]; exact ⟨n_in (by omega) (by omega), n_in (by omega) (by omega), trivial⟩
  · show e_list (j_E J) (nI k).toNatClampNeg = m_m M ((10 : Int32) + nI k).toNatClampNeg
    rw [ek, n_cl (by omega), n_cl (by omega), rE.2.2.2.2.1 k (by omega), rM.2.2.2.2.1 k (by omega)]
  · show RelE (e_s_list (j_E J) (upd (e_list (j_E J)) (nI k).toNatClampNeg ((10 : Int32) * nI t + nI f))) (upd (m_m M) ((10 : Int32) + nI k).toNatClampNeg ((10 : Int32) * nI t + nI f))
    rw [ek, ev, n_cl (by omega), n_cl (by omega)]
    exact ⟨sList x k (10 * t + f), rE.list, rM.list (by omega), w.list (by omega)⟩
theorem hold_ok (h : Rel J M) {k : Nat} {v : Int32} (hk : k ≤ 9) {x : AS} (rE : RpE x (j_E J)) (rM : RpM x (m_m M)) (w : WF x) (hv : v = -1 ∨ ∃ t, t < a_things x ∧ v = nI t) : OK (kX4_hold_c26 (nI k) v J) (kX5_hold_c30 (nI k) v M) (vX4_hold_c26 (nI k) v J) (vX5_hold_c30 (nI k) v M) := by
  have ek : (72 : Int32) + nI k = nI (72 + k) := by rw [nz, nI_add]
  refine ⟨⟨n_in (by omega) (by omega), trivial⟩, ?_, rfl, ?_, h.2⟩
  · unfold kX5_hold_c30; rw [ek]; exact ⟨n_in (by omega) (by omega), trivial⟩
  · show RelE (e_s_spots (j_E J) (upd (e_spots (j_E J)) (nI k).toNatClampNeg v)) (upd (m_m M) ((72 : Int32) + nI k).toNatClampNeg v)
    rw [ek, n_cl (by omega), n_cl (by omega)]
    exact ⟨sSpot x k v, rE.spot, rM.spot w (by omega), w.spot hv⟩
theorem P_hold (h : Rel J M) (p v : Int32) : OK (kX4_hold J p v) (kX5_hold M p v) (vX4_hold J p v) (vX5_hold M p v) := by
  unfold kX4_hold kX5_hold vX4_hold vX5_hold
  refine OK.kj ⟨vin01 _ _ _, trivial⟩ (OK_ite Iff.rfl (fun _ => (tell0 h).t) (fun c => ?_))
  obtain ⟨k, hk, rfl⟩ := vin_nat (b := 9) (by omega) c
  obtain ⟨x, rE, rM, w⟩ := id h.1
  refine OK_ite Iff.rfl (fun e => hold_ok h hk rE rM w (Or.inl e)) (fun _ => OK.kj (kT4 _ _) (OK.km (kT5 _ _) (OK_ite (by rw [isT h]) (fun _ => (tell0 h).t) (fun c2 => ?_))))
  rw [isT h] at c2
  exact hold_ok h hk rE rM w (Or.inr (isTn rM w c2))
theorem P_image (h : Rel J M) : OK (kX4_image J) (kX5_image M) (vX4_image J) (vX5_image M) := by
  obtain ⟨x, rE, rM, w⟩ := id h.1
  have b := E_become (E := j_K J) rE w
  have q := cpA (m_m M) (m_kept M)
  have rM2 := rM.same w q.2
  unfold kX4_image kX5_image vX4_image vX5_image vX4_image_c11 vX5_image_c11
  generalize vX0_become (j_K J) (j_E J) = B at b ⊢
  generalize vX5_copyAll (m_m M) (m_kept M) = g at rM2 ⊢
  exact ⟨⟨b.1, trivial⟩, ⟨q.1, trivial⟩, rfl, h.1, ⟨rfl, Or.inr ⟨rfl, x, b.2, rM2, w⟩⟩, h.2.2⟩
theorem P_undo (h : Rel J M) : OK (kX4_undo J) (kX5_undo M) (vX4_undo J) (vX5_undo M) := by
  unfold kX4_undo kX5_undo vX4_undo vX5_undo
  refine OK_ite (by rw [h.2.1.1]) (fun _ => (tell3 h).t) (fun c => ?_)
  rcases h.2.1.2 with e | ⟨e, x, rE, rM, w⟩
  · exact absurd e c
  have b := E_become (E := j_E J) rE w
  have q := cpA (m_kept M) (m_m M)
  have rM2 := rM.same w q.2
  unfold vX4_undo_c24 vX5_undo_c25
  generalize vX0_become (j_E J) (j_K J) = B at b ⊢
  generalize vX5_copyAll (m_kept M) (m_m M) = g at rM2 ⊢
  refine ⟨⟨b.1, trivial⟩, ⟨q.1, trivial⟩, ?_, ⟨x, b.2, rM2, w⟩, h.2⟩
  show e_day B = g 0
  rw [b.2.2.1, rM2.2.1]
theorem P_tear (h : Rel J M) : OK True True (vX4_tear J) (vX5_tear M) := by
  unfold vX4_tear vX5_tear vX4_tear_c12 vX5_tear_c12
  rw [← h.2.1.1]
  by_cases c : j_imageKept J = 0
  · rw [if_pos c, if_pos c]; exact ⟨trivial, trivial, rfl, h.1, ⟨rfl, Or.inl rfl⟩, h.2.2⟩
  · rw [if_neg c, if_neg c]; exact ⟨trivial, trivial, rfl, h.1, ⟨rfl, Or.inl rfl⟩, h.2.2⟩
theorem P_hurts (h : Rel J M) (p q : Int32) : OK (kX4_hurts J p q) (kX5_hurts M p q) (vX4_hurts J p q) (vX5_hurts M p q) := by
  unfold kX4_hurts kX5_hurts vX4_hurts vX5_hurts
  refine OK.kj (kT4 _ _) (OK.km (kT5 _ _) (OK_ite (by rw [isT h]) (fun _ => (tell0 h).t) (fun c => OK.kj ⟨vin01 _ _ _, trivial⟩ (OK_ite Iff.rfl (fun _ => (tell0 h).t) (fun c2 => ?_)))))
  rw [isT h] at c
  obtain ⟨x, rE, rM, w⟩ := id h.1
  obtain ⟨t, ht, rfl⟩ := isTn rM w c
  obtain ⟨f, hf, rfl⟩ := vin_nat (b := 9) (by omega) c2
  have a := E_hurt rE w ht hf
  exact ⟨⟨a.1, trivial⟩, ⟨M_hurtsk w ht, trivial⟩, by show vX0_hurt _ _ _ = vX5_hurtsBy _ _ _; rw [a.2, M_hurts rM w ht hf], h⟩
end PB
