section SM
variable {x : AS} {M : MS}
theorem M_h (r : RpM x (m_m M)) (i : Nat) (hi : i < 7) : m_m M (nI (3 + i)).toNatClampNeg = nI (a_home x i) := by
  rw [n_cl (by omega)]; exact r.2.2.2.1 i hi
theorem M_it (r : RpM x (m_m M)) (w : WF x) {t u : Nat} (ht : t < a_things x) (hu : u < 7) : vX5_it M (nI t) (nI u) = nI (a_tr x t u) := by
  have h8 := w.1
  unfold vX5_it
  simp only [nz, pk_mul, nI_add]
  rw [n_cl (by omega)]
  exact r.2.2.2.2.2.1 t ht u hu
theorem M_itk (w : WF x) {t u : Nat} (ht : t < a_things x) (hu : u < 7) : kX5_it M (nI t) (nI u) := by
  have h8 := w.1
  unfold kX5_it
  simp only [nz, pk_mul, nI_add]
  exact ⟨n_in (by omega) (by omega), trivial⟩
theorem M_lives (r : RpM x (m_m M)) (w : WF x) {t : Nat} (ht : t < a_things x) : vX5_lives M (nI t) = nI (sLives (a_tr x t 0) (a_tr x t 1)) := by
  have hb := w.t ht
  unfold vX5_lives sLives
  simp only [nz, M_it r w ht (by decide : 0 < 7), M_it r w ht (by decide : 1 < 7)]
  simp (disch := omega) only [n_eq, nI_add]
  repeat' (split <;> (try rfl))
theorem M_livesk (w : WF x) {t : Nat} (ht : t < a_things x) : kX5_lives M (nI t) := by
  unfold kX5_lives
  simp only [nz, M_itk w ht (by decide : 0 < 7), M_itk w ht (by decide : 1 < 7)]
  simp
theorem vheld {v p : Nat} (hv : v < 2147483648) (hp : p < 2147483648) : vX5_held (nI v) (nI 0) (nI p) = nI (min v p) := by
  unfold vX5_held
  simp (disch := omega) only [nz, n_lt, n_le]
  repeat' split
  all_goals first | (congr 1; omega) | omega
theorem M_worth (r : RpM x (m_m M)) (w : WF x) {t : Nat} (ht : t < a_things x) : vX5_worth M (nI t) = nI (sWorthT x t) := by
  have hb := w.t ht
  have h0 := sLives_le (k := a_tr x t 0) (p := a_tr x t 1) (by omega)
  have hm : a_tr x t 1 * (sLives (a_tr x t 0) (a_tr x t 1) - a_tr x t 2) ≤ 999 * 1199 := Nat.mul_le_mul (by omega) (by omega)
  have hm2 : a_tr x t 1 / 2 * (sLives (a_tr x t 0) (a_tr x t 1) - a_tr x t 2) ≤ 999 * 1199 := Nat.mul_le_mul (by omega) (by omega)
  have key : vX5_worth M (nI t) = vX5_worth_c35 M (nI t) (nI (a_tr x t 1)) (nI (sLives (a_tr x t 0) (a_tr x t 1))) (nI (sLives (a_tr x t 0) (a_tr x t 1) - a_tr x t 2)) := by
    unfold vX5_worth
    simp only [nz, M_it r w ht (by decide : 2 < 7), M_it r w ht (by decide : 1 < 7), M_lives r w ht]
    simp (disch := omega) only [n_le]
    by_cases h : sLives (a_tr x t 0) (a_tr x t 1) ≤ a_tr x t 2
    · rw [if_pos h, show sLives (a_tr x t 0) (a_tr x t 1) - a_tr x t 2 = 0 by omega]
    · rw [if_neg h, n_sub (by omega)]
  rw [key]
  have h1 := sShare_le (w := a_tr x t 1) (a := a_tr x t 2) h0.1
  unfold vX5_worth_c35 vX5_worth_c100 vX5_worth_c114 sWorthT sWorth
  simp only [nz, M_it r w ht (by decide : 0 < 7), pk_mul]
  simp (disch := omega) only [n_eq, n_div, pk_mul, nI_add]
  have e1 : a_tr x t 1 * (sLives (a_tr x t 0) (a_tr x t 1) - a_tr x t 2) / sLives (a_tr x t 0) (a_tr x t 1) = sShare (a_tr x t 1) (a_tr x t 2) (sLives (a_tr x t 0) (a_tr x t 1)) := rfl
  have e2 : a_tr x t 1 / 2 * (sLives (a_tr x t 0) (a_tr x t 1) - a_tr x t 2) / sLives (a_tr x t 0) (a_tr x t 1) = sShare (a_tr x t 1 / 2) (a_tr x t 2) (sLives (a_tr x t 0) (a_tr x t 1)) := rfl
  rw [e1, e2]
  simp (disch := omega) only [n_le, vheld]
  generalize sShare (a_tr x t 1) (a_tr x t 2) (sLives (a_tr x t 0) (a_tr x t 1)) = q at h1 ⊢
  have e3 : (if 20 ≤ q then nI (min q (a_tr x t 1)) else nI (min 20 (a_tr x t 1))) = nI (min (a_tr x t 1) (max 20 q)) := by
    split <;> (congr 1; omega)
  rw [e3]
  repeat' (split <;> (try rfl))
theorem M_worthk (r : RpM x (m_m M)) (w : WF x) {t : Nat} (ht : t < a_things x) : kX5_worth M (nI t) := by
  have hb := w.t ht
  have h0 := sLives_le (k := a_tr x t 0) (p := a_tr x t 1) (by omega)
  have hne : ¬ nI (sLives (a_tr x t 0) (a_tr x t 1)) = nI 0 := by rw [n_eq (by omega) (by omega)]; omega
  unfold kX5_worth kX5_worth_c35
  simp only [nz, M_lives r w ht, M_itk w ht (by decide : 0 < 7), M_itk w ht (by decide : 1 < 7), M_itk w ht (by decide : 2 < 7), M_livesk w ht, hne]
  simp
theorem M_fair (r : RpM x (m_m M)) (w : WF x) {t : Nat} (ht : t < a_things x) : vX5_fair M (nI t) = nI (sFairT x t) := by
  have hb := w.t ht
  have hh := w.h
  unfold vX5_fair sFairT sFair
  simp only [nz, M_it r w ht (by decide : 0 < 7), M_it r w ht (by decide : 5 < 7), M_h r 1 (by omega)]
  simp (disch := omega) only [n_eq, n_div, n_le, nI_add, pk_mul]
  repeat' (split <;> (try rfl) <;> (try omega))
theorem M_fairk (w : WF x) {t : Nat} (ht : t < a_things x) : kX5_fair M (nI t) := ⟨M_itk w ht (by decide : 5 < 7), M_itk w ht (by decide : 0 < 7), trivial⟩
theorem M_hurts (r : RpM x (m_m M)) (w : WF x) {t f : Nat} (ht : t < a_things x) (hf : f ≤ 9) : vX5_hurtsBy M (nI t) (nI f) = nI (sHurtT x t f) := by
  have hb := w.t ht
  have hh := w.h
  unfold vX5_hurtsBy vX5_hurtsBy_c44 sHurtT sHurt
  simp only [nz, M_it r w ht (by decide : 0 < 7), M_h r 1 (by omega)]
  simp (disch := omega) only [n_eq, n_le, nI_add, pk_mul]
  repeat' (split <;> (try rfl) <;> (try omega))
theorem M_hurtsk (w : WF x) {t : Nat} {f : Int32} (ht : t < a_things x) : kX5_hurtsBy M (nI t) f := ⟨M_itk w ht (by decide : 0 < 7), trivial⟩
theorem M_worse (r : RpM x (m_m M)) (w : WF x) {t : Nat} (ht : t < a_things x) : vX5_worse M (nI t) = nI (sWorseT x t) := by
  have hb := w.t ht
  have hh := w.h
  have hf : sFairT x t ≤ 1020 := sFair_le (by omega) (by omega)
  unfold vX5_worse sWorseT
  simp only [nz, M_it r w ht (by decide : 3 < 7), M_it r w ht (by decide : 4 < 7), M_fair r w ht]
  simp only [n_ssub]
  rw [n_cut2 (by omega) (by omega)]
theorem M_worsek (w : WF x) {t : Nat} (ht : t < a_things x) : kX5_worse M (nI t) := ⟨M_itk w ht (by decide : 3 < 7), M_itk w ht (by decide : 4 < 7), M_fairk w ht, trivial⟩
theorem M_c80 (r : RpM x (m_m M)) (w : WF x) {t b a v : Nat} (ht : t < a_things x) (hb1 : b ≤ 1) (ha : a ≤ 999) (hv : v ≤ 999999) : vX5_award_c80 M (nI t) (nI b) (nI a) (nI v) = nI (if b = 0 then 0 else min (min v a) (a_tr x t 6)) := by
  have hb := w.t ht
  unfold vX5_award_c80 vX5_award_c94
  simp only [nz, M_it r w ht (by decide : 6 < 7)]
  simp (disch := omega) only [n_eq, n_le]
  by_cases h0 : b = 0
  · simp [h0]
  · simp only [h0, if_false]
    repeat' split
    all_goals first | (congr 1; omega) | omega
theorem M_c48 (r : RpM x (m_m M)) (w : WF x) {t b : Nat} (ht : t < a_things x) (hb1 : b ≤ 1) : vX5_award_c48 M (nI t) (nI b) = nI (if b = 0 then 0 else if a_home x 4 = 1 then min (sWorthT x t) (a_tr x t 6) else min (min (sWorthT x t * sWorseT x t / 100) (sWorthT x t)) (a_tr x t 6)) := by
  have hb := w.t ht
  have hh := w.h
  have hw : sWorthT x t ≤ 999 := sWorth_le (by omega)
  have hs := sWorse_le w ht
  have hm : sWorthT x t * sWorseT x t ≤ 999 * 99 := Nat.mul_le_mul hw hs
  unfold vX5_award_c48
  simp only [nz, M_worth r w ht, M_worse r w ht, M_h r 4 (by omega), pk_mul]
  simp (disch := omega) only [n_eq, n_div, M_c80 r w ht hb1 hw]
  by_cases h0 : b = 0 <;> by_cases h4 : a_home x 4 = 1 <;> simp [h0, h4]
theorem M_award (r : RpM x (m_m M)) (w : WF x) {t : Nat} (ht : t < a_things x) : vX5_award M (nI t) = nI (sAward x t) := by
  have hb := w.t ht
  have hh := w.h
  unfold vX5_award vX5_award_c32 vX5_award_c47 sAward sAwardOf
  simp only [nz, M_c48 r w ht (by omega : 0 ≤ 1), M_c48 r w ht (by omega : 1 ≤ 1), M_h r 2 (by omega), M_h r 3 (by omega), M_h r 4 (by omega)]
  simp (disch := omega) only [n_eq]
  generalize sWorthT x t * sWorseT x t / 100 = q
  generalize sWorthT x t = u
  have e2 : a_home x 2 = 0 ∨ a_home x 2 = 1 := by omega
  have e3 : a_home x 3 = 0 ∨ a_home x 3 = 1 := by omega
  have e4 : a_home x 4 = 0 ∨ a_home x 4 = 1 ∨ a_home x 4 = 2 := by omega
  rcases e2 with e2 | e2 <;> rcases e3 with e3 | e3 <;> rcases e4 with e4 | e4 | e4 <;> simp [e2, e3, e4] <;> (congr 1; omega)
theorem M_awardk (r : RpM x (m_m M)) (w : WF x) {t : Nat} (ht : t < a_things x) : kX5_award M (nI t) := by
  unfold kX5_award kX5_award_c32 kX5_award_c47 kX5_award_c48 kX5_award_c80 kX5_award_c94
  simp only [nz, M_itk w ht (by decide : 6 < 7), M_worthk r w ht, M_worsek w ht]
  simp
end SM
