-- a day goes by: the spec, both sides
def sPut (x : AS) (t u v : Nat) : AS := a_s_tr x (fun t' u' => if t' = t ∧ u' = u then v else a_tr x t' u')
def sWearF (x : AS) (r i t u : Nat) : Nat := if t < i then (if u = 2 then min 9999 (a_tr x t 2 + 1) else if u = 5 then min 9999 (a_tr x t 5 + 1) else if u = 4 then a_tr x t 4 - r else a_tr x t u) else a_tr x t u
def sWear (x : AS) (r i : Nat) : AS := a_s_tr x (sWearF x r i)
def sStrike (x : AS) : AS := if a_list x (a_day x % 6) / 10 < a_things x then sPut x (a_list x (a_day x % 6) / 10) 4 (a_tr x (a_list x (a_day x % 6) / 10) 4 - sHurtT x (a_list x (a_day x % 6) / 10) (a_list x (a_day x % 6) % 10)) else x
def sDay (x : AS) : AS := a_s_day (sWear (sStrike x) (if a_day x % 10 = 9 then 1 else 0) (a_things x)) (min 99999 (a_day x + 1))
theorem RpE.tr {x : AS} {E : ES} (r : RpE x E) {f : Nat → Nat → Nat} (h : ∀ t, t < a_things x → ∀ u, u < 7 → a_tr x t u = f t u) : RpE (a_s_tr x f) E :=
  ⟨r.1, r.2.1, r.2.2.1, r.2.2.2.1, r.2.2.2.2.1, fun t ht u hu => (r.2.2.2.2.2.1 t ht u hu).trans (congrArg nI (h t ht u hu)), r.2.2.2.2.2.2⟩
theorem RpM.tr {x : AS} {m : FA} (r : RpM x m) {f : Nat → Nat → Nat} (h : ∀ t, t < a_things x → ∀ u, u < 7 → a_tr x t u = f t u) : RpM (a_s_tr x f) m :=
  ⟨r.1, r.2.1, r.2.2.1, r.2.2.2.1, r.2.2.2.2.1, fun t ht u hu => (r.2.2.2.2.2.1 t ht u hu).trans (congrArg nI (h t ht u hu)), r.2.2.2.2.2.2⟩
theorem WF.tr {x : AS} (w : WF x) {f : Nat → Nat → Nat} (h : ∀ t, t < a_things x → ∀ u, u < 7 → f t u ≤ tMost u) : WF (a_s_tr x f) :=
  ⟨w.1, w.2.1, w.2.2.1, w.2.2.2.1, w.2.2.2.2.1, h, w.2.2.2.2.2.2⟩
theorem WF.put {x : AS} (w : WF x) {t u v : Nat} (h : v ≤ tMost u) : WF (sPut x t u v) :=
  w.tr (fun t' ht u' hu => by
    by_cases e : t' = t ∧ u' = u
    · rw [if_pos e, e.2]; exact h
    · rw [if_neg e]; exact w.2.2.2.2.2.1 t' ht u' hu)
theorem tm2 : tMost 2 = 9999 := rfl
theorem tm4 : tMost 4 = 99 := rfl
theorem tm5 : tMost 5 = 9999 := rfl
theorem WF.wear {x : AS} (w : WF x) (r i : Nat) : WF (sWear x r i) :=
  w.tr (fun t ht u hu => by
    have hb := w.t ht
    have h0 := w.2.2.2.2.2.1 t ht u hu
    unfold sWearF
    split
    · split
      · rename_i e; subst e; rw [tm2]; omega
      · split
        · rename_i e; subst e; rw [tm5]; omega
        · split
          · rename_i e; subst e; rw [tm4]; omega
          · exact h0
    · exact h0)
theorem WF.strike {x : AS} (w : WF x) : WF (sStrike x) := by
  unfold sStrike
  split
  · rename_i h
    have hb := w.t h
    exact w.put (by rw [tm4]; omega)
  · exact w
theorem WF.day {x : AS} (w : WF x) : WF (sDay x) := by
  have h := (w.strike).wear (if a_day x % 10 = 9 then 1 else 0) (a_things x)
  exact ⟨h.1, by show min 99999 (a_day x + 1) ≤ 99999; omega, h.2.2.1, h.2.2.2.1, h.2.2.2.2.1, h.2.2.2.2.2.1, h.2.2.2.2.2.2⟩
theorem sStrike_things (x : AS) : a_things (sStrike x) = a_things x := by unfold sStrike; split <;> rfl
theorem sStrike_day (x : AS) : a_day (sStrike x) = a_day x := by unfold sStrike; split <;> rfl
theorem sDay_things (x : AS) : a_things (sDay x) = a_things x := sStrike_things x
theorem upd_s {f : FA} {k : Nat} {v : Int32} : upd f k v k = v := pk_us
theorem upd_n {f : FA} {k j : Nat} {v : Int32} (h : j ≠ k) : upd f k v j = f j := pk_un h
section DE
variable {x : AS} {E : ES}
theorem E_put (r : RpE x E) (w : WF x) {t u v : Nat} (ht : t < a_things x) (hu : u < 7) : RpE (sPut x t u v) (vX0_put E (nI t) (nI u) (nI v)) := by
  have h8 := w.1
  unfold vX0_put
  rw [nz, pk_mul, nI_add, n_cl (by omega)]
  refine ⟨r.1, r.2.1, r.2.2.1, r.2.2.2.1, r.2.2.2.2.1, fun t' ht' u' hu' => ?_, r.2.2.2.2.2.2⟩
  show upd (e_traits E) (t * 7 + u) (nI v) (7 * t' + u') = nI (if t' = t ∧ u' = u then v else a_tr x t' u')
  by_cases e : t' = t ∧ u' = u
  · rw [if_pos e, e.1, e.2, Nat.mul_comm 7 t, upd_s]
  · rw [if_neg e, upd_n (by omega)]
    exact r.2.2.2.2.2.1 t' ht' u' hu'
theorem E_putk (w : WF x) {t u : Nat} {v : Int32} (ht : t < a_things x) (hu : u < 7) : kX0_put E (nI t) (nI u) v := by
  have h8 := w.1
  unfold kX0_put
  rw [nz, pk_mul, nI_add]
  exact ⟨n_in (by omega) (by omega), trivial⟩
theorem E_lower (r : RpE x E) (w : WF x) {t b : Nat} (ht : t < a_things x) (hb : b ≤ 9999) : kX0_lower E (nI t) (nI b) ∧ RpE (sPut x t 4 (a_tr x t 4 - b)) (vX0_lower E (nI t) (nI b)) := by
  have hb := w.t ht
  unfold kX0_lower vX0_lower
  simp only [nz, E_trait r w ht (by decide : 4 < 7)]
  rw [n_cut (by omega) (by omega)]
  exact ⟨⟨E_traitk w ht (by decide), E_putk w ht (by decide), trivial⟩, E_put r w ht (by decide)⟩
theorem E_hurt (r : RpE x E) (w : WF x) {t f : Nat} (ht : t < a_things x) (hf : f ≤ 9) : kX0_hurt E (nI t) (nI f) ∧ vX0_hurt E (nI t) (nI f) = nI (sHurtT x t f) := by
  have hb := w.t ht
  have hh := w.h
  unfold kX0_hurt vX0_hurt sHurtT
  simp only [nz, E_trait r w ht (by decide : 0 < 7), E_h r 1 (by omega)]
  exact ⟨⟨E_traitk w ht (by decide), trivial⟩, vhurt (by omega) (by omega) (by omega)⟩
theorem E_wear_L (w : WF x) (rr : Nat) (hr : rr ≤ 1) : ∀ (n i : Nat) (E : ES), RpE (sWear x rr i) E → i ≤ a_things x → a_things x < i + n → kX0_passDay_c61 n E (nI rr) (nI i) ∧ RpE (a_s_day (sWear x rr (a_things x)) (min 99999 (a_day x + 1))) (vX0_passDay_c61 n E (nI rr) (nI i))
  | 0, i, E, r, h1, h2 => by omega
  | n + 1, i, E, r, h1, h2 => by
    have h8 := w.1
    have hd := w.2.1
    have wi := w.wear rr i
    have e1 : e_things E = nI (a_things x) := r.1
    have e2 : e_day E = nI (a_day x) := r.2.1
    unfold kX0_passDay_c61 vX0_passDay_c61
    rw [e1, e2]
    simp (disch := omega) only [nz, n_le, nI_add, n_min]
    by_cases h : a_things x ≤ i
    · have e : i = a_things x := by omega
      subst e
      simp only [Nat.le_refl, if_true, not_true_eq_false, false_implies, and_true, implies_true, true_and]
      exact ⟨r.1, rfl, r.2.2.1, r.2.2.2.1, r.2.2.2.2.1, r.2.2.2.2.2.1, r.2.2.2.2.2.2⟩
    · have ht : i < a_things x := by omega
      have hb := w.t ht
      simp only [h, if_false, not_false_eq_true, true_implies, false_implies, true_and]
      have t0 : ∀ u, a_tr (sWear x rr i) i u = a_tr x i u := fun u => by
        show sWearF x rr i i u = _
        unfold sWearF; rw [if_neg (Nat.lt_irrefl i)]
      have v2 := E_trait r wi (t := i) (u := 2) ht (by decide)
      rw [t0] at v2
      have r1 := E_put (v := min 9999 (a_tr x i 2 + 1)) r wi (t := i) (u := 2) ht (by decide)
      have w1 : WF (sPut (sWear x rr i) i 2 (min 9999 (a_tr x i 2 + 1))) := wi.put (by rw [tm2]; omega)
      have v5 := E_trait r1 w1 (t := i) (u := 5) ht (by decide)
      have t5 : a_tr (sPut (sWear x rr i) i 2 (min 9999 (a_tr x i 2 + 1))) i 5 = a_tr x i 5 := by
        show (if i = i ∧ 5 = 2 then _ else a_tr (sWear x rr i) i 5) = _
        rw [if_neg (by omega), t0]
      rw [t5] at v5
      have r2 := E_put (v := min 9999 (a_tr x i 5 + 1)) r1 w1 (t := i) (u := 5) ht (by decide)
      have w2 : WF (sPut (sPut (sWear x rr i) i 2 (min 9999 (a_tr x i 2 + 1))) i 5 (min 9999 (a_tr x i 5 + 1))) := w1.put (by rw [tm5]; omega)
      have t4 : a_tr (sPut (sPut (sWear x rr i) i 2 (min 9999 (a_tr x i 2 + 1))) i 5 (min 9999 (a_tr x i 5 + 1))) i 4 = a_tr x i 4 := by
        show (if i = i ∧ 4 = 5 then _ else if i = i ∧ 4 = 2 then _ else a_tr (sWear x rr i) i 4) = _
        rw [if_neg (by omega), if_neg (by omega), t0]
      have k1 := E_putk (E := E) (v := nI (min 9999 (a_tr x i 2 + 1))) wi (t := i) (u := 2) ht (by decide)
      have k2 := E_putk (E := vX0_put E (nI i) (nI 2) (nI (min 9999 (a_tr x i 2 + 1)))) (v := nI (min 9999 (a_tr x i 5 + 1))) w1 (t := i) (u := 5) ht (by decide)
      unfold kX0_passDay_c92 vX0_passDay_c92 kX0_passDay_c114 vX0_passDay_c114 kX0_passDay_c125 vX0_passDay_c125
      simp only [nz]
      simp (disch := omega) only [v2, nI_add, n_min, v5]
      simp (disch := omega) only [n_eq]
      by_cases hz : rr = 0
      · subst hz
        have r3 : RpE (sWear x 0 (i + 1)) (vX0_put (vX0_put E (nI i) (nI 2) (nI (min 9999 (a_tr x i 2 + 1)))) (nI i) (nI 5) (nI (min 9999 (a_tr x i 5 + 1)))) := by
          refine r2.tr (f := sWearF x 0 (i + 1)) (fun t ht' u hu => ?_)
          show (if t = i ∧ u = 5 then _ else if t = i ∧ u = 2 then _ else sWearF x 0 i t u) = sWearF x 0 (i + 1) t u
          unfold sWearF
          repeat' split
          all_goals first | omega | (simp_all; done) | (simp_all; omega)
        have ih := E_wear_L w 0 hr n (i + 1) _ r3 (by omega) (by omega)
        simp only [if_true, not_true_eq_false, false_implies, and_true, true_implies]
        exact ⟨⟨E_traitk wi ht (by decide), k1, E_traitk w1 ht (by decide), k2, ih.1⟩, ih.2⟩
      · have e1 : rr = 1 := by omega
        subst e1
        have l3 := E_lower r2 w2 (t := i) (b := 1) ht (by omega)
        rw [t4] at l3
        have r3 : RpE (sWear x 1 (i + 1)) (vX0_lower (vX0_put (vX0_put E (nI i) (nI 2) (nI (min 9999 (a_tr x i 2 + 1)))) (nI i) (nI 5) (nI (min 9999 (a_tr x i 5 + 1)))) (nI i) (nI 1)) := by
          refine l3.2.tr (f := sWearF x 1 (i + 1)) (fun t ht' u hu => ?_)
          show (if t = i ∧ u = 4 then _ else if t = i ∧ u = 5 then _ else if t = i ∧ u = 2 then _ else sWearF x 1 i t u) = sWearF x 1 (i + 1) t u
          unfold sWearF
          repeat' split
          all_goals first | omega | (simp_all; done) | (simp_all; omega)
        have ih := E_wear_L w 1 hr n (i + 1) _ r3 (by omega) (by omega)
        simp only [hz, if_false, not_false_eq_true, false_implies, true_and, true_implies]
        exact ⟨⟨E_traitk wi ht (by decide), k1, E_traitk w1 ht (by decide), k2, l3.1, ih.1⟩, ih.2⟩
end DE
