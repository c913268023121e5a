theorem OK_rd {J : JS} {M : MS} {k1 l1 : Prop} {a : Int32} {b : Int32} (h : Rel J M) (hk : k1) (hl : l1) (e : a = b) : OK k1 l1 (a, J) (b, M) := ⟨hk, hl, e, h⟩
theorem E_sum_L {x : AS} {E : ES} (r : RpE x E) (w : WF x) {u : Nat} (hu : u ≤ 11) : ∀ (n t : Nat), t ≤ a_things x → a_things x < t + n → kX0_sum_c4 E (nI u) n (nI (sSum (fun t => sTold x t u) t)) (nI t) ∧ vX0_sum_c4 E (nI u) n (nI (sSum (fun t => sTold x t u) t)) (nI t) = nI (sSum (fun t => sTold x t u) (a_things x))
  | 0, t, h1, h2 => by omega
  | n + 1, t, h1, h2 => by
    have h8 := w.1
    have e1 : e_things E = nI (a_things x) := r.1
    unfold kX0_sum_c4 vX0_sum_c4
    rw [e1]
    by_cases h : a_things x ≤ t
    · have e : t = a_things x := by omega
      subst e
      have c : nI (a_things x) ≤ nI (a_things x) := Int32.le_refl _
      rw [if_pos c]
      exact ⟨⟨fun _ => trivial, fun q => absurd c q⟩, rfl⟩
    · have c : ¬ nI (a_things x) ≤ nI t := by rw [n_le (by omega) (by omega)]; exact h
      have ht : t < a_things x := by omega
      have a := E_told r w ht hu
      have ih := E_sum_L r w hu n (t + 1) (by omega) (by omega)
      have ei : nI t + (1 : Int32) = nI (t + 1) := by rw [nz, nI_add]
      have es : nI (sSum (fun t => sTold x t u) t) + nI (sTold x t u) = nI (sSum (fun t => sTold x t u) (t + 1)) := by rw [nI_add]; rfl
      rw [if_neg c, a.2, ei, es]
      exact ⟨⟨fun q => absurd q c, fun _ => ⟨a.1, ih.1⟩⟩, ih.2⟩
theorem E_sum {x : AS} {E : ES} (r : RpE x E) (w : WF x) {u : Nat} (hu : u ≤ 11) : kX0_sum E (nI u) ∧ vX0_sum E (nI u) = nI (sSum (fun t => sTold x t u) (a_things x)) := E_sum_L r w hu 1024 0 (Nat.zero_le _) (by have := w.1; omega)
theorem M_claims_L {x : AS} {M : MS} (r : RpM x (m_m M)) (w : WF x) : ∀ (n t : Nat), t ≤ a_things x → a_things x < t + n → kX5_claims_c4 M n (nI (sSum (fun t => sTold x t 6) t)) (nI t) ∧ vX5_claims_c4 M n (nI (sSum (fun t => sTold x t 6) t)) (nI t) = nI (sSum (fun t => sTold x t 6) (a_things x))
  | 0, t, h1, h2 => by omega
  | n + 1, t, h1, h2 => by
    have h8 := w.1
    unfold kX5_claims_c4 vX5_claims_c4
    rw [c2t, r.1]
    by_cases h : a_things x ≤ t
    · have e : t = a_things x := by omega
      subst e
      have c : nI (a_things x) ≤ nI (a_things x) := Int32.le_refl _
      rw [if_pos c]
      exact ⟨⟨fun _ => trivial, fun q => absurd c q⟩, rfl⟩
    · have c : ¬ nI (a_things x) ≤ nI t := by rw [n_le (by omega) (by omega)]; exact h
      have ht : t < a_things x := by omega
      have a1 : kX5_it M (nI t) (6 : Int32) := M_itk w ht (by decide : 6 < 7)
      have a2 : vX5_it M (nI t) (6 : Int32) = nI (sTold x t 6) := M_it r w ht (by decide : 6 < 7)
      have ih := M_claims_L r w n (t + 1) (by omega) (by omega)
      have ei : nI t + (1 : Int32) = nI (t + 1) := by rw [nz, nI_add]
      have es : nI (sSum (fun t => sTold x t 6) t) + nI (sTold x t 6) = nI (sSum (fun t => sTold x t 6) (t + 1)) := by rw [nI_add]; rfl
      rw [if_neg c, a2, ei, es]
      exact ⟨⟨fun q => absurd q c, fun _ => ⟨a1, ih.1⟩⟩, ih.2⟩
theorem M_claims {x : AS} {M : MS} (r : RpM x (m_m M)) (w : WF x) : kX5_claims M ∧ vX5_claims M = nI (sSum (fun t => sTold x t 6) (a_things x)) := M_claims_L r w 1024 0 (Nat.zero_le _) (by have := w.1; omega)
theorem M_allWorth_L {x : AS} {M : MS} (r : RpM x (m_m M)) (w : WF x) : ∀ (n t : Nat), t ≤ a_things x → a_things x < t + n → kX5_allWorth_c4 M n (nI (sSum (fun t => sTold x t 8) t)) (nI t) ∧ vX5_allWorth_c4 M n (nI (sSum (fun t => sTold x t 8) t)) (nI t) = nI (sSum (fun t => sTold x t 8) (a_things x))
  | 0, t, h1, h2 => by omega
  | n + 1, t, h1, h2 => by
    have h8 := w.1
    unfold kX5_allWorth_c4 vX5_allWorth_c4
    rw [c2t, r.1]
    by_cases h : a_things x ≤ t
    · have e : t = a_things x := by omega
      subst e
      have c : nI (a_things x) ≤ nI (a_things x) := Int32.le_refl _
      rw [if_pos c]
      exact ⟨⟨fun _ => trivial, fun q => absurd c q⟩, rfl⟩
    · have c : ¬ nI (a_things x) ≤ nI t := by rw [n_le (by omega) (by omega)]; exact h
      have ht : t < a_things x := by omega
      have a1 : kX5_worth M (nI t) := M_worthk r w ht
      have a2 : vX5_worth M (nI t) = nI (sTold x t 8) := M_worth r w ht
      have ih := M_allWorth_L r w n (t + 1) (by omega) (by omega)
      have ei : nI t + (1 : Int32) = nI (t + 1) := by rw [nz, nI_add]
      have es : nI (sSum (fun t => sTold x t 8) t) + nI (sTold x t 8) = nI (sSum (fun t => sTold x t 8) (t + 1)) := by rw [nI_add]; rfl
      rw [if_neg c, a2, ei, es]
      exact ⟨⟨fun q => absurd q c, fun _ => ⟨a1, ih.1⟩⟩, ih.2⟩
theorem M_allWorth {x : AS} {M : MS} (r : RpM x (m_m M)) (w : WF x) : kX5_allWorth M ∧ vX5_allWorth M = nI (sSum (fun t => sTold x t 8) (a_things x)) := M_allWorth_L r w 1024 0 (Nat.zero_le _) (by have := w.1; omega)
def sBits (f : Nat → Nat) : Nat → Int32
  | 0 => 0
  | n + 1 => if f n ≤ 0 then sBits f n else sBits f n ||| ((1 : Int32) <<< (nI n &&& 31))
theorem E_with_L {x : AS} {E : ES} (r : RpE x E) (w : WF x) {u : Nat} (hu : u ≤ 11) (hb : ∀ t, t < a_things x → sTold x t u ≤ 9999) : ∀ (n t : Nat), t ≤ a_things x → a_things x < t + n → kX0_thingsWith_c4 E (nI u) n (sBits (fun t => sTold x t u) t) (nI t) ∧ vX0_thingsWith_c4 E (nI u) n (sBits (fun t => sTold x t u) t) (nI t) = sBits (fun t => sTold x t u) (a_things x)
  | 0, t, h1, h2 => by omega
  | n + 1, t, h1, h2 => by
    have h8 := w.1
    have e1 : e_things E = nI (a_things x) := r.1
    unfold kX0_thingsWith_c4 vX0_thingsWith_c4 kX0_thingsWith_c27 vX0_thingsWith_c27
    rw [e1]
    by_cases h : a_things x ≤ t
    · have e : t = a_things x := by omega
      subst e
      have c : nI (a_things x) ≤ nI (a_things x) := Int32.le_refl _
      rw [if_pos c]
      exact ⟨⟨fun _ => trivial, fun q => absurd c q⟩, rfl⟩
    · have c : ¬ nI (a_things x) ≤ nI t := by rw [n_le (by omega) (by omega)]; exact h
      have ht : t < a_things x := by omega
      have a := E_told r w ht hu
      have hbt := hb t ht
      have z : (nI (sTold x t u) ≤ (0 : Int32)) = (sTold x t u ≤ 0) := n_le (b := 0) (by omega) (by omega)
      have ih := E_with_L r w hu hb n (t + 1) (by omega) (by omega)
      have ei : nI t + (1 : Int32) = nI (t + 1) := by rw [nz, nI_add]
      have es : sBits (fun t => sTold x t u) (t + 1) = if sTold x t u ≤ 0 then sBits (fun t => sTold x t u) t else sBits (fun t => sTold x t u) t ||| ((1 : Int32) <<< (nI t &&& 31)) := rfl
      rw [if_neg c, a.2, ei]
      rw [es] at ih
      by_cases q : sTold x t u ≤ 0
      · rw [if_pos q] at ih
        have q1 : nI (sTold x t u) ≤ (0 : Int32) := by rw [z]; exact q
        rw [if_pos q1]
        exact ⟨⟨fun q => absurd q c, fun _ => ⟨a.1, fun _ => ih.1, fun g => absurd q1 g⟩⟩, ih.2⟩
      · rw [if_neg q] at ih
        have q1 : ¬ nI (sTold x t u) ≤ (0 : Int32) := by rw [z]; exact q
        rw [if_neg q1]
        exact ⟨⟨fun q => absurd q c, fun _ => ⟨a.1, fun g => absurd g q1, fun _ => ih.1⟩⟩, ih.2⟩
theorem E_with {x : AS} {E : ES} (r : RpE x E) (w : WF x) {u : Nat} (hu : u ≤ 11) (hb : ∀ t, t < a_things x → sTold x t u ≤ 9999) : kX0_thingsWith E (nI u) ∧ vX0_thingsWith E (nI u) = sBits (fun t => sTold x t u) (a_things x) := E_with_L r w hu hb 1024 0 (Nat.zero_le _) (by have := w.1; omega)
theorem M_worseOnes_L {x : AS} {M : MS} (r : RpM x (m_m M)) (w : WF x) (hb : ∀ t, t < a_things x → sTold x t 10 ≤ 9999) : ∀ (n t : Nat), t ≤ a_things x → a_things x < t + n → kX5_worseOnes_c4 M n (sBits (fun t => sTold x t 10) t) (nI t) ∧ vX5_worseOnes_c4 M n (sBits (fun t => sTold x t 10) t) (nI t) = sBits (fun t => sTold x t 10) (a_things x)
  | 0, t, h1, h2 => by omega
  | n + 1, t, h1, h2 => by
    have h8 := w.1
    unfold kX5_worseOnes_c4 vX5_worseOnes_c4 kX5_worseOnes_c30 vX5_worseOnes_c30
    rw [c2t, r.1]
    by_cases h : a_things x ≤ t
    · have e : t = a_things x := by omega
      subst e
      have c : nI (a_things x) ≤ nI (a_things x) := Int32.le_refl _
      rw [if_pos c]
      exact ⟨⟨fun _ => trivial, fun q => absurd c q⟩, rfl⟩
    · have c : ¬ nI (a_things x) ≤ nI t := by rw [n_le (by omega) (by omega)]; exact h
      have ht : t < a_things x := by omega
      have a1 : kX5_worse M (nI t) := M_worsek w ht
      have a2 : vX5_worse M (nI t) = nI (sTold x t 10) := M_worse r w ht
      have hbt := hb t ht
      have z : (nI (sTold x t 10) ≤ (0 : Int32)) = (sTold x t 10 ≤ 0) := n_le (b := 0) (by omega) (by omega)
      have ih := M_worseOnes_L r w hb n (t + 1) (by omega) (by omega)
      have ei : nI t + (1 : Int32) = nI (t + 1) := by rw [nz, nI_add]
      have es : sBits (fun t => sTold x t 10) (t + 1) = if sTold x t 10 ≤ 0 then sBits (fun t => sTold x t 10) t else sBits (fun t => sTold x t 10) t ||| ((1 : Int32) <<< (nI t &&& 31)) := rfl
      rw [if_neg c, a2, ei]
      rw [es] at ih
      by_cases q : sTold x t 10 ≤ 0
      · rw [if_pos q] at ih
        have q1 : nI (sTold x t 10) ≤ (0 : Int32) := by rw [z]; exact q
        rw [if_pos q1, Int32.or_zero]
        exact ⟨⟨fun q => absurd q c, fun _ => ⟨a1, fun _ => ih.1, fun g => absurd q1 g⟩⟩, ih.2⟩
      · rw [if_neg q] at ih
        have q1 : ¬ nI (sTold x t 10) ≤ (0 : Int32) := by rw [z]; exact q
        rw [if_neg q1]
        exact ⟨⟨fun q => absurd q c, fun _ => ⟨a1, fun g => absurd g q1, fun _ => ih.1⟩⟩, ih.2⟩
theorem M_worseOnes {x : AS} {M : MS} (r : RpM x (m_m M)) (w : WF x) (hb : ∀ t, t < a_things x → sTold x t 10 ≤ 9999) : kX5_worseOnes M ∧ vX5_worseOnes M = sBits (fun t => sTold x t 10) (a_things x) := M_worseOnes_L r w hb 1024 0 (Nat.zero_le _) (by have := w.1; omega)
theorem M_awardedOnes_L {x : AS} {M : MS} (r : RpM x (m_m M)) (w : WF x) (hb : ∀ t, t < a_things x → sTold x t 11 ≤ 9999) : ∀ (n t : Nat), t ≤ a_things x → a_things x < t + n → kX5_awardedOnes_c4 M n (sBits (fun t => sTold x t 11) t) (nI t) ∧ vX5_awardedOnes_c4 M n (sBits (fun t => sTold x t 11) t) (nI t) = sBits (fun t => sTold x t 11) (a_things x)
  | 0, t, h1, h2 => by omega
  | n + 1, t, h1, h2 => by
    have h8 := w.1
    unfold kX5_awardedOnes_c4 vX5_awardedOnes_c4 kX5_awardedOnes_c30 vX5_awardedOnes_c30
    rw [c2t, r.1]
    by_cases h : a_things x ≤ t
    · have e : t = a_things x := by omega
      subst e
      have c : nI (a_things x) ≤ nI (a_things x) := Int32.le_refl _
      rw [if_pos c]
      exact ⟨⟨fun _ => trivial, fun q => absurd c q⟩, rfl⟩
    · have c : ¬ nI (a_things x) ≤ nI t := by rw [n_le (by omega) (by omega)]; exact h
      have ht : t < a_things x := by omega
      have a1 : kX5_award M (nI t) := M_awardk r w ht
      have a2 : vX5_award M (nI t) = nI (sTold x t 11) := M_award r w ht
      have hbt := hb t ht
      have z : (nI (sTold x t 11) ≤ (0 : Int32)) = (sTold x t 11 ≤ 0) := n_le (b := 0) (by omega) (by omega)
      have ih := M_awardedOnes_L r w hb n (t + 1) (by omega) (by omega)
      have ei : nI t + (1 : Int32) = nI (t + 1) := by rw [nz, nI_add]
      have es : sBits (fun t => sTold x t 11) (t + 1) = if sTold x t 11 ≤ 0 then sBits (fun t => sTold x t 11) t else sBits (fun t => sTold x t 11) t ||| ((1 : Int32) <<< (nI t &&& 31)) := rfl
      rw [if_neg c, a2, ei]
      rw [es] at ih
      by_cases q : sTold x t 11 ≤ 0
      · rw [if_pos q] at ih
        have q1 : nI (sTold x t 11) ≤ (0 : Int32) := by rw [z]; exact q
        rw [if_pos q1, Int32.or_zero]
        exact ⟨⟨fun q => absurd q c, fun _ => ⟨a1, fun _ => ih.1, fun g => absurd q1 g⟩⟩, ih.2⟩
      · rw [if_neg q] at ih
        have q1 : ¬ nI (sTold x t 11) ≤ (0 : Int32) := by rw [z]; exact q
        rw [if_neg q1]
        exact ⟨⟨fun q => absurd q c, fun _ => ⟨a1, fun g => absurd g q1, fun _ => ih.1⟩⟩, ih.2⟩
theorem M_awardedOnes {x : AS} {M : MS} (r : RpM x (m_m M)) (w : WF x) (hb : ∀ t, t < a_things x → sTold x t 11 ≤ 9999) : kX5_awardedOnes M ∧ vX5_awardedOnes M = sBits (fun t => sTold x t 11) (a_things x) := M_awardedOnes_L r w hb 1024 0 (Nat.zero_le _) (by have := w.1; omega)
def sHeld (x : AS) : Nat → Nat
  | 0 => 0
  | n + 1 => if a_spots x n = -1 then sHeld x n else sHeld x n + 1
theorem E_held_L {x : AS} {E : ES} (r : RpE x E) : ∀ (n i : Nat), i ≤ 10 → 10 < i + n → kX0_heldSpots_c4 E n (nI (sHeld x i)) (nI i) ∧ vX0_heldSpots_c4 E n (nI (sHeld x i)) (nI i) = nI (sHeld x 10)
  | 0, i, h1, h2 => by omega
  | n + 1, i, h1, h2 => by
    unfold kX0_heldSpots_c4 vX0_heldSpots_c4 kX0_heldSpots_c23 vX0_heldSpots_c23
    by_cases h : 10 ≤ i
    · have e : i = 10 := by omega
      subst e
      have c : (10 : Int32) ≤ nI 10 := by decide
      rw [if_pos c]
      exact ⟨⟨fun _ => trivial, fun q => absurd c q⟩, rfl⟩
    · have c : ¬ (10 : Int32) ≤ nI i := by rw [nz, n_le (by omega) (by omega)]; exact h
      have ih := E_held_L r n (i + 1) (by omega) (by omega)
      have ei : nI i + (1 : Int32) = nI (i + 1) := by rw [nz, nI_add]
      have es : sHeld x (i + 1) = if a_spots x i = -1 then sHeld x i else sHeld x i + 1 := rfl
      have ev : e_spots E (nI i).toNatClampNeg = a_spots x i := by rw [n_cl (by omega)]; exact r.2.2.2.2.2.2 i (by omega)
      have hin : vp_in (nI i) 10 := n_in (by omega) (by omega)
      rw [if_neg c, ei, ev]
      rw [es] at ih
      by_cases q : a_spots x i = -1
      · rw [if_pos q] at ih
        rw [if_pos q]
        exact ⟨⟨fun q => absurd q c, fun _ => ⟨hin, fun _ => ih.1, fun g => absurd q g⟩⟩, ih.2⟩
      · rw [if_neg q] at ih
        have e3 : nI (sHeld x i) + (1 : Int32) = nI (sHeld x i + 1) := by rw [nz, nI_add]
        rw [if_neg q, e3]
        exact ⟨⟨fun q => absurd q c, fun _ => ⟨hin, fun g => absurd g q, fun _ => ih.1⟩⟩, ih.2⟩
theorem M_held_L {x : AS} {M : MS} (r : RpM x (m_m M)) (w : WF x) : ∀ (n i : Nat), i ≤ 10 → 10 < i + n → kX5_manyHeld_c5 M n (nI (sHeld x i)) (nI (72 + i)) ∧ vX5_manyHeld_c5 M n (nI (sHeld x i)) (nI (72 + i)) = nI (sHeld x 10)
  | 0, i, h1, h2 => by omega
  | n + 1, i, h1, h2 => by
    have h8 := w.1
    unfold kX5_manyHeld_c5 vX5_manyHeld_c5 kX5_manyHeld_c26 vX5_manyHeld_c26
    by_cases h : 10 ≤ i
    · have e : i = 10 := by omega
      subst e
      have c : (82 : Int32) ≤ nI (72 + 10) := by decide
      rw [if_pos c]
      exact ⟨⟨fun _ => trivial, fun q => absurd c q⟩, rfl⟩
    · have c : ¬ (82 : Int32) ≤ nI (72 + i) := by rw [nz, n_le (by omega) (by omega)]; omega
      have ih := M_held_L r w n (i + 1) (by omega) (by omega)
      have ei : nI (72 + i) + (1 : Int32) = nI (72 + (i + 1)) := by rw [nz, nI_add, Nat.add_assoc]
      have es : sHeld x (i + 1) = if a_spots x i = -1 then sHeld x i else sHeld x i + 1 := rfl
      have ev : m_m M (nI (72 + i)).toNatClampNeg = a_spots x i := by rw [n_cl (by omega)]; exact r.2.2.2.2.2.2 i (by omega)
      have hin : vp_in (nI (72 + i)) 82 := n_in (by omega) (by omega)
      rw [if_neg c, ei, ev]
      rw [es] at ih
      rcases w.2.2.2.2.2.2 i (by omega) with q | ⟨t, ht, q⟩
      · rw [if_pos q] at ih
        have q1 : a_spots x i < 0 := by rw [q]; decide
        rw [if_pos q1, Int32.add_zero]
        exact ⟨⟨fun q => absurd q c, fun _ => ⟨hin, fun _ => ih.1, fun g => absurd q1 g⟩⟩, ih.2⟩
      · have q0 : ¬ a_spots x i < 0 := by
          rw [q]; exact nI_pos (by omega)
        have q1 : ¬ a_spots x i = -1 := by
          intro e; rw [e] at q0; exact q0 (by decide)
        rw [if_neg q1] at ih
        have e3 : nI (sHeld x i) + (1 : Int32) = nI (sHeld x i + 1) := by rw [nz, nI_add]
        rw [if_neg q0, e3]
        exact ⟨⟨fun q => absurd q c, fun _ => ⟨hin, fun g => absurd g q0, fun _ => ih.1⟩⟩, ih.2⟩
section PG
variable {J : JS} {M : MS}
theorem meet_eq {x : AS} {E : ES} (rE : RpE x E) (rM : RpM x (m_m M)) : vX0_offersMeet E = vX5_doMeet M := by
  have e5 : e_home E ((5 : Int32)).toNatClampNeg = m_m M ((8 : Int32)).toNatClampNeg := (rE.2.2.2.1 5 (by omega)).trans (rM.2.2.2.1 5 (by omega)).symm
  have e6 : e_home E ((6 : Int32)).toNatClampNeg = m_m M ((9 : Int32)).toNatClampNeg := (rE.2.2.2.1 6 (by omega)).trans (rM.2.2.2.1 6 (by omega)).symm
  unfold vX0_offersMeet vX5_doMeet
  rw [e5, e6]
theorem P_now (h : Rel J M) (p : Int32) : OK (kX4_now J p) (kX5_now M p) (vX4_now J p) (vX5_now M p) := by
  unfold kX4_now kX5_now vX4_now vX5_now
  obtain ⟨x, rE, rM, w⟩ := id h.1
  have aE := E_awarded rE w
  have aM := M_awarded rM w
  have hb10 : ∀ t, t < a_things x → sTold x t 10 ≤ 9999 := fun t ht => Nat.le_trans (sWorse_le w ht) (by omega)
  have hb11 : ∀ t, t < a_things x → sTold x t 11 ≤ 9999 := fun t ht => Nat.le_trans (sAward_le w ht) (by omega)
  have s6 := E_sum rE w (u := 6) (by omega)
  have s8 := E_sum rE w (u := 8) (by omega)
  have c6 := M_claims rM w
  have c8 := M_allWorth rM w
  have w10 := E_with rE w (u := 10) (by omega) hb10
  have w11 := E_with rE w (u := 11) (by omega) hb11
  have o10 := M_worseOnes rM w hb10
  have o11 := M_awardedOnes rM w hb11
  refine OK_ite Iff.rfl (fun _ => OK_rd h trivial trivial ?_) (fun _ => OK_ite Iff.rfl (fun _ => OK_rd h ⟨aE.1, trivial⟩ ⟨aM.1, trivial⟩ ?_) (fun _ => OK_ite Iff.rfl (fun _ => OK_rd h ⟨aE.1, trivial⟩ ⟨aM.1, trivial⟩ ?_) (fun _ => OK_ite Iff.rfl (fun _ => OK_rd h ⟨s6.1, trivial⟩ ⟨c6.1, trivial⟩ ?_) (fun _ => OK_ite Iff.rfl (fun _ => OK_rd h ⟨w10.1, trivial⟩ ⟨o10.1, trivial⟩ ?_) (fun _ => OK_ite Iff.rfl (fun _ => OK_rd h ⟨w11.1, trivial⟩ ⟨o11.1, trivial⟩ ?_) (fun _ => OK_ite Iff.rfl (fun _ => OK_rd h ⟨s8.1, trivial⟩ ⟨c8.1, trivial⟩ ?_) (fun _ => OK_ite Iff.rfl (fun _ => ?_) (fun _ => (tell0 h).t))))))))
  · exact rE.2.1.trans rM.2.1.symm
  · rw [aE.2, aM.2]
  · rw [aE.2, aM.2]
    have e0 : e_home (j_E J) ((0 : Int32)).toNatClampNeg = m_m M ((3 : Int32)).toNatClampNeg := (rE.2.2.2.1 0 (by omega)).trans (rM.2.2.2.1 0 (by omega)).symm
    rw [e0]
  · exact s6.2.trans c6.2.symm
  · exact w10.2.trans o10.2.symm
  · exact w11.2.trans o11.2.symm
  · exact s8.2.trans c8.2.symm
  · rw [meet_eq rE rM]
    by_cases c : vX5_doMeet M = 0
    · rw [if_pos c, if_pos c]; exact ⟨trivial, trivial, rfl, h⟩
    · rw [if_neg c, if_neg c]; exact ⟨trivial, trivial, rfl, h⟩
theorem P_count (h : Rel J M) (p : Int32) : OK (kX4_count J p) (kX5_count M p) (vX4_count J p) (vX5_count M p) := by
  unfold kX4_count kX5_count vX4_count vX5_count
  obtain ⟨x, rE, rM, w⟩ := id h.1
  have aE := E_awarded rE w
  have aM := M_awarded rM w
  have s6 := E_sum rE w (u := 6) (by omega)
  have c6 := M_claims rM w
  have hE := E_held_L rE 1024 0 (by omega) (by omega)
  have hM := M_held_L rM w 1024 0 (by omega) (by omega)
  refine OK_ite Iff.rfl (fun _ => OK_rd h trivial trivial ?_) (fun _ => OK_ite Iff.rfl (fun _ => OK_rd h trivial trivial ?_) (fun _ => OK_ite Iff.rfl (fun _ => OK_rd h trivial trivial ?_) (fun _ => OK_ite Iff.rfl (fun _ => OK_rd h ⟨aE.1, trivial⟩ ⟨aM.1, trivial⟩ ?_) (fun _ => OK_ite Iff.rfl (fun _ => OK_rd h ⟨s6.1, trivial⟩ ⟨c6.1, trivial⟩ ?_) (fun _ => OK_ite Iff.rfl (fun _ => OK_rd h trivial trivial ?_) (fun _ => OK_ite Iff.rfl (fun _ => OK_rd h trivial trivial ?_) (fun _ => OK_ite Iff.rfl (fun _ => OK_rd h ⟨hE.1, trivial⟩ ⟨hM.1, trivial⟩ ?_) (fun _ => (tell0 h).t))))))))
  · exact rE.2.1.trans rM.2.1.symm
  · exact rE.1.trans rM.1.symm
  · exact (rE.2.2.2.1 0 (by omega)).trans (rM.2.2.2.1 0 (by omega)).symm
  · rw [aE.2, aM.2]
  · exact s6.2.trans c6.2.symm
  · obtain ⟨n, hn, e1, e2, -⟩ := h.2.2.2.1
    exact e1.trans e2.symm
  · exact rE.2.2.1.trans rM.2.2.1.symm
  · exact hE.2.trans hM.2.symm
theorem P_wipe (h : Rel J M) : OK True True (vX4_wipe J) (vX5_wipe M) := by
  obtain ⟨n, hn, e1, e2, -⟩ := id h.2.2.2.1
  exact ⟨trivial, trivial, e1.trans e2.symm, h.1, h.2.1, h.2.2.1, ⟨0, by omega, rfl, rfl, fun i hi => absurd hi (Nat.not_lt_zero i)⟩, h.2.2.2.2⟩
end PG
