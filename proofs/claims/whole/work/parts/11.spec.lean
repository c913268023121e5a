-- PURE LEVEL: numbers as naturals, the spec, both sides against it
theorem nz (n : Nat) : (OfNat.ofNat n : Int32) = nI (OfNat.ofNat n) := id rfl
theorem n_lt {a b : Nat} (ha : a < 2147483648) (hb : b < 2147483648) : (nI a < nI b) = (a < b) := propext (nI_ltI ha hb)
theorem n_le {a b : Nat} (ha : a < 2147483648) (hb : b < 2147483648) : (nI a ≤ nI b) = (a ≤ b) := propext (nI_leI ha hb)
theorem n_eq {a b : Nat} (ha : a < 2147483648) (hb : b < 2147483648) : (nI a = nI b) = (a = b) := propext (nI_eq ha hb)
theorem n_cl {n : Nat} (h : n < 2147483648) : (nI n).toNatClampNeg = n := nI_clamp h
theorem n_sub {a b : Nat} (h : b ≤ a) : nI a - nI b = nI (a - b) := pk_sub h
theorem n_div {a d : Nat} (ha : a < 2147483648) (h0 : 0 < d) (hd : d < 2147483648) : nI a / nI d = nI (a / d) := pk_div ha h0 hd
theorem n_rem {a d : Nat} (ha : a < 2147483648) (h0 : 0 < d) (hd : d < 2147483648) : jrem (nI a) (nI d) = nI (a % d) := pk_rem ha h0 hd
theorem n_in {n N : Nat} (h : n < N) (hN : N < 2147483648) : vp_in (nI n) N := vp_in_nI h hN
theorem n_max {a b : Nat} (ha : a < 2147483648) (hb : b < 2147483648) : jmax (nI a) (nI b) = nI (max a b) := by
  unfold jmax
  simp only [n_lt ha hb]
  by_cases h : a < b
  · rw [if_pos h, Nat.max_eq_right (Nat.le_of_lt h)]
  · rw [if_neg h, Nat.max_eq_left (Nat.not_lt.mp h)]
theorem n_min {a b : Nat} (ha : a < 2147483648) (hb : b < 2147483648) : jmin (nI a) (nI b) = nI (min a b) := by
  unfold jmin
  simp only [n_lt hb ha]
  by_cases h : b < a
  · rw [if_pos h, Nat.min_eq_right (Nat.le_of_lt h)]
  · rw [if_neg h, Nat.min_eq_left (Nat.not_lt.mp h)]
/-- a difference that is below 0 -/
theorem n_neg {a b : Nat} (hb : b < 1073741824) (h : a < b) : nI a - nI b < nI 0 := pk_sneg hb h
theorem n_ssub (a b c : Nat) : nI a - nI b - nI c = nI a - nI (b + c) := by
  rw [← nI_add]
  exact Int32.sub_sub ..
theorem n_cut {a b : Nat} (ha : a < 1073741824) (hb : b < 1073741824) : jmax (nI 0) (nI a - nI b) = nI (a - b) := by
  by_cases h : b ≤ a
  · rw [n_sub h, n_max (by omega) (by omega), Nat.max_eq_right (Nat.zero_le _)]
  · have h1 := n_neg hb (Nat.not_le.mp h)
    unfold jmax
    rw [if_neg (fun h2 => absurd h1 (Int32.lt_asymm h2)), show a - b = 0 by omega]
theorem n_cut2 {a b : Nat} (ha : a < 1073741824) (hb : b < 1073741824) : (if nI 0 ≤ nI a - nI b then nI a - nI b else nI 0) = nI (a - b) := by
  by_cases h : b ≤ a
  · rw [n_sub h, if_pos (by rw [n_le (by omega) (by omega)]; omega)]
  · have h1 := n_neg hb (Nat.not_le.mp h)
    rw [if_neg (fun h2 => absurd h1 (Int32.not_lt.mpr h2)), show a - b = 0 by omega]
-- the spec of a thing
def sLives (k p : Nat) : Nat := if k = 1 then 400 else if k = 2 then 1000 else if k = 3 then 200 else if k = 4 then 200 + p else if k = 5 then 300 else if k = 6 then 200 else 500
def sShare (w a l : Nat) : Nat := w * (l - a) / l
def sWorth (k p a : Nat) : Nat := if k = 1 then min p (max 20 (sShare p a (sLives k p))) else if k = 2 then p else if k = 3 then sShare (p / 2) a (sLives k p) else if k = 4 then sShare (p / 2) a (sLives k p) + 50 else if k = 5 then sShare p a (sLives k p) else if k = 6 then min p (max 20 (sShare p a (sLives k p))) else sShare p a (sLives k p)
def sFair (k d n : Nat) : Nat := if k = 1 then d / 20 + n else if k = 2 then d / 50 else if k = 3 then d / 50 + 3 else if k = 4 then 0 else if k = 5 then (if d < 100 then d / 20 else 99) else if k = 6 then 2 * (d / 20 + n) else d / 20
def sHurt (k f n : Nat) : Nat := if k = 1 then (if f ≤ 0 then 0 else 5 * f + n) else if k = 2 then f else if k = 3 then 2 * f else if k = 4 then (if f ≤ 0 then 0 else 2 * f + 10) else if k = 5 then (if f < 5 then 0 else 99) else if k = 6 then (if f ≤ 0 then 0 else 5 * f + n) else 5 * f
theorem sLives_le {k p : Nat} (hp : p ≤ 999) : 0 < sLives k p ∧ sLives k p ≤ 1199 := by
  unfold sLives
  split <;> (try split) <;> (try split) <;> (try split) <;> (try split) <;> (try split) <;> omega
theorem sShare_le {w a l : Nat} (hl : 0 < l) : sShare w a l ≤ w := by
  unfold sShare
  have h : w * (l - a) ≤ w * l := Nat.mul_le_mul_left w (Nat.sub_le l a)
  exact Nat.div_le_of_le_mul (by rw [Nat.mul_comm l w]; exact h)
theorem sWorth_le {k p a : Nat} (hp : p ≤ 999) : sWorth k p a ≤ 999 := by
  have h0 := (sLives_le (k := k) hp).1
  have h1 := sShare_le (w := p) (a := a) h0
  have h2 := sShare_le (w := p / 2) (a := a) h0
  unfold sWorth
  split <;> (try split) <;> (try split) <;> (try split) <;> (try split) <;> (try split) <;> omega
theorem vlives {k p : Nat} (hk : k ≤ 6) : vX1_lives (nI k) (nI p) = nI (sLives k p) := by
  unfold vX1_lives sLives
  simp (disch := omega) only [nz, n_eq, nI_add]
  repeat' (split <;> (try rfl))
theorem vshare {w a l : Nat} (hw : w ≤ 999) (ha : a ≤ 9999) (hl : 0 < l) (hl2 : l ≤ 1199) : vX1_shareLeft (nI w) (nI a) (nI l) = nI (sShare w a l) := by
  unfold vX1_shareLeft sShare
  have h : w * (l - a) ≤ 999 * 1199 := Nat.mul_le_mul hw (by omega)
  rw [if_neg (by rw [nz, n_le (by omega) (by omega)]; omega), nz, n_cut (by omega) (by omega), pk_mul, n_div (by omega) hl (by omega)]
theorem kshare {w a : Int32} {l : Nat} (hl : 0 < l) (hl2 : l ≤ 1199) : kX1_shareLeft w a (nI l) := by
  refine ⟨fun _ => trivial, fun _ => ⟨?_, trivial⟩⟩
  rw [nz, n_eq (by omega) (by omega)]; omega

theorem vworth {k p a : Nat} (hk : k ≤ 6) (hp : p ≤ 999) (ha : a ≤ 9999) : vX1_worth (nI k) (nI p) (nI a) = nI (sWorth k p a) := by
  have h0 := sLives_le (k := k) hp
  have h1 := sShare_le (w := p) (a := a) h0.1
  have h2 := sShare_le (w := p / 2) (a := a) h0.1
  unfold vX1_worth sWorth vX1_worth_c44 vX1_worth_c83
  simp (disch := omega) only [nz, n_eq, vlives hk, n_div, vshare, n_max, n_min, nI_add]
  repeat' (split <;> (try rfl))
theorem kworth {k p a : Nat} (hk : k ≤ 6) (hp : p ≤ 999) : kX1_worth (nI k) (nI p) (nI a) := by
  have h0 := sLives_le (k := k) hp
  unfold kX1_worth kX1_worth_c44 kX1_worth_c83
  simp only [vlives hk, kshare h0.1 h0.2]
  simp
theorem vfair {k d n : Nat} (hk : k ≤ 6) (hd : d ≤ 9999) (hn : n ≤ 9) : vX1_fair (nI k) (nI d) (nI n) = nI (sFair k d n) := by
  unfold vX1_fair sFair
  simp (disch := omega) only [nz, n_eq, n_div, n_lt, nI_add, pk_mul]
  repeat' (split <;> (try rfl))
theorem vhurt {k f n : Nat} (hk : k ≤ 6) (hf : f ≤ 9) (hn : n ≤ 9) : vX1_hurt (nI k) (nI f) (nI n) = nI (sHurt k f n) := by
  unfold vX1_hurt vX1_hurt_c40 sHurt
  simp (disch := omega) only [nz, n_eq, n_le, n_lt, nI_add, pk_mul]
  repeat' (split <;> (try rfl))
theorem sFair_le {k d n : Nat} (hd : d ≤ 9999) (hn : n ≤ 9) : sFair k d n ≤ 1020 := by
  unfold sFair
  split <;> (try split) <;> (try split) <;> (try split) <;> (try split) <;> (try split) <;> omega
theorem sHurt_le {k f n : Nat} (hf : f ≤ 9) (hn : n ≤ 9) : sHurt k f n ≤ 99 := by
  unfold sHurt
  split <;> (try split) <;> (try split) <;> (try split) <;> (try split) <;> (try split) <;> (try split) <;> (try split) <;> omega
-- the abstract estate: home, list, traits, how many things, day, z, spots
abbrev AS : Type := (Nat → Nat) × (Nat → Nat) × (Nat → Nat → Nat) × Nat × Nat × Int32 × (Nat → Int32)
def a_home (x : AS) : Nat → Nat := x.1
def a_list (x : AS) : Nat → Nat := x.2.1
def a_tr (x : AS) : Nat → Nat → Nat := x.2.2.1
def a_things (x : AS) : Nat := x.2.2.2.1
def a_day (x : AS) : Nat := x.2.2.2.2.1
def a_z (x : AS) : Int32 := x.2.2.2.2.2.1
def a_spots (x : AS) : Nat → Int32 := x.2.2.2.2.2.2
def a_s_home (x : AS) (v : Nat → Nat) : AS := (v, x.2.1, x.2.2.1, x.2.2.2.1, x.2.2.2.2.1, x.2.2.2.2.2.1, x.2.2.2.2.2.2)
def a_s_list (x : AS) (v : Nat → Nat) : AS := (x.1, v, x.2.2.1, x.2.2.2.1, x.2.2.2.2.1, x.2.2.2.2.2.1, x.2.2.2.2.2.2)
def a_s_tr (x : AS) (v : Nat → Nat → Nat) : AS := (x.1, x.2.1, v, x.2.2.2.1, x.2.2.2.2.1, x.2.2.2.2.2.1, x.2.2.2.2.2.2)
def a_s_things (x : AS) (v : Nat) : AS := (x.1, x.2.1, x.2.2.1, v, x.2.2.2.2.1, x.2.2.2.2.2.1, x.2.2.2.2.2.2)
def a_s_day (x : AS) (v : Nat) : AS := (x.1, x.2.1, x.2.2.1, x.2.2.2.1, v, x.2.2.2.2.2.1, x.2.2.2.2.2.2)
def a_s_z (x : AS) (v : Int32) : AS := (x.1, x.2.1, x.2.2.1, x.2.2.2.1, x.2.2.2.2.1, v, x.2.2.2.2.2.2)
def a_s_spots (x : AS) (v : Nat → Int32) : AS := (x.1, x.2.1, x.2.2.1, x.2.2.2.1, x.2.2.2.2.1, x.2.2.2.2.2.1, v)
def RpE (x : AS) (E : ES) : Prop := e_things E = nI (a_things x) ∧ e_day E = nI (a_day x) ∧ e_z E = a_z x ∧ (∀ i, i < 7 → e_home E i = nI (a_home x i)) ∧ (∀ i, i < 6 → e_list E i = nI (a_list x i)) ∧ (∀ t, t < a_things x → ∀ w, w < 7 → e_traits E (7 * t + w) = nI (a_tr x t w)) ∧ (∀ i, i < 10 → e_spots E i = a_spots x i)
def RpM (x : AS) (m : FA) : Prop := m 2 = nI (a_things x) ∧ m 0 = nI (a_day x) ∧ m 1 = a_z x ∧ (∀ i, i < 7 → m (3 + i) = nI (a_home x i)) ∧ (∀ i, i < 6 → m (10 + i) = nI (a_list x i)) ∧ (∀ t, t < a_things x → ∀ w, w < 7 → m (16 + 7 * t + w) = nI (a_tr x t w)) ∧ (∀ i, i < 10 → m (72 + i) = a_spots x i)
def hMost (i : Nat) : Nat := if i = 1 then 9 else if i = 2 then 1 else if i = 3 then 1 else if i = 4 then 2 else 9999
def tMost (w : Nat) : Nat := if w = 0 then 6 else if w = 1 then 999 else if w = 2 then 9999 else if w = 3 then 99 else if w = 4 then 99 else if w = 5 then 9999 else 999
def WF (x : AS) : Prop := a_things x ≤ 8 ∧ a_day x ≤ 99999 ∧ (∀ i, i < 7 → a_home x i ≤ hMost i) ∧ 1 ≤ a_home x 1 ∧ (∀ i, i < 6 → a_list x i < 80) ∧ (∀ t, t < a_things x → ∀ w, w < 7 → a_tr x t w ≤ tMost w) ∧ (∀ i, i < 10 → a_spots x i = -1 ∨ ∃ t, t < a_things x ∧ a_spots x i = nI t)
theorem WF.h {x : AS} (w : WF x) : a_home x 0 ≤ 9999 ∧ a_home x 1 ≤ 9 ∧ a_home x 2 ≤ 1 ∧ a_home x 3 ≤ 1 ∧ a_home x 4 ≤ 2 ∧ a_home x 5 ≤ 9999 ∧ a_home x 6 ≤ 9999 := by
  have h := w.2.2.1
  exact ⟨h 0 (by omega), h 1 (by omega), h 2 (by omega), h 3 (by omega), h 4 (by omega), h 5 (by omega), h 6 (by omega)⟩
theorem WF.t {x : AS} (w : WF x) {t : Nat} (ht : t < a_things x) : a_tr x t 0 ≤ 6 ∧ a_tr x t 1 ≤ 999 ∧ a_tr x t 2 ≤ 9999 ∧ a_tr x t 3 ≤ 99 ∧ a_tr x t 4 ≤ 99 ∧ a_tr x t 5 ≤ 9999 ∧ a_tr x t 6 ≤ 999 := by
  have h := w.2.2.2.2.2.1 t ht
  exact ⟨h 0 (by omega), h 1 (by omega), h 2 (by omega), h 3 (by omega), h 4 (by omega), h 5 (by omega), h 6 (by omega)⟩
def sFairT (x : AS) (t : Nat) : Nat := sFair (a_tr x t 0) (a_tr x t 5) (a_home x 1)
def sWorseT (x : AS) (t : Nat) : Nat := a_tr x t 3 - (a_tr x t 4 + sFairT x t)
def sWorthT (x : AS) (t : Nat) : Nat := sWorth (a_tr x t 0) (a_tr x t 1) (a_tr x t 2)
def sHurtT (x : AS) (t f : Nat) : Nat := sHurt (a_tr x t 0) f (a_home x 1)
def sAwardOf (x : AS) (worth worse claim : Nat) : Nat := if a_home x 2 = 0 ∨ (a_home x 3 = 0 ∧ a_home x 4 ≠ 1) ∨ a_home x 4 = 2 then 0 else if a_home x 4 = 1 then min claim worth else min (min claim worth) (worth * worse / 100)
def sAward (x : AS) (t : Nat) : Nat := sAwardOf x (sWorthT x t) (sWorseT x t) (a_tr x t 6)
def sSum (f : Nat → Nat) : Nat → Nat
  | 0 => 0
  | n + 1 => sSum f n + f n
def sMeet (x : AS) : Prop := 0 < a_home x 5 ∧ a_home x 5 ≤ a_home x 6
def sAwardedOf (x : AS) (n : Nat) : Nat := min (if 0 < a_home x 5 ∧ a_home x 5 ≤ a_home x 6 then (a_home x 5 + a_home x 6) / 2 else n) (a_home x 0)
def sAwarded (x : AS) : Nat := sAwardedOf x (sSum (sAward x) (a_things x))
section SE
variable {x : AS} {E : ES}
theorem E_h (r : RpE x E) (i : Nat) (hi : i < 7) : e_home E (nI i).toNatClampNeg = nI (a_home x i) := by
  rw [n_cl (by omega)]; exact r.2.2.2.1 i hi
theorem E_trait (r : RpE x E) (w : WF x) {t u : Nat} (ht : t < a_things x) (hu : u < 7) : vX0_trait E (nI t) (nI u) = nI (a_tr x t u) := by
  have h8 := w.1
  unfold vX0_trait
  rw [nz, pk_mul, nI_add, n_cl (by omega), Nat.mul_comm t]
  exact r.2.2.2.2.2.1 t ht u hu
theorem E_traitk (w : WF x) {t u : Nat} (ht : t < a_things x) (hu : u < 7) : kX0_trait E (nI t) (nI u) := by
  have h8 := w.1
  unfold kX0_trait
  rw [nz, pk_mul, nI_add]
  exact ⟨n_in (by omega) (by omega), trivial⟩
theorem E_fair (r : RpE x E) (w : WF x) {t : Nat} (ht : t < a_things x) : vX0_fair E (nI t) = nI (sFairT x t) := by
  have hb := w.t ht
  have hh := w.h
  unfold vX0_fair sFairT
  simp only [nz, E_trait r w ht (by decide : 0 < 7), E_trait r w ht (by decide : 5 < 7), E_h r 1 (by omega)]
  rw [vfair (by omega) (by omega) (by omega)]
theorem E_fairk (w : WF x) {t : Nat} (ht : t < a_things x) : kX0_fair E (nI t) := ⟨E_traitk w ht (by decide : 0 < 7), E_traitk w ht (by decide : 5 < 7), trivial⟩
theorem E_worse (r : RpE x E) (w : WF x) {t : Nat} (ht : t < a_things x) : vX0_worse E (nI t) = nI (sWorseT x t) := by
  have hb := w.t ht
  have hh := w.h
  have hf : sFairT x t ≤ 1020 := sFair_le (by omega) (by omega)
  unfold vX0_worse sWorseT
  simp only [nz, E_trait r w ht (by decide : 3 < 7), E_trait r w ht (by decide : 4 < 7), E_fair r w ht]
  rw [n_ssub, n_cut (by omega) (by omega)]
theorem E_worsek (w : WF x) {t : Nat} (ht : t < a_things x) : kX0_worse E (nI t) := ⟨E_traitk w ht (by decide : 3 < 7), E_traitk w ht (by decide : 4 < 7), E_fairk w ht, trivial⟩
theorem E_awardOf (r : RpE x E) (w : WF x) {a b c : Nat} (ha : a ≤ 999) (hb : b ≤ 99) (hc : c ≤ 999) : vX0_awardOf E (nI a) (nI b) (nI c) = nI (sAwardOf x a b c) := by
  have hh := w.h
  have hm : a * b ≤ 999 * 99 := Nat.mul_le_mul ha hb
  unfold vX0_awardOf vX0_awardOf_c27 vX0_awardOf_c28 sAwardOf
  simp only [nz, E_h r 2 (by omega), E_h r 3 (by omega), E_h r 4 (by omega)]
  simp (disch := omega) only [n_eq, n_min, pk_mul, n_div]
  by_cases h2 : a_home x 2 = 0 <;> by_cases h3 : a_home x 3 = 0 <;> by_cases h41 : a_home x 4 = 1 <;> by_cases h42 : a_home x 4 = 2 <;> simp [h2, h3, h41, h42] <;> omega
theorem sWorse_le (w : WF x) {t : Nat} (ht : t < a_things x) : sWorseT x t ≤ 99 := by
  have hb := w.t ht
  unfold sWorseT; omega
theorem E_worth (r : RpE x E) (w : WF x) {t : Nat} (ht : t < a_things x) : vX0_worth E (nI t) = nI (sWorthT x t) := by
  have hb := w.t ht
  unfold vX0_worth sWorthT
  simp only [nz, E_trait r w ht (by decide : 0 < 7), E_trait r w ht (by decide : 1 < 7), E_trait r w ht (by decide : 2 < 7)]
  rw [vworth (by omega) (by omega) (by omega)]
theorem E_award (r : RpE x E) (w : WF x) {t : Nat} (ht : t < a_things x) : vX0_award E (nI t) = nI (sAward x t) := by
  have hb := w.t ht
  unfold vX0_award sAward
  simp only [nz, E_trait r w ht (by decide : 0 < 7), E_trait r w ht (by decide : 1 < 7), E_trait r w ht (by decide : 2 < 7), E_trait r w ht (by decide : 6 < 7), E_worse r w ht]
  rw [vworth (by omega) (by omega) (by omega)]
  exact E_awardOf r w (sWorth_le (by omega)) (sWorse_le w ht) (by omega)
theorem E_awardk (r : RpE x E) (w : WF x) {t : Nat} (ht : t < a_things x) : kX0_award E (nI t) := by
  have hb := w.t ht
  unfold kX0_award
  simp only [nz, E_trait r w ht (by decide : 0 < 7), E_trait r w ht (by decide : 1 < 7), E_trait r w ht (by decide : 2 < 7)]
  exact ⟨E_traitk w ht (by decide), E_traitk w ht (by decide), E_traitk w ht (by decide), kworth (by omega) (by omega), E_worsek w ht, E_traitk w ht (by decide), trivial⟩
theorem sAwardOf_le (x : AS) (a b c : Nat) : sAwardOf x a b c ≤ c := by
  unfold sAwardOf
  split
  · exact Nat.zero_le _
  · split <;> omega
theorem sAward_le (w : WF x) {t : Nat} (ht : t < a_things x) : sAward x t ≤ 999 := Nat.le_trans (sAwardOf_le _ _ _ _) (by have := w.t ht; omega)
theorem sSum_le {f : Nat → Nat} {c : Nat} : ∀ {n : Nat}, (∀ t, t < n → f t ≤ c) → sSum f n ≤ n * c
  | 0, _ => by simp [sSum]
  | n + 1, h => by
    have h1 := sSum_le (n := n) (fun t ht => h t (by omega))
    have h2 := h n (by omega)
    rw [sSum, Nat.succ_mul]; omega
theorem E_awardedOf (r : RpE x E) (w : WF x) {n : Nat} (hn : n ≤ 9999999) : vX0_awardedOf E (nI n) = nI (sAwardedOf x n) := by
  have hh := w.h
  unfold vX0_awardedOf vX0_awardedOf_c27 vX0_offersMeet sAwardedOf
  simp only [nz, E_h r 0 (by omega), E_h r 5 (by omega), E_h r 6 (by omega)]
  simp (disch := omega) only [n_le, n_lt, nI_add, n_div, n_min]
  by_cases h5 : a_home x 5 ≤ 0
  · simp (disch := omega) only [h5, if_true, n_eq]
    simp [show ¬ 0 < a_home x 5 by omega]
  · by_cases h6 : a_home x 6 < a_home x 5
    · simp (disch := omega) only [h5, h6, if_true, if_false, n_eq]
      simp [show ¬ a_home x 5 ≤ a_home x 6 by omega]
    · simp (disch := omega) only [h5, h6, if_false, n_eq]
      simp [show a_home x 5 ≤ a_home x 6 by omega, show 0 < a_home x 5 by omega]
theorem E_awarded_L (r : RpE x E) (w : WF x) : ∀ (n t : Nat), t ≤ a_things x → a_things x < t + n → kX0_awarded_c4 E n (nI (sSum (sAward x) t)) (nI t) ∧ vX0_awarded_c4 E n (nI (sSum (sAward x) t)) (nI t) = nI (sAwarded x)
  | 0, t, h1, h2 => by omega
  | n + 1, t, h1, h2 => by
    have h8 := w.1
    have hs : sSum (sAward x) t ≤ t * 999 := sSum_le (fun u hu => sAward_le w (by omega))
    have hs2 : t * 999 ≤ 8 * 999 := Nat.mul_le_mul_right _ (by omega)
    unfold kX0_awarded_c4 vX0_awarded_c4
    simp (disch := omega) only [r.1, n_le]
    by_cases h : a_things x ≤ t
    · have e : t = a_things x := by omega
      subst e
      simp only [Nat.le_refl, if_true, not_true_eq_false, false_implies, and_true, implies_true, true_and]
      exact E_awardedOf r w (by omega)
    · have ht : t < a_things x := by omega
      have ih := E_awarded_L r w n (t + 1) (by omega) (by omega)
      simp only [h, if_false, not_false_eq_true, true_implies, false_implies, true_and, E_award r w ht, E_awardk r w ht, nz, nI_add]
      exact ih
theorem E_awarded (r : RpE x E) (w : WF x) : kX0_awarded E ∧ vX0_awarded E = nI (sAwarded x) := E_awarded_L r w 1024 0 (Nat.zero_le _) (by have := w.1; omega)
end SE
