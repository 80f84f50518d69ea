/-! the analysis over naturals: p the periods (0: a free slot), d deadlines, c costs, b blockings -/
abbrev rm_hi (p : Nat → Nat) (a b : Nat) : Prop := p a < p b ∨ (p a = p b ∧ a < b)
def rm_S (p c : Nat → Nat) (i r : Nat) : Nat → Nat
  | 0 => 0
  | n + 1 => if 0 < p n ∧ rm_hi p n i then rm_S p c i r n + (r + p n - 1) / p n * c n else rm_S p c i r n
def rm_T (p b : Nat → Nat) (i : Nat) : Nat → Nat
  | 0 => 0
  | n + 1 => if (0 < p n ∧ rm_hi p i n) ∧ rm_T p b i n < b n then b n else rm_T p b i n
theorem rm_S_t {p c : Nat → Nat} {i r n : Nat} (h : 0 < p n ∧ rm_hi p n i) : rm_S p c i r (n + 1) = rm_S p c i r n + (r + p n - 1) / p n * c n := by
  rw [rm_S, if_pos h]
theorem rm_S_f {p c : Nat → Nat} {i r n : Nat} (h : ¬ (0 < p n ∧ rm_hi p n i)) : rm_S p c i r (n + 1) = rm_S p c i r n := by
  rw [rm_S, if_neg h]
theorem rm_T_t {p b : Nat → Nat} {i n : Nat} (h : (0 < p n ∧ rm_hi p i n) ∧ rm_T p b i n < b n) : rm_T p b i (n + 1) = b n := by
  rw [rm_T, if_pos h]
theorem rm_T_f {p b : Nat → Nat} {i n : Nat} (h : ¬ ((0 < p n ∧ rm_hi p i n) ∧ rm_T p b i n < b n)) : rm_T p b i (n + 1) = rm_T p b i n := by
  rw [rm_T, if_neg h]
theorem rm_S_mono (p c : Nat → Nat) (i : Nat) {r s : Nat} (h : r ≤ s) : ∀ n, rm_S p c i r n ≤ rm_S p c i s n := by
  intro n
  induction n with
  | zero => exact Nat.le_refl _
  | succ n ih =>
    by_cases hc : 0 < p n ∧ rm_hi p n i
    · rw [rm_S_t hc, rm_S_t hc]
      exact Nat.add_le_add ih (Nat.mul_le_mul_right _ (Nat.div_le_div_right (by omega)))
    · rw [rm_S_f hc, rm_S_f hc]
      exact ih
theorem rm_hi_cg {p q : Nat → Nat} {a b : Nat} (ha : q a = p a) (hb : q b = p b) (h : rm_hi q a b) : rm_hi p a b := by
  rcases h with h | h
  · exact Or.inl (by omega)
  · exact Or.inr ⟨by omega, h.2⟩
theorem rm_S_le {p q : Nat → Nat} (c : Nat → Nat) {i : Nat} (r : Nat) (hq : ∀ j, q j = p j ∨ q j = 0) (hi : q i = p i) : ∀ n, rm_S q c i r n ≤ rm_S p c i r n := by
  intro n
  induction n with
  | zero => exact Nat.le_refl _
  | succ n ih =>
    by_cases h : 0 < q n ∧ rm_hi q n i
    · have h0 := h.1
      have e : q n = p n := by
        rcases hq n with e | e
        · exact e
        · omega
      have h2 : 0 < p n ∧ rm_hi p n i := ⟨by omega, rm_hi_cg e hi h.2⟩
      rw [rm_S_t h, rm_S_t h2, e]
      exact Nat.add_le_add_right ih _
    · rw [rm_S_f h]
      by_cases h2 : 0 < p n ∧ rm_hi p n i
      · rw [rm_S_t h2]
        exact Nat.le_trans ih (Nat.le_add_right _ _)
      · rw [rm_S_f h2]
        exact ih
theorem rm_T_up (p b : Nat → Nat) (i n : Nat) : rm_T p b i n ≤ rm_T p b i (n + 1) := by
  by_cases h : (0 < p n ∧ rm_hi p i n) ∧ rm_T p b i n < b n
  · rw [rm_T_t h]
    exact Nat.le_of_lt h.2
  · rw [rm_T_f h]
    exact Nat.le_refl _
theorem rm_T_le {p q : Nat → Nat} (b : Nat → Nat) {i : Nat} (hq : ∀ j, q j = p j ∨ q j = 0) (hi : q i = p i) : ∀ n, rm_T q b i n ≤ rm_T p b i n := by
  intro n
  induction n with
  | zero => exact Nat.le_refl _
  | succ n ih =>
    by_cases h : (0 < q n ∧ rm_hi q i n) ∧ rm_T q b i n < b n
    · have h0 := h.1.1
      have e : q n = p n := by
        rcases hq n with e | e
        · exact e
        · omega
      have h1 : 0 < p n ∧ rm_hi p i n := ⟨by omega, rm_hi_cg hi e h.1.2⟩
      rw [rm_T_t h]
      by_cases h2 : rm_T p b i n < b n
      · rw [rm_T_t ⟨h1, h2⟩]
        exact Nat.le_refl _
      · have h3 : ¬ ((0 < p n ∧ rm_hi p i n) ∧ rm_T p b i n < b n) := fun z => h2 z.2
        rw [rm_T_f h3]
        omega
    · rw [rm_T_f h]
      exact Nat.le_trans ih (rm_T_up p b i n)
theorem rm_T_255 {p b : Nat → Nat} (hb : ∀ j, b j ≤ 255) (i : Nat) : ∀ n, rm_T p b i n ≤ 255 := by
  intro n
  induction n with
  | zero => exact Nat.zero_le _
  | succ n ih =>
    by_cases h : (0 < p n ∧ rm_hi p i n) ∧ rm_T p b i n < b n
    · rw [rm_T_t h]
      exact hb n
    · rw [rm_T_f h]
      exact ih
theorem rm_q510 {r p : Nat} (hr : r ≤ 255) (hp : p ≤ 255) : (r + p - 1) / p ≤ 510 :=
  Nat.le_trans (Nat.div_le_self _ _) (by omega)
theorem rm_S_big {p c : Nat → Nat} (hp : ∀ j, p j ≤ 255) (hc : ∀ j, c j ≤ 255) (i : Nat) {r : Nat} (hr : r ≤ 255) : ∀ n, rm_S p c i r n ≤ n * 130050 := by
  intro n
  induction n with
  | zero => exact Nat.zero_le _
  | succ n ih =>
    by_cases h : 0 < p n ∧ rm_hi p n i
    · rw [rm_S_t h]
      have h1 : (r + p n - 1) / p n * c n ≤ 510 * 255 := Nat.mul_le_mul (rm_q510 hr (hp n)) (hc n)
      rw [Nat.succ_mul]
      exact Nat.add_le_add ih h1
    · rw [rm_S_f h, Nat.succ_mul]
      exact Nat.le_trans ih (Nat.le_add_right _ _)
theorem rm_S_cg {p c e : Nat → Nat} {i r : Nat} (h : ∀ j, 0 < p j → e j = c j) : ∀ n, rm_S p e i r n = rm_S p c i r n := by
  intro n
  induction n with
  | zero => rfl
  | succ n ih =>
    by_cases hc : 0 < p n ∧ rm_hi p n i
    · rw [rm_S_t hc, rm_S_t hc, ih, h n hc.1]
    · rw [rm_S_f hc, rm_S_f hc, ih]
theorem rm_T_cg {p b e : Nat → Nat} {i : Nat} (h : ∀ j, 0 < p j → e j = b j) : ∀ n, rm_T p e i n = rm_T p b i n := by
  intro n
  induction n with
  | zero => rfl
  | succ n ih =>
    by_cases hc : (0 < p n ∧ rm_hi p i n) ∧ rm_T p b i n < b n
    · have hc2 : (0 < p n ∧ rm_hi p i n) ∧ rm_T p e i n < e n := ⟨hc.1, by rw [ih, h n hc.1.1]; exact hc.2⟩
      rw [rm_T_t hc, rm_T_t hc2, h n hc.1.1]
    · have hc2 : ¬ ((0 < p n ∧ rm_hi p i n) ∧ rm_T p e i n < e n) := fun z => hc ⟨z.1, by have z2 := z.2; rw [ih, h n z.1.1] at z2; exact z2⟩
      rw [rm_T_f hc, rm_T_f hc2, ih]
/-- a slot that is free from m on adds nothing -/
theorem rm_S_end {p c : Nat → Nat} {i r m : Nat} (h : ∀ j, m ≤ j → p j = 0) : ∀ k, rm_S p c i r (m + k) = rm_S p c i r m := by
  intro k
  induction k with
  | zero => rfl
  | succ k ih =>
    have e : p (m + k) = 0 := h (m + k) (by omega)
    have hf : ¬ (0 < p (m + k) ∧ rm_hi p (m + k) i) := fun z => by
      have := z.1
      omega
    rw [← Nat.add_assoc, rm_S_f hf, ih]
theorem rm_T_end {p b : Nat → Nat} {i m : Nat} (h : ∀ j, m ≤ j → p j = 0) : ∀ k, rm_T p b i (m + k) = rm_T p b i m := by
  intro k
  induction k with
  | zero => rfl
  | succ k ih =>
    have e : p (m + k) = 0 := h (m + k) (by omega)
    have hf : ¬ ((0 < p (m + k) ∧ rm_hi p i (m + k)) ∧ rm_T p b i (m + k) < b (m + k)) := fun z => by
      have := z.1.1
      omega
    rw [← Nat.add_assoc, rm_T_f hf, ih]
def rm_F (p c b : Nat → Nat) (i r : Nat) : Nat := c i + rm_T p b i 8 + rm_S p c i r 8
/-- the first r of e candidates from r on with F r = r; 0: none -/
def rm_lb (F : Nat → Nat) : Nat → Nat → Nat
  | 0, _ => 0
  | e + 1, r => if F r = r then r else rm_lb F e (r + 1)
theorem rm_lb_y {F : Nat → Nat} {e r : Nat} (h : F r = r) : rm_lb F (e + 1) r = r := by
  rw [rm_lb, if_pos h]
theorem rm_lb_n {F : Nat → Nat} {e r : Nat} (h : ¬ F r = r) : rm_lb F (e + 1) r = rm_lb F e (r + 1) := by
  rw [rm_lb, if_neg h]
theorem rm_lb_lt (F : Nat → Nat) : ∀ e r, rm_lb F e r ≤ r + e := by
  intro e
  induction e with
  | zero => intro r; exact Nat.zero_le _
  | succ e ih =>
    intro r
    by_cases h : F r = r
    · rw [rm_lb_y h]
      omega
    · rw [rm_lb_n h]
      have := ih (r + 1)
      omega
theorem rm_lb_of {F : Nat → Nat} {s : Nat} (hs : F s = s) (h0 : 0 < s) : ∀ e r, 0 < r → r ≤ s → s < r + e → rm_lb F e r ≠ 0 := by
  intro e
  induction e with
  | zero => intro r _ h1 h2; omega
  | succ e ih =>
    intro r h h1 h2
    by_cases hr : F r = r
    · rw [rm_lb_y hr]
      omega
    · rw [rm_lb_n hr]
      refine ih (r + 1) (by omega) ?_ (by omega)
      by_cases e1 : r = s
      · subst e1
        exact absurd hs hr
      · omega
theorem rm_lb_has {F : Nat → Nat} : ∀ e r, rm_lb F e r ≠ 0 → ∃ s, r ≤ s ∧ s < r + e ∧ F s = s := by
  intro e
  induction e with
  | zero => intro r h; exact absurd rfl h
  | succ e ih =>
    intro r h
    by_cases hr : F r = r
    · exact ⟨r, Nat.le_refl _, by omega, hr⟩
    · rw [rm_lb_n hr] at h
      obtain ⟨s, h1, h2, h3⟩ := ih (r + 1) h
      exact ⟨s, by omega, by omega, h3⟩
/-- the least bound of slot i, 0: none -/
def rm_L (p d c b : Nat → Nat) (i : Nat) : Nat := rm_lb (rm_F p c b i) (d i) 1
theorem rm_L_le {p d c b : Nat → Nat} {i : Nat} (h : d i ≤ 255) : rm_L p d c b i ≤ 256 := by
  have := rm_lb_lt (rm_F p c b i) (d i) 1
  unfold rm_L
  omega
def rm_has (p d c b : Nat → Nat) (i : Nat) : Prop := ∃ r, 1 ≤ r ∧ r ≤ d i ∧ rm_F p c b i r = r
theorem rm_L_of {p d c b : Nat → Nat} {i : Nat} (h : rm_has p d c b i) : rm_L p d c b i ≠ 0 := by
  obtain ⟨r, h1, h2, h3⟩ := h
  exact rm_lb_of h3 (by omega) _ _ (by omega) h1 (by omega)
theorem rm_L_has {p d c b : Nat → Nat} {i : Nat} (h : rm_L p d c b i ≠ 0) : rm_has p d c b i := by
  obtain ⟨s, h1, h2, h3⟩ := rm_lb_has _ _ h
  exact ⟨s, h1, by omega, h3⟩
theorem rm_F_big {p c b : Nat → Nat} (hp : ∀ j, p j ≤ 255) (hc : ∀ j, c j ≤ 255) (hb : ∀ j, b j ≤ 255) (i : Nat) {r : Nat} (hr : r ≤ 255) : rm_F p c b i r ≤ 2000000 := by
  have h1 := rm_S_big hp hc i hr 8
  have h2 := rm_T_255 (p := p) hb i 8
  have h3 := hc i
  unfold rm_F
  omega
/-- what is left has a bound when a task goes -/
theorem rm_has_rm {p q d c b : Nat → Nat} {i : Nat} (hq : ∀ j, q j = p j ∨ q j = 0) (hi : q i = p i) (hc : 1 ≤ c i) (h : rm_has p d c b i) : rm_has q d c b i := by
  obtain ⟨R, h1, h2, h3⟩ := h
  have hle : ∀ r, rm_F q c b i r ≤ rm_F p c b i r := fun r =>
    Nat.add_le_add (Nat.add_le_add_left (rm_T_le b hq hi 8) _) (rm_S_le c r hq hi 8)
  have hmo : ∀ r s, r ≤ s → rm_F q c b i r ≤ rm_F q c b i s := fun r s hrs =>
    Nat.add_le_add_left (rm_S_mono q c i hrs 8) _
  have hpos : ∀ r, 1 ≤ rm_F q c b i r := fun r => by
    unfold rm_F
    omega
  obtain ⟨r, hr, hm⟩ := pk_least (fun r => 1 ≤ r ∧ rm_F q c b i r ≤ r) ⟨R, h1, by have := hle R; omega⟩
  have hrR : r ≤ R := by
    by_cases hlt : R < r
    · exact absurd ⟨h1, by have := hle R; omega⟩ (hm R hlt)
    · omega
  refine ⟨r, hr.1, by omega, ?_⟩
  by_cases hlt : rm_F q c b i r < r
  · exact absurd ⟨hpos r, hmo _ _ (Nat.le_of_lt hlt)⟩ (hm _ hlt)
  · have := hr.2
    omega
theorem rm_F_cg {p c e b f : Nat → Nat} {i r : Nat} (hi : 0 < p i) (hc : ∀ j, 0 < p j → e j = c j) (hb : ∀ j, 0 < p j → f j = b j) : rm_F p e f i r = rm_F p c b i r := by
  unfold rm_F
  rw [rm_S_cg hc, rm_T_cg hb, hc i hi]
theorem rm_L_cg {p d g c e b f : Nat → Nat} {i : Nat} (hi : 0 < p i) (hd : g i = d i) (hc : ∀ j, 0 < p j → e j = c j) (hb : ∀ j, 0 < p j → f j = b j) : rm_L p g e f i = rm_L p d c b i := by
  unfold rm_L
  rw [hd, show rm_F p e f i = rm_F p c b i from funext fun r => rm_F_cg hi hc hb]
theorem rm_L_rm {p q d c b : Nat → Nat} {i : Nat} (hq : ∀ j, q j = p j ∨ q j = 0) (hi : q i = p i) (hc : 1 ≤ c i) (h : rm_L p d c b i ≠ 0) : rm_L q d c b i ≠ 0 :=
  rm_L_of (rm_has_rm hq hi hc (rm_L_has h))
/-- the first free slot of e from i on -/
def rm_ff (p : Nat → Nat) : Nat → Nat → Option Nat
  | 0, _ => none
  | e + 1, i => if p i = 0 then some i else rm_ff p e (i + 1)
theorem rm_ff_y {p : Nat → Nat} {e i : Nat} (h : p i = 0) : rm_ff p (e + 1) i = some i := by
  rw [rm_ff, if_pos h]
theorem rm_ff_n {p : Nat → Nat} {e i : Nat} (h : ¬ p i = 0) : rm_ff p (e + 1) i = rm_ff p e (i + 1) := by
  rw [rm_ff, if_neg h]
theorem rm_ff_some {p : Nat → Nat} {k : Nat} : ∀ e i, rm_ff p e i = some k → i ≤ k ∧ k < i + e ∧ p k = 0 := by
  intro e
  induction e with
  | zero => intro i h; rw [rm_ff] at h; cases h
  | succ e ih =>
    intro i h
    by_cases h0 : p i = 0
    · rw [rm_ff_y h0] at h
      cases h
      exact ⟨Nat.le_refl _, by omega, h0⟩
    · rw [rm_ff_n h0] at h
      have := ih (i + 1) h
      exact ⟨by omega, by omega, this.2.2⟩
/-- how many slots below n are in use -/
def rm_ct (p : Nat → Nat) : Nat → Nat
  | 0 => 0
  | n + 1 => if 0 < p n then rm_ct p n + 1 else rm_ct p n
theorem rm_ct_y {p : Nat → Nat} {n : Nat} (h : 0 < p n) : rm_ct p (n + 1) = rm_ct p n + 1 := by
  rw [rm_ct, if_pos h]
theorem rm_ct_n {p : Nat → Nat} {n : Nat} (h : ¬ 0 < p n) : rm_ct p (n + 1) = rm_ct p n := by
  rw [rm_ct, if_neg h]
theorem rm_ct_end {p : Nat → Nat} {m : Nat} (h : ∀ j, m ≤ j → p j = 0) : ∀ k, rm_ct p (m + k) = rm_ct p m := by
  intro k
  induction k with
  | zero => rfl
  | succ k ih =>
    have e : ¬ 0 < p (m + k) := by
      have := h (m + k) (by omega)
      omega
    rw [← Nat.add_assoc, rm_ct_n e, ih]
