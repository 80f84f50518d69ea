section
theorem pk_us {f : Nat → Int32} {k : Nat} {x : Int32} : upd f k x k = x := if_pos rfl
theorem pk_un {f : Nat → Int32} {k j : Nat} {x : Int32} (h : j ≠ k) : upd f k x j = f j := if_neg h
theorem pk_sub {a b : Nat} (h : b ≤ a) : nI a - nI b = nI (a - b) := by
  obtain ⟨c, rfl⟩ : ∃ c, a = c + b := ⟨a - b, by omega⟩
  rw [← nI_add, Int32.add_sub_cancel, Nat.add_sub_cancel]
theorem pk_m1 (n : Nat) : nI (n + 1) + (-1) = nI n := by
  rw [← nI_1, Int32.add_assoc, show (1 : Int32) + (-1) = 0 from rfl, Int32.add_zero]
theorem pk_mul (a b : Nat) : nI a * nI b = nI (a * b) := (Int32.ofNat_mul a b).symm
theorem pk_div {a d : Nat} (ha : a < 2 ^ 31) (h0 : 0 < d) (hd : d < 2 ^ 31) : nI a / nI d = nI (a / d) := by
  apply Int32.toInt_inj.mp
  rw [lg_idiv_nonneg (by rw [nI_toInt ha]; omega) (by rw [nI_toInt hd]; omega), nI_toInt ha, nI_toInt hd, nI_toInt (Nat.lt_of_le_of_lt (Nat.div_le_self a d) ha)]
  first | rfl | exact (Int.natCast_ediv _ _).symm
theorem pk_rem {a d : Nat} (ha : a < 2 ^ 31) (h0 : 0 < d) (hd : d < 2 ^ 31) : nI a - nI a / nI d * nI d = nI (a % d) := by
  rw [pk_div ha h0 hd, pk_mul, pk_sub (Nat.div_mul_le_self a d)]
  exact congrArg nI (by have := Nat.div_add_mod' a d; omega)
theorem pk_ix (x : Int32) {n : Nat} (hn : n < 2 ^ 31) : x < 0 ∨ nI n ≤ x ∨ ∃ j : Nat, j < n ∧ x = nI j := by
  by_cases h : x < 0
  · exact Or.inl h
  · obtain ⟨j, hj, rfl⟩ := nI_of h
    by_cases h2 : j < n
    · exact Or.inr (Or.inr ⟨j, h2, rfl⟩)
    · exact Or.inr (Or.inl (nI_le (by omega) hj))
theorem pk_le {x y : Int32} {A B : Prop} (a b : Nat) (f : a ≤ b → A) (g : b < a → B) (hx : x = nI a := by rfl) (hy : y = nI b := by rfl) (ha : a < 2 ^ 31 := by omega) (hb : b < 2 ^ 31 := by omega) : (x ≤ y → A) ∧ (¬ x ≤ y → B) := by
  subst hx hy
  rw [nI_leI ha hb]
  exact ⟨f, fun z => g (by omega)⟩
theorem pk_lt {x y : Int32} {A B : Prop} (a b : Nat) (f : a < b → A) (g : b ≤ a → B) (hx : x = nI a := by rfl) (hy : y = nI b := by rfl) (ha : a < 2 ^ 31 := by omega) (hb : b < 2 ^ 31 := by omega) : (x < y → A) ∧ (¬ x < y → B) := by
  subst hx hy
  rw [nI_ltI ha hb]
  exact ⟨f, fun z => g (by omega)⟩
theorem pk_eq {x y : Int32} {A B : Prop} (a b : Nat) (f : a = b → A) (g : a ≠ b → B) (hx : x = nI a := by rfl) (hy : y = nI b := by rfl) (ha : a < 2 ^ 31 := by omega) (hb : b < 2 ^ 31 := by omega) : (x = y → A) ∧ (¬ x = y → B) := by
  subst hx hy
  rw [nI_eq ha hb]
  exact ⟨f, g⟩
theorem pk_in {x : Int32} (n N : Nat) (h : n < N) (hx : x = nI n := by rfl) (hN : N < 2 ^ 31 := by omega) : vp_in x N := by
  subst hx
  exact vp_in_nI h hN
theorem pk_cl {x : Int32} (n : Nat) (hx : x = nI n := by rfl) (h : n < 2 ^ 31 := by omega) : x.toNatClampNeg = n := by
  subst hx
  exact nI_clamp h
theorem pk_least (P : Nat → Prop) (h : ∃ k, P k) : ∃ k, P k ∧ ∀ j, j < k → ¬ P j := by
  obtain ⟨k, hk⟩ := h
  induction k using Nat.strongRecOn with
  | ind k ih =>
    by_cases e : ∃ j, j < k ∧ P j
    · obtain ⟨j, hj, pj⟩ := e
      exact ih j hj pj
    · exact ⟨k, hk, fun j hj pj => e ⟨j, hj, pj⟩⟩
end
section
/-! the analysis over naturals: p the periods (0: a free slot), d deadlines, c costs, b blockings -/
abbrev rm_hi (p : Nat → Nat) (a b : Nat) : Prop := p a < p b ∨ (p a = p b ∧ a < b)
def rm_S (p c : Nat → Nat) (i r : Nat) : Nat → Nat
  | 0 => 0
  | n + 1 => if 0 < p n ∧ rm_hi p n i then rm_S p c i r n + (r + p n - 1) / p n * c n else rm_S p c i r n
def rm_T (p b : Nat → Nat) (i : Nat) : Nat → Nat
  | 0 => 0
  | n + 1 => if (0 < p n ∧ rm_hi p i n) ∧ rm_T p b i n < b n then b n else rm_T p b i n
theorem rm_S_t {p c : Nat → Nat} {i r n : Nat} (h : 0 < p n ∧ rm_hi p n i) : rm_S p c i r (n + 1) = rm_S p c i r n + (r + p n - 1) / p n * c n := by
  rw [rm_S, if_pos h]
theorem rm_S_f {p c : Nat → Nat} {i r n : Nat} (h : ¬ (0 < p n ∧ rm_hi p n i)) : rm_S p c i r (n + 1) = rm_S p c i r n := by
  rw [rm_S, if_neg h]
theorem rm_T_t {p b : Nat → Nat} {i n : Nat} (h : (0 < p n ∧ rm_hi p i n) ∧ rm_T p b i n < b n) : rm_T p b i (n + 1) = b n := by
  rw [rm_T, if_pos h]
theorem rm_T_f {p b : Nat → Nat} {i n : Nat} (h : ¬ ((0 < p n ∧ rm_hi p i n) ∧ rm_T p b i n < b n)) : rm_T p b i (n + 1) = rm_T p b i n := by
  rw [rm_T, if_neg h]
theorem rm_S_mono (p c : Nat → Nat) (i : Nat) {r s : Nat} (h : r ≤ s) : ∀ n, rm_S p c i r n ≤ rm_S p c i s n := by
  intro n
  induction n with
  | zero => exact Nat.le_refl _
  | succ n ih =>
    by_cases hc : 0 < p n ∧ rm_hi p n i
    · rw [rm_S_t hc, rm_S_t hc]
      exact Nat.add_le_add ih (Nat.mul_le_mul_right _ (Nat.div_le_div_right (by omega)))
    · rw [rm_S_f hc, rm_S_f hc]
      exact ih
theorem rm_hi_cg {p q : Nat → Nat} {a b : Nat} (ha : q a = p a) (hb : q b = p b) (h : rm_hi q a b) : rm_hi p a b := by
  rcases h with h | h
  · exact Or.inl (by omega)
  · exact Or.inr ⟨by omega, h.2⟩
theorem rm_S_le {p q : Nat → Nat} (c : Nat → Nat) {i : Nat} (r : Nat) (hq : ∀ j, q j = p j ∨ q j = 0) (hi : q i = p i) : ∀ n, rm_S q c i r n ≤ rm_S p c i r n := by
  intro n
  induction n with
  | zero => exact Nat.le_refl _
  | succ n ih =>
    by_cases h : 0 < q n ∧ rm_hi q n i
    · have h0 := h.1
      have e : q n = p n := by
        rcases hq n with e | e
        · exact e
        · omega
      have h2 : 0 < p n ∧ rm_hi p n i := ⟨by omega, rm_hi_cg e hi h.2⟩
      rw [rm_S_t h, rm_S_t h2, e]
      exact Nat.add_le_add_right ih _
    · rw [rm_S_f h]
      by_cases h2 : 0 < p n ∧ rm_hi p n i
      · rw [rm_S_t h2]
        exact Nat.le_trans ih (Nat.le_add_right _ _)
      · rw [rm_S_f h2]
        exact ih
theorem rm_T_up (p b : Nat → Nat) (i n : Nat) : rm_T p b i n ≤ rm_T p b i (n + 1) := by
  by_cases h : (0 < p n ∧ rm_hi p i n) ∧ rm_T p b i n < b n
  · rw [rm_T_t h]
    exact Nat.le_of_lt h.2
  · rw [rm_T_f h]
    exact Nat.le_refl _
theorem rm_T_le {p q : Nat → Nat} (b : Nat → Nat) {i : Nat} (hq : ∀ j, q j = p j ∨ q j = 0) (hi : q i = p i) : ∀ n, rm_T q b i n ≤ rm_T p b i n := by
  intro n
  induction n with
  | zero => exact Nat.le_refl _
  | succ n ih =>
    by_cases h : (0 < q n ∧ rm_hi q i n) ∧ rm_T q b i n < b n
    · have h0 := h.1.1
      have e : q n = p n := by
        rcases hq n with e | e
        · exact e
        · omega
      have h1 : 0 < p n ∧ rm_hi p i n := ⟨by omega, rm_hi_cg hi e h.1.2⟩
      rw [rm_T_t h]
      by_cases h2 : rm_T p b i n < b n
      · rw [rm_T_t ⟨h1, h2⟩]
        exact Nat.le_refl _
      · have h3 : ¬ ((0 < p n ∧ rm_hi p i n) ∧ rm_T p b i n < b n) := fun z => h2 z.2
        rw [rm_T_f h3]
        omega
    · rw [rm_T_f h]
      exact Nat.le_trans ih (rm_T_up p b i n)
theorem rm_T_255 {p b : Nat → Nat} (hb : ∀ j, b j ≤ 255) (i : Nat) : ∀ n, rm_T p b i n ≤ 255 := by
  intro n
  induction n with
  | zero => exact Nat.zero_le _
  | succ n ih =>
    by_cases h : (0 < p n ∧ rm_hi p i n) ∧ rm_T p b i n < b n
    · rw [rm_T_t h]
      exact hb n
    · rw [rm_T_f h]
      exact ih
theorem rm_q510 {r p : Nat} (hr : r ≤ 255) (hp : p ≤ 255) : (r + p - 1) / p ≤ 510 :=
  Nat.le_trans (Nat.div_le_self _ _) (by omega)
theorem rm_S_big {p c : Nat → Nat} (hp : ∀ j, p j ≤ 255) (hc : ∀ j, c j ≤ 255) (i : Nat) {r : Nat} (hr : r ≤ 255) : ∀ n, rm_S p c i r n ≤ n * 130050 := by
  intro n
  induction n with
  | zero => exact Nat.zero_le _
  | succ n ih =>
    by_cases h : 0 < p n ∧ rm_hi p n i
    · rw [rm_S_t h]
      have h1 : (r + p n - 1) / p n * c n ≤ 510 * 255 := Nat.mul_le_mul (rm_q510 hr (hp n)) (hc n)
      rw [Nat.succ_mul]
      exact Nat.add_le_add ih h1
    · rw [rm_S_f h, Nat.succ_mul]
      exact Nat.le_trans ih (Nat.le_add_right _ _)
theorem rm_S_cg {p c e : Nat → Nat} {i r : Nat} (h : ∀ j, 0 < p j → e j = c j) : ∀ n, rm_S p e i r n = rm_S p c i r n := by
  intro n
  induction n with
  | zero => rfl
  | succ n ih =>
    by_cases hc : 0 < p n ∧ rm_hi p n i
    · rw [rm_S_t hc, rm_S_t hc, ih, h n hc.1]
    · rw [rm_S_f hc, rm_S_f hc, ih]
theorem rm_T_cg {p b e : Nat → Nat} {i : Nat} (h : ∀ j, 0 < p j → e j = b j) : ∀ n, rm_T p e i n = rm_T p b i n := by
  intro n
  induction n with
  | zero => rfl
  | succ n ih =>
    by_cases hc : (0 < p n ∧ rm_hi p i n) ∧ rm_T p b i n < b n
    · have hc2 : (0 < p n ∧ rm_hi p i n) ∧ rm_T p e i n < e n := ⟨hc.1, by rw [ih, h n hc.1.1]; exact hc.2⟩
      rw [rm_T_t hc, rm_T_t hc2, h n hc.1.1]
    · have hc2 : ¬ ((0 < p n ∧ rm_hi p i n) ∧ rm_T p e i n < e n) := fun z => hc ⟨z.1, by have z2 := z.2; rw [ih, h n z.1.1] at z2; exact z2⟩
      rw [rm_T_f hc, rm_T_f hc2, ih]
/-- a slot that is free from m on adds nothing -/
theorem rm_S_end {p c : Nat → Nat} {i r m : Nat} (h : ∀ j, m ≤ j → p j = 0) : ∀ k, rm_S p c i r (m + k) = rm_S p c i r m := by
  intro k
  induction k with
  | zero => rfl
  | succ k ih =>
    have e : p (m + k) = 0 := h (m + k) (by omega)
    have hf : ¬ (0 < p (m + k) ∧ rm_hi p (m + k) i) := fun z => by
      have := z.1
      omega
    rw [← Nat.add_assoc, rm_S_f hf, ih]
theorem rm_T_end {p b : Nat → Nat} {i m : Nat} (h : ∀ j, m ≤ j → p j = 0) : ∀ k, rm_T p b i (m + k) = rm_T p b i m := by
  intro k
  induction k with
  | zero => rfl
  | succ k ih =>
    have e : p (m + k) = 0 := h (m + k) (by omega)
    have hf : ¬ ((0 < p (m + k) ∧ rm_hi p i (m + k)) ∧ rm_T p b i (m + k) < b (m + k)) := fun z => by
      have := z.1.1
      omega
    rw [← Nat.add_assoc, rm_T_f hf, ih]
def rm_F (p c b : Nat → Nat) (i r : Nat) : Nat := c i + rm_T p b i 8 + rm_S p c i r 8
/-- the first r of e candidates from r on with F r = r; 0: none -/
def rm_lb (F : Nat → Nat) : Nat → Nat → Nat
  | 0, _ => 0
  | e + 1, r => if F r = r then r else rm_lb F e (r + 1)
theorem rm_lb_y {F : Nat → Nat} {e r : Nat} (h : F r = r) : rm_lb F (e + 1) r = r := by
  rw [rm_lb, if_pos h]
theorem rm_lb_n {F : Nat → Nat} {e r : Nat} (h : ¬ F r = r) : rm_lb F (e + 1) r = rm_lb F e (r + 1) := by
  rw [rm_lb, if_neg h]
theorem rm_lb_lt (F : Nat → Nat) : ∀ e r, rm_lb F e r ≤ r + e := by
  intro e
  induction e with
  | zero => intro r; exact Nat.zero_le _
  | succ e ih =>
    intro r
    by_cases h : F r = r
    · rw [rm_lb_y h]
      omega
    · rw [rm_lb_n h]
      have := ih (r + 1)
      omega
theorem rm_lb_of {F : Nat → Nat} {s : Nat} (hs : F s = s) (h0 : 0 < s) : ∀ e r, 0 < r → r ≤ s → s < r + e → rm_lb F e r ≠ 0 := by
  intro e
  induction e with
  | zero => intro r _ h1 h2; omega
  | succ e ih =>
    intro r h h1 h2
    by_cases hr : F r = r
    · rw [rm_lb_y hr]
      omega
    · rw [rm_lb_n hr]
      refine ih (r + 1) (by omega) ?_ (by omega)
      by_cases e1 : r = s
      · subst e1
        exact absurd hs hr
      · omega
theorem rm_lb_has {F : Nat → Nat} : ∀ e r, rm_lb F e r ≠ 0 → ∃ s, r ≤ s ∧ s < r + e ∧ F s = s := by
  intro e
  induction e with
  | zero => intro r h; exact absurd rfl h
  | succ e ih =>
    intro r h
    by_cases hr : F r = r
    · exact ⟨r, Nat.le_refl _, by omega, hr⟩
    · rw [rm_lb_n hr] at h
      obtain ⟨s, h1, h2, h3⟩ := ih (r + 1) h
      exact ⟨s, by omega, by omega, h3⟩
/-- the least bound of slot i, 0: none -/
def rm_L (p d c b : Nat → Nat) (i : Nat) : Nat := rm_lb (rm_F p c b i) (d i) 1
theorem rm_L_le {p d c b : Nat → Nat} {i : Nat} (h : d i ≤ 255) : rm_L p d c b i ≤ 256 := by
  have := rm_lb_lt (rm_F p c b i) (d i) 1
  unfold rm_L
  omega
def rm_has (p d c b : Nat → Nat) (i : Nat) : Prop := ∃ r, 1 ≤ r ∧ r ≤ d i ∧ rm_F p c b i r = r
theorem rm_L_of {p d c b : Nat → Nat} {i : Nat} (h : rm_has p d c b i) : rm_L p d c b i ≠ 0 := by
  obtain ⟨r, h1, h2, h3⟩ := h
  exact rm_lb_of h3 (by omega) _ _ (by omega) h1 (by omega)
theorem rm_L_has {p d c b : Nat → Nat} {i : Nat} (h : rm_L p d c b i ≠ 0) : rm_has p d c b i := by
  obtain ⟨s, h1, h2, h3⟩ := rm_lb_has _ _ h
  exact ⟨s, h1, by omega, h3⟩
theorem rm_F_big {p c b : Nat → Nat} (hp : ∀ j, p j ≤ 255) (hc : ∀ j, c j ≤ 255) (hb : ∀ j, b j ≤ 255) (i : Nat) {r : Nat} (hr : r ≤ 255) : rm_F p c b i r ≤ 2000000 := by
  have h1 := rm_S_big hp hc i hr 8
  have h2 := rm_T_255 (p := p) hb i 8
  have h3 := hc i
  unfold rm_F
  omega
/-- what is left has a bound when a task goes -/
theorem rm_has_rm {p q d c b : Nat → Nat} {i : Nat} (hq : ∀ j, q j = p j ∨ q j = 0) (hi : q i = p i) (hc : 1 ≤ c i) (h : rm_has p d c b i) : rm_has q d c b i := by
  obtain ⟨R, h1, h2, h3⟩ := h
  have hle : ∀ r, rm_F q c b i r ≤ rm_F p c b i r := fun r =>
    Nat.add_le_add (Nat.add_le_add_left (rm_T_le b hq hi 8) _) (rm_S_le c r hq hi 8)
  have hmo : ∀ r s, r ≤ s → rm_F q c b i r ≤ rm_F q c b i s := fun r s hrs =>
    Nat.add_le_add_left (rm_S_mono q c i hrs 8) _
  have hpos : ∀ r, 1 ≤ rm_F q c b i r := fun r => by
    unfold rm_F
    omega
  obtain ⟨r, hr, hm⟩ := pk_least (fun r => 1 ≤ r ∧ rm_F q c b i r ≤ r) ⟨R, h1, by have := hle R; omega⟩
  have hrR : r ≤ R := by
    by_cases hlt : R < r
    · exact absurd ⟨h1, by have := hle R; omega⟩ (hm R hlt)
    · omega
  refine ⟨r, hr.1, by omega, ?_⟩
  by_cases hlt : rm_F q c b i r < r
  · exact absurd ⟨hpos r, hmo _ _ (Nat.le_of_lt hlt)⟩ (hm _ hlt)
  · have := hr.2
    omega
theorem rm_F_cg {p c e b f : Nat → Nat} {i r : Nat} (hi : 0 < p i) (hc : ∀ j, 0 < p j → e j = c j) (hb : ∀ j, 0 < p j → f j = b j) : rm_F p e f i r = rm_F p c b i r := by
  unfold rm_F
  rw [rm_S_cg hc, rm_T_cg hb, hc i hi]
theorem rm_L_cg {p d g c e b f : Nat → Nat} {i : Nat} (hi : 0 < p i) (hd : g i = d i) (hc : ∀ j, 0 < p j → e j = c j) (hb : ∀ j, 0 < p j → f j = b j) : rm_L p g e f i = rm_L p d c b i := by
  unfold rm_L
  rw [hd, show rm_F p e f i = rm_F p c b i from funext fun r => rm_F_cg hi hc hb]
theorem rm_L_rm {p q d c b : Nat → Nat} {i : Nat} (hq : ∀ j, q j = p j ∨ q j = 0) (hi : q i = p i) (hc : 1 ≤ c i) (h : rm_L p d c b i ≠ 0) : rm_L q d c b i ≠ 0 :=
  rm_L_of (rm_has_rm hq hi hc (rm_L_has h))
/-- the first free slot of e from i on -/
def rm_ff (p : Nat → Nat) : Nat → Nat → Option Nat
  | 0, _ => none
  | e + 1, i => if p i = 0 then some i else rm_ff p e (i + 1)
theorem rm_ff_y {p : Nat → Nat} {e i : Nat} (h : p i = 0) : rm_ff p (e + 1) i = some i := by
  rw [rm_ff, if_pos h]
theorem rm_ff_n {p : Nat → Nat} {e i : Nat} (h : ¬ p i = 0) : rm_ff p (e + 1) i = rm_ff p e (i + 1) := by
  rw [rm_ff, if_neg h]
theorem rm_ff_some {p : Nat → Nat} {k : Nat} : ∀ e i, rm_ff p e i = some k → i ≤ k ∧ k < i + e ∧ p k = 0 := by
  intro e
  induction e with
  | zero => intro i h; rw [rm_ff] at h; cases h
  | succ e ih =>
    intro i h
    by_cases h0 : p i = 0
    · rw [rm_ff_y h0] at h
      cases h
      exact ⟨Nat.le_refl _, by omega, h0⟩
    · rw [rm_ff_n h0] at h
      have := ih (i + 1) h
      exact ⟨by omega, by omega, this.2.2⟩
/-- how many slots below n are in use -/
def rm_ct (p : Nat → Nat) : Nat → Nat
  | 0 => 0
  | n + 1 => if 0 < p n then rm_ct p n + 1 else rm_ct p n
theorem rm_ct_y {p : Nat → Nat} {n : Nat} (h : 0 < p n) : rm_ct p (n + 1) = rm_ct p n + 1 := by
  rw [rm_ct, if_pos h]
theorem rm_ct_n {p : Nat → Nat} {n : Nat} (h : ¬ 0 < p n) : rm_ct p (n + 1) = rm_ct p n := by
  rw [rm_ct, if_neg h]
theorem rm_ct_end {p : Nat → Nat} {m : Nat} (h : ∀ j, m ≤ j → p j = 0) : ∀ k, rm_ct p (m + k) = rm_ct p m := by
  intro k
  induction k with
  | zero => rfl
  | succ k ih =>
    have e : ¬ 0 < p (m + k) := by
      have := h (m + k) (by omega)
      omega
    rw [← Nat.add_assoc, rm_ct_n e, ih]
end
section
/-! arrays of small naturals; what a loop over the slots makes of an array; the pick -/
def rm_bd (a : Nat → Int32) : Prop := ∀ j, ∃ q, q ≤ 255 ∧ a j = nI q
def rm_n (a : Nat → Int32) (j : Nat) : Nat := (a j).toNatClampNeg
theorem rm_n_e {a : Nat → Int32} {j q : Nat} (e : a j = nI q) (h : q < 2 ^ 31) : rm_n a j = q := by
  unfold rm_n
  rw [e, nI_clamp h]
theorem rm_nI {a : Nat → Int32} (h : rm_bd a) (j : Nat) : a j = nI (rm_n a j) := by
  obtain ⟨q, hq, e⟩ := h j
  rw [rm_n_e e (by omega)]
  exact e
theorem rm_n255 {a : Nat → Int32} (h : rm_bd a) (j : Nat) : rm_n a j ≤ 255 := by
  obtain ⟨q, hq, e⟩ := h j
  rw [rm_n_e e (by omega)]
  exact hq
theorem rm_bd_0 : rm_bd (fun _ => 0) := fun _ => ⟨0, Nat.zero_le _, nI_0.symm⟩
theorem rm_bd_u {a : Nat → Int32} {k q : Nat} (h : rm_bd a) (hq : q ≤ 255) : rm_bd (upd a k (nI q)) := by
  intro j
  by_cases e : j = k
  · subst e
    exact ⟨q, hq, pk_us⟩
  · obtain ⟨r, hr, e2⟩ := h j
    exact ⟨r, hr, (pk_un e).trans e2⟩
theorem rm_n_s {a : Nat → Int32} {k q : Nat} (h : q < 2 ^ 31) : rm_n (upd a k (nI q)) k = q := rm_n_e pk_us h
theorem rm_n_n {a : Nat → Int32} {k j : Nat} {x : Int32} (h : j ≠ k) : rm_n (upd a k x) j = rm_n a j := by
  unfold rm_n
  rw [pk_un h]
theorem rm_ne1 {k : Nat} (h : k < 2 ^ 31) : ¬ nI k = -1 := fun e => nI_pos h (by rw [e]; decide)
theorem rm_ne1' {k : Nat} (h : k < 2 ^ 31) : ¬ (-1 : Int32) = nI k := fun e => rm_ne1 h e.symm
theorem rm_pos {k : Nat} (h0 : 0 < k) (h : k < 2 ^ 31) : (0 : Int32) < nI k := by
  have := nI_lt h0 h
  rw [nI_0] at this
  exact this
theorem rm_pos_iff {k : Nat} (h : k < 2 ^ 31) : (0 : Int32) < nI k ↔ 0 < k := by
  rw [← nI_0]
  exact nI_ltI (by omega) h
theorem rm_inc (x : Int32) : ¬ x + 1 = x := by
  intro e
  have h : x + 1 = x + 0 := by rw [Int32.add_zero]; exact e
  exact absurd (Int32.add_right_inj x |>.mp h) (by decide)
theorem rm_dec {x : Int32} (h : 0 < x) : x - 1 = 0 ∨ 0 < x - 1 := by
  obtain ⟨j, hj, rfl⟩ := nI_of (x := x) (Int32.not_lt.mpr (Int32.le_of_lt h))
  rw [rm_pos_iff hj] at h
  obtain ⟨q, rfl⟩ : ∃ q, j = q + 1 := ⟨j - 1, by omega⟩
  rw [nI_pred]
  by_cases e : q = 0
  · subst e
    exact Or.inl nI_0
  · exact Or.inr (rm_pos (by omega) (by omega))
/-- f with g written where Q holds, below n -/
def rm_mx (n : Nat) (Q : Nat → Bool) (f g : Nat → Int32) : Nat → Int32 := fun j => if j < n ∧ Q j = true then g j else f j
theorem rm_mx_0 (Q : Nat → Bool) (f g : Nat → Int32) : rm_mx 0 Q f g = f := by
  funext j
  exact if_neg (fun z => Nat.not_lt_zero j z.1)
theorem rm_mx_hi {n j : Nat} (Q : Nat → Bool) (f g : Nat → Int32) (h : n ≤ j) : rm_mx n Q f g j = f j :=
  if_neg (fun z => Nat.not_lt.mpr h z.1)
theorem rm_mx_y {n j : Nat} {Q : Nat → Bool} (f g : Nat → Int32) (h : j < n) (hq : Q j = true) : rm_mx n Q f g j = g j :=
  if_pos ⟨h, hq⟩
theorem rm_mx_n {n j : Nat} {Q : Nat → Bool} (f g : Nat → Int32) (hq : Q j = false) : rm_mx n Q f g j = f j :=
  if_neg (fun z => by rw [hq] at z; exact absurd z.2 (by decide))
theorem rm_mx_t {n : Nat} {Q : Nat → Bool} (f g : Nat → Int32) (h : Q n = true) : upd (rm_mx n Q f g) n (g n) = rm_mx (n + 1) Q f g := by
  funext j
  by_cases e : j = n
  · subst e
    rw [pk_us, rm_mx_y (n := j + 1) f g (by omega) h]
  · rw [pk_un e]
    unfold rm_mx
    by_cases h1 : j < n ∧ Q j = true
    · have h2 : j < n + 1 ∧ Q j = true := ⟨by have := h1.1; omega, h1.2⟩
      rw [if_pos h1, if_pos h2]
    · have h2 : ¬ (j < n + 1 ∧ Q j = true) := fun z => h1 ⟨by have := z.1; omega, z.2⟩
      rw [if_neg h1, if_neg h2]
theorem rm_mx_f {n : Nat} {Q : Nat → Bool} (f g : Nat → Int32) (h : Q n = false) : rm_mx (n + 1) Q f g = rm_mx n Q f g := by
  funext j
  unfold rm_mx
  by_cases h1 : j < n ∧ Q j = true
  · have h2 : j < n + 1 ∧ Q j = true := ⟨by have := h1.1; omega, h1.2⟩
    rw [if_pos h1, if_pos h2]
  · rw [if_neg h1]
    refine if_neg (fun z => h1 ⟨?_, z.2⟩)
    by_cases e : j = n
    · subst e
      have z2 := z.2
      rw [h] at z2
      exact absurd z2 (by decide)
    · have := z.1
      omega
theorem rm_mx_end {m : Nat} {Q : Nat → Bool} (f g : Nat → Int32) (h : ∀ j, m ≤ j → Q j = false) : ∀ k, rm_mx (m + k) Q f g = rm_mx m Q f g := by
  intro k
  induction k with
  | zero => rfl
  | succ k ih => rw [← Nat.add_assoc, rm_mx_f f g (h (m + k) (by omega)), ih]
/-- the slot of the unfinished job while due jobs are dropped -/
def rm_un (Q : Nat → Bool) (u : Int32) : Nat → Int32
  | 0 => u
  | n + 1 => if Q n = true ∧ rm_un Q u n = nI n then -1 else rm_un Q u n
theorem rm_un_t {Q : Nat → Bool} {u : Int32} {n : Nat} (h : Q n = true) (e : rm_un Q u n = nI n) : rm_un Q u (n + 1) = -1 := by
  rw [rm_un, if_pos (And.intro h e)]
theorem rm_un_f {Q : Nat → Bool} {u : Int32} {n : Nat} (h : Q n = false) : rm_un Q u (n + 1) = rm_un Q u n := by
  have hf : ¬ (Q n = true ∧ rm_un Q u n = nI n) := fun z => by
    rw [h] at z
    exact absurd z.1 (by decide)
  rw [rm_un, if_neg hf]
theorem rm_un_e {Q : Nat → Bool} {u : Int32} {n : Nat} (e : ¬ rm_un Q u n = nI n) : rm_un Q u (n + 1) = rm_un Q u n := by
  have hf : ¬ (Q n = true ∧ rm_un Q u n = nI n) := fun z => e z.2
  rw [rm_un, if_neg hf]
theorem rm_un_end {m : Nat} {Q : Nat → Bool} {u : Int32} (h : ∀ j, m ≤ j → Q j = false) : ∀ k, rm_un Q u (m + k) = rm_un Q u m := by
  intro k
  induction k with
  | zero => rfl
  | succ k ih => rw [← Nat.add_assoc, rm_un_f (h (m + k) (by omega)), ih]
theorem rm_un_1 (Q : Nat → Bool) : ∀ n, n ≤ 8 → rm_un Q (-1) n = -1 := by
  intro n
  induction n with
  | zero => intro _; rfl
  | succ n ih =>
    intro h
    have e := ih (by omega)
    have hf : ¬ rm_un Q (-1) n = nI n := by
      rw [e]
      exact rm_ne1' (by omega)
    rw [rm_un_e hf, e]
theorem rm_un_k {Q : Nat → Bool} {q : Nat} (hq : q < 8) : ∀ n, n ≤ 8 → (q < n → Q q = true → rm_un Q (nI q) n = -1) ∧ ((n ≤ q ∨ Q q = false) → rm_un Q (nI q) n = nI q) := by
  intro n
  induction n with
  | zero => exact fun _ => ⟨fun h => absurd h (Nat.not_lt_zero _), fun _ => rfl⟩
  | succ n ih =>
    intro hn
    obtain ⟨i1, i2⟩ := ih (by omega)
    refine ⟨fun h hQ => ?_, fun h => ?_⟩
    · by_cases e : q = n
      · subst e
        exact rm_un_t hQ (i2 (Or.inl (Nat.le_refl _)))
      · have e1 := i1 (by omega) hQ
        have hf : ¬ rm_un Q (nI q) n = nI n := by
          rw [e1]
          exact rm_ne1' (by omega)
        rw [rm_un_e hf, e1]
    · have e1 := i2 (h.imp (fun z => by omega) id)
      by_cases e : q = n
      · subst e
        have hf : Q q = false := by
          rcases h with h | h
          · omega
          · exact h
        rw [rm_un_f hf, e1]
      · have hf : ¬ rm_un Q (nI q) n = nI n := by
          rw [e1]
          exact fun z => e ((nI_eq (by omega) (by omega)).mp z)
        rw [rm_un_e hf, e1]
/-- the pending slot of the highest priority below n -/
def rm_ps (P re : Nat → Int32) (n : Nat) : Option Nat → Option Nat
  | none => if 0 < re n then some n else none
  | some b => if 0 < re n ∧ (P n < P b ∨ (P n = P b ∧ n < b)) then some n else some b
def rm_pk (P re : Nat → Int32) : Nat → Option Nat
  | 0 => none
  | n + 1 => rm_ps P re n (rm_pk P re n)
def rm_oi : Option Nat → Int32
  | none => -1
  | some k => nI k
theorem rm_pk_z {P re : Nat → Int32} {n : Nat} (h : ¬ 0 < re n) : rm_pk P re (n + 1) = rm_pk P re n := by
  rw [rm_pk]
  cases e : rm_pk P re n with
  | none => exact if_neg h
  | some b => exact if_neg (fun z => h z.1)
theorem rm_pk_n {P re : Nat → Int32} {n : Nat} (h : 0 < re n) (e : rm_pk P re n = none) : rm_pk P re (n + 1) = some n := by
  rw [rm_pk, e]
  exact if_pos h
theorem rm_pk_t {P re : Nat → Int32} {n b : Nat} (h : 0 < re n) (e : rm_pk P re n = some b) (hh : P n < P b ∨ (P n = P b ∧ n < b)) : rm_pk P re (n + 1) = some n := by
  rw [rm_pk, e]
  exact if_pos ⟨h, hh⟩
theorem rm_pk_f {P re : Nat → Int32} {n b : Nat} (e : rm_pk P re n = some b) (hh : ¬ (P n < P b ∨ (P n = P b ∧ n < b))) : rm_pk P re (n + 1) = some b := by
  rw [rm_pk, e]
  exact if_neg (fun z => hh z.2)
theorem rm_pk_some {P re : Nat → Int32} : ∀ n b, rm_pk P re n = some b → b < n ∧ 0 < re b := by
  intro n
  induction n with
  | zero => intro b h; rw [rm_pk] at h; cases h
  | succ n ih =>
    intro b h
    by_cases h0 : 0 < re n
    · cases e : rm_pk P re n with
      | none =>
        rw [rm_pk_n h0 e] at h
        cases h
        exact ⟨by omega, h0⟩
      | some c =>
        by_cases hh : P n < P c ∨ (P n = P c ∧ n < c)
        · rw [rm_pk_t h0 e hh] at h
          cases h
          exact ⟨by omega, h0⟩
        · rw [rm_pk_f e hh] at h
          cases h
          have := ih b e
          exact ⟨by omega, this.2⟩
    · rw [rm_pk_z h0] at h
      have := ih b h
      exact ⟨by omega, this.2⟩
theorem rm_pk_none {P re : Nat → Int32} : ∀ n, rm_pk P re n = none → ∀ j, j < n → ¬ 0 < re j := by
  intro n
  induction n with
  | zero => intro _ j hj; omega
  | succ n ih =>
    intro h j hj
    by_cases h0 : 0 < re n
    · cases e : rm_pk P re n with
      | none =>
        rw [rm_pk_n h0 e] at h
        cases h
      | some c =>
        by_cases hh : P n < P c ∨ (P n = P c ∧ n < c)
        · rw [rm_pk_t h0 e hh] at h
          cases h
        · rw [rm_pk_f e hh] at h
          cases h
    · rw [rm_pk_z h0] at h
      by_cases e : j = n
      · subst e
        exact h0
      · exact ih h j (by omega)
theorem rm_pk_end {P re : Nat → Int32} {m : Nat} (h : ∀ j, m ≤ j → ¬ 0 < re j) : ∀ k, rm_pk P re (m + k) = rm_pk P re m := by
  intro k
  induction k with
  | zero => rfl
  | succ k ih => rw [← Nat.add_assoc, rm_pk_z (h (m + k) (by omega)), ih]
end
section
/-! the relation. m slots; P the component's periods (0: free), Q the reference's, U its used marks, D C B deadlines, costs, blockings, M demands; bo bt stored bounds and block terms -/
def rm_A (m : Nat) (P Q U D C B M : Nat → Int32) : Prop :=
  (∀ j, (U j = 0 ∧ P j = 0) ∨ (U j = 1 ∧ P j = Q j ∧ j < m ∧ (1 ≤ rm_n C j ∧ rm_n C j ≤ rm_n D j ∧ rm_n D j ≤ rm_n P j) ∧ 0 < M j)) ∧ rm_bd P ∧ rm_bd D ∧ rm_bd C ∧ rm_bd B
def rm_St (P D C B bo bt : Nat → Int32) : Prop :=
  ∀ i, 0 < rm_n P i → bt i = nI (rm_T (rm_n P) (rm_n B) i 8) ∧ bo i = nI (rm_L (rm_n P) (rm_n D) (rm_n C) (rm_n B) i) ∧ rm_L (rm_n P) (rm_n D) (rm_n C) (rm_n B) i ≠ 0
def rm_R (P re : Nat → Int32) : Prop := ∀ j, re j = 0 ∨ (0 < re j ∧ 0 < rm_n P j)
def rm_J (ru un fj : Int32) (rl re : Nat → Int32) : Prop :=
  (ru = -1 ∧ un = -1) ∨ ∃ q, q < 8 ∧ ru = nI q ∧ fj = rl q ∧ ((0 < re q ∧ un = nI q) ∨ (re q = 0 ∧ un = -1))
def rm_Z (ti ru : Int32) (rl en ov mi wo la re rt mk : Nat → Int32) : Prop :=
  ti = 0 ∧ ru = -1 ∧ rl = (fun _ => 0) ∧ en = (fun _ => 0) ∧ ov = (fun _ => 0) ∧ mi = (fun _ => 0) ∧ wo = (fun _ => 0) ∧ la = (fun _ => 0) ∧ re = (fun _ => 0) ∧ rt = (fun _ => 0) ∧ mk = (fun _ => 0)
def rm_N (m lc n : Nat) : Prop := 1 ≤ m ∧ m ≤ 8 ∧ 8 ≤ lc ∧ lc ≤ 32 ∧ n ≤ lc
section
variable {m : Nat} {P Q U D C B M bo bt : Nat → Int32}
theorem rm_A_free (h : rm_A m P Q U D C B M) {j : Nat} (e : rm_n P j = 0) : U j = 0 ∧ P j = 0 := by
  rcases h.1 j with z | z
  · exact z
  · have := z.2.2.2.1
    omega
theorem rm_A_used (h : rm_A m P Q U D C B M) {j : Nat} (e : 0 < rm_n P j) : U j = 1 ∧ P j = Q j ∧ j < m ∧ (1 ≤ rm_n C j ∧ rm_n C j ≤ rm_n D j ∧ rm_n D j ≤ rm_n P j) ∧ 0 < M j := by
  rcases h.1 j with z | z
  · rw [rm_n_e (z.2.trans nI_0.symm) (by omega)] at e
    omega
  · exact z
theorem rm_A_ge (h : rm_A m P Q U D C B M) {j : Nat} (e : m ≤ j) : rm_n P j = 0 := by
  by_cases z : 0 < rm_n P j
  · have := (rm_A_used h z).2.2.1
    omega
  · omega
theorem rm_A_P (h : rm_A m P Q U D C B M) (j : Nat) : P j = nI (rm_n P j) := rm_nI h.2.1 j
theorem rm_A_Ppos (h : rm_A m P Q U D C B M) (j : Nat) : (0 < P j) ↔ 0 < rm_n P j := by
  have := rm_n255 h.2.1 j
  rw [rm_A_P h j]
  exact rm_pos_iff (by omega)
theorem rm_A_U0 (h : rm_A m P Q U D C B M) (j : Nat) : U j = 0 ↔ rm_n P j = 0 := by
  constructor
  · intro e
    by_cases z : 0 < rm_n P j
    · have := (rm_A_used h z).1
      rw [e] at this
      exact absurd this (by decide)
    · omega
  · exact fun e => (rm_A_free h e).1
/-- a candidate goes in -/
theorem rm_A_put (h : rm_A m P Q U D C B M) {k p d c b : Nat} (hk : k < m) (hr : 1 ≤ c ∧ c ≤ d ∧ d ≤ p ∧ p ≤ 255 ∧ b ≤ 255) : rm_A m (upd P k (nI p)) (upd Q k (nI p)) (upd U k 1) (upd D k (nI d)) (upd C k (nI c)) (upd B k (nI b)) (upd M k (nI c)) := by
  obtain ⟨h1, h2, h3, h4, h5⟩ := h
  refine ⟨fun j => ?_, rm_bd_u h2 (by omega), rm_bd_u h3 (by omega), rm_bd_u h4 (by omega), rm_bd_u h5 (by omega)⟩
  by_cases e : j = k
  · subst e
    have e1 : rm_n (upd C j (nI c)) j = c := rm_n_s (by omega)
    have e2 : rm_n (upd D j (nI d)) j = d := rm_n_s (by omega)
    have e3 : rm_n (upd P j (nI p)) j = p := rm_n_s (by omega)
    rw [e1, e2, e3, pk_us, pk_us, pk_us, pk_us]
    exact Or.inr ⟨rfl, rfl, hk, ⟨by omega, by omega, by omega⟩, rm_pos (by omega) (by omega)⟩
  · rw [rm_n_n e, rm_n_n e, rm_n_n e, pk_un e, pk_un e, pk_un e, pk_un e]
    exact h1 j
/-- a candidate is refused -/
theorem rm_A_no (h : rm_A m P Q U D C B M) {k p d c b : Nat} {x y : Int32} (hf : rm_n P k = 0) (hr : 1 ≤ c ∧ c ≤ d ∧ d ≤ p ∧ p ≤ 255 ∧ b ≤ 255) : rm_A m P (upd Q k x) U (upd D k (nI d)) (upd C k (nI c)) (upd B k (nI b)) (upd M k y) := by
  have hz := rm_A_free h hf
  obtain ⟨h1, h2, h3, h4, h5⟩ := h
  refine ⟨fun j => ?_, h2, rm_bd_u h3 (by omega), rm_bd_u h4 (by omega), rm_bd_u h5 (by omega)⟩
  by_cases e : j = k
  · subst e
    exact Or.inl hz
  · rw [rm_n_n e, rm_n_n e, pk_un e, pk_un e]
    exact h1 j
theorem rm_St_no (hA : rm_A m P Q U D C B M) (h : rm_St P D C B bo bt) {k : Nat} {d c b : Int32} (hf : rm_n P k = 0) : rm_St P (upd D k d) (upd C k c) (upd B k b) bo bt := by
  intro i hi
  have hne : ∀ j, 0 < rm_n P j → j ≠ k := fun j hj e => by
    subst e
    omega
  obtain ⟨g1, g2, g3⟩ := h i hi
  have eT : rm_T (rm_n P) (rm_n (upd B k b)) i 8 = rm_T (rm_n P) (rm_n B) i 8 := rm_T_cg (fun j hj => rm_n_n (hne j hj)) 8
  have eL : rm_L (rm_n P) (rm_n (upd D k d)) (rm_n (upd C k c)) (rm_n (upd B k b)) i = rm_L (rm_n P) (rm_n D) (rm_n C) (rm_n B) i :=
    rm_L_cg hi (rm_n_n (hne i hi)) (fun j hj => rm_n_n (hne j hj)) (fun j hj => rm_n_n (hne j hj))
  rw [eT, eL]
  exact ⟨g1, g2, g3⟩
/-- a task goes out -/
theorem rm_n_z {k j : Nat} : rm_n (upd P k 0) j = if j = k then 0 else rm_n P j := by
  by_cases e : j = k
  · subst e
    rw [if_pos rfl]
    exact rm_n_e (pk_us.trans nI_0.symm) (by omega)
  · rw [if_neg e, rm_n_n e]
theorem rm_A_out (h : rm_A m P Q U D C B M) {k : Nat} : rm_A m (upd P k 0) Q (upd U k 0) D C B M := by
  obtain ⟨h1, h2, h3, h4, h5⟩ := h
  refine ⟨fun j => ?_, ?_, h3, h4, h5⟩
  · by_cases e : j = k
    · subst e
      exact Or.inl ⟨pk_us, pk_us⟩
    · rw [rm_n_n e, pk_un e, pk_un e]
      exact h1 j
  · have := rm_bd_u (k := k) (q := 0) h2 (by omega)
    rw [nI_0] at this
    exact this
theorem rm_L_out (hA : rm_A m P Q U D C B M) (h : rm_St P D C B bo bt) {k : Nat} : ∀ i, 0 < rm_n (upd P k 0) i → rm_L (rm_n (upd P k 0)) (rm_n D) (rm_n C) (rm_n B) i ≠ 0 := by
  intro i hi
  have hik : i ≠ k := by
    intro e
    subst e
    rw [rm_n_z, if_pos rfl] at hi
    omega
  have ei : rm_n (upd P k 0) i = rm_n P i := rm_n_n hik
  rw [ei] at hi
  refine rm_L_rm (p := rm_n P) (fun j => ?_) ei (rm_A_used hA hi).2.2.2.1.1 (h i hi).2.2
  by_cases e : j = k
  · right
    rw [rm_n_z, if_pos e]
  · exact Or.inl (rm_n_n e)
theorem rm_A_dem (h : rm_A m P Q U D C B M) {k : Nat} {y : Int32} (hy : 0 < y) : rm_A m P Q U D C B (upd M k y) := by
  obtain ⟨h1, h2, h3, h4, h5⟩ := h
  refine ⟨fun j => ?_, h2, h3, h4, h5⟩
  by_cases e : j = k
  · subst e
    rw [pk_us]
    rcases h1 j with z | z
    · exact Or.inl z
    · exact Or.inr ⟨z.1, z.2.1, z.2.2.1, z.2.2.2.1, hy⟩
  · rw [pk_un e]
    exact h1 j
theorem rm_R_0 : rm_R P (fun _ => 0) := fun _ => Or.inl rfl
theorem rm_upd0 (k : Nat) : upd (fun _ => 0) k 0 = (fun _ => (0 : Int32)) := by
  funext j
  by_cases e : j = k
  · rw [e, pk_us]
  · rw [pk_un e]
theorem rm_upd_back {f : Nat → Int32} {k : Nat} {x y : Int32} (h : f k = y) : upd (upd f k x) k y = f := by
  funext j
  by_cases e : j = k
  · rw [e, pk_us, h]
  · rw [pk_un e, pk_un e]
end
end
section
/-! one tick: the releases, pure -/
def rm_due (P O : Nat → Int32) (ti : Int32) (j : Nat) : Bool := decide (0 < P j ∧ O j ≤ ti ∧ (ti - O j) - (ti - O j) / P j * P j = 0)
def rm_late (P O re : Nat → Int32) (ti : Int32) (j : Nat) : Bool := rm_due P O ti j && decide (0 < re j)
def rm_nr (C M : Nat → Int32) (j : Nat) : Int32 := if C j < M j then C j else M j
def rm_nk (C M : Nat → Int32) (j : Nat) : Int32 := if C j < M j then 1 else 0
def rm_rl (P O rl : Nat → Int32) (ti : Int32) (n : Nat) : Nat → Int32 := rm_mx n (rm_due P O ti) rl (fun j => rl j + 1)
def rm_mi (P O re mi : Nat → Int32) (ti : Int32) (n : Nat) : Nat → Int32 := rm_mx n (rm_late P O re ti) mi (fun j => mi j + 1)
def rm_mk (P O C M mk : Nat → Int32) (ti : Int32) (n : Nat) : Nat → Int32 := rm_mx n (rm_due P O ti) mk (rm_nk C M)
def rm_re (P O C M re : Nat → Int32) (ti : Int32) (n : Nat) : Nat → Int32 := rm_mx n (rm_due P O ti) re (rm_nr C M)
def rm_rt (P O rt : Nat → Int32) (ti : Int32) (n : Nat) : Nat → Int32 := rm_mx n (rm_due P O ti) rt (fun _ => ti)
def rm_uf (P O re : Nat → Int32) (ti un : Int32) (n : Nat) : Int32 := rm_un (rm_late P O re ti) un n
section
variable {m : Nat} {P Q U D C B M O re rl mi mk rt : Nat → Int32} {ti ru un fj : Int32}
theorem rm_due_t {j : Nat} (h0 : 0 < P j) (h1 : O j ≤ ti) (h2 : (ti - O j) - (ti - O j) / P j * P j = 0) : rm_due P O ti j = true := decide_eq_true ⟨h0, h1, h2⟩
theorem rm_due_f0 {j : Nat} (h0 : ¬ 0 < P j) : rm_due P O ti j = false := decide_eq_false fun z => h0 z.1
theorem rm_due_f1 {j : Nat} (h0 : ¬ O j ≤ ti) : rm_due P O ti j = false := decide_eq_false fun z => h0 z.2.1
theorem rm_due_f2 {j : Nat} (h0 : ¬ (ti - O j) - (ti - O j) / P j * P j = 0) : rm_due P O ti j = false := decide_eq_false fun z => h0 z.2.2
theorem rm_due_pos {j : Nat} (h : rm_due P O ti j = true) : 0 < P j := (of_decide_eq_true h).1
theorem rm_late_t {j : Nat} (h : rm_due P O ti j = true) (h0 : 0 < re j) : rm_late P O re ti j = true := by
  unfold rm_late
  simp only [h, decide_eq_true h0, Bool.and_true]
theorem rm_late_f {j : Nat} (h : rm_due P O ti j = false) : rm_late P O re ti j = false := by
  unfold rm_late
  simp only [h, Bool.false_and]
theorem rm_late_n {j : Nat} (h0 : ¬ 0 < re j) : rm_late P O re ti j = false := by
  unfold rm_late
  simp only [decide_eq_false h0, Bool.and_false]
theorem rm_due_end (hA : rm_A m P Q U D C B M) : ∀ j, m ≤ j → rm_due P O ti j = false := fun j hj =>
  rm_due_f0 (fun z => by
    have := (rm_A_Ppos hA j).mp z
    have := rm_A_ge hA hj
    omega)
theorem rm_late_end (hA : rm_A m P Q U D C B M) : ∀ j, m ≤ j → rm_late P O re ti j = false := fun j hj => rm_late_f (rm_due_end hA j hj)
theorem rm_to8 (hm : m ≤ 8) : m + (8 - m) = 8 := by omega
theorem rm_mx_8 {F : Nat → Bool} (f g : Nat → Int32) (hm : m ≤ 8) (h : ∀ j, m ≤ j → F j = false) : rm_mx m F f g = rm_mx 8 F f g := by
  have := rm_mx_end f g h (8 - m)
  rw [rm_to8 hm] at this
  exact this.symm
theorem rm_nr_pos (hA : rm_A m P Q U D C B M) {j : Nat} (h : 0 < P j) : 0 < rm_nr C M j := by
  have hu := rm_A_used hA ((rm_A_Ppos hA j).mp h)
  unfold rm_nr
  by_cases e : C j < M j
  · rw [if_pos e, rm_nI hA.2.2.2.1 j]
    have := rm_n255 hA.2.2.2.1 j
    exact rm_pos (by omega) (by omega)
  · rw [if_neg e]
    exact hu.2.2.2.2
/-- the reference takes the lesser of the two, the other way round -/
theorem rm_nr_y {j : Nat} (h : M j < C j) : M j = rm_nr C M j := by
  unfold rm_nr
  rw [if_neg (fun z => Int32.lt_irrefl (Int32.lt_trans h z))]
theorem rm_nr_n {j : Nat} (h : ¬ M j < C j) : C j = rm_nr C M j := by
  unfold rm_nr
  by_cases e : C j < M j
  · rw [if_pos e]
  · rw [if_neg e]
    exact Int32.le_antisymm (Int32.not_lt.mp h) (Int32.not_lt.mp e)
theorem rm_R_rel (hA : rm_A m P Q U D C B M) (hR : rm_R P re) : rm_R P (rm_re P O C M re ti 8) := by
  intro j
  cases e : rm_due P O ti j with
  | true =>
    have h0 := rm_due_pos e
    have h1 := (rm_A_Ppos hA j).mp h0
    by_cases hj : j < 8
    · unfold rm_re
      rw [rm_mx_y re (rm_nr C M) hj e]
      exact Or.inr ⟨rm_nr_pos hA h0, h1⟩
    · unfold rm_re
      rw [rm_mx_hi (n := 8) (j := j) _ _ _ (by omega)]
      exact hR j
  | false =>
    unfold rm_re
    rw [rm_mx_n re (rm_nr C M) e]
    exact hR j
def rm_Jr (ru un fj : Int32) (rl re : Nat → Int32) : Prop :=
  (ru = -1 ∧ un = -1) ∨ ∃ q, q < 8 ∧ ru = nI q ∧ ((0 < re q ∧ rl q = fj ∧ un = nI q) ∨ (¬ (0 < re q ∧ rl q = fj) ∧ un = -1))
theorem rm_J_rel (hJ : rm_J ru un fj rl re) : rm_Jr ru (rm_uf P O re ti un 8) fj (rm_rl P O rl ti 8) (rm_re P O C M re ti 8) := by
  rcases hJ with ⟨h1, h2⟩ | ⟨q, hq, h1, h2, h3⟩
  · subst h2
    exact Or.inl ⟨h1, rm_un_1 _ 8 (by omega)⟩
  · refine Or.inr ⟨q, hq, h1, ?_⟩
    cases e : rm_due P O ti q with
    | true =>
      right
      refine ⟨fun z => ?_, ?_⟩
      · have z2 := z.2
        unfold rm_rl at z2
        rw [rm_mx_y rl _ hq e, h2] at z2
        exact rm_inc _ z2
      · unfold rm_uf
        rcases h3 with ⟨h4, h5⟩ | ⟨h4, h5⟩
        · rw [h5]
          exact (rm_un_k hq 8 (by omega)).1 hq (rm_late_t e h4)
        · rw [h5]
          exact rm_un_1 _ 8 (by omega)
    | false =>
      have e1 : rm_rl P O rl ti 8 q = rl q := rm_mx_n _ _ e
      have e2 : rm_re P O C M re ti 8 q = re q := rm_mx_n _ _ e
      rw [e1, e2]
      unfold rm_uf
      rcases h3 with ⟨h4, h5⟩ | ⟨h4, h5⟩
      · left
        refine ⟨h4, h2.symm, ?_⟩
        rw [h5]
        exact (rm_un_k hq 8 (by omega)).2 (Or.inr (rm_late_f e))
      · right
        refine ⟨fun z => ?_, ?_⟩
        · rw [h4] at z
          exact Int32.lt_irrefl z.1
        · rw [h5]
          exact rm_un_1 _ 8 (by omega)
theorem rm_Jr_idle (h : rm_Jr ru un fj rl re) (hn : ∀ j, j < 8 → ¬ 0 < re j) : un = -1 := by
  rcases h with ⟨_, h2⟩ | ⟨q, hq, _, h3⟩
  · exact h2
  · rcases h3 with ⟨h4, _⟩ | ⟨_, h5⟩
    · exact absurd h4 (hn q hq)
    · exact h5
theorem rm_J_ex {b : Nat} (hb : b < 8) (h0 : 0 < re b) : rm_J (nI b) (if re b - 1 = 0 then -1 else nI b) (rl b) rl (upd re b (re b - 1)) := by
  refine Or.inr ⟨b, hb, rfl, rfl, ?_⟩
  rw [pk_us]
  by_cases e : re b - 1 = 0
  · rw [if_pos e]
    exact Or.inr ⟨e, rfl⟩
  · rw [if_neg e]
    rcases rm_dec h0 with z | z
    · exact absurd z e
    · exact Or.inl ⟨z, rfl⟩
theorem rm_R_ex {b : Nat} (hR : rm_R P re) (h0 : 0 < re b) : rm_R P (upd re b (re b - 1)) := by
  intro j
  by_cases e : j = b
  · subst e
    rw [pk_us]
    rcases hR j with z | z
    · rw [z] at h0
      exact absurd h0 (Int32.lt_irrefl)
    · rcases rm_dec h0 with y | y
      · exact Or.inl y
      · exact Or.inr ⟨y, z.2⟩
  · rw [pk_un e]
    exact hR j
theorem rm_rl_t {i : Nat} (h : rm_due P O ti i = true) : rm_rl P O rl ti (i + 1) = upd (rm_rl P O rl ti i) i (rm_rl P O rl ti i i + 1) := by
  have e : rm_rl P O rl ti i i = rl i := rm_mx_hi _ _ _ (Nat.le_refl _)
  rw [e]
  exact (rm_mx_t rl (fun j => rl j + 1) h).symm
theorem rm_rl_f {i : Nat} (h : rm_due P O ti i = false) : rm_rl P O rl ti (i + 1) = rm_rl P O rl ti i := rm_mx_f _ _ h
theorem rm_mi_t {i : Nat} (h : rm_late P O re ti i = true) : rm_mi P O re mi ti (i + 1) = upd (rm_mi P O re mi ti i) i (rm_mi P O re mi ti i i + 1) := by
  have e : rm_mi P O re mi ti i i = mi i := rm_mx_hi _ _ _ (Nat.le_refl _)
  rw [e]
  exact (rm_mx_t mi (fun j => mi j + 1) h).symm
theorem rm_mi_f {i : Nat} (h : rm_late P O re ti i = false) : rm_mi P O re mi ti (i + 1) = rm_mi P O re mi ti i := rm_mx_f _ _ h
theorem rm_mk_t {i : Nat} (h : rm_due P O ti i = true) : rm_mk P O C M mk ti (i + 1) = upd (rm_mk P O C M mk ti i) i (rm_nk C M i) := (rm_mx_t mk (rm_nk C M) h).symm
theorem rm_mk_f {i : Nat} (h : rm_due P O ti i = false) : rm_mk P O C M mk ti (i + 1) = rm_mk P O C M mk ti i := rm_mx_f _ _ h
theorem rm_re_t {i : Nat} (h : rm_due P O ti i = true) : rm_re P O C M re ti (i + 1) = upd (rm_re P O C M re ti i) i (rm_nr C M i) := (rm_mx_t re (rm_nr C M) h).symm
theorem rm_re_f {i : Nat} (h : rm_due P O ti i = false) : rm_re P O C M re ti (i + 1) = rm_re P O C M re ti i := rm_mx_f _ _ h
theorem rm_rt_t {i : Nat} (h : rm_due P O ti i = true) : rm_rt P O rt ti (i + 1) = upd (rm_rt P O rt ti i) i ti := (rm_mx_t rt (fun _ => ti) h).symm
theorem rm_rt_f {i : Nat} (h : rm_due P O ti i = false) : rm_rt P O rt ti (i + 1) = rm_rt P O rt ti i := rm_mx_f _ _ h
theorem rm_re_i (i : Nat) : rm_re P O C M re ti i i = re i := rm_mx_hi _ _ _ (Nat.le_refl _)
theorem rm_uf_t {i : Nat} (h : rm_late P O re ti i = true) : rm_uf P O re ti un (i + 1) = if rm_uf P O re ti un i = nI i then -1 else rm_uf P O re ti un i := by
  by_cases e : rm_uf P O re ti un i = nI i
  · rw [if_pos e]
    exact rm_un_t h e
  · rw [if_neg e]
    exact rm_un_e e
theorem rm_uf_f {i : Nat} (h : rm_late P O re ti i = false) : rm_uf P O re ti un (i + 1) = rm_uf P O re ti un i := rm_un_f h
theorem rm_rl_8 (hA : rm_A m P Q U D C B M) (hm : m ≤ 8) : rm_rl P O rl ti m = rm_rl P O rl ti 8 := rm_mx_8 _ _ hm (rm_due_end hA)
theorem rm_mi_8 (hA : rm_A m P Q U D C B M) (hm : m ≤ 8) : rm_mi P O re mi ti m = rm_mi P O re mi ti 8 := rm_mx_8 _ _ hm (rm_late_end hA)
theorem rm_mk_8 (hA : rm_A m P Q U D C B M) (hm : m ≤ 8) : rm_mk P O C M mk ti m = rm_mk P O C M mk ti 8 := rm_mx_8 _ _ hm (rm_due_end hA)
theorem rm_re_8 (hA : rm_A m P Q U D C B M) (hm : m ≤ 8) : rm_re P O C M re ti m = rm_re P O C M re ti 8 := rm_mx_8 _ _ hm (rm_due_end hA)
theorem rm_rt_8 (hA : rm_A m P Q U D C B M) (hm : m ≤ 8) : rm_rt P O rt ti m = rm_rt P O rt ti 8 := rm_mx_8 _ _ hm (rm_due_end hA)
theorem rm_uf_8 (hA : rm_A m P Q U D C B M) (hm : m ≤ 8) : rm_uf P O re ti un m = rm_uf P O re ti un 8 := by
  have := rm_un_end (u := un) (rm_late_end (O := O) (re := re) (ti := ti) hA) (8 - m)
  rw [rm_to8 hm] at this
  exact this.symm
theorem rm_pk_8 (hA : rm_A m P Q U D C B M) (hm : m ≤ 8) (hR : rm_R P re) : rm_pk P re m = rm_pk P re 8 := by
  have hz : ∀ j, m ≤ j → ¬ 0 < re j := fun j hj z => by
    rcases hR j with y | y
    · rw [y] at z
      exact Int32.lt_irrefl z
    · have := rm_A_ge hA hj
      omega
  have := rm_pk_end (P := P) hz (8 - m)
  rw [rm_to8 hm] at this
  exact this.symm
end
/-- the log with its oldest entry gone: n places moved -/
def rm_sh (lg : Nat → Int32) (n : Nat) : Nat → Int32 := rm_mx n (fun _ => true) lg (fun j => lg (j + 1))
theorem rm_sh_0 (lg : Nat → Int32) : rm_sh lg 0 = lg := rm_mx_0 _ _ _
theorem rm_sh_s (lg : Nat → Int32) (n : Nat) : upd (rm_sh lg n) n (rm_sh lg n (n + 1)) = rm_sh lg (n + 1) := by
  have e : rm_sh lg n (n + 1) = lg (n + 1) := rm_mx_hi _ _ _ (by omega)
  rw [e]
  exact rm_mx_t (Q := fun _ => true) lg (fun j => lg (j + 1)) rfl
/-- an entry appended; how many there are then -/
def rm_lg (lg : Nat → Int32) (lc n : Nat) (x : Int32) : Nat → Int32 := if n < lc then upd lg n x else upd (rm_sh lg (lc - 1)) (lc - 1) x
def rm_ln (lc n : Nat) : Nat := if n < lc then n + 1 else lc
/-- what the end of a job writes -/
def rm_ov (mk ov : Nat → Int32) (b : Nat) : Nat → Int32 := if mk b = 0 then ov else upd ov b (ov b + 1)
def rm_ms (D mi : Nat → Int32) (b : Nat) (x : Int32) : Nat → Int32 := if x ≤ D b then mi else upd mi b (mi b + 1)
def rm_wo (wo : Nat → Int32) (b : Nat) (x : Int32) : Nat → Int32 := if x ≤ wo b then wo else upd wo b x
def rm_ent (mk : Nat → Int32) (b : Nat) (x : Int32) : Int32 := if mk b = 0 then nI b * 1024 + x else nI b * 1024 + x + 512
end
section
/-! the relation of the two states -/
def rm_I (m lc n : Nat) (fs ti ru un fj : Int32) (P Q U D C B M bo bt rl en ov mi wo la re rt mk : Nat → Int32) : Prop :=
  rm_N m lc n ∧ (fs = 0 ∨ fs = 1) ∧ rm_A m P Q U D C B M ∧ rm_St P D C B bo bt ∧ rm_R P re ∧ rm_J ru un fj rl re ∧ (fs = 0 → rm_Z ti ru rl en ov mi wo la re rt mk)
def rm_Rel (u : SX) (v : SY) : Prop := ∃ (m lc n : Nat) (fs ti ru un fj ic pr : Int32) (P Q U D C B O M bo bt rl en ov mi wo la re rt mk lg : Nat → Int32),
  u = ((nI m), (nI lc), nI n, fs, ti, ru, un, ic, pr, P, D, C, B, O, M, bo, bt, rl, en, ov, mi, wo, la, re, rt, mk, lg) ∧ v = ((nI m), (nI lc), fs, ti, ru, fj, ic, pr, nI n, U, Q, D, C, B, O, M, rl, en, ov, mi, wo, la, re, rt, mk, lg) ∧ rm_I m lc n fs ti ru un fj P Q U D C B M bo bt rl en ov mi wo la re rt mk
end
section
/-! the component's analysis, each method against the pure picture -/
theorem ek_if {c d A B : Prop} (e : c ↔ d) (f : d → A) (g : ¬ d → B) : (c → A) ∧ (¬ c → B) :=
  ⟨fun z => f (e.mp z), fun z => g (fun y => z (e.mpr y))⟩
theorem rm_hi_iff {m : Nat} {P Q U D C B M : Nat → Int32} (hA : rm_A m P Q U D C B M) (a b : Nat) : (P a < P b ∨ (P a = P b ∧ a < b)) ↔ rm_hi (rm_n P) a b := by
  have ha := rm_n255 hA.2.1 a
  have hb := rm_n255 hA.2.1 b
  rw [rm_A_P hA a, rm_A_P hA b, nI_ltI (by omega) (by omega), nI_eq (by omega) (by omega)]
theorem rm_quo {r p : Nat} (hr : r ≤ 255) (h0 : 0 < p) (hp : p ≤ 255) : (nI r + nI p - 1) / nI p = nI ((r + p - 1) / p) := by
  have e : nI (r + p) - nI 1 = nI (r + p - 1) := pk_sub (by omega)
  have e1 : nI (r + p) - 1 = nI (r + p - 1) := e
  rw [nI_add, e1, pk_div (by omega) h0 (by omega)]
section
variable {m : Nat} {lc : Nat} {fn fs ti ru un ic pr : Int32} {P Q U D C B O M bo bt rl en ov mi wo la re rt mk lg : Nat → Int32}
theorem rm_xu_t {post : Int32 → Prop} {j : Nat} (hm : m ≤ 8) (hj : j < m) (hP : 0 < P j) (h : post 1) : wpX_isInUse post ((nI m), (nI lc), fn, fs, ti, ru, un, ic, pr, P, D, C, B, O, M, bo, bt, rl, en, ov, mi, wo, la, re, rt, mk, lg) (nI j) := by
  have cj : (nI j).toNatClampNeg = j := nI_clamp (by omega)
  unfold wpX_isInUse
  dsimp only
  rw [cj]
  exact br_f (nI_pos (by omega)) (br_f (nI_ge hj (by omega)) ⟨vp_in_nI (by omega) (by omega), br_f (Int32.not_le.mpr hP) h⟩)
theorem rm_xu_f {post : Int32 → Prop} {j : Nat} (hm : m ≤ 8) (hj : j < m) (hP : P j = 0) (h : post 0) : wpX_isInUse post ((nI m), (nI lc), fn, fs, ti, ru, un, ic, pr, P, D, C, B, O, M, bo, bt, rl, en, ov, mi, wo, la, re, rt, mk, lg) (nI j) := by
  have cj : (nI j).toNatClampNeg = j := nI_clamp (by omega)
  unfold wpX_isInUse
  dsimp only
  rw [cj]
  exact br_f (nI_pos (by omega)) (br_f (nI_ge hj (by omega)) ⟨vp_in_nI (by omega) (by omega), br_t (by rw [hP]; exact Int32.le_refl 0) h⟩)
theorem rm_xu_lo {post : Int32 → Prop} {x : Int32} (hx : x < 0) (h : post 0) : wpX_isInUse post ((nI m), (nI lc), fn, fs, ti, ru, un, ic, pr, P, D, C, B, O, M, bo, bt, rl, en, ov, mi, wo, la, re, rt, mk, lg) x := by
  unfold wpX_isInUse
  dsimp only
  exact br_t hx h
theorem rm_xu_hi {post : Int32 → Prop} {x : Int32} (hx0 : ¬ x < 0) (hx : nI m ≤ x) (h : post 0) : wpX_isInUse post ((nI m), (nI lc), fn, fs, ti, ru, un, ic, pr, P, D, C, B, O, M, bo, bt, rl, en, ov, mi, wo, la, re, rt, mk, lg) x := by
  unfold wpX_isInUse
  dsimp only
  exact br_f hx0 (br_t hx h)
theorem rm_xu (hA : rm_A m P Q U D C B M) {post : Int32 → Prop} {j : Nat} (hm : m ≤ 8) (hj : j < m) (h1 : 0 < rm_n P j → post 1) (h0 : rm_n P j = 0 → post 0) : wpX_isInUse post ((nI m), (nI lc), fn, fs, ti, ru, un, ic, pr, P, D, C, B, O, M, bo, bt, rl, en, ov, mi, wo, la, re, rt, mk, lg) (nI j) := by
  by_cases z : 0 < rm_n P j
  · exact rm_xu_t hm hj ((rm_A_Ppos hA j).mpr z) (h1 z)
  · have z0 : rm_n P j = 0 := by omega
    exact rm_xu_f hm hj (rm_A_free hA z0).2 (h0 z0)
theorem rm_xh0 {post : Int32 → Prop} {a b : Nat} (ha : a < 8) (hb : b < 8) (h1 : (P a < P b ∨ (P a = P b ∧ a < b)) → post 1) (h0 : ¬ (P a < P b ∨ (P a = P b ∧ a < b)) → post 0) : wpX_hasHigherPriority post ((nI m), (nI lc), fn, fs, ti, ru, un, ic, pr, P, D, C, B, O, M, bo, bt, rl, en, ov, mi, wo, la, re, rt, mk, lg) (nI a) (nI b) := by
  have ca : (nI a).toNatClampNeg = a := nI_clamp (by omega)
  have cb : (nI b).toNatClampNeg = b := nI_clamp (by omega)
  have ia : vp_in (nI a) 8 := vp_in_nI ha (by omega)
  have ib : vp_in (nI b) 8 := vp_in_nI hb (by omega)
  have hle : nI b ≤ nI a ↔ b ≤ a := nI_leI (by omega) (by omega)
  unfold wpX_hasHigherPriority
  dsimp only
  rw [ca, cb]
  refine ⟨ia, ib, br_c (fun z => h1 (Or.inl z)) (fun z => ⟨ia, ib, br_c (fun y => ek_if hle (fun w => h0 ?_) (fun w => h1 (Or.inr ⟨y, by omega⟩))) (fun y => h0 ?_)⟩)⟩
  · intro q
    rcases q with q | q
    · exact z q
    · have := q.2
      omega
  · intro q
    rcases q with q | q
    · exact z q
    · exact y q.1
theorem rm_xh (hA : rm_A m P Q U D C B M) {post : Int32 → Prop} {a b : Nat} (ha : a < 8) (hb : b < 8) (h1 : rm_hi (rm_n P) a b → post 1) (h0 : ¬ rm_hi (rm_n P) a b → post 0) : wpX_hasHigherPriority post ((nI m), (nI lc), fn, fs, ti, ru, un, ic, pr, P, D, C, B, O, M, bo, bt, rl, en, ov, mi, wo, la, re, rt, mk, lg) (nI a) (nI b) :=
  rm_xh0 ha hb (fun z => h1 ((rm_hi_iff hA a b).mp z)) (fun z => h0 (fun y => z ((rm_hi_iff hA a b).mpr y)))
theorem rm_xT4 (hA : rm_A m P Q U D C B M) (hm : m ≤ 8) {post : Int32 → Prop} {t : Nat} (ht : t < 8) (hp : post (nI (rm_T (rm_n P) (rm_n B) t m))) : ∀ e i n, i + e = m → e < n → wX_blockTerm_4 post (nI t) (nI m) (nI lc) fn fs ti ru un ic pr P D C B O M bo bt rl en ov mi wo la re rt mk lg n (nI (rm_T (rm_n P) (rm_n B) t i)) (nI i) := by
  intro e
  induction e with
  | zero =>
    intro i n h1 h2
    obtain ⟨n, rfl⟩ : ∃ k, n = k + 1 := ⟨n - 1, by omega⟩
    have e1 : i = m := by omega
    subst e1
    rw [wX_blockTerm_4]
    exact br_t (nI_le (Nat.le_refl _) (by omega)) hp
  | succ e ih =>
    intro i n h1 h2
    obtain ⟨n, rfl⟩ : ∃ k, n = k + 1 := ⟨n - 1, by omega⟩
    have H := ih (i + 1) n (by omega) (by omega)
    have ci : (nI i).toNatClampNeg = i := nI_clamp (by omega)
    have ii : vp_in (nI i) 8 := vp_in_nI (by omega) (by omega)
    have hB := rm_n255 hA.2.2.2.2 i
    have hT := rm_T_255 (p := rm_n P) (fun j => rm_n255 hA.2.2.2.2 j) t i
    have cB : B (nI i).toNatClampNeg = nI (rm_n B i) := by
      rw [ci]
      exact rm_nI hA.2.2.2.2 i
    have hle : B (nI i).toNatClampNeg ≤ nI (rm_T (rm_n P) (rm_n B) t i) ↔ rm_n B i ≤ rm_T (rm_n P) (rm_n B) t i := by
      rw [cB]
      exact nI_leI (by omega) (by omega)
    rw [wX_blockTerm_4]
    refine br_f (nI_ge (by omega) (by omega)) (rm_xu hA hm (by omega) (fun hu => br_f (by decide) (rm_xh hA ht (by omega) (fun hh => br_f (by decide) ⟨ii, ek_if hle (fun z => nm_r (nI_1 i) ?_) (fun z => ⟨ii, nm_r cB (nm_r (nI_1 i) ?_)⟩)⟩) (fun hh => br_t rfl (nm_r (nI_1 i) ?_)))) (fun hu => br_t rfl (nm_r (nI_1 i) ?_)))
    · have hf : ¬ ((0 < rm_n P i ∧ rm_hi (rm_n P) t i) ∧ rm_T (rm_n P) (rm_n B) t i < rm_n B i) := fun y => by
        have := y.2
        omega
      rw [rm_T_f hf] at H
      exact H
    · rw [rm_T_t ⟨⟨hu, hh⟩, by omega⟩] at H
      exact H
    · have hf : ¬ ((0 < rm_n P i ∧ rm_hi (rm_n P) t i) ∧ rm_T (rm_n P) (rm_n B) t i < rm_n B i) := fun y => hh y.1.2
      rw [rm_T_f hf] at H
      exact H
    · have hf : ¬ ((0 < rm_n P i ∧ rm_hi (rm_n P) t i) ∧ rm_T (rm_n P) (rm_n B) t i < rm_n B i) := fun y => by
        have := y.1.1
        omega
      rw [rm_T_f hf] at H
      exact H
theorem rm_T_m8 (hA : rm_A m P Q U D C B M) (hm : m ≤ 8) (t : Nat) : rm_T (rm_n P) (rm_n B) t m = rm_T (rm_n P) (rm_n B) t 8 := by
  have := rm_T_end (p := rm_n P) (b := rm_n B) (i := t) (fun j hj => rm_A_ge hA hj) (8 - m)
  rw [rm_to8 hm] at this
  exact this.symm
theorem rm_S_m8 (hA : rm_A m P Q U D C B M) (hm : m ≤ 8) (t r : Nat) : rm_S (rm_n P) (rm_n C) t r m = rm_S (rm_n P) (rm_n C) t r 8 := by
  have := rm_S_end (p := rm_n P) (c := rm_n C) (i := t) (r := r) (fun j hj => rm_A_ge hA hj) (8 - m)
  rw [rm_to8 hm] at this
  exact this.symm
theorem rm_xT (hA : rm_A m P Q U D C B M) (hm : m ≤ 8) {post : Int32 → Prop} {t : Nat} (ht : t < 8) (hp : post (nI (rm_T (rm_n P) (rm_n B) t 8))) : wpX_blockTerm post ((nI m), (nI lc), fn, fs, ti, ru, un, ic, pr, P, D, C, B, O, M, bo, bt, rl, en, ov, mi, wo, la, re, rt, mk, lg) (nI t) := by
  rw [← rm_T_m8 hA hm t] at hp
  exact ⟨m + 1, rm_xT4 hA hm ht hp m 0 (m + 1) (by omega) (by omega)⟩
theorem rm_xS5 (hA : rm_A m P Q U D C B M) (hm : m ≤ 8) {post : Int32 → Prop} {t r : Nat} (ht : t < 8) (hr : r ≤ 255) (hp : post (nI (rm_S (rm_n P) (rm_n C) t r m))) : ∀ e i n, i + e = m → e < n → wX_interference_5 post (nI t) (nI r) (nI m) (nI lc) fn fs ti ru un ic pr P D C B O M bo bt rl en ov mi wo la re rt mk lg n (nI (rm_S (rm_n P) (rm_n C) t r i)) (nI i) := by
  intro e
  induction e with
  | zero =>
    intro i n h1 h2
    obtain ⟨n, rfl⟩ : ∃ k, n = k + 1 := ⟨n - 1, by omega⟩
    have e1 : i = m := by omega
    subst e1
    rw [wX_interference_5]
    exact br_t (nI_le (Nat.le_refl _) (by omega)) hp
  | succ e ih =>
    intro i n h1 h2
    obtain ⟨n, rfl⟩ : ∃ k, n = k + 1 := ⟨n - 1, by omega⟩
    have H := ih (i + 1) n (by omega) (by omega)
    have ci : (nI i).toNatClampNeg = i := nI_clamp (by omega)
    have ii : vp_in (nI i) 8 := vp_in_nI (by omega) (by omega)
    have hP := rm_n255 hA.2.1 i
    have cP : P (nI i).toNatClampNeg = nI (rm_n P i) := by
      rw [ci]
      exact rm_A_P hA i
    have cC : C (nI i).toNatClampNeg = nI (rm_n C i) := by
      rw [ci]
      exact rm_nI hA.2.2.2.1 i
    rw [wX_interference_5]
    refine br_f (nI_ge (by omega) (by omega)) (rm_xu hA hm (by omega) (fun hu => br_f (by decide) (rm_xh hA (by omega) ht (fun hh => br_f (by decide) ⟨ii, ii, ?_, nm_r (e' := nI ((r + rm_n P i - 1) / rm_n P i)) ?_ ⟨ii, nm_r (e' := nI (rm_S (rm_n P) (rm_n C) t r i + (r + rm_n P i - 1) / rm_n P i * rm_n C i)) ?_ (nm_r (nI_1 i) ?_)⟩⟩) (fun hh => br_t rfl (nm_r (nI_1 i) ?_)))) (fun hu => br_t rfl (nm_r (nI_1 i) ?_)))
    · rw [cP]
      exact nI_ne0 hu (by omega)
    · rw [cP]
      exact rm_quo hr hu hP
    · rw [cC, pk_mul, nI_add]
    · rw [rm_S_t ⟨hu, hh⟩] at H
      exact H
    · have hf : ¬ (0 < rm_n P i ∧ rm_hi (rm_n P) i t) := fun y => hh y.2
      rw [rm_S_f hf] at H
      exact H
    · have hf : ¬ (0 < rm_n P i ∧ rm_hi (rm_n P) i t) := fun y => by
        have := y.1
        omega
      rw [rm_S_f hf] at H
      exact H
theorem rm_xS (hA : rm_A m P Q U D C B M) (hm : m ≤ 8) {post : Int32 → Prop} {t r : Nat} (ht : t < 8) (hr : r ≤ 255) (hp : post (nI (rm_S (rm_n P) (rm_n C) t r 8))) : wpX_interference post ((nI m), (nI lc), fn, fs, ti, ru, un, ic, pr, P, D, C, B, O, M, bo, bt, rl, en, ov, mi, wo, la, re, rt, mk, lg) (nI t) (nI r) := by
  rw [← rm_S_m8 hA hm t r] at hp
  exact ⟨m + 1, rm_xS5 hA hm ht hr hp m 0 (m + 1) (by omega) (by omega)⟩
theorem rm_xL10 (hA : rm_A m P Q U D C B M) (hm : m ≤ 8) {post : Int32 → Prop} {t d : Nat} (ht : t < 8) (hd : d ≤ 255) : ∀ e r n, r + e = d + 1 → 1 ≤ r → e < n → post (nI (rm_lb (rm_F (rm_n P) (rm_n C) (rm_n B) t) e r)) → wX_leastBound_10 post (nI t) (nI (rm_T (rm_n P) (rm_n B) t 8)) (nI d) (nI m) (nI lc) fn fs ti ru un ic pr P D C B O M bo bt rl en ov mi wo la re rt mk lg n (nI r) := by
  intro e
  induction e with
  | zero =>
    intro r n h1 h2 h3 hp
    obtain ⟨n, rfl⟩ : ∃ k, n = k + 1 := ⟨n - 1, by omega⟩
    rw [rm_lb, nI_0] at hp
    rw [wX_leastBound_10]
    exact br_t (nI_lt (by omega) (by omega)) hp
  | succ e ih =>
    intro r n h1 h2 h3 hp
    obtain ⟨n, rfl⟩ : ∃ k, n = k + 1 := ⟨n - 1, by omega⟩
    have ct : (nI t).toNatClampNeg = t := nI_clamp (by omega)
    have it : vp_in (nI t) 8 := vp_in_nI ht (by omega)
    have hF := rm_F_big (fun j => rm_n255 hA.2.1 j) (fun j => rm_n255 hA.2.2.2.1 j) (fun j => rm_n255 hA.2.2.2.2 j) t (r := r) (by omega)
    rw [wX_leastBound_10]
    refine br_f (nI_nlt (by omega) (by omega)) ⟨it, rm_xS hA hm ht (by omega) (nm_r (e' := nI (rm_F (rm_n P) (rm_n C) (rm_n B) t r)) ?_ (ek_if (nI_eq (by omega) (by omega)) (fun z => ?_) (fun z => nm_r (nI_1 r) (ih (r + 1) n (by omega) (by omega) (by omega) ?_))))⟩
    · rw [ct, rm_nI hA.2.2.2.1 t, nI_add, nI_add]
      rfl
    · rw [rm_lb_y z] at hp
      exact hp
    · rw [rm_lb_n z] at hp
      exact hp
theorem rm_xL (hA : rm_A m P Q U D C B M) (hm : m ≤ 8) {post : Int32 → Prop} {t : Nat} (ht : t < 8) (hp : post (nI (rm_L (rm_n P) (rm_n D) (rm_n C) (rm_n B) t))) : wpX_leastBound post ((nI m), (nI lc), fn, fs, ti, ru, un, ic, pr, P, D, C, B, O, M, bo, bt, rl, en, ov, mi, wo, la, re, rt, mk, lg) (nI t) (nI (rm_T (rm_n P) (rm_n B) t 8)) := by
  have ct : (nI t).toNatClampNeg = t := nI_clamp (by omega)
  have hd := rm_n255 hA.2.2.1 t
  have it : vp_in (nI t) 8 := vp_in_nI ht (by omega)
  exact ⟨it, nm_r (e' := nI (rm_n D t)) (by rw [ct]; exact rm_nI hA.2.2.1 t) ⟨_, rm_xL10 hA hm ht hd (rm_n D t) 1 (rm_n D t + 1) (by omega) (by omega) (by omega) hp⟩⟩
theorem rm_xE2 (hA : rm_A m P Q U D C B M) (hm : m ≤ 8) {post : Int32 → Prop} : ∀ e i n, i + e = m → e < n → ((∀ j, i ≤ j → j < m → 0 < rm_n P j → rm_L (rm_n P) (rm_n D) (rm_n C) (rm_n B) j ≠ 0) → post 1) → ((∃ j, i ≤ j ∧ j < m ∧ 0 < rm_n P j ∧ rm_L (rm_n P) (rm_n D) (rm_n C) (rm_n B) j = 0) → post 0) → wX_everyTaskHasBound_2 post (nI m) (nI lc) fn fs ti ru un ic pr P D C B O M bo bt rl en ov mi wo la re rt mk lg n (nI i) := by
  intro e
  induction e with
  | zero =>
    intro i n h1 h2 k1 k0
    obtain ⟨n, rfl⟩ : ∃ k, n = k + 1 := ⟨n - 1, by omega⟩
    rw [wX_everyTaskHasBound_2]
    exact br_t (nI_le (by omega) (by omega)) (k1 (fun j hj hj2 => by omega))
  | succ e ih =>
    intro i n h1 h2 k1 k0
    obtain ⟨n, rfl⟩ : ∃ k, n = k + 1 := ⟨n - 1, by omega⟩
    have hL : rm_L (rm_n P) (rm_n D) (rm_n C) (rm_n B) i ≤ 256 := rm_L_le (rm_n255 hA.2.2.1 i)
    have hz : nI (rm_L (rm_n P) (rm_n D) (rm_n C) (rm_n B) i) = 0 ↔ rm_L (rm_n P) (rm_n D) (rm_n C) (rm_n B) i = 0 := by
      rw [← nI_0]
      exact nI_eq (by omega) (by omega)
    have H := ih (i + 1) n (by omega) (by omega)
    rw [wX_everyTaskHasBound_2]
    refine br_f (nI_ge (by omega) (by omega)) (rm_xu hA hm (by omega) (fun hu => br_f (by decide) (rm_xT hA hm (by omega) (rm_xL hA hm (by omega) (ek_if hz (fun z => k0 ⟨i, Nat.le_refl _, by omega, hu, z⟩) (fun z => nm_r (nI_1 i) (H (fun q => k1 (fun j hj hj2 hj3 => ?_)) (fun q => k0 ?_))))))) (fun hu => br_t rfl (nm_r (nI_1 i) (H (fun q => k1 (fun j hj hj2 hj3 => ?_)) (fun q => k0 ?_)))))
    · by_cases ej : j = i
      · subst ej
        exact z
      · exact q j (by omega) hj2 hj3
    · obtain ⟨j, hj, hj2, hj3⟩ := q
      exact ⟨j, by omega, hj2, hj3⟩
    · by_cases ej : j = i
      · subst ej
        omega
      · exact q j (by omega) hj2 hj3
    · obtain ⟨j, hj, hj2, hj3⟩ := q
      exact ⟨j, by omega, hj2, hj3⟩
theorem rm_xE (hA : rm_A m P Q U D C B M) (hm : m ≤ 8) {post : Int32 → Prop} (k1 : (∀ j, 0 < rm_n P j → rm_L (rm_n P) (rm_n D) (rm_n C) (rm_n B) j ≠ 0) → post 1) (k0 : (∃ j, j < m ∧ 0 < rm_n P j ∧ rm_L (rm_n P) (rm_n D) (rm_n C) (rm_n B) j = 0) → post 0) : wpX_everyTaskHasBound post ((nI m), (nI lc), fn, fs, ti, ru, un, ic, pr, P, D, C, B, O, M, bo, bt, rl, en, ov, mi, wo, la, re, rt, mk, lg) :=
  ⟨m + 1, rm_xE2 hA hm m 0 (m + 1) (by omega) (by omega) (fun q => k1 (fun j hj => q j (Nat.zero_le _) (rm_A_used hA hj).2.2.1 hj)) (fun ⟨j, _, h⟩ => k0 ⟨j, h⟩)⟩
end
end
section
section
variable {m : Nat} {lc : Nat} {fn fs ti ru un ic pr : Int32} {P Q U D C B O M bo bt rl en ov mi wo la re rt mk lg : Nat → Int32}
/-- the stored analysis of the slots below i -/
def rm_Sto (P D C B : Nat → Int32) (i : Nat) (bo bt : Nat → Int32) : Prop := ∀ j, j < i → 0 < rm_n P j → bt j = nI (rm_T (rm_n P) (rm_n B) j 8) ∧ bo j = nI (rm_L (rm_n P) (rm_n D) (rm_n C) (rm_n B) j)
theorem rm_xR2 (hA : rm_A m P Q U D C B M) (hm : m ≤ 8) {post : SX → Prop} (K : ∀ bo bt, rm_Sto P D C B m bo bt → post ((nI m), (nI lc), fn, fs, ti, ru, un, ic, pr, P, D, C, B, O, M, bo, bt, rl, en, ov, mi, wo, la, re, rt, mk, lg)) : ∀ e i n bo bt, i + e = m → e < n → rm_Sto P D C B i bo bt → wX_recomputeAnalysis_2 post (nI m) (nI lc) fn fs ti ru un ic pr n (nI i) P D C B O M bo bt rl en ov mi wo la re rt mk lg := by
  intro e
  induction e with
  | zero =>
    intro i n bo bt h1 h2 hS
    obtain ⟨n, rfl⟩ : ∃ k, n = k + 1 := ⟨n - 1, by omega⟩
    have e1 : i = m := by omega
    subst e1
    rw [wX_recomputeAnalysis_2]
    exact br_t (nI_le (Nat.le_refl _) (by omega)) (K bo bt hS)
  | succ e ih =>
    intro i n bo bt h1 h2 hS
    obtain ⟨n, rfl⟩ : ∃ k, n = k + 1 := ⟨n - 1, by omega⟩
    have ci : (nI i).toNatClampNeg = i := nI_clamp (by omega)
    have ii : vp_in (nI i) 8 := vp_in_nI (by omega) (by omega)
    rw [wX_recomputeAnalysis_2]
    refine br_f (nI_ge (by omega) (by omega)) (rm_xu hA hm (by omega) (fun hu => br_f (by decide) (rm_xT hA hm (by omega) ⟨ii, nm_r (e' := upd bt i (nI (rm_T (rm_n P) (rm_n B) i 8))) (by rw [ci]) (rm_xL hA hm (by omega) ⟨ii, nm_r (e' := upd bo i (nI (rm_L (rm_n P) (rm_n D) (rm_n C) (rm_n B) i))) (by rw [ci]) (nm_r (nI_1 i) (ih (i + 1) n _ _ (by omega) (by omega) (fun j hj hj2 => ?_)))⟩)⟩)) (fun hu => br_t rfl (nm_r (nI_1 i) (ih (i + 1) n bo bt (by omega) (by omega) (fun j hj hj2 => ?_)))))
    · by_cases ej : j = i
      · subst ej
        exact ⟨pk_us, pk_us⟩
      · rw [pk_un ej, pk_un ej]
        exact hS j (by omega) hj2
    · by_cases ej : j = i
      · subst ej
        omega
      · exact hS j (by omega) hj2
theorem rm_xR (hA : rm_A m P Q U D C B M) (hm : m ≤ 8) (hL : ∀ j, 0 < rm_n P j → rm_L (rm_n P) (rm_n D) (rm_n C) (rm_n B) j ≠ 0) {post : SX → Prop} (K : ∀ bo bt, rm_St P D C B bo bt → post ((nI m), (nI lc), fn, fs, ti, ru, un, ic, pr, P, D, C, B, O, M, bo, bt, rl, en, ov, mi, wo, la, re, rt, mk, lg)) : wpX_recomputeAnalysis post ((nI m), (nI lc), fn, fs, ti, ru, un, ic, pr, P, D, C, B, O, M, bo, bt, rl, en, ov, mi, wo, la, re, rt, mk, lg) :=
  ⟨m + 1, rm_xR2 hA hm (fun bo bt hS => K bo bt (fun j hj => ⟨(hS j (rm_A_used hA hj).2.2.1 hj).1, (hS j (rm_A_used hA hj).2.2.1 hj).2, hL j hj⟩)) m 0 (m + 1) bo bt (by omega) (by omega) (fun j hj => absurd hj (Nat.not_lt_zero j))⟩
theorem rm_xf2 (hA : rm_A m P Q U D C B M) (hm : m ≤ 8) {post : Int32 → Prop} : ∀ e i n, i + e = m → e < n → post (rm_oi (rm_ff (rm_n P) e i)) → wX_smallestFreeSlot_2 post (nI m) (nI lc) fn fs ti ru un ic pr P D C B O M bo bt rl en ov mi wo la re rt mk lg n (nI i) := by
  intro e
  induction e with
  | zero =>
    intro i n h1 h2 hp
    obtain ⟨n, rfl⟩ : ∃ k, n = k + 1 := ⟨n - 1, by omega⟩
    rw [wX_smallestFreeSlot_2]
    exact br_t (nI_le (by omega) (by omega)) hp
  | succ e ih =>
    intro i n h1 h2 hp
    obtain ⟨n, rfl⟩ : ∃ k, n = k + 1 := ⟨n - 1, by omega⟩
    rw [wX_smallestFreeSlot_2]
    refine br_f (nI_ge (by omega) (by omega)) (rm_xu hA hm (by omega) (fun hu => br_f (by decide) (nm_r (nI_1 i) (ih (i + 1) n (by omega) (by omega) ?_))) (fun hu => br_t rfl ?_))
    · have hne : ¬ rm_n P i = 0 := by omega
      rw [rm_ff_n hne] at hp
      exact hp
    · rw [rm_ff_y hu] at hp
      exact hp
theorem rm_xf (hA : rm_A m P Q U D C B M) (hm : m ≤ 8) {post : Int32 → Prop} (hp : post (rm_oi (rm_ff (rm_n P) m 0))) : wpX_smallestFreeSlot post ((nI m), (nI lc), fn, fs, ti, ru, un, ic, pr, P, D, C, B, O, M, bo, bt, rl, en, ov, mi, wo, la, re, rt, mk, lg) :=
  ⟨m + 1, rm_xf2 hA hm m 0 (m + 1) (by omega) (by omega) hp⟩
theorem rm_xc4 (hA : rm_A m P Q U D C B M) (hm : m ≤ 8) {post : Int32 → Prop} (hp : post (nI (rm_ct (rm_n P) m))) : ∀ e i n, i + e = m → e < n → wX_getTaskCount_4 post (nI m) (nI lc) fn fs ti ru un ic pr P D C B O M bo bt rl en ov mi wo la re rt mk lg n (nI (rm_ct (rm_n P) i)) (nI i) := by
  intro e
  induction e with
  | zero =>
    intro i n h1 h2
    obtain ⟨n, rfl⟩ : ∃ k, n = k + 1 := ⟨n - 1, by omega⟩
    have e1 : i = m := by omega
    subst e1
    rw [wX_getTaskCount_4]
    exact br_t (nI_le (Nat.le_refl _) (by omega)) hp
  | succ e ih =>
    intro i n h1 h2
    obtain ⟨n, rfl⟩ : ∃ k, n = k + 1 := ⟨n - 1, by omega⟩
    have H := ih (i + 1) n (by omega) (by omega)
    rw [wX_getTaskCount_4]
    refine br_f (nI_ge (by omega) (by omega)) (rm_xu hA hm (by omega) (fun hu => br_f (by decide) (nm_r (nI_1 _) (nm_r (nI_1 i) ?_))) (fun hu => br_t rfl (nm_r (nI_1 i) ?_)))
    · rw [rm_ct_y hu] at H
      exact H
    · have hne : ¬ 0 < rm_n P i := by omega
      rw [rm_ct_n hne] at H
      exact H
theorem rm_ct_m8 (hA : rm_A m P Q U D C B M) (hm : m ≤ 8) : rm_ct (rm_n P) m = rm_ct (rm_n P) 8 := by
  have := rm_ct_end (p := rm_n P) (fun j hj => rm_A_ge hA hj) (8 - m)
  rw [rm_to8 hm] at this
  exact this.symm
theorem rm_xc (hA : rm_A m P Q U D C B M) (hm : m ≤ 8) {post : Int32 → Prop} (hp : post (nI (rm_ct (rm_n P) 8))) : wpX_getTaskCount post ((nI m), (nI lc), fn, fs, ti, ru, un, ic, pr, P, D, C, B, O, M, bo, bt, rl, en, ov, mi, wo, la, re, rt, mk, lg) := by
  rw [← rm_ct_m8 hA hm] at hp
  exact ⟨m + 1, rm_xc4 hA hm hp m 0 (m + 1) (by omega) (by omega)⟩
theorem rm_xocc {post : SX → Prop} {k : Nat} {p d c b : Int32} (hk : k < 8) (h : post ((nI m), (nI lc), fn, fs, ti, ru, un, ic, pr, upd P k p, upd D k d, upd C k c, upd B k b, upd O k 0, upd M k c, bo, bt, rl, en, ov, mi, wo, la, re, rt, mk, lg)) : wpX_occupy post ((nI m), (nI lc), fn, fs, ti, ru, un, ic, pr, P, D, C, B, O, M, bo, bt, rl, en, ov, mi, wo, la, re, rt, mk, lg) (nI k) p d c b := by
  have ck : (nI k).toNatClampNeg = k := nI_clamp (by omega)
  have ik : vp_in (nI k) 8 := vp_in_nI hk (by omega)
  unfold wpX_occupy
  dsimp only
  rw [ck]
  exact ⟨ik, nm_e ⟨ik, nm_e ⟨ik, nm_e ⟨ik, nm_e ⟨ik, nm_e ⟨ik, nm_e h⟩⟩⟩⟩⟩⟩
theorem rm_xvac {post : SX → Prop} {k : Nat} (hk : k < 8) (h : post ((nI m), (nI lc), fn, fs, ti, ru, un, ic, pr, upd P k 0, D, C, B, O, M, bo, bt, rl, en, ov, mi, wo, la, re, rt, mk, lg)) : wpX_vacate post ((nI m), (nI lc), fn, fs, ti, ru, un, ic, pr, P, D, C, B, O, M, bo, bt, rl, en, ov, mi, wo, la, re, rt, mk, lg) (nI k) := by
  have ck : (nI k).toNatClampNeg = k := nI_clamp (by omega)
  have ik : vp_in (nI k) 8 := vp_in_nI hk (by omega)
  unfold wpX_vacate
  dsimp only
  rw [ck]
  exact ⟨ik, nm_e h⟩
end
theorem rm_xw {post : Int32 → Prop} {x lo hi : Int32} (h1 : lo ≤ x ∧ x ≤ hi → post 1) (h0 : ¬ (lo ≤ x ∧ x ≤ hi) → post 0) : wpX_isWithin post x lo hi := by
  unfold wpX_isWithin
  refine br_c (fun z => h0 (fun y => Int32.not_le.mpr z y.1)) (fun z => br_c (fun w => h0 (fun y => Int32.not_le.mpr w y.2)) (fun w => h1 ⟨Int32.not_lt.mp z, Int32.not_lt.mp w⟩))
def rm_ok (p d c b : Int32) : Prop := (1 ≤ p ∧ p ≤ 255) ∧ (1 ≤ d ∧ d ≤ p) ∧ (1 ≤ c ∧ c ≤ d) ∧ (0 ≤ b ∧ b ≤ 255)
theorem rm_xok {post : Int32 → Prop} {p d c b : Int32} (h1 : rm_ok p d c b → post 1) (h0 : ¬ rm_ok p d c b → post 0) : wpX_isTaskInRange post p d c b := by
  unfold wpX_isTaskInRange
  refine rm_xw (fun z1 => br_f (by decide) (rm_xw (fun z2 => br_f (by decide) (rm_xw (fun z3 => br_f (by decide) (rm_xw (fun z4 => br_f (by decide) (h1 ⟨z1, z2, z3, z4⟩)) (fun z => br_t rfl (h0 (fun y => z y.2.2.2))))) (fun z => br_t rfl (h0 (fun y => z y.2.2.1))))) (fun z => br_t rfl (h0 (fun y => z y.2.1))))) (fun z => br_t rfl (h0 (fun y => z y.1)))
theorem rm_ok_nat {p d c b : Int32} (h : rm_ok p d c b) : ∃ p' d' c' b' : Nat, p = nI p' ∧ d = nI d' ∧ c = nI c' ∧ b = nI b' ∧ (1 ≤ c' ∧ c' ≤ d' ∧ d' ≤ p' ∧ p' ≤ 255 ∧ b' ≤ 255) := by
  obtain ⟨⟨h1, h2⟩, ⟨h3, h4⟩, ⟨h5, h6⟩, ⟨h7, h8⟩⟩ := h
  have n1 : ∀ {x : Int32}, 1 ≤ x → ¬ x < 0 := fun q z => absurd (Int32.lt_of_le_of_lt q z) (by decide)
  obtain ⟨p', hp, rfl⟩ := nI_of (n1 h1)
  obtain ⟨d', hd, rfl⟩ := nI_of (n1 h3)
  obtain ⟨c', hc, rfl⟩ := nI_of (n1 h5)
  obtain ⟨b', hb, rfl⟩ := nI_of (Int32.not_lt.mpr h7)
  have e1 : nI p' ≤ nI 255 := h2
  have e2 : nI 1 ≤ nI c' := h5
  have e3 : nI b' ≤ nI 255 := h8
  rw [nI_leI (by omega) (by omega)] at e1 e2 e3 h4 h6
  exact ⟨p', d', c', b', rfl, rfl, rfl, rfl, e2, h6, h4, e1, e3⟩
end
section
/-! the reference's analysis, against the same pure picture -/
section
variable {m : Nat} {lc : Nat} {fn fs ti ru fj ic pr : Int32} {P Q U D C B O M rl en ov mi wo la re rt mk lg : Nat → Int32}
theorem rm_yh0 {post : Int32 → Prop} {a b : Nat} (ha : a < 8) (hb : b < 8) (h1 : (Q a < Q b ∨ (Q a = Q b ∧ a < b)) → post 1) (h0 : ¬ (Q a < Q b ∨ (Q a = Q b ∧ a < b)) → post 0) : wpY_higher post ((nI m), (nI lc), fs, ti, ru, fj, ic, pr, fn, U, Q, D, C, B, O, M, rl, en, ov, mi, wo, la, re, rt, mk, lg) (nI a) (nI b) := by
  have ca : (nI a).toNatClampNeg = a := nI_clamp (by omega)
  have cb : (nI b).toNatClampNeg = b := nI_clamp (by omega)
  have ia : vp_in (nI a) 8 := vp_in_nI ha (by omega)
  have ib : vp_in (nI b) 8 := vp_in_nI hb (by omega)
  have hle : nI b ≤ nI a ↔ b ≤ a := nI_leI (by omega) (by omega)
  unfold wpY_higher
  dsimp only
  rw [ca, cb]
  refine ⟨ia, ib, br_c (fun z => h1 (Or.inl z)) (fun z => ⟨ia, ib, br_c (fun y => ek_if hle (fun w => h0 ?_) (fun w => h1 (Or.inr ⟨y, by omega⟩))) (fun y => h0 ?_)⟩)⟩
  · intro q
    rcases q with q | q
    · exact z q
    · have := q.2
      omega
  · intro q
    rcases q with q | q
    · exact z q
    · exact y q.1
theorem rm_yh (hA : rm_A m P Q U D C B M) {post : Int32 → Prop} {a b : Nat} (ua : 0 < rm_n P a) (ub : 0 < rm_n P b) (ha : a < 8) (hb : b < 8) (h1 : rm_hi (rm_n P) a b → post 1) (h0 : ¬ rm_hi (rm_n P) a b → post 0) : wpY_higher post ((nI m), (nI lc), fs, ti, ru, fj, ic, pr, fn, U, Q, D, C, B, O, M, rl, en, ov, mi, wo, la, re, rt, mk, lg) (nI a) (nI b) := by
  have ea := (rm_A_used hA ua).2.1
  have eb := (rm_A_used hA ub).2.1
  have hh := rm_hi_iff hA a b
  rw [ea, eb] at hh
  exact rm_yh0 ha hb (fun z => h1 (hh.mp z)) (fun z => h0 (fun y => z (hh.mpr y)))
theorem rm_yT4 (hA : rm_A m P Q U D C B M) {post : Int32 → Prop} {t : Nat} (ht : t < 8) (ut : 0 < rm_n P t) (hp : post (nI (rm_T (rm_n P) (rm_n B) t 8))) : ∀ e i n, i + e = 8 → e < n → wY_blockTermOf_4 post (nI t) (nI m) (nI lc) fs ti ru fj ic pr fn U Q D C B O M rl en ov mi wo la re rt mk lg n (nI (rm_T (rm_n P) (rm_n B) t i)) (nI i) := by
  intro e
  induction e with
  | zero =>
    intro i n h1 h2
    obtain ⟨n, rfl⟩ : ∃ k, n = k + 1 := ⟨n - 1, by omega⟩
    have e1 : i = 8 := by omega
    subst e1
    rw [wY_blockTermOf_4]
    exact br_t (nI_le (a := 8) (b := 8) (Nat.le_refl _) (by omega)) hp
  | succ e ih =>
    intro i n h1 h2
    obtain ⟨n, rfl⟩ : ∃ k, n = k + 1 := ⟨n - 1, by omega⟩
    have H := ih (i + 1) n (by omega) (by omega)
    have ci : (nI i).toNatClampNeg = i := nI_clamp (by omega)
    have ii : vp_in (nI i) 8 := vp_in_nI (by omega) (by omega)
    have h8 : ¬ (8 : Int32) ≤ nI i := nI_ge (b := 8) (by omega) (by omega)
    have hB := rm_n255 hA.2.2.2.2 i
    have hT := rm_T_255 (p := rm_n P) (fun j => rm_n255 hA.2.2.2.2 j) t i
    have cB : B (nI i).toNatClampNeg = nI (rm_n B i) := by
      rw [ci]
      exact rm_nI hA.2.2.2.2 i
    have hU : U (nI i).toNatClampNeg = 0 ↔ rm_n P i = 0 := by
      rw [ci]
      exact rm_A_U0 hA i
    have heq : nI i = nI t ↔ i = t := nI_eq (by omega) (by omega)
    have hle : B (nI i).toNatClampNeg ≤ nI (rm_T (rm_n P) (rm_n B) t i) ↔ rm_n B i ≤ rm_T (rm_n P) (rm_n B) t i := by
      rw [cB]
      exact nI_leI (by omega) (by omega)
    rw [wY_blockTermOf_4]
    refine br_f h8 ⟨ii, ek_if hU (fun hu => nm_r (nI_1 i) ?_) (fun hu => ek_if heq (fun hq => nm_r (nI_1 i) ?_) (fun hq => rm_yh hA ut (by omega) ht (by omega) (fun hh => br_f (by decide) ⟨ii, ek_if hle (fun z => nm_r (nI_1 i) ?_) (fun z => ⟨ii, nm_r cB (nm_r (nI_1 i) ?_)⟩)⟩) (fun hh => br_t rfl (nm_r (nI_1 i) ?_))))⟩
    · have hf : ¬ ((0 < rm_n P i ∧ rm_hi (rm_n P) t i) ∧ rm_T (rm_n P) (rm_n B) t i < rm_n B i) := fun y => by
        have := y.1.1
        omega
      rw [rm_T_f hf] at H
      exact H
    · have hf : ¬ ((0 < rm_n P i ∧ rm_hi (rm_n P) t i) ∧ rm_T (rm_n P) (rm_n B) t i < rm_n B i) := fun y => by
        subst hq
        rcases y.1.2 with z | z
        · omega
        · omega
      rw [rm_T_f hf] at H
      exact H
    · have hf : ¬ ((0 < rm_n P i ∧ rm_hi (rm_n P) t i) ∧ rm_T (rm_n P) (rm_n B) t i < rm_n B i) := fun y => by
        have := y.2
        omega
      rw [rm_T_f hf] at H
      exact H
    · rw [rm_T_t ⟨⟨by omega, hh⟩, by omega⟩] at H
      exact H
    · have hf : ¬ ((0 < rm_n P i ∧ rm_hi (rm_n P) t i) ∧ rm_T (rm_n P) (rm_n B) t i < rm_n B i) := fun y => hh y.1.2
      rw [rm_T_f hf] at H
      exact H
theorem rm_yT (hA : rm_A m P Q U D C B M) {post : Int32 → Prop} {t : Nat} (ht : t < 8) (ut : 0 < rm_n P t) (hp : post (nI (rm_T (rm_n P) (rm_n B) t 8))) : wpY_blockTermOf post ((nI m), (nI lc), fs, ti, ru, fj, ic, pr, fn, U, Q, D, C, B, O, M, rl, en, ov, mi, wo, la, re, rt, mk, lg) (nI t) :=
  ⟨9, rm_yT4 hA ht ut hp 8 0 9 (by omega) (by omega)⟩
theorem rm_yF13 (hA : rm_A m P Q U D C B M) {post : Int32 → Prop} {t r s : Nat} (ht : t < 8) (ut : 0 < rm_n P t) (hr : r ≤ 255) (hp : post (nI (s + rm_S (rm_n P) (rm_n C) t r 8))) : ∀ e i n, i + e = 8 → e < n → wY_fOf_13 post (nI t) (nI r) (nI m) (nI lc) fs ti ru fj ic pr fn U Q D C B O M rl en ov mi wo la re rt mk lg n (nI (s + rm_S (rm_n P) (rm_n C) t r i)) (nI i) := by
  intro e
  induction e with
  | zero =>
    intro i n h1 h2
    obtain ⟨n, rfl⟩ : ∃ k, n = k + 1 := ⟨n - 1, by omega⟩
    have e1 : i = 8 := by omega
    subst e1
    rw [wY_fOf_13]
    exact br_t (nI_le (a := 8) (b := 8) (Nat.le_refl _) (by omega)) hp
  | succ e ih =>
    intro i n h1 h2
    obtain ⟨n, rfl⟩ : ∃ k, n = k + 1 := ⟨n - 1, by omega⟩
    have H := ih (i + 1) n (by omega) (by omega)
    have ci : (nI i).toNatClampNeg = i := nI_clamp (by omega)
    have ii : vp_in (nI i) 8 := vp_in_nI (by omega) (by omega)
    have h8 : ¬ (8 : Int32) ≤ nI i := nI_ge (b := 8) (by omega) (by omega)
    have hP := rm_n255 hA.2.1 i
    have cC : C (nI i).toNatClampNeg = nI (rm_n C i) := by
      rw [ci]
      exact rm_nI hA.2.2.2.1 i
    have hU : U (nI i).toNatClampNeg = 0 ↔ rm_n P i = 0 := by
      rw [ci]
      exact rm_A_U0 hA i
    have cQ : 0 < rm_n P i → Q (nI i).toNatClampNeg = nI (rm_n P i) := fun hu => by
      rw [ci, ← (rm_A_used hA hu).2.1]
      exact rm_A_P hA i
    have heq : nI i = nI t ↔ i = t := nI_eq (by omega) (by omega)
    rw [wY_fOf_13]
    refine br_f h8 ⟨ii, ek_if hU (fun hu => nm_r (nI_1 i) ?_) (fun hu => ek_if heq (fun hq => nm_r (nI_1 i) ?_) (fun hq => rm_yh hA (by omega) ut (by omega) ht (fun hh => br_f (by decide) ⟨ii, ii, ?_, ii, nm_r (e' := nI (s + rm_S (rm_n P) (rm_n C) t r i + (r + rm_n P i - 1) / rm_n P i * rm_n C i)) ?_ (nm_r (nI_1 i) ?_)⟩) (fun hh => br_t rfl (nm_r (nI_1 i) ?_))))⟩
    · have hf : ¬ (0 < rm_n P i ∧ rm_hi (rm_n P) i t) := fun y => by
        have := y.1
        omega
      rw [rm_S_f hf] at H
      exact H
    · have hf : ¬ (0 < rm_n P i ∧ rm_hi (rm_n P) i t) := fun y => by
        subst hq
        rcases y.2 with z | z
        · omega
        · omega
      rw [rm_S_f hf] at H
      exact H
    · rw [cQ (by omega)]
      exact nI_ne0 (by omega) (by omega)
    · rw [cQ (by omega), cC, rm_quo hr (by omega) hP, pk_mul, nI_add]
    · rw [rm_S_t ⟨by omega, hh⟩, ← Nat.add_assoc] at H
      exact H
    · have hf : ¬ (0 < rm_n P i ∧ rm_hi (rm_n P) i t) := fun y => hh y.2
      rw [rm_S_f hf] at H
      exact H
theorem rm_yF (hA : rm_A m P Q U D C B M) {post : Int32 → Prop} {t r : Nat} (ht : t < 8) (ut : 0 < rm_n P t) (hr : r ≤ 255) (hp : post (nI (rm_F (rm_n P) (rm_n C) (rm_n B) t r))) : wpY_fOf post ((nI m), (nI lc), fs, ti, ru, fj, ic, pr, fn, U, Q, D, C, B, O, M, rl, en, ov, mi, wo, la, re, rt, mk, lg) (nI t) (nI r) (nI (rm_T (rm_n P) (rm_n B) t 8)) := by
  have ct : (nI t).toNatClampNeg = t := nI_clamp (by omega)
  have it : vp_in (nI t) 8 := vp_in_nI ht (by omega)
  have H := rm_yF13 (fn := fn) (fs := fs) (ti := ti) (ru := ru) (fj := fj) (ic := ic) (pr := pr) (lc := lc) (O := O) (rl := rl) (en := en) (ov := ov) (mi := mi) (wo := wo) (la := la) (re := re) (rt := rt) (mk := mk) (lg := lg) hA (post := post) (s := rm_n C t + rm_T (rm_n P) (rm_n B) t 8) ht ut hr hp 8 0 9 (by omega) (by omega)
  exact ⟨it, nm_r (e' := nI (rm_n C t + rm_T (rm_n P) (rm_n B) t 8)) (by rw [ct, rm_nI hA.2.2.2.1 t, nI_add]) ⟨9, H⟩⟩
def rm_yl (x : Nat) : Int32 := if x = 0 then -1 else nI x
theorem rm_yB8 (hA : rm_A m P Q U D C B M) {post : Int32 → Prop} {t : Nat} (ht : t < 8) (ut : 0 < rm_n P t) : ∀ e r n, r + e = rm_n D t + 1 → 1 ≤ r → e < n → post (rm_yl (rm_lb (rm_F (rm_n P) (rm_n C) (rm_n B) t) e r)) → wY_boundOf_8 post (nI t) (nI (rm_T (rm_n P) (rm_n B) t 8)) (nI m) (nI lc) fs ti ru fj ic pr fn U Q D C B O M rl en ov mi wo la re rt mk lg n (nI r) := by
  have ct : (nI t).toNatClampNeg = t := nI_clamp (by omega)
  have it : vp_in (nI t) 8 := vp_in_nI ht (by omega)
  have hD := rm_n255 hA.2.2.1 t
  have cD : D (nI t).toNatClampNeg = nI (rm_n D t) := by
    rw [ct]
    exact rm_nI hA.2.2.1 t
  intro e
  induction e with
  | zero =>
    intro r n h1 h2 h3 hp
    obtain ⟨n, rfl⟩ : ∃ k, n = k + 1 := ⟨n - 1, by omega⟩
    have hlt : D (nI t).toNatClampNeg < nI r := by
      rw [cD]
      exact nI_lt (by omega) (by omega)
    rw [wY_boundOf_8]
    exact ⟨it, br_t hlt hp⟩
  | succ e ih =>
    intro r n h1 h2 h3 hp
    obtain ⟨n, rfl⟩ : ∃ k, n = k + 1 := ⟨n - 1, by omega⟩
    have hlt : ¬ D (nI t).toNatClampNeg < nI r := by
      rw [cD]
      exact nI_nlt (by omega) (by omega)
    have h255 : ¬ (255 : Int32) < nI r := nI_nlt (a := 255) (by omega) (by omega)
    have hF := rm_F_big (fun j => rm_n255 hA.2.1 j) (fun j => rm_n255 hA.2.2.2.1 j) (fun j => rm_n255 hA.2.2.2.2 j) t (r := r) (by omega)
    rw [wY_boundOf_8]
    refine ⟨it, br_f hlt (br_f h255 (rm_yF hA ht ut (by omega) (ek_if (nI_eq (by omega) (by omega)) (fun z => ?_) (fun z => nm_r (nI_1 r) (ih (r + 1) n (by omega) (by omega) (by omega) ?_)))))⟩
    · have hr : ¬ r = 0 := by omega
      rw [rm_lb_y z, rm_yl, if_neg hr] at hp
      exact hp
    · rw [rm_lb_n z] at hp
      exact hp
theorem rm_yB (hA : rm_A m P Q U D C B M) {post : Int32 → Prop} {t : Nat} (ht : t < 8) (ut : 0 < rm_n P t) (hp : post (rm_yl (rm_L (rm_n P) (rm_n D) (rm_n C) (rm_n B) t))) : wpY_boundOf post ((nI m), (nI lc), fs, ti, ru, fj, ic, pr, fn, U, Q, D, C, B, O, M, rl, en, ov, mi, wo, la, re, rt, mk, lg) (nI t) := by
  unfold wpY_boundOf
  dsimp only
  exact rm_yT hA ht ut ⟨rm_n D t + 1, rm_yB8 hA ht ut (rm_n D t) 1 (rm_n D t + 1) (by omega) (by omega) (by omega) hp⟩
theorem rm_yl_0 {x : Nat} (h : x < 2 ^ 31) : 0 ≤ rm_yl x ↔ ¬ x = 0 := by
  unfold rm_yl
  by_cases z : x = 0
  · rw [if_pos z]
    exact ⟨fun y => absurd y (by decide), fun y => absurd z y⟩
  · rw [if_neg z]
    exact ⟨fun _ => z, fun _ => nI_pos' h⟩
theorem rm_yc4 (hA : rm_A m P Q U D C B M) {post : Int32 → Prop} (hp : post (nI (rm_ct (rm_n P) 8))) : ∀ e i n, i + e = 8 → e < n → wY_getTaskCount_4 post (nI m) (nI lc) fs ti ru fj ic pr fn U Q D C B O M rl en ov mi wo la re rt mk lg n (nI (rm_ct (rm_n P) i)) (nI i) := by
  intro e
  induction e with
  | zero =>
    intro i n h1 h2
    obtain ⟨n, rfl⟩ : ∃ k, n = k + 1 := ⟨n - 1, by omega⟩
    have e1 : i = 8 := by omega
    subst e1
    rw [wY_getTaskCount_4]
    exact br_t (nI_le (a := 8) (b := 8) (Nat.le_refl _) (by omega)) hp
  | succ e ih =>
    intro i n h1 h2
    obtain ⟨n, rfl⟩ : ∃ k, n = k + 1 := ⟨n - 1, by omega⟩
    have H := ih (i + 1) n (by omega) (by omega)
    have ci : (nI i).toNatClampNeg = i := nI_clamp (by omega)
    have ii : vp_in (nI i) 8 := vp_in_nI (by omega) (by omega)
    have h8 : ¬ (8 : Int32) ≤ nI i := nI_ge (b := 8) (by omega) (by omega)
    have hU : U (nI i).toNatClampNeg = 0 ↔ rm_n P i = 0 := by
      rw [ci]
      exact rm_A_U0 hA i
    rw [wY_getTaskCount_4]
    refine br_f h8 ⟨ii, ek_if hU (fun hu => nm_r (nI_1 i) ?_) (fun hu => nm_r (nI_1 _) (nm_r (nI_1 i) ?_))⟩
    · have hne : ¬ 0 < rm_n P i := by omega
      rw [rm_ct_n hne] at H
      exact H
    · have hpos : 0 < rm_n P i := by omega
      rw [rm_ct_y hpos] at H
      exact H
theorem rm_yc (hA : rm_A m P Q U D C B M) {post : Int32 → Prop} (hp : post (nI (rm_ct (rm_n P) 8))) : wpY_getTaskCount post ((nI m), (nI lc), fs, ti, ru, fj, ic, pr, fn, U, Q, D, C, B, O, M, rl, en, ov, mi, wo, la, re, rt, mk, lg) :=
  ⟨9, rm_yc4 hA hp 8 0 9 (by omega) (by omega)⟩
end
end
section
/-! the component's tick -/
section
variable {m lc : Nat} {fn fs ti ru un ic pr : Int32} {P Q U D C B O M bo bt rl en ov mi wo la re rt mk lg : Nat → Int32}
theorem rm_x52 {post : SX → Prop} {i : Nat} (hi : i < 8) {z : Int32} (h : post ((nI m), (nI lc), fn, fs, ti, ru, un, ic, pr, P, D, C, B, O, M, bo, bt, upd rl i (rl i + 1), en, ov, mi, wo, la, upd re i z, upd rt i ti, mk, lg)) : wX_releaseJob_52 post (nI i) z (nI i) (nI m) (nI lc) fn fs ti ru un ic pr P D C B O M bo bt rl en ov mi wo la re rt mk lg := by
  have ci : (nI i).toNatClampNeg = i := nI_clamp (by omega)
  have ii : vp_in (nI i) 8 := vp_in_nI hi (by omega)
  unfold wX_releaseJob_52
  rw [ci]
  exact ⟨ii, nm_e ⟨ii, nm_e ⟨ii, ii, nm_e h⟩⟩⟩
theorem rm_x20_0 {post : SX → Prop} {i : Nat} (hi : i < 8) (h : post ((nI m), (nI lc), fn, fs, ti, ru, un, ic, pr, P, D, C, B, O, M, bo, bt, upd rl i (rl i + 1), en, ov, mi, wo, la, upd re i (M i), upd rt i ti, upd mk i 0, lg)) : wX_releaseJob_20 post (nI i) 0 (nI m) (nI lc) fn fs ti ru un ic pr P D C B O M bo bt rl en ov mi wo la re rt mk lg := by
  have ci : (nI i).toNatClampNeg = i := nI_clamp (by omega)
  have ii : vp_in (nI i) 8 := vp_in_nI hi (by omega)
  unfold wX_releaseJob_20
  rw [ci]
  exact ⟨ii, nm_r (e' := upd mk i 0) rfl (br_t rfl ⟨ii, rm_x52 hi h⟩)⟩
theorem rm_x20_1 {post : SX → Prop} {i : Nat} (hi : i < 8) (h : post ((nI m), (nI lc), fn, fs, ti, ru, un, ic, pr, P, D, C, B, O, M, bo, bt, upd rl i (rl i + 1), en, ov, mi, wo, la, upd re i (C i), upd rt i ti, upd mk i 1, lg)) : wX_releaseJob_20 post (nI i) 1 (nI m) (nI lc) fn fs ti ru un ic pr P D C B O M bo bt rl en ov mi wo la re rt mk lg := by
  have ci : (nI i).toNatClampNeg = i := nI_clamp (by omega)
  have ii : vp_in (nI i) 8 := vp_in_nI hi (by omega)
  unfold wX_releaseJob_20
  rw [ci]
  exact ⟨ii, nm_r (e' := upd mk i 1) rfl (br_f (by decide) ⟨ii, rm_x52 hi h⟩)⟩
theorem rm_xrel {post : SX → Prop} {i : Nat} (hi : i < 8) (h : post ((nI m), (nI lc), fn, fs, ti, ru, un, ic, pr, P, D, C, B, O, M, bo, bt, upd rl i (rl i + 1), en, ov, mi, wo, la, upd re i (rm_nr C M i), upd rt i ti, upd mk i (rm_nk C M i), lg)) : wpX_releaseJob post ((nI m), (nI lc), fn, fs, ti, ru, un, ic, pr, P, D, C, B, O, M, bo, bt, rl, en, ov, mi, wo, la, re, rt, mk, lg) (nI i) := by
  have ci : (nI i).toNatClampNeg = i := nI_clamp (by omega)
  have ii : vp_in (nI i) 8 := vp_in_nI hi (by omega)
  unfold wpX_releaseJob
  dsimp only
  rw [ci]
  by_cases z : C i < M i
  · have e1 : rm_nr C M i = C i := if_pos z
    have e2 : rm_nk C M i = 1 := if_pos z
    rw [e1, e2] at h
    exact ⟨ii, ii, br_f (Int32.not_le.mpr z) (rm_x20_1 hi h)⟩
  · have e1 : rm_nr C M i = M i := if_neg z
    have e2 : rm_nk C M i = 0 := if_neg z
    rw [e1, e2] at h
    exact ⟨ii, ii, br_t (Int32.not_lt.mp z) (rm_x20_0 hi h)⟩
theorem rm_xdrop {post : SX → Prop} {i : Nat} (hi : i < 8) (h : post ((nI m), (nI lc), fn, fs, ti, ru, if un = nI i then -1 else un, ic, pr, P, D, C, B, O, M, bo, bt, rl, en, ov, upd mi i (mi i + 1), wo, la, re, rt, mk, lg)) : wpX_dropJob post ((nI m), (nI lc), fn, fs, ti, ru, un, ic, pr, P, D, C, B, O, M, bo, bt, rl, en, ov, mi, wo, la, re, rt, mk, lg) (nI i) := by
  have ci : (nI i).toNatClampNeg = i := nI_clamp (by omega)
  have ii : vp_in (nI i) 8 := vp_in_nI hi (by omega)
  unfold wpX_dropJob
  dsimp only
  rw [ci]
  by_cases z : un = nI i
  · rw [if_pos z] at h
    exact ⟨ii, ii, nm_e (br_t z h)⟩
  · rw [if_neg z] at h
    exact ⟨ii, ii, nm_e (br_f z h)⟩
theorem rm_xdue {post : Int32 → Prop} {i : Nat} (hi : i < 8) (hP : 0 < P i) (h1 : rm_due P O ti i = true → post 1) (h0 : rm_due P O ti i = false → post 0) : wpX_isReleaseDue post ((nI m), (nI lc), fn, fs, ti, ru, un, ic, pr, P, D, C, B, O, M, bo, bt, rl, en, ov, mi, wo, la, re, rt, mk, lg) (nI i) := by
  have ci : (nI i).toNatClampNeg = i := nI_clamp (by omega)
  have ii : vp_in (nI i) 8 := vp_in_nI hi (by omega)
  have hne : ¬ P i = 0 := fun e => by
    rw [e] at hP
    exact Int32.lt_irrefl hP
  unfold wpX_isReleaseDue
  dsimp only
  rw [ci]
  exact ⟨ii, br_c (fun z => h0 (rm_due_f1 (Int32.not_le.mpr z))) (fun z => ⟨ii, ii, hne, br_c (fun y => h1 (rm_due_t hP (Int32.not_lt.mp z) y)) (fun y => h0 (rm_due_f2 y))⟩)⟩
theorem rm_xdj2 (hA : rm_A m P Q U D C B M) (hm : m ≤ 8) {post : SX → Prop} (hp : post ((nI m), (nI lc), fn, fs, ti, ru, rm_uf P O re ti un m, ic, pr, P, D, C, B, O, M, bo, bt, rm_rl P O rl ti m, en, ov, rm_mi P O re mi ti m, wo, la, rm_re P O C M re ti m, rm_rt P O rt ti m, rm_mk P O C M mk ti m, lg)) : ∀ e i n, i + e = m → e < n → wX_releaseDueJobs_2 post n (nI i) (nI m) (nI lc) fn fs ti ru (rm_uf P O re ti un i) ic pr P D C B O M bo bt (rm_rl P O rl ti i) en ov (rm_mi P O re mi ti i) wo la (rm_re P O C M re ti i) (rm_rt P O rt ti i) (rm_mk P O C M mk ti i) lg := by
  intro e
  induction e with
  | zero =>
    intro i n h1 h2
    obtain ⟨n, rfl⟩ : ∃ k, n = k + 1 := ⟨n - 1, by omega⟩
    have e1 : i = m := by omega
    subst e1
    rw [wX_releaseDueJobs_2]
    exact br_t (nI_le (Nat.le_refl _) (by omega)) hp
  | succ e ih =>
    intro i n h1 h2
    obtain ⟨n, rfl⟩ : ∃ k, n = k + 1 := ⟨n - 1, by omega⟩
    have H := ih (i + 1) n (by omega) (by omega)
    have ci : (nI i).toNatClampNeg = i := nI_clamp (by omega)
    have ii : vp_in (nI i) 8 := vp_in_nI (by omega) (by omega)
    have hre : rm_re P O C M re ti i (nI i).toNatClampNeg ≤ 0 ↔ ¬ 0 < re i := by
      rw [ci, rm_re_i]
      exact Int32.not_lt.symm
    rw [wX_releaseDueJobs_2]
    refine br_f (nI_ge (by omega) (by omega)) (rm_xu hA hm (by omega) (fun hu => br_f (by decide) (rm_xdue (by omega) ((rm_A_Ppos hA i).mpr hu) (fun hd => br_f (by decide) ⟨ii, ek_if hre (fun z => ?_) (fun z => ?_)⟩) (fun hd => br_t rfl (nm_r (nI_1 i) ?_)))) (fun hu => br_t rfl (nm_r (nI_1 i) ?_)))
    · unfold wX_releaseDueJobs_40
      refine rm_xrel (by omega) (nm_r (nI_1 i) ?_)
      rw [rm_uf_f (rm_late_n z), rm_mi_f (rm_late_n z), rm_rl_t hd, rm_mk_t hd, rm_re_t hd, rm_rt_t hd] at H
      exact H
    · have z1 : 0 < re i := Decidable.of_not_not z
      refine rm_xdrop (by omega) ?_
      dsimp only
      unfold wX_releaseDueJobs_40
      refine rm_xrel (by omega) (nm_r (nI_1 i) ?_)
      rw [rm_uf_t (rm_late_t hd z1), rm_mi_t (rm_late_t hd z1), rm_rl_t hd, rm_mk_t hd, rm_re_t hd, rm_rt_t hd] at H
      exact H
    · rw [rm_uf_f (rm_late_f hd), rm_mi_f (rm_late_f hd), rm_rl_f hd, rm_mk_f hd, rm_re_f hd, rm_rt_f hd] at H
      exact H
    · have hd : rm_due P O ti i = false := rm_due_f0 (fun y => by
        have := (rm_A_Ppos hA i).mp y
        omega)
      rw [rm_uf_f (rm_late_f hd), rm_mi_f (rm_late_f hd), rm_rl_f hd, rm_mk_f hd, rm_re_f hd, rm_rt_f hd] at H
      exact H
theorem rm_xdj (hA : rm_A m P Q U D C B M) (hm : m ≤ 8) {post : SX → Prop} (hp : post ((nI m), (nI lc), fn, fs, ti, ru, rm_uf P O re ti un 8, ic, pr, P, D, C, B, O, M, bo, bt, rm_rl P O rl ti 8, en, ov, rm_mi P O re mi ti 8, wo, la, rm_re P O C M re ti 8, rm_rt P O rt ti 8, rm_mk P O C M mk ti 8, lg)) : wpX_releaseDueJobs post ((nI m), (nI lc), fn, fs, ti, ru, un, ic, pr, P, D, C, B, O, M, bo, bt, rl, en, ov, mi, wo, la, re, rt, mk, lg) := by
  rw [← rm_uf_8 hA hm, ← rm_rl_8 hA hm, ← rm_mi_8 hA hm, ← rm_mk_8 hA hm, ← rm_re_8 hA hm, ← rm_rt_8 hA hm] at hp
  have H := rm_xdj2 hA hm hp m 0 (m + 1) (by omega) (by omega)
  have e1 : rm_rl P O rl ti 0 = rl := rm_mx_0 _ _ _
  have e2 : rm_mi P O re mi ti 0 = mi := rm_mx_0 _ _ _
  have e3 : rm_mk P O C M mk ti 0 = mk := rm_mx_0 _ _ _
  have e4 : rm_re P O C M re ti 0 = re := rm_mx_0 _ _ _
  have e5 : rm_rt P O rt ti 0 = rt := rm_mx_0 _ _ _
  have e6 : rm_uf P O re ti un 0 = un := rfl
  rw [e1, e2, e3, e4, e5, e6] at H
  exact ⟨m + 1, H⟩
theorem rm_xpk4 (hm : m ≤ 8) {post : Int32 → Prop} (hp : post (rm_oi (rm_pk P re m))) : ∀ e i n, i + e = m → e < n → wX_highestPendingSlot_4 post (nI m) (nI lc) fn fs ti ru un ic pr P D C B O M bo bt rl en ov mi wo la re rt mk lg n (rm_oi (rm_pk P re i)) (nI i) := by
  intro e
  induction e with
  | zero =>
    intro i n h1 h2
    obtain ⟨n, rfl⟩ : ∃ k, n = k + 1 := ⟨n - 1, by omega⟩
    have e1 : i = m := by omega
    subst e1
    rw [wX_highestPendingSlot_4]
    exact br_t (nI_le (Nat.le_refl _) (by omega)) hp
  | succ e ih =>
    intro i n h1 h2
    obtain ⟨n, rfl⟩ : ∃ k, n = k + 1 := ⟨n - 1, by omega⟩
    have H := ih (i + 1) n (by omega) (by omega)
    have ci : (nI i).toNatClampNeg = i := nI_clamp (by omega)
    have ii : vp_in (nI i) 8 := vp_in_nI (by omega) (by omega)
    have hre : re (nI i).toNatClampNeg ≤ 0 ↔ ¬ 0 < re i := by
      rw [ci]
      exact Int32.not_lt.symm
    rw [wX_highestPendingSlot_4]
    refine br_f (nI_ge (by omega) (by omega)) ⟨ii, ek_if hre (fun z => nm_r (nI_1 i) ?_) (fun z => ?_)⟩
    · rw [rm_pk_z z] at H
      exact H
    · have z1 : 0 < re i := Decidable.of_not_not z
      cases hq : rm_pk P re i with
      | none =>
        rw [rm_pk_n z1 hq] at H
        exact br_t rfl (nm_r (nI_1 i) H)
      | some b =>
        have hb := (rm_pk_some i b hq).1
        refine br_f (rm_ne1 (by omega)) (rm_xh0 (by omega) (by omega) (fun hh => br_f (by decide) (nm_r (nI_1 i) ?_)) (fun hh => br_t rfl (nm_r (nI_1 i) ?_)))
        · rw [rm_pk_t z1 hq hh] at H
          exact H
        · rw [rm_pk_f hq hh] at H
          exact H
theorem rm_xpk (hm : m ≤ 8) {post : Int32 → Prop} (hp : post (rm_oi (rm_pk P re m))) : wpX_highestPendingSlot post ((nI m), (nI lc), fn, fs, ti, ru, un, ic, pr, P, D, C, B, O, M, bo, bt, rl, en, ov, mi, wo, la, re, rt, mk, lg) :=
  ⟨m + 1, rm_xpk4 hm hp m 0 (m + 1) (by omega) (by omega)⟩
theorem rm_xdo2 {post : SX → Prop} {q : Nat} (hq : q ≤ 32) (hp : post ((nI m), (nI lc), nI (q - 1), fs, ti, ru, un, ic, pr, P, D, C, B, O, M, bo, bt, rl, en, ov, mi, wo, la, re, rt, mk, rm_sh lg (q - 1))) : ∀ e s n, s + e + 1 = q → e < n → wX_discardOldestEntry_2 post (nI m) (nI lc) (nI q) fs ti ru un ic pr n (nI (s + 1)) P D C B O M bo bt rl en ov mi wo la re rt mk (rm_sh lg s) := by
  intro e
  induction e with
  | zero =>
    intro s n h1 h2
    obtain ⟨n, rfl⟩ : ∃ k, n = k + 1 := ⟨n - 1, by omega⟩
    have e1 : q = s + 1 := by omega
    subst e1
    rw [wX_discardOldestEntry_2]
    exact br_t (nI_le (Nat.le_refl _) (by omega)) (nm_r (nI_pred s) hp)
  | succ e ih =>
    intro s n h1 h2
    obtain ⟨n, rfl⟩ : ∃ k, n = k + 1 := ⟨n - 1, by omega⟩
    have c1 : (nI (s + 1)).toNatClampNeg = s + 1 := nI_clamp (by omega)
    have c2 : (nI (s + 1) - 1).toNatClampNeg = s := by
      rw [nI_pred]
      exact nI_clamp (by omega)
    have i1 : vp_in (nI (s + 1)) 32 := vp_in_nI (by omega) (by omega)
    have i2 : vp_in (nI (s + 1) - 1) 32 := by
      rw [nI_pred]
      exact vp_in_nI (by omega) (by omega)
    rw [wX_discardOldestEntry_2]
    exact br_f (nI_ge (by omega) (by omega)) ⟨i1, i2, nm_r (e' := rm_sh lg (s + 1)) (by rw [c1, c2]; exact rm_sh_s lg s) (nm_r (nI_1 (s + 1)) (ih (s + 1) n (by omega) (by omega)))⟩
theorem rm_xap15 {post : SX → Prop} {q : Nat} {x : Int32} (hq : q < 32) (hp : post ((nI m), (nI lc), nI (q + 1), fs, ti, ru, un, ic, pr, P, D, C, B, O, M, bo, bt, rl, en, ov, mi, wo, la, re, rt, mk, upd lg q x)) : wX_appendToLog_15 post x (nI m) (nI lc) (nI q) fs ti ru un ic pr P D C B O M bo bt rl en ov mi wo la re rt mk lg := by
  have cq : (nI q).toNatClampNeg = q := nI_clamp (by omega)
  unfold wX_appendToLog_15
  rw [cq]
  exact ⟨vp_in_nI hq (by omega), nm_e (nm_r (nI_1 q) hp)⟩
theorem rm_xap {post : SX → Prop} {q : Nat} {x : Int32} (hl : 8 ≤ lc) (hl2 : lc ≤ 32) (hq : q ≤ lc) (hp : post ((nI m), (nI lc), nI (rm_ln lc q), fs, ti, ru, un, ic, pr, P, D, C, B, O, M, bo, bt, rl, en, ov, mi, wo, la, re, rt, mk, rm_lg lg lc q x)) : wpX_appendToLog post ((nI m), (nI lc), nI q, fs, ti, ru, un, ic, pr, P, D, C, B, O, M, bo, bt, rl, en, ov, mi, wo, la, re, rt, mk, lg) x := by
  unfold wpX_appendToLog
  dsimp only
  by_cases z : q < lc
  · have e1 : rm_ln lc q = q + 1 := if_pos z
    have e2 : rm_lg lg lc q x = upd lg q x := if_pos z
    rw [e1, e2] at hp
    exact br_t (nI_lt z (by omega)) (rm_xap15 (by omega) hp)
  · have e0 : q = lc := by omega
    have e1 : rm_ln lc q = lc - 1 + 1 := (if_neg z).trans (by omega)
    have e2 : rm_lg lg lc q x = upd (rm_sh lg (lc - 1)) (lc - 1) x := if_neg z
    rw [e1, e2] at hp
    subst e0
    have H := rm_xdo2 (lc := q) (lg := lg) (fs := fs) (ti := ti) (ru := ru) (un := un) (ic := ic) (pr := pr) (m := m) (P := P) (D := D) (C := C) (B := B) (O := O) (M := M) (bo := bo) (bt := bt) (rl := rl) (en := en) (ov := ov) (mi := mi) (wo := wo) (la := la) (re := re) (rt := rt) (mk := mk) (q := q) hl2 (post := fun u => match u with | (a1, a2, a3, a4, a5, a6, a7, a8, a9, b1, b2, b3, b4, b5, b6, b7, b8, b9, c1, c2, c3, c4, c5, c6, c7, c8, c9) => wX_appendToLog_15 post x a1 a2 a3 a4 a5 a6 a7 a8 a9 b1 b2 b3 b4 b5 b6 b7 b8 b9 c1 c2 c3 c4 c5 c6 c7 c8 c9) (rm_xap15 (by omega) hp) (q - 1) 0 q (by omega) (by omega)
    rw [rm_sh_0] at H
    exact br_f (nI_nlt (Nat.le_refl _) (by omega)) ⟨q, H⟩
end
end
section
/-! the component's tick, its end -/
section
variable {m lc q : Nat} {fs ti ru un ic pr : Int32} {P Q U D C B O M bo bt rl en ov mi wo la re rt mk lg : Nat → Int32}
theorem rm_x99 {post : SX → Prop} {x : Int32} (hl : 8 ≤ lc) (hl2 : lc ≤ 32) (hq : q ≤ lc) (hp : post ((nI m), (nI lc), nI (rm_ln lc q), fs, ti, ru, un, ic, pr, P, D, C, B, O, M, bo, bt, rl, en, ov, mi, wo, la, re, rt, mk, rm_lg lg lc q x)) : wX_endJob_99 post x (nI m) (nI lc) (nI q) fs ti ru un ic pr P D C B O M bo bt rl en ov mi wo la re rt mk lg := by
  unfold wX_endJob_99
  exact rm_xap hl hl2 hq hp
theorem rm_x75 {post : SX → Prop} {b : Nat} {r x : Int32} (hb : b < 8) (hl : 8 ≤ lc) (hl2 : lc ≤ 32) (hq : q ≤ lc) (hp : post ((nI m), (nI lc), nI (rm_ln lc q), fs, ti, ru, un, ic, pr, P, D, C, B, O, M, bo, bt, rl, en, ov, mi, rm_wo wo b r, upd la b r, re, rt, mk, rm_lg lg lc q x)) : wX_endJob_75 post (nI b) r x (nI m) (nI lc) (nI q) fs ti ru un ic pr P D C B O M bo bt rl en ov mi wo la re rt mk lg := by
  have cb : (nI b).toNatClampNeg = b := nI_clamp (by omega)
  have ib : vp_in (nI b) 8 := vp_in_nI hb (by omega)
  unfold wX_endJob_75
  rw [cb]
  by_cases z : r ≤ wo b
  · have e1 : rm_wo wo b r = wo := if_pos z
    rw [e1] at hp
    exact ⟨ib, nm_e ⟨ib, br_t z (rm_x99 hl hl2 hq hp)⟩⟩
  · have e1 : rm_wo wo b r = upd wo b r := if_neg z
    rw [e1] at hp
    exact ⟨ib, nm_e ⟨ib, br_f z ⟨ib, nm_e (rm_x99 hl hl2 hq hp)⟩⟩⟩
theorem rm_x55 {post : SX → Prop} {b : Nat} {r x : Int32} (hb : b < 8) (hl : 8 ≤ lc) (hl2 : lc ≤ 32) (hq : q ≤ lc) (hp : post ((nI m), (nI lc), nI (rm_ln lc q), fs, ti, ru, un, ic, pr, P, D, C, B, O, M, bo, bt, rl, en, ov, rm_ms D mi b r, rm_wo wo b r, upd la b r, re, rt, mk, rm_lg lg lc q x)) : wX_endJob_55 post (nI b) r x (nI m) (nI lc) (nI q) fs ti ru un ic pr P D C B O M bo bt rl en ov mi wo la re rt mk lg := by
  have cb : (nI b).toNatClampNeg = b := nI_clamp (by omega)
  have ib : vp_in (nI b) 8 := vp_in_nI hb (by omega)
  unfold wX_endJob_55
  rw [cb]
  by_cases z : r ≤ D b
  · have e1 : rm_ms D mi b r = mi := if_pos z
    rw [e1] at hp
    exact ⟨ib, br_t z (rm_x75 hb hl hl2 hq hp)⟩
  · have e1 : rm_ms D mi b r = upd mi b (mi b + 1) := if_neg z
    rw [e1] at hp
    exact ⟨ib, br_f z ⟨ib, ib, nm_e (rm_x75 hb hl hl2 hq hp)⟩⟩
theorem rm_xend {post : SX → Prop} {b : Nat} (hb : b < 8) (hl : 8 ≤ lc) (hl2 : lc ≤ 32) (hq : q ≤ lc) (hp : post ((nI m), (nI lc), nI (rm_ln lc q), fs, ti, ru, un, ic, pr, P, D, C, B, O, M, bo, bt, rl, upd en b (en b + 1), rm_ov mk ov b, rm_ms D mi b (ti - rt b), rm_wo wo b (ti - rt b), upd la b (ti - rt b), re, rt, mk, rm_lg lg lc q (rm_ent mk b (ti - rt b)))) : wpX_endJob post ((nI m), (nI lc), nI q, fs, ti, ru, un, ic, pr, P, D, C, B, O, M, bo, bt, rl, en, ov, mi, wo, la, re, rt, mk, lg) (nI b) := by
  have cb : (nI b).toNatClampNeg = b := nI_clamp (by omega)
  have ib : vp_in (nI b) 8 := vp_in_nI hb (by omega)
  unfold wpX_endJob
  dsimp only
  rw [cb]
  by_cases z : mk b = 0
  · have e1 : rm_ov mk ov b = ov := if_pos z
    have e2 : rm_ent mk b (ti - rt b) = nI b * 1024 + (ti - rt b) := if_pos z
    rw [e1, e2] at hp
    exact ⟨ib, nm_e (nm_e ⟨ib, ib, nm_e ⟨ib, br_t z (rm_x55 hb hl hl2 hq hp)⟩⟩)⟩
  · have e1 : rm_ov mk ov b = upd ov b (ov b + 1) := if_neg z
    have e2 : rm_ent mk b (ti - rt b) = nI b * 1024 + (ti - rt b) + 512 := if_neg z
    rw [e1, e2] at hp
    exact ⟨ib, nm_e (nm_e ⟨ib, ib, nm_e ⟨ib, br_f z ⟨ib, ib, nm_e (nm_e (rm_x55 hb hl hl2 hq hp))⟩⟩⟩)⟩
theorem rm_xexe_e {post : SX → Prop} {b : Nat} (hb : b < 8) (hl : 8 ≤ lc) (hl2 : lc ≤ 32) (hq : q ≤ lc) (hz : re b - 1 = 0) (hp : post ((nI m), (nI lc), nI (rm_ln lc q), fs, ti + 1, ru, -1, ic, pr, P, D, C, B, O, M, bo, bt, rl, upd en b (en b + 1), rm_ov mk ov b, rm_ms D mi b (ti + 1 - rt b), rm_wo wo b (ti + 1 - rt b), upd la b (ti + 1 - rt b), upd re b (re b - 1), rt, mk, rm_lg lg lc q (rm_ent mk b (ti + 1 - rt b)))) : wpX_executeJob post ((nI m), (nI lc), nI q, fs, ti, ru, un, ic, pr, P, D, C, B, O, M, bo, bt, rl, en, ov, mi, wo, la, re, rt, mk, lg) (nI b) := by
  have cb : (nI b).toNatClampNeg = b := nI_clamp (by omega)
  have ib : vp_in (nI b) 8 := vp_in_nI hb (by omega)
  unfold wpX_executeJob
  dsimp only
  rw [cb]
  exact ⟨ib, ib, nm_e (nm_e ⟨ib, br_t (pk_us.trans hz) (rm_xend hb hl hl2 hq hp)⟩)⟩
theorem rm_xexe_c {post : SX → Prop} {b : Nat} (hb : b < 8) (hz : ¬ re b - 1 = 0) (hp : post ((nI m), (nI lc), nI q, fs, ti + 1, ru, nI b, ic, pr, P, D, C, B, O, M, bo, bt, rl, en, ov, mi, wo, la, upd re b (re b - 1), rt, mk, lg)) : wpX_executeJob post ((nI m), (nI lc), nI q, fs, ti, ru, un, ic, pr, P, D, C, B, O, M, bo, bt, rl, en, ov, mi, wo, la, re, rt, mk, lg) (nI b) := by
  have cb : (nI b).toNatClampNeg = b := nI_clamp (by omega)
  have ib : vp_in (nI b) 8 := vp_in_nI hb (by omega)
  unfold wpX_executeJob
  dsimp only
  rw [cb]
  exact ⟨ib, ib, nm_e (nm_e ⟨ib, br_f (fun z => hz (pk_us.symm.trans z)) hp⟩)⟩
end
end
section
/-! the reference's tick -/
section
variable {m lc q : Nat} {fn fs ti ru fj ic pr : Int32} {P Q U D C B O M rl en ov mi wo la re rt mk lg : Nat → Int32}
theorem rm_yap61 {post : SY → Prop} {x : Int32} (hq : q < 32) (hp : post ((nI m), (nI lc), fs, ti, ru, fj, ic, pr, nI (q + 1), U, Q, D, C, B, O, M, rl, en, ov, mi, wo, la, re, rt, mk, upd lg q x)) : wY_appendLog_61 post x (nI m) (nI lc) fs ti ru fj ic pr (nI q) U Q D C B O M rl en ov mi wo la re rt mk lg := by
  have cq : (nI q).toNatClampNeg = q := nI_clamp (by omega)
  have h32 : ¬ (32 : Int32) ≤ nI q := nI_ge (b := 32) hq (by omega)
  unfold wY_appendLog_61
  rw [cq]
  exact br_f (nI_pos (by omega)) (br_f h32 ⟨vp_in_nI hq (by omega), nm_e (nm_r (nI_1 q) hp)⟩)
theorem rm_yap13 {post : SY → Prop} {x : Int32} (hl : 8 ≤ lc) (hl2 : lc ≤ 32) (hp : post ((nI m), (nI lc), fs, ti, ru, fj, ic, pr, nI lc, U, Q, D, C, B, O, M, rl, en, ov, mi, wo, la, re, rt, mk, upd (rm_sh lg (lc - 1)) (lc - 1) x)) : ∀ e s n, s + e + 1 = lc → e < n → wY_appendLog_13 post x (nI m) (nI lc) fs ti ru fj ic pr fn n (nI s) U Q D C B O M rl en ov mi wo la re rt mk (rm_sh lg s) := by
  intro e
  induction e with
  | zero =>
    intro s n h1 h2
    obtain ⟨n, rfl⟩ : ∃ k, n = k + 1 := ⟨n - 1, by omega⟩
    have e1 : lc = s + 1 := by omega
    subst e1
    have hc : nI (s + 1) ≤ nI s + 1 := by
      rw [nI_1]
      exact nI_le (Nat.le_refl _) (by omega)
    rw [wY_appendLog_13]
    refine br_t hc ?_
    unfold wY_appendLog_51
    exact nm_r (nI_pred s) (rm_yap61 (by omega) hp)
  | succ e ih =>
    intro s n h1 h2
    obtain ⟨n, rfl⟩ : ∃ k, n = k + 1 := ⟨n - 1, by omega⟩
    have c0 : (nI s).toNatClampNeg = s := nI_clamp (by omega)
    have c1 : (nI s + 1).toNatClampNeg = s + 1 := by
      rw [nI_1]
      exact nI_clamp (by omega)
    have i0 : vp_in (nI s) 32 := vp_in_nI (by omega) (by omega)
    have i1 : vp_in (nI s + 1) 32 := by
      rw [nI_1]
      exact vp_in_nI (by omega) (by omega)
    have hc : ¬ nI lc ≤ nI s + 1 := by
      rw [nI_1]
      exact nI_ge (by omega) (by omega)
    have h32 : ¬ (32 : Int32) ≤ nI s + 1 := by
      rw [nI_1]
      exact nI_ge (b := 32) (by omega) (by omega)
    rw [wY_appendLog_13]
    exact br_f hc (br_f h32 ⟨i1, i0, nm_r (e' := rm_sh lg (s + 1)) (by rw [c0, c1]; exact rm_sh_s lg s) (nm_r (nI_1 s) (ih (s + 1) n (by omega) (by omega)))⟩)
theorem rm_yap {post : SY → Prop} {x : Int32} (hl : 8 ≤ lc) (hl2 : lc ≤ 32) (hq : q ≤ lc) (hp : post ((nI m), (nI lc), fs, ti, ru, fj, ic, pr, nI (rm_ln lc q), U, Q, D, C, B, O, M, rl, en, ov, mi, wo, la, re, rt, mk, rm_lg lg lc q x)) : wpY_appendLog post ((nI m), (nI lc), fs, ti, ru, fj, ic, pr, nI q, U, Q, D, C, B, O, M, rl, en, ov, mi, wo, la, re, rt, mk, lg) x := by
  unfold wpY_appendLog
  dsimp only
  by_cases z : q < lc
  · have e1 : rm_ln lc q = q + 1 := if_pos z
    have e2 : rm_lg lg lc q x = upd lg q x := if_pos z
    rw [e1, e2] at hp
    exact br_t (nI_lt z (by omega)) (rm_yap61 (by omega) hp)
  · have e0 : q = lc := by omega
    have e1 : rm_ln lc q = lc := if_neg z
    have e2 : rm_lg lg lc q x = upd (rm_sh lg (lc - 1)) (lc - 1) x := if_neg z
    rw [e1, e2] at hp
    have H := rm_yap13 (fn := nI q) hl hl2 hp (lc - 1) 0 lc (by omega) (by omega)
    rw [rm_sh_0] at H
    exact br_f (nI_nlt (by omega) (by omega)) ⟨lc, H⟩
theorem rm_y455 {post : SY → Prop} {r z0 z1 : Int32} (hl : 8 ≤ lc) (hl2 : lc ≤ 32) (hq : q ≤ lc) (hp : post ((nI m), (nI lc), fs, ti, ru, fj, ic, pr, nI (rm_ln lc q), U, Q, D, C, B, O, M, rl, en, ov, mi, wo, la, re, rt, mk, rm_lg lg lc q (z1 + z0 + r))) : wY_tick_455 post r z0 z1 (nI m) (nI lc) fs ti ru fj ic pr (nI q) U Q D C B O M rl en ov mi wo la re rt mk lg := by
  unfold wY_tick_455
  exact rm_yap hl hl2 hq hp
theorem rm_ent_0 {b : Nat} {r : Int32} (z : mk b = 0) : nI b * 1024 + 0 + r = rm_ent mk b r := by
  have e : rm_ent mk b r = nI b * 1024 + r := if_pos z
  rw [e, Int32.add_zero]
theorem rm_ent_1 {b : Nat} {r : Int32} (z : ¬ mk b = 0) : nI b * 1024 + 512 + r = rm_ent mk b r := by
  have e : rm_ent mk b r = nI b * 1024 + r + 512 := if_neg z
  rw [e, Int32.add_assoc, Int32.add_comm 512 r, ← Int32.add_assoc]
theorem rm_y433 {post : SY → Prop} {b : Nat} {r : Int32} (hb : b < 8) (hl : 8 ≤ lc) (hl2 : lc ≤ 32) (hq : q ≤ lc) (hp : post ((nI m), (nI lc), fs, ti, ru, fj, ic, pr, nI (rm_ln lc q), U, Q, D, C, B, O, M, rl, en, ov, mi, wo, la, re, rt, mk, rm_lg lg lc q (rm_ent mk b r))) : wY_tick_433 post (nI b) r (nI m) (nI lc) fs ti ru fj ic pr (nI q) U Q D C B O M rl en ov mi wo la re rt mk lg := by
  have cb : (nI b).toNatClampNeg = b := nI_clamp (by omega)
  have ib : vp_in (nI b) 8 := vp_in_nI hb (by omega)
  unfold wY_tick_433
  rw [cb]
  by_cases z : mk b = 0
  · rw [← rm_ent_0 z] at hp
    exact ⟨ib, br_t z (rm_y455 hl hl2 hq hp)⟩
  · rw [← rm_ent_1 z] at hp
    exact ⟨ib, br_f z (rm_y455 hl hl2 hq hp)⟩
theorem rm_y406 {post : SY → Prop} {b : Nat} {r : Int32} (hb : b < 8) (hl : 8 ≤ lc) (hl2 : lc ≤ 32) (hq : q ≤ lc) (hp : post ((nI m), (nI lc), fs, ti, ru, fj, ic, pr, nI (rm_ln lc q), U, Q, D, C, B, O, M, rl, en, ov, mi, rm_wo wo b r, upd la b r, re, rt, mk, rm_lg lg lc q (rm_ent mk b r))) : wY_tick_406 post (nI b) r (nI m) (nI lc) fs ti ru fj ic pr (nI q) U Q D C B O M rl en ov mi wo la re rt mk lg := by
  have cb : (nI b).toNatClampNeg = b := nI_clamp (by omega)
  have ib : vp_in (nI b) 8 := vp_in_nI hb (by omega)
  unfold wY_tick_406
  rw [cb]
  by_cases z : r ≤ wo b
  · have e1 : rm_wo wo b r = wo := if_pos z
    rw [e1] at hp
    exact ⟨ib, nm_e ⟨ib, br_t z (rm_y433 hb hl hl2 hq hp)⟩⟩
  · have e1 : rm_wo wo b r = upd wo b r := if_neg z
    rw [e1] at hp
    exact ⟨ib, nm_e ⟨ib, br_f z ⟨ib, nm_e (rm_y433 hb hl hl2 hq hp)⟩⟩⟩
theorem rm_y385 {post : SY → Prop} {b : Nat} {r : Int32} (hb : b < 8) (hl : 8 ≤ lc) (hl2 : lc ≤ 32) (hq : q ≤ lc) (hp : post ((nI m), (nI lc), fs, ti, ru, fj, ic, pr, nI (rm_ln lc q), U, Q, D, C, B, O, M, rl, en, ov, rm_ms D mi b r, rm_wo wo b r, upd la b r, re, rt, mk, rm_lg lg lc q (rm_ent mk b r))) : wY_tick_385 post (nI b) r (nI m) (nI lc) fs ti ru fj ic pr (nI q) U Q D C B O M rl en ov mi wo la re rt mk lg := by
  have cb : (nI b).toNatClampNeg = b := nI_clamp (by omega)
  have ib : vp_in (nI b) 8 := vp_in_nI hb (by omega)
  unfold wY_tick_385
  rw [cb]
  by_cases z : r ≤ D b
  · have e1 : rm_ms D mi b r = mi := if_pos z
    rw [e1] at hp
    exact ⟨ib, br_t z (rm_y406 hb hl hl2 hq hp)⟩
  · have e1 : rm_ms D mi b r = upd mi b (mi b + 1) := if_neg z
    rw [e1] at hp
    exact ⟨ib, br_f z ⟨ib, ib, nm_e (rm_y406 hb hl hl2 hq hp)⟩⟩
theorem rm_y302_e {post : SY → Prop} {b : Nat} {t : Int32} (hb : b < 8) (hl : 8 ≤ lc) (hl2 : lc ≤ 32) (hq : q ≤ lc) (hz : re b - 1 = 0) (hp : post ((nI m), (nI lc), fs, t + 1, nI b, rl b, ic, pr, nI (rm_ln lc q), U, Q, D, C, B, O, M, rl, upd en b (en b + 1), rm_ov mk ov b, rm_ms D mi b (t + 1 - rt b), rm_wo wo b (t + 1 - rt b), upd la b (t + 1 - rt b), upd re b (re b - 1), rt, mk, rm_lg lg lc q (rm_ent mk b (t + 1 - rt b)))) : wY_tick_302 post t (nI b) (nI m) (nI lc) fs ti ru fj ic pr (nI q) U Q D C B O M rl en ov mi wo la re rt mk lg := by
  have cb : (nI b).toNatClampNeg = b := nI_clamp (by omega)
  have ib : vp_in (nI b) 8 := vp_in_nI hb (by omega)
  unfold wY_tick_302
  rw [cb]
  by_cases z : mk b = 0
  · have e1 : rm_ov mk ov b = ov := if_pos z
    rw [e1] at hp
    exact ⟨ib, ib, nm_e ⟨ib, nm_e (nm_e ⟨ib, br_t (pk_us.trans hz) ⟨ib, nm_e ⟨ib, ib, nm_e ⟨ib, br_t z (rm_y385 hb hl hl2 hq hp)⟩⟩⟩⟩)⟩⟩
  · have e1 : rm_ov mk ov b = upd ov b (ov b + 1) := if_neg z
    rw [e1] at hp
    exact ⟨ib, ib, nm_e ⟨ib, nm_e (nm_e ⟨ib, br_t (pk_us.trans hz) ⟨ib, nm_e ⟨ib, ib, nm_e ⟨ib, br_f z ⟨ib, ib, nm_e (rm_y385 hb hl hl2 hq hp)⟩⟩⟩⟩⟩)⟩⟩
theorem rm_y302_c {post : SY → Prop} {b : Nat} {t : Int32} (hb : b < 8) (hz : ¬ re b - 1 = 0) (hp : post ((nI m), (nI lc), fs, t + 1, nI b, rl b, ic, pr, fn, U, Q, D, C, B, O, M, rl, en, ov, mi, wo, la, upd re b (re b - 1), rt, mk, lg)) : wY_tick_302 post t (nI b) (nI m) (nI lc) fs ti ru fj ic pr fn U Q D C B O M rl en ov mi wo la re rt mk lg := by
  have cb : (nI b).toNatClampNeg = b := nI_clamp (by omega)
  have ib : vp_in (nI b) 8 := vp_in_nI hb (by omega)
  unfold wY_tick_302
  rw [cb]
  exact ⟨ib, ib, nm_e ⟨ib, nm_e (nm_e ⟨ib, br_f (fun z => hz (pk_us.symm.trans z)) hp⟩)⟩⟩
end
end
section
/-! the reference's releases and pick -/
section
variable {m lc : Nat} {fn fs ti ru fj ic pr t : Int32} {P Q U D C B O M rl en ov mi wo la re rt mk lg : Nat → Int32}
theorem rm_y137_0 {post : SY → Prop} {J : Int32 → (Nat → Int32) → (Nat → Int32) → (Nat → Int32) → (Nat → Int32) → (Nat → Int32) → (Nat → Int32) → (Nat → Int32) → (Nat → Int32) → (Nat → Int32) → (Nat → Int32) → (Nat → Int32) → (Nat → Int32) → (Nat → Int32) → (Nat → Int32) → (Nat → Int32) → (Nat → Int32) → (Nat → Int32) → Prop} {i : Nat} (hi : i < 8) (h : J (nI (i + 1)) U Q D C B O M (upd rl i (rl i + 1)) en ov mi wo la re rt (upd mk i 0) lg) : wY_tick_137 post J t (nI i) 0 (nI i) (nI m) (nI lc) fs ti ru fj ic pr fn U Q D C B O M rl en ov mi wo la re rt mk lg := by
  have ci : (nI i).toNatClampNeg = i := nI_clamp (by omega)
  have ii : vp_in (nI i) 8 := vp_in_nI hi (by omega)
  unfold wY_tick_137
  rw [ci]
  exact ⟨ii, nm_r (e' := upd mk i 0) rfl ⟨ii, ii, nm_e (nm_r (nI_1 i) h)⟩⟩
theorem rm_y137_1 {post : SY → Prop} {J : Int32 → (Nat → Int32) → (Nat → Int32) → (Nat → Int32) → (Nat → Int32) → (Nat → Int32) → (Nat → Int32) → (Nat → Int32) → (Nat → Int32) → (Nat → Int32) → (Nat → Int32) → (Nat → Int32) → (Nat → Int32) → (Nat → Int32) → (Nat → Int32) → (Nat → Int32) → (Nat → Int32) → (Nat → Int32) → Prop} {i : Nat} (hi : i < 8) (h : J (nI (i + 1)) U Q D C B O M (upd rl i (rl i + 1)) en ov mi wo la re rt (upd mk i 1) lg) : wY_tick_137 post J t (nI i) 1 (nI i) (nI m) (nI lc) fs ti ru fj ic pr fn U Q D C B O M rl en ov mi wo la re rt mk lg := by
  have ci : (nI i).toNatClampNeg = i := nI_clamp (by omega)
  have ii : vp_in (nI i) 8 := vp_in_nI hi (by omega)
  unfold wY_tick_137
  rw [ci]
  exact ⟨ii, nm_r (e' := upd mk i 1) rfl ⟨ii, ii, nm_e (nm_r (nI_1 i) h)⟩⟩
theorem rm_y111 {post : SY → Prop} {J : Int32 → (Nat → Int32) → (Nat → Int32) → (Nat → Int32) → (Nat → Int32) → (Nat → Int32) → (Nat → Int32) → (Nat → Int32) → (Nat → Int32) → (Nat → Int32) → (Nat → Int32) → (Nat → Int32) → (Nat → Int32) → (Nat → Int32) → (Nat → Int32) → (Nat → Int32) → (Nat → Int32) → (Nat → Int32) → Prop} {i : Nat} {z : Int32} (hi : i < 8) (h : J (nI (i + 1)) U Q D C B O M (upd rl i (rl i + 1)) en ov mi wo la (upd re i z) rt (upd mk i (rm_nk C M i)) lg) : wY_tick_111 post J t (nI i) z (nI i) (nI m) (nI lc) fs ti ru fj ic pr fn U Q D C B O M rl en ov mi wo la re rt mk lg := by
  have ci : (nI i).toNatClampNeg = i := nI_clamp (by omega)
  have ii : vp_in (nI i) 8 := vp_in_nI hi (by omega)
  unfold wY_tick_111
  rw [ci]
  by_cases y : C i < M i
  · have e2 : rm_nk C M i = 1 := if_pos y
    rw [e2] at h
    exact ⟨ii, nm_e ⟨ii, ii, br_f (Int32.not_le.mpr y) (rm_y137_1 hi h)⟩⟩
  · have e2 : rm_nk C M i = 0 := if_neg y
    rw [e2] at h
    exact ⟨ii, nm_e ⟨ii, ii, br_t (Int32.not_lt.mp y) (rm_y137_0 hi h)⟩⟩
theorem rm_y69 {post : SY → Prop} {J : Int32 → (Nat → Int32) → (Nat → Int32) → (Nat → Int32) → (Nat → Int32) → (Nat → Int32) → (Nat → Int32) → (Nat → Int32) → (Nat → Int32) → (Nat → Int32) → (Nat → Int32) → (Nat → Int32) → (Nat → Int32) → (Nat → Int32) → (Nat → Int32) → (Nat → Int32) → (Nat → Int32) → (Nat → Int32) → Prop} {i : Nat} (hi : i < 8) (h : J (nI (i + 1)) U Q D C B O M (upd rl i (rl i + 1)) en ov mi wo la (upd re i (rm_nr C M i)) (upd rt i t) (upd mk i (rm_nk C M i)) lg) : wY_tick_69 post J t (nI i) (nI m) (nI lc) fs ti ru fj ic pr fn U Q D C B O M rl en ov mi wo la re rt mk lg := by
  have ci : (nI i).toNatClampNeg = i := nI_clamp (by omega)
  have ii : vp_in (nI i) 8 := vp_in_nI hi (by omega)
  unfold wY_tick_69
  rw [ci]
  by_cases y : M i < C i
  · rw [← rm_nr_y y] at h
    exact ⟨ii, nm_e ⟨ii, ii, br_f (Int32.not_le.mpr y) ⟨ii, rm_y111 hi h⟩⟩⟩
  · rw [← rm_nr_n y] at h
    exact ⟨ii, nm_e ⟨ii, ii, br_t (Int32.not_lt.mp y) ⟨ii, rm_y111 hi h⟩⟩⟩
theorem rm_y7 (hA : rm_A m P Q U D C B M) {post : SY → Prop} (hp : ∃ k, wY_tick_158 post t (nI m) (nI lc) fs ti ru fj ic pr fn U Q D C B O M (rm_rl P O rl t 8) en ov (rm_mi P O re mi t 8) wo la (rm_re P O C M re t 8) (rm_rt P O rt t 8) (rm_mk P O C M mk t 8) lg k (-1) 0) : ∀ e i n, i + e = 8 → e < n → wY_tick_7 post t (nI m) (nI lc) fs ti ru fj ic pr fn n (nI i) U Q D C B O M (rm_rl P O rl t i) en ov (rm_mi P O re mi t i) wo la (rm_re P O C M re t i) (rm_rt P O rt t i) (rm_mk P O C M mk t i) lg := by
  intro e
  induction e with
  | zero =>
    intro i n h1 h2
    obtain ⟨n, rfl⟩ : ∃ k, n = k + 1 := ⟨n - 1, by omega⟩
    have e1 : i = 8 := by omega
    subst e1
    rw [wY_tick_7]
    exact br_t (nI_le (a := 8) (b := 8) (Nat.le_refl _) (by omega)) hp
  | succ e ih =>
    intro i n h1 h2
    obtain ⟨n, rfl⟩ : ∃ k, n = k + 1 := ⟨n - 1, by omega⟩
    have H := ih (i + 1) n (by omega) (by omega)
    have ci : (nI i).toNatClampNeg = i := nI_clamp (by omega)
    have ii : vp_in (nI i) 8 := vp_in_nI (by omega) (by omega)
    have h8 : ¬ (8 : Int32) ≤ nI i := nI_ge (b := 8) (by omega) (by omega)
    have hU : U (nI i).toNatClampNeg = 0 ↔ rm_n P i = 0 := by
      rw [ci]
      exact rm_A_U0 hA i
    have hre : rm_re P O C M re t i (nI i).toNatClampNeg ≤ 0 ↔ ¬ 0 < re i := by
      rw [ci, rm_re_i]
      exact Int32.not_lt.symm
    rw [wY_tick_7]
    refine br_f h8 ⟨ii, ek_if hU (fun hu => nm_r (nI_1 i) ?_) (fun hu => ?_)⟩
    · have hd : rm_due P O t i = false := rm_due_f0 (fun y => by
        have := (rm_A_Ppos hA i).mp y
        omega)
      rw [rm_mi_f (rm_late_f hd), rm_rl_f hd, rm_mk_f hd, rm_re_f hd, rm_rt_f hd] at H
      exact H
    · have hu1 : 0 < rm_n P i := by omega
      have hP : 0 < P i := (rm_A_Ppos hA i).mpr hu1
      have eQ : Q (nI i).toNatClampNeg = P i := by
        rw [ci]
        exact (rm_A_used hA hu1).2.1.symm
      have eO : O (nI i).toNatClampNeg = O i := by rw [ci]
      have hne : ¬ Q (nI i).toNatClampNeg = 0 := fun e => by
        rw [eQ] at e
        rw [e] at hP
        exact Int32.lt_irrefl hP
      have hlt : t < O (nI i).toNatClampNeg ↔ t < O i := by rw [eO]
      have hrem : (t - O (nI i).toNatClampNeg) - (t - O (nI i).toNatClampNeg) / Q (nI i).toNatClampNeg * Q (nI i).toNatClampNeg = 0 ↔ (t - O i) - (t - O i) / P i * P i = 0 := by
        rw [eQ, eO]
      refine ⟨ii, ek_if hlt (fun z => nm_r (nI_1 i) ?_) (fun z => ⟨ii, ii, hne, ek_if hrem (fun y => ⟨ii, ek_if hre (fun w => ?_) (fun w => ⟨ii, ii, nm_r (e' := upd (rm_mi P O re mi t i) i (rm_mi P O re mi t i i + 1)) (by rw [ci]) ?_⟩)⟩) (fun y => nm_r (nI_1 i) ?_)⟩)⟩
      · have hd : rm_due P O t i = false := rm_due_f1 (Int32.not_le.mpr z)
        rw [rm_mi_f (rm_late_f hd), rm_rl_f hd, rm_mk_f hd, rm_re_f hd, rm_rt_f hd] at H
        exact H
      · have hd : rm_due P O t i = true := rm_due_t hP (Int32.not_lt.mp z) y
        refine rm_y69 (by omega) ?_
        rw [rm_mi_f (rm_late_n w), rm_rl_t hd, rm_mk_t hd, rm_re_t hd, rm_rt_t hd] at H
        exact H
      · have hd : rm_due P O t i = true := rm_due_t hP (Int32.not_lt.mp z) y
        have w1 : 0 < re i := Decidable.of_not_not w
        refine rm_y69 (by omega) ?_
        rw [rm_mi_t (rm_late_t hd w1), rm_rl_t hd, rm_mk_t hd, rm_re_t hd, rm_rt_t hd] at H
        exact H
      · have hd : rm_due P O t i = false := rm_due_f2 y
        rw [rm_mi_f (rm_late_f hd), rm_rl_f hd, rm_mk_f hd, rm_re_f hd, rm_rt_f hd] at H
        exact H
theorem rm_ytick (hA : rm_A m P Q U D C B M) {post : SY → Prop} (hp : ∃ k, wY_tick_158 post ti (nI m) (nI lc) fs ti ru fj ic pr fn U Q D C B O M (rm_rl P O rl ti 8) en ov (rm_mi P O re mi ti 8) wo la (rm_re P O C M re ti 8) (rm_rt P O rt ti 8) (rm_mk P O C M mk ti 8) lg k (-1) 0) : wpY_tick post ((nI m), (nI lc), fs, ti, ru, fj, ic, pr, fn, U, Q, D, C, B, O, M, rl, en, ov, mi, wo, la, re, rt, mk, lg) := by
  have H := rm_y7 hA hp 8 0 9 (by omega) (by omega)
  have e1 : rm_rl P O rl ti 0 = rl := rm_mx_0 _ _ _
  have e2 : rm_mi P O re mi ti 0 = mi := rm_mx_0 _ _ _
  have e3 : rm_mk P O C M mk ti 0 = mk := rm_mx_0 _ _ _
  have e4 : rm_re P O C M re ti 0 = re := rm_mx_0 _ _ _
  have e5 : rm_rt P O rt ti 0 = rt := rm_mx_0 _ _ _
  rw [e1, e2, e3, e4, e5] at H
  exact ⟨9, H⟩
theorem rm_y158 (hA : rm_A m P Q U D C B M) (hR : rm_R P re) {post : SY → Prop} (hp : ∀ n, wY_tick_158 post t (nI m) (nI lc) fs ti ru fj ic pr fn U Q D C B O M rl en ov mi wo la re rt mk lg (n + 1) (rm_oi (rm_pk P re 8)) (nI 8)) : ∀ e i n, i + e = 8 → e < n → wY_tick_158 post t (nI m) (nI lc) fs ti ru fj ic pr fn U Q D C B O M rl en ov mi wo la re rt mk lg n (rm_oi (rm_pk P re i)) (nI i) := by
  intro e
  induction e with
  | zero =>
    intro i n h1 h2
    obtain ⟨n, rfl⟩ : ∃ k, n = k + 1 := ⟨n - 1, by omega⟩
    have e1 : i = 8 := by omega
    subst e1
    exact hp n
  | succ e ih =>
    intro i n h1 h2
    obtain ⟨n, rfl⟩ : ∃ k, n = k + 1 := ⟨n - 1, by omega⟩
    have H := ih (i + 1) n (by omega) (by omega)
    have ci : (nI i).toNatClampNeg = i := nI_clamp (by omega)
    have ii : vp_in (nI i) 8 := vp_in_nI (by omega) (by omega)
    have h8 : ¬ (8 : Int32) ≤ nI i := nI_ge (b := 8) (by omega) (by omega)
    have hU : U (nI i).toNatClampNeg = 0 ↔ rm_n P i = 0 := by
      rw [ci]
      exact rm_A_U0 hA i
    have hre : re (nI i).toNatClampNeg ≤ 0 ↔ ¬ 0 < re i := by
      rw [ci]
      exact Int32.not_lt.symm
    have hus : ∀ j, 0 < re j → Q j = P j := fun j hj => by
      rcases hR j with y | y
      · rw [y] at hj
        exact absurd hj Int32.lt_irrefl
      · exact (rm_A_used hA y.2).2.1.symm
    rw [wY_tick_158]
    refine br_f h8 ⟨ii, ek_if hU (fun hu => nm_r (nI_1 i) ?_) (fun hu => ⟨ii, ek_if hre (fun z => nm_r (nI_1 i) ?_) (fun z => ?_)⟩)⟩
    · have z : ¬ 0 < re i := fun y => by
        rcases hR i with w | w
        · rw [w] at y
          exact Int32.lt_irrefl y
        · omega
      rw [rm_pk_z z] at H
      exact H
    · rw [rm_pk_z z] at H
      exact H
    · have z1 : 0 < re i := Decidable.of_not_not z
      cases hq : rm_pk P re i with
      | none =>
        rw [rm_pk_n z1 hq] at H
        exact br_t (show (-1 : Int32) < 0 by decide) (nm_r (nI_1 i) H)
      | some b =>
        have hb := rm_pk_some i b hq
        have eqi := hus i z1
        have eqb := hus b hb.2
        refine br_f (nI_pos (by omega)) (rm_yh0 (by omega) (by omega) (fun hh => br_f (by decide) (nm_r (nI_1 i) ?_)) (fun hh => br_t rfl (nm_r (nI_1 i) ?_)))
        · rw [eqi, eqb] at hh
          rw [rm_pk_t z1 hq hh] at H
          exact H
        · rw [eqi, eqb] at hh
          rw [rm_pk_f hq hh] at H
          exact H
/-- how many preemptions there are when b is picked -/
def rm_pr (un : Int32) (b : Nat) (pr : Int32) : Int32 := if un = -1 then pr else if un = nI b then pr else pr + 1
theorem rm_y278 {post : SY → Prop} {b : Nat} (hp : wY_tick_302 post t (nI b) (nI m) (nI lc) fs ti ru fj ic pr fn U Q D C B O M rl en ov mi wo la re rt mk lg) : wY_tick_278 post t (nI b) (nI m) (nI lc) fs ti ru fj ic pr fn U Q D C B O M rl en ov mi wo la re rt mk lg := by
  unfold wY_tick_278 wY_tick_279
  exact br_t rfl hp
theorem rm_y158_i {post : SY → Prop} {n : Nat} (hp : post ((nI m), (nI lc), fs, t + 1, -1, fj, ic + 1, pr, fn, U, Q, D, C, B, O, M, rl, en, ov, mi, wo, la, re, rt, mk, lg)) : wY_tick_158 post t (nI m) (nI lc) fs ti ru fj ic pr fn U Q D C B O M rl en ov mi wo la re rt mk lg (n + 1) (-1) (nI 8) := by
  rw [wY_tick_158]
  exact br_t (nI_le (a := 8) (b := 8) (Nat.le_refl _) (by omega)) (br_f (by decide) (nm_e (nm_e hp)))
theorem rm_y158_e {un : Int32} {post : SY → Prop} {b n : Nat} (hb : b < 8) (hJ : rm_Jr ru un fj rl re) (hp : wY_tick_302 post t (nI b) (nI m) (nI lc) fs ti ru fj ic (rm_pr un b pr) fn U Q D C B O M rl en ov mi wo la re rt mk lg) : wY_tick_158 post t (nI m) (nI lc) fs ti ru fj ic pr fn U Q D C B O M rl en ov mi wo la re rt mk lg (n + 1) (nI b) (nI 8) := by
  rw [wY_tick_158]
  refine br_t (nI_le (a := 8) (b := 8) (Nat.le_refl _) (by omega)) (br_t (nI_pos' (by omega)) ?_)
  rcases hJ with ⟨h1, h2⟩ | ⟨q, hq, h1, h3⟩
  · have e : rm_pr un b pr = pr := if_pos h2
    rw [e] at hp
    have hlt : ru < 0 := by
      rw [h1]
      decide
    exact br_t hlt (rm_y278 hp)
  · subst h1
    have cq : (nI q).toNatClampNeg = q := nI_clamp (by omega)
    have iq : vp_in (nI q) 8 := vp_in_nI hq (by omega)
    have h8 : ¬ (8 : Int32) ≤ nI q := nI_ge (b := 8) (by omega) (by omega)
    have hre : re (nI q).toNatClampNeg ≤ 0 ↔ ¬ 0 < re q := by
      rw [cq]
      exact Int32.not_lt.symm
    have hrl : rl (nI q).toNatClampNeg = fj ↔ rl q = fj := by rw [cq]
    refine br_f (nI_pos (by omega)) (br_f h8 ⟨iq, ek_if hre (fun z => rm_y278 ?_) (fun z => ⟨iq, ek_if hrl (fun y => ?_) (fun y => rm_y278 ?_)⟩)⟩)
    · rcases h3 with w | w
      · exact absurd w.1 z
      · have e : rm_pr un b pr = pr := if_pos w.2
        rw [e] at hp
        exact hp
    · have z1 : 0 < re q := Decidable.of_not_not z
      rcases h3 with w | w
      · have hun := w.2.2
        unfold wY_tick_279
        refine br_f (by decide) ?_
        have hne : ¬ un = -1 := by
          rw [hun]
          exact rm_ne1 (by omega)
        by_cases x : nI q = nI b
        · have e : rm_pr un b pr = pr := (if_neg hne).trans (if_pos (hun.trans x))
          rw [e] at hp
          exact br_t x hp
        · have e : rm_pr un b pr = pr + 1 := (if_neg hne).trans (if_neg (fun v => x (hun.symm.trans v)))
          rw [e] at hp
          exact br_f x (nm_e hp)
      · exact absurd ⟨z1, y⟩ w.1
    · rcases h3 with w | w
      · exact absurd w.2.1 y
      · have e : rm_pr un b pr = pr := if_pos w.2
        rw [e] at hp
        exact hp
end
end
section
/-! one tick on both sides -/
section
variable {m lc n : Nat} {fn fs ti ru un ic pr : Int32} {P Q U D C B O M bo bt rl en ov mi wo la re rt mk lg : Nat → Int32}
theorem rm_xt_i (hA : rm_A m P Q U D C B M) (hm : m ≤ 8) (hR : rm_R P re) {post : SX → Prop} (hn : rm_pk P (rm_re P O C M re ti 8) 8 = none) (hp : post ((nI m), (nI lc), fn, fs, ti + 1, -1, rm_uf P O re ti un 8, ic + 1, pr, P, D, C, B, O, M, bo, bt, rm_rl P O rl ti 8, en, ov, rm_mi P O re mi ti 8, wo, la, rm_re P O C M re ti 8, rm_rt P O rt ti 8, rm_mk P O C M mk ti 8, lg)) : wpX_runOneTick post ((nI m), (nI lc), fn, fs, ti, ru, un, ic, pr, P, D, C, B, O, M, bo, bt, rl, en, ov, mi, wo, la, re, rt, mk, lg) := by
  have hR' : rm_R P (rm_re P O C M re ti 8) := rm_R_rel hA hR
  unfold wpX_runOneTick
  dsimp only
  refine rm_xdj hA hm ?_
  dsimp only
  refine rm_xpk hm ?_
  rw [rm_pk_8 hA hm hR', hn]
  exact br_t rfl (nm_e (nm_e hp))
theorem rm_xt_s (hA : rm_A m P Q U D C B M) (hm : m ≤ 8) (hR : rm_R P re) {post : SX → Prop} {b : Nat} (hn : rm_pk P (rm_re P O C M re ti 8) 8 = some b) (hb : b < 8) (hp : wpX_executeJob post ((nI m), (nI lc), fn, fs, ti, nI b, rm_uf P O re ti un 8, ic, rm_pr (rm_uf P O re ti un 8) b pr, P, D, C, B, O, M, bo, bt, rm_rl P O rl ti 8, en, ov, rm_mi P O re mi ti 8, wo, la, rm_re P O C M re ti 8, rm_rt P O rt ti 8, rm_mk P O C M mk ti 8, lg) (nI b)) : wpX_runOneTick post ((nI m), (nI lc), fn, fs, ti, ru, un, ic, pr, P, D, C, B, O, M, bo, bt, rl, en, ov, mi, wo, la, re, rt, mk, lg) := by
  have hR' : rm_R P (rm_re P O C M re ti 8) := rm_R_rel hA hR
  unfold wpX_runOneTick
  dsimp only
  refine rm_xdj hA hm ?_
  dsimp only
  refine rm_xpk hm ?_
  rw [rm_pk_8 hA hm hR', hn]
  refine br_f (rm_ne1 (by omega)) ?_
  by_cases z : (rm_uf P O re ti un 8) = -1
  · have e : rm_pr (rm_uf P O re ti un 8) b pr = pr := if_pos z
    rw [e] at hp
    exact br_t z hp
  · refine br_f z ?_
    by_cases y : (rm_uf P O re ti un 8) = nI b
    · have e : rm_pr (rm_uf P O re ti un 8) b pr = pr := (if_neg z).trans (if_pos y)
      rw [e] at hp
      exact br_t y hp
    · have e : rm_pr (rm_uf P O re ti un 8) b pr = pr + 1 := (if_neg z).trans (if_neg y)
      rw [e] at hp
      exact br_f y (nm_e hp)
end
theorem rm_ln_le {lc n : Nat} (h : n ≤ lc) : rm_ln lc n ≤ lc := by
  unfold rm_ln
  by_cases z : n < lc
  · rw [if_pos z]
    omega
  · rw [if_neg z]
    omega
theorem rm_tick {u : SX} {v : SY} (I : rm_Rel u v) (hs : u.2.2.2.1 = 1) : ∃ u' v', rm_Rel u' v' ∧ u'.2.2.2.1 = 1 ∧ (∀ post, post u' → wpX_runOneTick post u) ∧ (∀ post, post v' → wpY_tick post v) := by
  obtain ⟨m, lc, n, fs, ti, ru, un, fj, ic, pr, P, Q, U, D, C, B, O, M, bo, bt, rl, en, ov, mi, wo, la, re, rt, mk, lg, rfl, rfl, hN, hfs, hA, hSt, hR, hJ, hZ⟩ := I
  have hs' : fs = 1 := hs
  subst hs'
  have hm : m ≤ 8 := hN.2.1
  have hR' : rm_R P (rm_re P O C M re ti 8) := rm_R_rel hA hR
  have hJ' : rm_Jr ru (rm_uf P O re ti un 8) fj (rm_rl P O rl ti 8) (rm_re P O C M re ti 8) := rm_J_rel hJ
  cases hpk : rm_pk P (rm_re P O C M re ti 8) 8 with
  | none =>
    refine ⟨((nI m), (nI lc), nI n, 1, ti + 1, -1, rm_uf P O re ti un 8, ic + 1, pr, P, D, C, B, O, M, bo, bt, rm_rl P O rl ti 8, en, ov, rm_mi P O re mi ti 8, wo, la, rm_re P O C M re ti 8, rm_rt P O rt ti 8, rm_mk P O C M mk ti 8, lg), ((nI m), (nI lc), 1, ti + 1, -1, fj, ic + 1, pr, nI n, U, Q, D, C, B, O, M, rm_rl P O rl ti 8, en, ov, rm_mi P O re mi ti 8, wo, la, rm_re P O C M re ti 8, rm_rt P O rt ti 8, rm_mk P O C M mk ti 8, lg), ⟨m, lc, n, 1, (ti + 1), (-1), (rm_uf P O re ti un 8), fj, (ic + 1), pr, P, Q, U, D, C, B, O, M, bo, bt, (rm_rl P O rl ti 8), en, ov, (rm_mi P O re mi ti 8), wo, la, (rm_re P O C M re ti 8), (rm_rt P O rt ti 8), (rm_mk P O C M mk ti 8), lg, rfl, rfl, hN, Or.inr rfl, hA, hSt, hR', Or.inl ⟨rfl, rm_Jr_idle hJ' (rm_pk_none 8 hpk)⟩, fun z => absurd z (by decide)⟩, rfl, fun post hp => rm_xt_i hA hm hR hpk hp, fun post hp => rm_ytick hA ⟨9, rm_y158 hA hR' (fun k => ?_) 8 0 9 (by omega) (by omega)⟩⟩
    rw [hpk]
    exact rm_y158_i hp
  | some b =>
    have hb := rm_pk_some 8 b hpk
    have hJ2 := rm_J_ex (re := (rm_re P O C M re ti 8)) (rl := (rm_rl P O rl ti 8)) hb.1 hb.2
    have hR2 := rm_R_ex hR' hb.2
    by_cases hz : (rm_re P O C M re ti 8) b - 1 = 0
    · rw [if_pos hz] at hJ2
      refine ⟨((nI m), (nI lc), nI (rm_ln lc n), 1, ti + 1, nI b, -1, ic, rm_pr (rm_uf P O re ti un 8) b pr, P, D, C, B, O, M, bo, bt, (rm_rl P O rl ti 8), upd en b (en b + 1), rm_ov (rm_mk P O C M mk ti 8) ov b, rm_ms D (rm_mi P O re mi ti 8) b (ti + 1 - (rm_rt P O rt ti 8) b), rm_wo wo b (ti + 1 - (rm_rt P O rt ti 8) b), upd la b (ti + 1 - (rm_rt P O rt ti 8) b), upd (rm_re P O C M re ti 8) b ((rm_re P O C M re ti 8) b - 1), (rm_rt P O rt ti 8), (rm_mk P O C M mk ti 8), rm_lg lg lc n (rm_ent (rm_mk P O C M mk ti 8) b (ti + 1 - (rm_rt P O rt ti 8) b))), ((nI m), (nI lc), 1, ti + 1, nI b, (rm_rl P O rl ti 8) b, ic, rm_pr (rm_uf P O re ti un 8) b pr, nI (rm_ln lc n), U, Q, D, C, B, O, M, (rm_rl P O rl ti 8), upd en b (en b + 1), rm_ov (rm_mk P O C M mk ti 8) ov b, rm_ms D (rm_mi P O re mi ti 8) b (ti + 1 - (rm_rt P O rt ti 8) b), rm_wo wo b (ti + 1 - (rm_rt P O rt ti 8) b), upd la b (ti + 1 - (rm_rt P O rt ti 8) b), upd (rm_re P O C M re ti 8) b ((rm_re P O C M re ti 8) b - 1), (rm_rt P O rt ti 8), (rm_mk P O C M mk ti 8), rm_lg lg lc n (rm_ent (rm_mk P O C M mk ti 8) b (ti + 1 - (rm_rt P O rt ti 8) b))), ⟨m, lc, (rm_ln lc n), 1, (ti + 1), (nI b), (-1), (rm_rl P O rl ti 8) b, ic, (rm_pr (rm_uf P O re ti un 8) b pr), P, Q, U, D, C, B, O, M, bo, bt, (rm_rl P O rl ti 8), (upd en b (en b + 1)), (rm_ov (rm_mk P O C M mk ti 8) ov b), (rm_ms D (rm_mi P O re mi ti 8) b (ti + 1 - (rm_rt P O rt ti 8) b)), (rm_wo wo b (ti + 1 - (rm_rt P O rt ti 8) b)), (upd la b (ti + 1 - (rm_rt P O rt ti 8) b)), (upd (rm_re P O C M re ti 8) b ((rm_re P O C M re ti 8) b - 1)), (rm_rt P O rt ti 8), (rm_mk P O C M mk ti 8), (rm_lg lg lc n (rm_ent (rm_mk P O C M mk ti 8) b (ti + 1 - (rm_rt P O rt ti 8) b))), rfl, rfl, ⟨hN.1, hm, hN.2.2.1, hN.2.2.2.1, rm_ln_le hN.2.2.2.2⟩, Or.inr rfl, hA, hSt, hR2, hJ2, fun z => absurd z (by decide)⟩, rfl, fun post hp => rm_xt_s hA hm hR hpk hb.1 (rm_xexe_e hb.1 hN.2.2.1 hN.2.2.2.1 hN.2.2.2.2 hz hp), fun post hp => rm_ytick hA ⟨9, rm_y158 hA hR' (fun k => ?_) 8 0 9 (by omega) (by omega)⟩⟩
      rw [hpk]
      exact rm_y158_e hb.1 hJ' (rm_y302_e hb.1 hN.2.2.1 hN.2.2.2.1 hN.2.2.2.2 hz hp)
    · rw [if_neg hz] at hJ2
      refine ⟨((nI m), (nI lc), nI n, 1, ti + 1, nI b, nI b, ic, rm_pr (rm_uf P O re ti un 8) b pr, P, D, C, B, O, M, bo, bt, (rm_rl P O rl ti 8), en, ov, (rm_mi P O re mi ti 8), wo, la, upd (rm_re P O C M re ti 8) b ((rm_re P O C M re ti 8) b - 1), (rm_rt P O rt ti 8), (rm_mk P O C M mk ti 8), lg), ((nI m), (nI lc), 1, ti + 1, nI b, (rm_rl P O rl ti 8) b, ic, rm_pr (rm_uf P O re ti un 8) b pr, nI n, U, Q, D, C, B, O, M, (rm_rl P O rl ti 8), en, ov, (rm_mi P O re mi ti 8), wo, la, upd (rm_re P O C M re ti 8) b ((rm_re P O C M re ti 8) b - 1), (rm_rt P O rt ti 8), (rm_mk P O C M mk ti 8), lg), ⟨m, lc, n, 1, (ti + 1), (nI b), (nI b), (rm_rl P O rl ti 8) b, ic, (rm_pr (rm_uf P O re ti un 8) b pr), P, Q, U, D, C, B, O, M, bo, bt, (rm_rl P O rl ti 8), en, ov, (rm_mi P O re mi ti 8), wo, la, (upd (rm_re P O C M re ti 8) b ((rm_re P O C M re ti 8) b - 1)), (rm_rt P O rt ti 8), (rm_mk P O C M mk ti 8), lg, rfl, rfl, hN, Or.inr rfl, hA, hSt, hR2, hJ2, fun z => absurd z (by decide)⟩, rfl, fun post hp => rm_xt_s hA hm hR hpk hb.1 (rm_xexe_c hb.1 hz hp), fun post hp => rm_ytick hA ⟨9, rm_y158 hA hR' (fun k => ?_) 8 0 9 (by omega) (by omega)⟩⟩
      rw [hpk]
      exact rm_y158_e hb.1 hJ' (rm_y302_c hb.1 hz hp)
end
section
/-! run: ticks in lockstep -/
def rm_XR (post : Int32 → SX → Prop) (x : Int32) (n : Nat) (i : Int32) (u : SX) : Prop := match u with
  | (a0, a1, a2, a3, a4, a5, a6, a7, a8, a9, a10, a11, a12, a13, a14, a15, a16, a17, a18, a19, a20, a21, a22, a23, a24, a25, a26) => wX_run_20 post x n i a0 a1 a2 a3 a4 a5 a6 a7 a8 a9 a10 a11 a12 a13 a14 a15 a16 a17 a18 a19 a20 a21 a22 a23 a24 a25 a26
def rm_YR (post : Int32 → SY → Prop) (x : Int32) (n : Nat) (i : Int32) (v : SY) : Prop := match v with
  | (a0, a1, a2, a3, a4, a5, a6, a7, a8, a9, a10, a11, a12, a13, a14, a15, a16, a17, a18, a19, a20, a21, a22, a23, a24, a25) => wY_run_34 post x n i a0 a1 a2 a3 a4 a5 a6 a7 a8 a9 a10 a11 a12 a13 a14 a15 a16 a17 a18 a19 a20 a21 a22 a23 a24 a25
theorem rm_XR_s {post : Int32 → SX → Prop} {x : Int32} {n i : Nat} {u : SX} (h : rm_XR post x n (nI (i + 1)) u) : (fun u : SX => match u with
  | (a0, a1, a2, a3, a4, a5, a6, a7, a8, a9, a10, a11, a12, a13, a14, a15, a16, a17, a18, a19, a20, a21, a22, a23, a24, a25, a26) => ∀ y : Int32, y = nI i + 1 → wX_run_20 post x n y a0 a1 a2 a3 a4 a5 a6 a7 a8 a9 a10 a11 a12 a13 a14 a15 a16 a17 a18 a19 a20 a21 a22 a23 a24 a25 a26) u := by
  obtain ⟨a0, a1, a2, a3, a4, a5, a6, a7, a8, a9, a10, a11, a12, a13, a14, a15, a16, a17, a18, a19, a20, a21, a22, a23, a24, a25, a26⟩ := u
  exact nm_r (nI_1 i) h
theorem rm_YR_s {post : Int32 → SY → Prop} {x : Int32} {n i : Nat} {v : SY} (h : rm_YR post x n (nI (i + 1)) v) : (fun v : SY => match v with
  | (a0, a1, a2, a3, a4, a5, a6, a7, a8, a9, a10, a11, a12, a13, a14, a15, a16, a17, a18, a19, a20, a21, a22, a23, a24, a25) => ∀ y : Int32, y = nI i + 1 → wY_run_34 post x n y a0 a1 a2 a3 a4 a5 a6 a7 a8 a9 a10 a11 a12 a13 a14 a15 a16 a17 a18 a19 a20 a21 a22 a23 a24 a25) v := by
  obtain ⟨a0, a1, a2, a3, a4, a5, a6, a7, a8, a9, a10, a11, a12, a13, a14, a15, a16, a17, a18, a19, a20, a21, a22, a23, a24, a25⟩ := v
  exact nm_r (nI_1 i) h
theorem rm_XR_t {post : Int32 → SX → Prop} {N n i : Nat} {u u' : SX} (hi : i < N) (hN : N < 2 ^ 31) (hT : ∀ post, post u' → wpX_runOneTick post u) (h : rm_XR post (nI N) n (nI (i + 1)) u') : rm_XR post (nI N) (n + 1) (nI i) u := by
  obtain ⟨a0, a1, a2, a3, a4, a5, a6, a7, a8, a9, a10, a11, a12, a13, a14, a15, a16, a17, a18, a19, a20, a21, a22, a23, a24, a25, a26⟩ := u
  unfold rm_XR
  dsimp only
  rw [wX_run_20]
  exact br_f (nI_ge hi hN) (hT _ (rm_XR_s h))
theorem rm_YR_t {post : Int32 → SY → Prop} {N n i : Nat} {v v' : SY} (hi : i < N) (hN : N < 2 ^ 31) (hT : ∀ post, post v' → wpY_tick post v) (h : rm_YR post (nI N) n (nI (i + 1)) v') : rm_YR post (nI N) (n + 1) (nI i) v := by
  obtain ⟨a0, a1, a2, a3, a4, a5, a6, a7, a8, a9, a10, a11, a12, a13, a14, a15, a16, a17, a18, a19, a20, a21, a22, a23, a24, a25⟩ := v
  unfold rm_YR
  dsimp only
  rw [wY_run_34]
  exact br_f (nI_ge hi hN) (hT _ (rm_YR_s h))
theorem rm_run {N : Nat} (hN : N < 2 ^ 31) : ∀ e i (u : SX) (v : SY), i + e = N → rm_Rel u v → u.2.2.2.1 = 1 → ∃ r u' v', rm_Rel u' v' ∧ (∀ post : Int32 → SX → Prop, ∀ n, e < n → post r u' → rm_XR post (nI N) n (nI i) u) ∧ (∀ post : Int32 → SY → Prop, ∀ n, e < n → post r v' → rm_YR post (nI N) n (nI i) v) := by
  intro e
  induction e with
  | zero =>
    intro i u v hi I hs
    have I0 := I
    obtain ⟨m, lc, n, fs, ti, ru, un, fj, ic, pr, P, Q, U, D, C, B, O, M, bo, bt, rl, en, ov, mi, wo, la, re, rt, mk, lg, rfl, rfl, -⟩ := I
    refine ⟨ti, _, _, I0, fun post k hk hp => ?_, fun post k hk hp => ?_⟩
    · obtain ⟨k, rfl⟩ : ∃ j, k = j + 1 := ⟨k - 1, by omega⟩
      unfold rm_XR
      dsimp only
      rw [wX_run_20]
      exact br_t (nI_le (by omega) (by omega)) hp
    · obtain ⟨k, rfl⟩ : ∃ j, k = j + 1 := ⟨k - 1, by omega⟩
      unfold rm_YR
      dsimp only
      rw [wY_run_34]
      exact br_t (nI_le (by omega) (by omega)) hp
  | succ e ih =>
    intro i u v hi I hs
    obtain ⟨u1, v1, I1, hs1, hX, hY⟩ := rm_tick I hs
    obtain ⟨r, u2, v2, I2, kX, kY⟩ := ih (i + 1) u1 v1 (by omega) I1 hs1
    refine ⟨r, u2, v2, I2, fun post k hk hp => ?_, fun post k hk hp => ?_⟩
    · obtain ⟨k, rfl⟩ : ∃ j, k = j + 1 := ⟨k - 1, by omega⟩
      exact rm_XR_t (by omega) hN hX (kX post k (by omega) hp)
    · obtain ⟨k, rfl⟩ : ∃ j, k = j + 1 := ⟨k - 1, by omega⟩
      exact rm_YR_t (by omega) hN hY (kY post k (by omega) hp)
end
section
/-! the reference takes a candidate -/
section
variable {m lc : Nat} {fn fs ti ru fj ic pr : Int32} {P Q U D C B O M rl en ov mi wo la re rt mk lg : Nat → Int32}
theorem rm_ya240 (hA : rm_A m P Q U D C B M) (hm : m ≤ 8) {post : Int32 → SY → Prop} {k : Nat} (hk : k < 8) : ∀ e i n (f : Int32), i + e = 8 → e < n → (f = 0 ∨ f = 1) → ((f = 1 ∧ ∀ j, i ≤ j → 0 < rm_n P j → rm_L (rm_n P) (rm_n D) (rm_n C) (rm_n B) j ≠ 0) → post (nI k) ((nI m), (nI lc), fs, ti, ru, fj, ic, pr, fn, U, Q, D, C, B, O, M, rl, en, ov, mi, wo, la, re, rt, mk, lg)) → ((f = 0 ∨ ∃ j, i ≤ j ∧ 0 < rm_n P j ∧ rm_L (rm_n P) (rm_n D) (rm_n C) (rm_n B) j = 0) → post (-4) ((nI m), (nI lc), fs, ti, ru, fj, ic, pr, fn, upd U k 0, Q, D, C, B, O, M, rl, en, ov, mi, wo, la, re, rt, mk, lg)) → wY_admit_240 post (nI k) (nI m) (nI lc) fs ti ru fj ic pr fn U Q D C B O M rl en ov mi wo la re rt mk lg n f (nI i) := by
  have ck : (nI k).toNatClampNeg = k := nI_clamp (by omega)
  have ik : vp_in (nI k) 8 := vp_in_nI hk (by omega)
  intro e
  induction e with
  | zero =>
    intro i n f h1 h2 hf k1 k0
    obtain ⟨n, rfl⟩ : ∃ j, n = j + 1 := ⟨n - 1, by omega⟩
    have e1 : i = 8 := by omega
    subst e1
    rw [wY_admit_240]
    refine br_t (nI_le (a := 8) (b := 8) (Nat.le_refl _) (by omega)) ?_
    rcases hf with rfl | rfl
    · exact br_t rfl ⟨ik, nm_r (e' := upd U k 0) (by rw [ck]; rfl) (k0 (Or.inl rfl))⟩
    · exact br_f (by decide) (k1 ⟨rfl, fun j hj hj2 => by
        have := rm_A_ge hA (j := j) (by omega)
        omega⟩)
  | succ e ih =>
    intro i n f h1 h2 hf k1 k0
    obtain ⟨n, rfl⟩ : ∃ j, n = j + 1 := ⟨n - 1, by omega⟩
    have H := ih (i + 1) n
    have ci : (nI i).toNatClampNeg = i := nI_clamp (by omega)
    have ii : vp_in (nI i) 8 := vp_in_nI (by omega) (by omega)
    have h8 : ¬ (8 : Int32) ≤ nI i := nI_ge (b := 8) (by omega) (by omega)
    have hU : U (nI i).toNatClampNeg = 0 ↔ rm_n P i = 0 := by
      rw [ci]
      exact rm_A_U0 hA i
    have hL : rm_L (rm_n P) (rm_n D) (rm_n C) (rm_n B) i ≤ 256 := rm_L_le (rm_n255 hA.2.2.1 i)
    have hl := rm_yl_0 (x := rm_L (rm_n P) (rm_n D) (rm_n C) (rm_n B) i) (by omega)
    rw [wY_admit_240]
    refine br_f h8 ⟨ii, ek_if hU (fun hu => nm_r (nI_1 i) (H f (by omega) (by omega) hf (fun q => k1 ⟨q.1, fun j hj hj2 => ?_⟩) (fun q => k0 ?_))) (fun hu => rm_yB hA (by omega) (by omega) (ek_if hl (fun z => nm_r (nI_1 i) (H f (by omega) (by omega) hf (fun q => k1 ⟨q.1, fun j hj hj2 => ?_⟩) (fun q => k0 ?_))) (fun z => nm_r (nI_1 i) (H 0 (by omega) (by omega) (Or.inl rfl) (fun q => absurd q.1 (by decide)) (fun q => k0 ?_)))))⟩
    · by_cases ej : j = i
      · subst ej
        omega
      · exact q.2 j (by omega) hj2
    · rcases q with q | ⟨j, hj, hj2⟩
      · exact Or.inl q
      · exact Or.inr ⟨j, by omega, hj2⟩
    · by_cases ej : j = i
      · subst ej
        exact z
      · exact q.2 j (by omega) hj2
    · rcases q with q | ⟨j, hj, hj2⟩
      · exact Or.inl q
      · exact Or.inr ⟨j, by omega, hj2⟩
    · exact Or.inr ⟨i, Nat.le_refl _, by omega, Decidable.of_not_not z⟩
theorem rm_ya63_k {post : Int32 → SY → Prop} {p d c b : Int32} {k n : Nat} (hk : k < 8) (hm : m ≤ 8) (h : ∃ j, wY_admit_240 post (nI k) (nI m) (nI lc) fs ti ru fj ic pr fn (upd U k 1) (upd Q k p) (upd D k d) (upd C k c) (upd B k b) (upd O k 0) (upd M k c) (upd rl k 0) (upd en k 0) (upd ov k 0) (upd mi k 0) (upd wo k 0) (upd la k 0) (upd re k 0) (upd rt k 0) (upd mk k 0) lg j 1 0) : wY_admit_63 post p d c b (nI m) (nI lc) fs ti ru fj ic pr fn U Q D C B O M rl en ov mi wo la re rt mk lg (n + 1) (nI k) (nI m) := by
  have ck : (nI k).toNatClampNeg = k := nI_clamp (by omega)
  have ik : vp_in (nI k) 8 := vp_in_nI hk (by omega)
  rw [wY_admit_63]
  dsimp only
  rw [ck]
  exact br_t (nI_le (Nat.le_refl _) (by omega)) (br_t (nI_pos' (by omega)) ⟨ik, nm_e ⟨ik, nm_e ⟨ik, nm_e ⟨ik, nm_e ⟨ik, nm_e ⟨ik, nm_e ⟨ik, nm_e ⟨ik, nm_e ⟨ik, nm_e ⟨ik, nm_e ⟨ik, nm_e ⟨ik, nm_e ⟨ik, nm_e ⟨ik, nm_e ⟨ik, nm_r (e' := upd mk k 0) rfl ⟨ik, nm_r (e' := upd U k 1) rfl h⟩⟩⟩⟩⟩⟩⟩⟩⟩⟩⟩⟩⟩⟩⟩⟩)
theorem rm_ya63_0 {post : Int32 → SY → Prop} {p d c b : Int32} {n : Nat} (hm : m ≤ 8) (h : post (-3) ((nI m), (nI lc), fs, ti, ru, fj, ic, pr, fn, U, Q, D, C, B, O, M, rl, en, ov, mi, wo, la, re, rt, mk, lg)) : wY_admit_63 post p d c b (nI m) (nI lc) fs ti ru fj ic pr fn U Q D C B O M rl en ov mi wo la re rt mk lg (n + 1) (-1) (nI m) := by
  rw [wY_admit_63]
  exact br_t (nI_le (Nat.le_refl _) (by omega)) (br_f (by decide) h)
theorem rm_ya63s (hm : m ≤ 8) {post : Int32 → SY → Prop} {p d c b : Int32} {k : Nat} (hk : k < 8) (K : ∀ n, wY_admit_63 post p d c b (nI m) (nI lc) fs ti ru fj ic pr fn U Q D C B O M rl en ov mi wo la re rt mk lg (n + 1) (nI k) (nI m)) : ∀ e i n, i + e = m → e < n → wY_admit_63 post p d c b (nI m) (nI lc) fs ti ru fj ic pr fn U Q D C B O M rl en ov mi wo la re rt mk lg n (nI k) (nI i) := by
  intro e
  induction e with
  | zero =>
    intro i n h1 h2
    obtain ⟨n, rfl⟩ : ∃ j, n = j + 1 := ⟨n - 1, by omega⟩
    have e1 : i = m := by omega
    subst e1
    exact K n
  | succ e ih =>
    intro i n h1 h2
    obtain ⟨n, rfl⟩ : ∃ j, n = j + 1 := ⟨n - 1, by omega⟩
    have H := ih (i + 1) n (by omega) (by omega)
    have ii : vp_in (nI i) 8 := vp_in_nI (by omega) (by omega)
    rw [wY_admit_63]
    exact br_f (nI_ge (by omega) (by omega)) ⟨ii, br_c (fun _ => br_t (nI_pos' (by omega)) (nm_r (nI_1 i) H)) (fun _ => nm_r (nI_1 i) H)⟩
theorem rm_ya63n (hA : rm_A m P Q U D C B M) (hm : m ≤ 8) {post : Int32 → SY → Prop} {p d c b : Int32} : ∀ e i n, i + e = m → e < n → (∀ n, wY_admit_63 post p d c b (nI m) (nI lc) fs ti ru fj ic pr fn U Q D C B O M rl en ov mi wo la re rt mk lg (n + 1) (rm_oi (rm_ff (rm_n P) e i)) (nI m)) → wY_admit_63 post p d c b (nI m) (nI lc) fs ti ru fj ic pr fn U Q D C B O M rl en ov mi wo la re rt mk lg n (-1) (nI i) := by
  intro e
  induction e with
  | zero =>
    intro i n h1 h2 K
    obtain ⟨n, rfl⟩ : ∃ j, n = j + 1 := ⟨n - 1, by omega⟩
    have e1 : i = m := by omega
    subst e1
    exact K n
  | succ e ih =>
    intro i n h1 h2 K
    obtain ⟨n, rfl⟩ : ∃ j, n = j + 1 := ⟨n - 1, by omega⟩
    have ci : (nI i).toNatClampNeg = i := nI_clamp (by omega)
    have ii : vp_in (nI i) 8 := vp_in_nI (by omega) (by omega)
    have hU : U (nI i).toNatClampNeg = 0 ↔ rm_n P i = 0 := by
      rw [ci]
      exact rm_A_U0 hA i
    rw [wY_admit_63]
    refine br_f (nI_ge (by omega) (by omega)) ⟨ii, ek_if hU (fun hu => br_f (by decide) (nm_r (nI_1 i) ?_)) (fun hu => nm_r (nI_1 i) ?_)⟩
    · rw [rm_ff_y hu] at K
      exact rm_ya63s hm (by omega) K e (i + 1) n (by omega) (by omega)
    · rw [rm_ff_n hu] at K
      exact ih (i + 1) n (by omega) (by omega) K
theorem rm_yad_r {post : Int32 → SY → Prop} {p d c b : Int32} (hok : ¬ rm_ok p d c b) (hp : post (-2) ((nI m), (nI lc), 0, ti, ru, fj, ic, pr, fn, U, Q, D, C, B, O, M, rl, en, ov, mi, wo, la, re, rt, mk, lg)) : wpY_admit post ((nI m), (nI lc), 0, ti, ru, fj, ic, pr, fn, U, Q, D, C, B, O, M, rl, en, ov, mi, wo, la, re, rt, mk, lg) p d c b := by
  unfold wpY_admit
  dsimp only
  exact br_t rfl (br_c (fun _ => hp) (fun z1 => br_c (fun _ => hp) (fun z2 => br_c (fun _ => hp) (fun z3 => br_c (fun _ => hp) (fun z4 => br_c (fun _ => hp) (fun z5 => br_c (fun _ => hp) (fun z6 => br_c (fun _ => hp) (fun z7 => br_c (fun z8 => absurd ⟨⟨Int32.not_lt.mp z1, Int32.not_lt.mp z2⟩, ⟨Int32.not_lt.mp z3, Int32.not_lt.mp z4⟩, ⟨Int32.not_lt.mp z5, Int32.not_lt.mp z6⟩, ⟨Int32.not_lt.mp z7, z8⟩⟩ hok) (fun _ => hp)))))))))
theorem rm_yad_ok {post : Int32 → SY → Prop} {p d c b : Int32} (hok : rm_ok p d c b) (hp : ∃ n, wY_admit_63 post p d c b (nI m) (nI lc) 0 ti ru fj ic pr fn U Q D C B O M rl en ov mi wo la re rt mk lg n (-1) 0) : wpY_admit post ((nI m), (nI lc), 0, ti, ru, fj, ic, pr, fn, U, Q, D, C, B, O, M, rl, en, ov, mi, wo, la, re, rt, mk, lg) p d c b := by
  unfold wpY_admit
  dsimp only
  obtain ⟨⟨z1, z2⟩, ⟨z3, z4⟩, ⟨z5, z6⟩, ⟨z7, z8⟩⟩ := hok
  exact br_t rfl (br_f (Int32.not_lt.mpr z1) (br_f (Int32.not_lt.mpr z2) (br_f (Int32.not_lt.mpr z3) (br_f (Int32.not_lt.mpr z4) (br_f (Int32.not_lt.mpr z5) (br_f (Int32.not_lt.mpr z6) (br_f (Int32.not_lt.mpr z7) (br_t z8 hp))))))))
theorem rm_yad_0 (hA : rm_A m P Q U D C B M) (hm : m ≤ 8) {post : Int32 → SY → Prop} {p d c b : Int32} (hok : rm_ok p d c b) (hff : rm_ff (rm_n P) m 0 = none) (hp : post (-3) ((nI m), (nI lc), 0, ti, ru, fj, ic, pr, fn, U, Q, D, C, B, O, M, rl, en, ov, mi, wo, la, re, rt, mk, lg)) : wpY_admit post ((nI m), (nI lc), 0, ti, ru, fj, ic, pr, fn, U, Q, D, C, B, O, M, rl, en, ov, mi, wo, la, re, rt, mk, lg) p d c b :=
  rm_yad_ok hok ⟨m + 1, rm_ya63n hA hm m 0 (m + 1) (by omega) (by omega) (fun n => by rw [hff]; exact rm_ya63_0 hm hp)⟩
theorem rm_yad_k (hA : rm_A m P Q U D C B M) (hm : m ≤ 8) {post : Int32 → SY → Prop} {p d c b : Int32} {k : Nat} (hok : rm_ok p d c b) (hff : rm_ff (rm_n P) m 0 = some k) (hk : k < 8) (hp : ∃ j, wY_admit_240 post (nI k) (nI m) (nI lc) 0 ti ru fj ic pr fn (upd U k 1) (upd Q k p) (upd D k d) (upd C k c) (upd B k b) (upd O k 0) (upd M k c) (upd rl k 0) (upd en k 0) (upd ov k 0) (upd mi k 0) (upd wo k 0) (upd la k 0) (upd re k 0) (upd rt k 0) (upd mk k 0) lg j 1 0) : wpY_admit post ((nI m), (nI lc), 0, ti, ru, fj, ic, pr, fn, U, Q, D, C, B, O, M, rl, en, ov, mi, wo, la, re, rt, mk, lg) p d c b :=
  rm_yad_ok hok ⟨m + 1, rm_ya63n hA hm m 0 (m + 1) (by omega) (by omega) (fun n => by rw [hff]; exact rm_ya63_k hk hm hp)⟩
end
end
section
/-! getTask, field by field -/
section
variable {m lc : Nat} {fn fs ti ru un fj ic pr : Int32} {P Q U D C B O M bo bt rl en ov mi wo la re rt mk lg : Nat → Int32}
theorem rm_gx0 {post : Int32 → Prop} {j : Nat} (hm : m ≤ 8) (hj : j < m) (hP : 0 < P j) (h : post (P j)) : wpX_getTask post ((nI m), (nI lc), fn, fs, ti, ru, un, ic, pr, P, D, C, B, O, M, bo, bt, rl, en, ov, mi, wo, la, re, rt, mk, lg) (nI j) (nI 0) := by
  have cj : (nI j).toNatClampNeg = j := nI_clamp (by omega)
  have ij : vp_in (nI j) 8 := vp_in_nI (by omega) (by omega)
  unfold wpX_getTask
  dsimp only
  exact rm_xu_t hm hj hP (br_f (by decide) (br_f (by decide) (br_f (by decide) (br_t rfl ⟨ij, by rw [cj]; exact h⟩))))
theorem rm_gy0 (hA : rm_A m P Q U D C B M) {post : Int32 → Prop} {j : Nat} (hm : m ≤ 8) (hj : j < m) (hu : 0 < rm_n P j) (h : post (Q j)) : wpY_getTask post ((nI m), (nI lc), fs, ti, ru, fj, ic, pr, fn, U, Q, D, C, B, O, M, rl, en, ov, mi, wo, la, re, rt, mk, lg) (nI j) (nI 0) := by
  have cj : (nI j).toNatClampNeg = j := nI_clamp (by omega)
  have ij : vp_in (nI j) 8 := vp_in_nI (by omega) (by omega)
  have hU : ¬ U (nI j).toNatClampNeg = 0 := by
    rw [cj, (rm_A_used hA hu).1]
    decide
  unfold wpY_getTask
  dsimp only
  exact br_f (nI_pos (by omega)) (br_f (nI_ge hj (by omega)) ⟨ij, br_f hU (br_f (by decide) (br_t (by decide) (br_f (by decide) (br_f (by decide) (br_t rfl ⟨ij, by rw [cj]; exact h⟩)))))⟩)
theorem rm_gx1 {post : Int32 → Prop} {j : Nat} (hm : m ≤ 8) (hj : j < m) (hP : 0 < P j) (h : post (D j)) : wpX_getTask post ((nI m), (nI lc), fn, fs, ti, ru, un, ic, pr, P, D, C, B, O, M, bo, bt, rl, en, ov, mi, wo, la, re, rt, mk, lg) (nI j) (nI 1) := by
  have cj : (nI j).toNatClampNeg = j := nI_clamp (by omega)
  have ij : vp_in (nI j) 8 := vp_in_nI (by omega) (by omega)
  unfold wpX_getTask
  dsimp only
  exact rm_xu_t hm hj hP (br_f (by decide) (br_f (by decide) (br_f (by decide) (br_f (by decide) (br_t rfl ⟨ij, by rw [cj]; exact h⟩)))))
theorem rm_gy1 (hA : rm_A m P Q U D C B M) {post : Int32 → Prop} {j : Nat} (hm : m ≤ 8) (hj : j < m) (hu : 0 < rm_n P j) (h : post (D j)) : wpY_getTask post ((nI m), (nI lc), fs, ti, ru, fj, ic, pr, fn, U, Q, D, C, B, O, M, rl, en, ov, mi, wo, la, re, rt, mk, lg) (nI j) (nI 1) := by
  have cj : (nI j).toNatClampNeg = j := nI_clamp (by omega)
  have ij : vp_in (nI j) 8 := vp_in_nI (by omega) (by omega)
  have hU : ¬ U (nI j).toNatClampNeg = 0 := by
    rw [cj, (rm_A_used hA hu).1]
    decide
  unfold wpY_getTask
  dsimp only
  exact br_f (nI_pos (by omega)) (br_f (nI_ge hj (by omega)) ⟨ij, br_f hU (br_f (by decide) (br_t (by decide) (br_f (by decide) (br_f (by decide) (br_f (by decide) (br_t rfl ⟨ij, by rw [cj]; exact h⟩))))))⟩)
theorem rm_gx2 {post : Int32 → Prop} {j : Nat} (hm : m ≤ 8) (hj : j < m) (hP : 0 < P j) (h : post (C j)) : wpX_getTask post ((nI m), (nI lc), fn, fs, ti, ru, un, ic, pr, P, D, C, B, O, M, bo, bt, rl, en, ov, mi, wo, la, re, rt, mk, lg) (nI j) (nI 2) := by
  have cj : (nI j).toNatClampNeg = j := nI_clamp (by omega)
  have ij : vp_in (nI j) 8 := vp_in_nI (by omega) (by omega)
  unfold wpX_getTask
  dsimp only
  exact rm_xu_t hm hj hP (br_f (by decide) (br_f (by decide) (br_f (by decide) (br_f (by decide) (br_f (by decide) (br_t rfl ⟨ij, by rw [cj]; exact h⟩))))))
theorem rm_gy2 (hA : rm_A m P Q U D C B M) {post : Int32 → Prop} {j : Nat} (hm : m ≤ 8) (hj : j < m) (hu : 0 < rm_n P j) (h : post (C j)) : wpY_getTask post ((nI m), (nI lc), fs, ti, ru, fj, ic, pr, fn, U, Q, D, C, B, O, M, rl, en, ov, mi, wo, la, re, rt, mk, lg) (nI j) (nI 2) := by
  have cj : (nI j).toNatClampNeg = j := nI_clamp (by omega)
  have ij : vp_in (nI j) 8 := vp_in_nI (by omega) (by omega)
  have hU : ¬ U (nI j).toNatClampNeg = 0 := by
    rw [cj, (rm_A_used hA hu).1]
    decide
  unfold wpY_getTask
  dsimp only
  exact br_f (nI_pos (by omega)) (br_f (nI_ge hj (by omega)) ⟨ij, br_f hU (br_f (by decide) (br_t (by decide) (br_f (by decide) (br_f (by decide) (br_f (by decide) (br_f (by decide) (br_t rfl ⟨ij, by rw [cj]; exact h⟩)))))))⟩)
theorem rm_gx3 {post : Int32 → Prop} {j : Nat} (hm : m ≤ 8) (hj : j < m) (hP : 0 < P j) (h : post (B j)) : wpX_getTask post ((nI m), (nI lc), fn, fs, ti, ru, un, ic, pr, P, D, C, B, O, M, bo, bt, rl, en, ov, mi, wo, la, re, rt, mk, lg) (nI j) (nI 3) := by
  have cj : (nI j).toNatClampNeg = j := nI_clamp (by omega)
  have ij : vp_in (nI j) 8 := vp_in_nI (by omega) (by omega)
  unfold wpX_getTask
  dsimp only
  exact rm_xu_t hm hj hP (br_f (by decide) (br_f (by decide) (br_f (by decide) (br_f (by decide) (br_f (by decide) (br_f (by decide) (br_t rfl ⟨ij, by rw [cj]; exact h⟩)))))))
theorem rm_gy3 (hA : rm_A m P Q U D C B M) {post : Int32 → Prop} {j : Nat} (hm : m ≤ 8) (hj : j < m) (hu : 0 < rm_n P j) (h : post (B j)) : wpY_getTask post ((nI m), (nI lc), fs, ti, ru, fj, ic, pr, fn, U, Q, D, C, B, O, M, rl, en, ov, mi, wo, la, re, rt, mk, lg) (nI j) (nI 3) := by
  have cj : (nI j).toNatClampNeg = j := nI_clamp (by omega)
  have ij : vp_in (nI j) 8 := vp_in_nI (by omega) (by omega)
  have hU : ¬ U (nI j).toNatClampNeg = 0 := by
    rw [cj, (rm_A_used hA hu).1]
    decide
  unfold wpY_getTask
  dsimp only
  exact br_f (nI_pos (by omega)) (br_f (nI_ge hj (by omega)) ⟨ij, br_f hU (br_f (by decide) (br_t (by decide) (br_f (by decide) (br_f (by decide) (br_f (by decide) (br_f (by decide) (br_f (by decide) (br_t rfl ⟨ij, by rw [cj]; exact h⟩))))))))⟩)
theorem rm_gx4 {post : Int32 → Prop} {j : Nat} (hm : m ≤ 8) (hj : j < m) (hP : 0 < P j) (h : post (O j)) : wpX_getTask post ((nI m), (nI lc), fn, fs, ti, ru, un, ic, pr, P, D, C, B, O, M, bo, bt, rl, en, ov, mi, wo, la, re, rt, mk, lg) (nI j) (nI 4) := by
  have cj : (nI j).toNatClampNeg = j := nI_clamp (by omega)
  have ij : vp_in (nI j) 8 := vp_in_nI (by omega) (by omega)
  unfold wpX_getTask
  dsimp only
  exact rm_xu_t hm hj hP (br_f (by decide) (br_f (by decide) (br_f (by decide) (br_f (by decide) (br_f (by decide) (br_f (by decide) (br_f (by decide) (br_t rfl ⟨ij, by rw [cj]; exact h⟩))))))))
theorem rm_gy4 (hA : rm_A m P Q U D C B M) {post : Int32 → Prop} {j : Nat} (hm : m ≤ 8) (hj : j < m) (hu : 0 < rm_n P j) (h : post (O j)) : wpY_getTask post ((nI m), (nI lc), fs, ti, ru, fj, ic, pr, fn, U, Q, D, C, B, O, M, rl, en, ov, mi, wo, la, re, rt, mk, lg) (nI j) (nI 4) := by
  have cj : (nI j).toNatClampNeg = j := nI_clamp (by omega)
  have ij : vp_in (nI j) 8 := vp_in_nI (by omega) (by omega)
  have hU : ¬ U (nI j).toNatClampNeg = 0 := by
    rw [cj, (rm_A_used hA hu).1]
    decide
  unfold wpY_getTask
  dsimp only
  exact br_f (nI_pos (by omega)) (br_f (nI_ge hj (by omega)) ⟨ij, br_f hU (br_f (by decide) (br_t (by decide) (br_f (by decide) (br_f (by decide) (br_f (by decide) (br_f (by decide) (br_f (by decide) (br_f (by decide) (br_t rfl ⟨ij, by rw [cj]; exact h⟩)))))))))⟩)
theorem rm_gx5 {post : Int32 → Prop} {j : Nat} (hm : m ≤ 8) (hj : j < m) (hP : 0 < P j) (h : post (M j)) : wpX_getTask post ((nI m), (nI lc), fn, fs, ti, ru, un, ic, pr, P, D, C, B, O, M, bo, bt, rl, en, ov, mi, wo, la, re, rt, mk, lg) (nI j) (nI 5) := by
  have cj : (nI j).toNatClampNeg = j := nI_clamp (by omega)
  have ij : vp_in (nI j) 8 := vp_in_nI (by omega) (by omega)
  unfold wpX_getTask
  dsimp only
  exact rm_xu_t hm hj hP (br_f (by decide) (br_f (by decide) (br_f (by decide) (br_f (by decide) (br_f (by decide) (br_f (by decide) (br_f (by decide) (br_f (by decide) (br_t rfl ⟨ij, by rw [cj]; exact h⟩)))))))))
theorem rm_gy5 (hA : rm_A m P Q U D C B M) {post : Int32 → Prop} {j : Nat} (hm : m ≤ 8) (hj : j < m) (hu : 0 < rm_n P j) (h : post (M j)) : wpY_getTask post ((nI m), (nI lc), fs, ti, ru, fj, ic, pr, fn, U, Q, D, C, B, O, M, rl, en, ov, mi, wo, la, re, rt, mk, lg) (nI j) (nI 5) := by
  have cj : (nI j).toNatClampNeg = j := nI_clamp (by omega)
  have ij : vp_in (nI j) 8 := vp_in_nI (by omega) (by omega)
  have hU : ¬ U (nI j).toNatClampNeg = 0 := by
    rw [cj, (rm_A_used hA hu).1]
    decide
  unfold wpY_getTask
  dsimp only
  exact br_f (nI_pos (by omega)) (br_f (nI_ge hj (by omega)) ⟨ij, br_f hU (br_f (by decide) (br_t (by decide) (br_f (by decide) (br_f (by decide) (br_f (by decide) (br_f (by decide) (br_f (by decide) (br_f (by decide) (br_f (by decide) (br_t rfl ⟨ij, by rw [cj]; exact h⟩))))))))))⟩)
theorem rm_gx6 {post : Int32 → Prop} {j : Nat} (hm : m ≤ 8) (hj : j < m) (hP : 0 < P j) (h : post (bo j)) : wpX_getTask post ((nI m), (nI lc), fn, fs, ti, ru, un, ic, pr, P, D, C, B, O, M, bo, bt, rl, en, ov, mi, wo, la, re, rt, mk, lg) (nI j) (nI 6) := by
  have cj : (nI j).toNatClampNeg = j := nI_clamp (by omega)
  have ij : vp_in (nI j) 8 := vp_in_nI (by omega) (by omega)
  unfold wpX_getTask
  dsimp only
  exact rm_xu_t hm hj hP (br_f (by decide) (br_f (by decide) (br_f (by decide) (br_f (by decide) (br_f (by decide) (br_f (by decide) (br_f (by decide) (br_f (by decide) (br_f (by decide) (br_t rfl ⟨ij, by rw [cj]; exact h⟩))))))))))
theorem rm_gy6 (hA : rm_A m P Q U D C B M) {post : Int32 → Prop} {j : Nat} (hm : m ≤ 8) (hj : j < m) (hu : 0 < rm_n P j) (h : post (rm_yl (rm_L (rm_n P) (rm_n D) (rm_n C) (rm_n B) j))) : wpY_getTask post ((nI m), (nI lc), fs, ti, ru, fj, ic, pr, fn, U, Q, D, C, B, O, M, rl, en, ov, mi, wo, la, re, rt, mk, lg) (nI j) (nI 6) := by
  have cj : (nI j).toNatClampNeg = j := nI_clamp (by omega)
  have ij : vp_in (nI j) 8 := vp_in_nI (by omega) (by omega)
  have hU : ¬ U (nI j).toNatClampNeg = 0 := by
    rw [cj, (rm_A_used hA hu).1]
    decide
  unfold wpY_getTask
  dsimp only
  exact br_f (nI_pos (by omega)) (br_f (nI_ge hj (by omega)) ⟨ij, br_f hU (br_f (by decide) (br_t (by decide) (br_f (by decide) (br_f (by decide) (br_f (by decide) (br_f (by decide) (br_f (by decide) (br_f (by decide) (br_f (by decide) (br_f (by decide) (br_t rfl (rm_yB hA (by omega) hu h))))))))))))⟩)
theorem rm_gx7 {post : Int32 → Prop} {j : Nat} (hm : m ≤ 8) (hj : j < m) (hP : 0 < P j) (h : post (bt j)) : wpX_getTask post ((nI m), (nI lc), fn, fs, ti, ru, un, ic, pr, P, D, C, B, O, M, bo, bt, rl, en, ov, mi, wo, la, re, rt, mk, lg) (nI j) (nI 7) := by
  have cj : (nI j).toNatClampNeg = j := nI_clamp (by omega)
  have ij : vp_in (nI j) 8 := vp_in_nI (by omega) (by omega)
  unfold wpX_getTask
  dsimp only
  exact rm_xu_t hm hj hP (br_f (by decide) (br_f (by decide) (br_f (by decide) (br_f (by decide) (br_f (by decide) (br_f (by decide) (br_f (by decide) (br_f (by decide) (br_f (by decide) (br_f (by decide) (br_t rfl ⟨ij, by rw [cj]; exact h⟩)))))))))))
theorem rm_gy7 (hA : rm_A m P Q U D C B M) {post : Int32 → Prop} {j : Nat} (hm : m ≤ 8) (hj : j < m) (hu : 0 < rm_n P j) (h : post (nI (rm_T (rm_n P) (rm_n B) j 8))) : wpY_getTask post ((nI m), (nI lc), fs, ti, ru, fj, ic, pr, fn, U, Q, D, C, B, O, M, rl, en, ov, mi, wo, la, re, rt, mk, lg) (nI j) (nI 7) := by
  have cj : (nI j).toNatClampNeg = j := nI_clamp (by omega)
  have ij : vp_in (nI j) 8 := vp_in_nI (by omega) (by omega)
  have hU : ¬ U (nI j).toNatClampNeg = 0 := by
    rw [cj, (rm_A_used hA hu).1]
    decide
  unfold wpY_getTask
  dsimp only
  exact br_f (nI_pos (by omega)) (br_f (nI_ge hj (by omega)) ⟨ij, br_f hU (br_f (by decide) (br_t (by decide) (br_f (by decide) (br_f (by decide) (br_f (by decide) (br_f (by decide) (br_f (by decide) (br_f (by decide) (br_f (by decide) (br_f (by decide) (br_f (by decide) (br_t rfl (rm_yT hA (by omega) hu h)))))))))))))⟩)
theorem rm_gx8 {post : Int32 → Prop} {j : Nat} (hm : m ≤ 8) (hj : j < m) (hP : 0 < P j) (h : post (rl j)) : wpX_getTask post ((nI m), (nI lc), fn, fs, ti, ru, un, ic, pr, P, D, C, B, O, M, bo, bt, rl, en, ov, mi, wo, la, re, rt, mk, lg) (nI j) (nI 8) := by
  have cj : (nI j).toNatClampNeg = j := nI_clamp (by omega)
  have ij : vp_in (nI j) 8 := vp_in_nI (by omega) (by omega)
  unfold wpX_getTask
  dsimp only
  exact rm_xu_t hm hj hP (br_f (by decide) (br_f (by decide) (br_f (by decide) (br_f (by decide) (br_f (by decide) (br_f (by decide) (br_f (by decide) (br_f (by decide) (br_f (by decide) (br_f (by decide) (br_f (by decide) (br_t rfl ⟨ij, by rw [cj]; exact h⟩))))))))))))
theorem rm_gy8 (hA : rm_A m P Q U D C B M) {post : Int32 → Prop} {j : Nat} (hm : m ≤ 8) (hj : j < m) (hu : 0 < rm_n P j) (h : post (rl j)) : wpY_getTask post ((nI m), (nI lc), fs, ti, ru, fj, ic, pr, fn, U, Q, D, C, B, O, M, rl, en, ov, mi, wo, la, re, rt, mk, lg) (nI j) (nI 8) := by
  have cj : (nI j).toNatClampNeg = j := nI_clamp (by omega)
  have ij : vp_in (nI j) 8 := vp_in_nI (by omega) (by omega)
  have hU : ¬ U (nI j).toNatClampNeg = 0 := by
    rw [cj, (rm_A_used hA hu).1]
    decide
  unfold wpY_getTask
  dsimp only
  exact br_f (nI_pos (by omega)) (br_f (nI_ge hj (by omega)) ⟨ij, br_f hU (br_f (by decide) (br_t (by decide) (br_f (by decide) (br_f (by decide) (br_f (by decide) (br_f (by decide) (br_f (by decide) (br_f (by decide) (br_f (by decide) (br_f (by decide) (br_f (by decide) (br_f (by decide) (br_t rfl ⟨ij, by rw [cj]; exact h⟩)))))))))))))⟩)
theorem rm_gx9 {post : Int32 → Prop} {j : Nat} (hm : m ≤ 8) (hj : j < m) (hP : 0 < P j) (h : post (en j)) : wpX_getTask post ((nI m), (nI lc), fn, fs, ti, ru, un, ic, pr, P, D, C, B, O, M, bo, bt, rl, en, ov, mi, wo, la, re, rt, mk, lg) (nI j) (nI 9) := by
  have cj : (nI j).toNatClampNeg = j := nI_clamp (by omega)
  have ij : vp_in (nI j) 8 := vp_in_nI (by omega) (by omega)
  unfold wpX_getTask
  dsimp only
  exact rm_xu_t hm hj hP (br_f (by decide) (br_f (by decide) (br_f (by decide) (br_f (by decide) (br_f (by decide) (br_f (by decide) (br_f (by decide) (br_f (by decide) (br_f (by decide) (br_f (by decide) (br_f (by decide) (br_f (by decide) (br_t rfl ⟨ij, by rw [cj]; exact h⟩)))))))))))))
theorem rm_gy9 (hA : rm_A m P Q U D C B M) {post : Int32 → Prop} {j : Nat} (hm : m ≤ 8) (hj : j < m) (hu : 0 < rm_n P j) (h : post (en j)) : wpY_getTask post ((nI m), (nI lc), fs, ti, ru, fj, ic, pr, fn, U, Q, D, C, B, O, M, rl, en, ov, mi, wo, la, re, rt, mk, lg) (nI j) (nI 9) := by
  have cj : (nI j).toNatClampNeg = j := nI_clamp (by omega)
  have ij : vp_in (nI j) 8 := vp_in_nI (by omega) (by omega)
  have hU : ¬ U (nI j).toNatClampNeg = 0 := by
    rw [cj, (rm_A_used hA hu).1]
    decide
  unfold wpY_getTask
  dsimp only
  exact br_f (nI_pos (by omega)) (br_f (nI_ge hj (by omega)) ⟨ij, br_f hU (br_f (by decide) (br_t (by decide) (br_f (by decide) (br_f (by decide) (br_f (by decide) (br_f (by decide) (br_f (by decide) (br_f (by decide) (br_f (by decide) (br_f (by decide) (br_f (by decide) (br_f (by decide) (br_f (by decide) (br_t rfl ⟨ij, by rw [cj]; exact h⟩))))))))))))))⟩)
theorem rm_gx10 {post : Int32 → Prop} {j : Nat} (hm : m ≤ 8) (hj : j < m) (hP : 0 < P j) (h : post (ov j)) : wpX_getTask post ((nI m), (nI lc), fn, fs, ti, ru, un, ic, pr, P, D, C, B, O, M, bo, bt, rl, en, ov, mi, wo, la, re, rt, mk, lg) (nI j) (nI 10) := by
  have cj : (nI j).toNatClampNeg = j := nI_clamp (by omega)
  have ij : vp_in (nI j) 8 := vp_in_nI (by omega) (by omega)
  unfold wpX_getTask
  dsimp only
  exact rm_xu_t hm hj hP (br_f (by decide) (br_f (by decide) (br_f (by decide) (br_f (by decide) (br_f (by decide) (br_f (by decide) (br_f (by decide) (br_f (by decide) (br_f (by decide) (br_f (by decide) (br_f (by decide) (br_f (by decide) (br_f (by decide) (br_t rfl ⟨ij, by rw [cj]; exact h⟩))))))))))))))
theorem rm_gy10 (hA : rm_A m P Q U D C B M) {post : Int32 → Prop} {j : Nat} (hm : m ≤ 8) (hj : j < m) (hu : 0 < rm_n P j) (h : post (ov j)) : wpY_getTask post ((nI m), (nI lc), fs, ti, ru, fj, ic, pr, fn, U, Q, D, C, B, O, M, rl, en, ov, mi, wo, la, re, rt, mk, lg) (nI j) (nI 10) := by
  have cj : (nI j).toNatClampNeg = j := nI_clamp (by omega)
  have ij : vp_in (nI j) 8 := vp_in_nI (by omega) (by omega)
  have hU : ¬ U (nI j).toNatClampNeg = 0 := by
    rw [cj, (rm_A_used hA hu).1]
    decide
  unfold wpY_getTask
  dsimp only
  exact br_f (nI_pos (by omega)) (br_f (nI_ge hj (by omega)) ⟨ij, br_f hU (br_f (by decide) (br_t (by decide) (br_f (by decide) (br_f (by decide) (br_f (by decide) (br_f (by decide) (br_f (by decide) (br_f (by decide) (br_f (by decide) (br_f (by decide) (br_f (by decide) (br_f (by decide) (br_f (by decide) (br_f (by decide) (br_t rfl ⟨ij, by rw [cj]; exact h⟩)))))))))))))))⟩)
theorem rm_gx11 {post : Int32 → Prop} {j : Nat} (hm : m ≤ 8) (hj : j < m) (hP : 0 < P j) (h : post (mi j)) : wpX_getTask post ((nI m), (nI lc), fn, fs, ti, ru, un, ic, pr, P, D, C, B, O, M, bo, bt, rl, en, ov, mi, wo, la, re, rt, mk, lg) (nI j) (nI 11) := by
  have cj : (nI j).toNatClampNeg = j := nI_clamp (by omega)
  have ij : vp_in (nI j) 8 := vp_in_nI (by omega) (by omega)
  unfold wpX_getTask
  dsimp only
  exact rm_xu_t hm hj hP (br_f (by decide) (br_f (by decide) (br_f (by decide) (br_f (by decide) (br_f (by decide) (br_f (by decide) (br_f (by decide) (br_f (by decide) (br_f (by decide) (br_f (by decide) (br_f (by decide) (br_f (by decide) (br_f (by decide) (br_f (by decide) (br_t rfl ⟨ij, by rw [cj]; exact h⟩)))))))))))))))
theorem rm_gy11 (hA : rm_A m P Q U D C B M) {post : Int32 → Prop} {j : Nat} (hm : m ≤ 8) (hj : j < m) (hu : 0 < rm_n P j) (h : post (mi j)) : wpY_getTask post ((nI m), (nI lc), fs, ti, ru, fj, ic, pr, fn, U, Q, D, C, B, O, M, rl, en, ov, mi, wo, la, re, rt, mk, lg) (nI j) (nI 11) := by
  have cj : (nI j).toNatClampNeg = j := nI_clamp (by omega)
  have ij : vp_in (nI j) 8 := vp_in_nI (by omega) (by omega)
  have hU : ¬ U (nI j).toNatClampNeg = 0 := by
    rw [cj, (rm_A_used hA hu).1]
    decide
  unfold wpY_getTask
  dsimp only
  exact br_f (nI_pos (by omega)) (br_f (nI_ge hj (by omega)) ⟨ij, br_f hU (br_f (by decide) (br_t (by decide) (br_f (by decide) (br_f (by decide) (br_f (by decide) (br_f (by decide) (br_f (by decide) (br_f (by decide) (br_f (by decide) (br_f (by decide) (br_f (by decide) (br_f (by decide) (br_f (by decide) (br_f (by decide) (br_f (by decide) (br_t rfl ⟨ij, by rw [cj]; exact h⟩))))))))))))))))⟩)
theorem rm_gx12 {post : Int32 → Prop} {j : Nat} (hm : m ≤ 8) (hj : j < m) (hP : 0 < P j) (h : post (wo j)) : wpX_getTask post ((nI m), (nI lc), fn, fs, ti, ru, un, ic, pr, P, D, C, B, O, M, bo, bt, rl, en, ov, mi, wo, la, re, rt, mk, lg) (nI j) (nI 12) := by
  have cj : (nI j).toNatClampNeg = j := nI_clamp (by omega)
  have ij : vp_in (nI j) 8 := vp_in_nI (by omega) (by omega)
  unfold wpX_getTask
  dsimp only
  exact rm_xu_t hm hj hP (br_f (by decide) (br_f (by decide) (br_f (by decide) (br_f (by decide) (br_f (by decide) (br_f (by decide) (br_f (by decide) (br_f (by decide) (br_f (by decide) (br_f (by decide) (br_f (by decide) (br_f (by decide) (br_f (by decide) (br_f (by decide) (br_f (by decide) (br_t rfl ⟨ij, by rw [cj]; exact h⟩))))))))))))))))
theorem rm_gy12 (hA : rm_A m P Q U D C B M) {post : Int32 → Prop} {j : Nat} (hm : m ≤ 8) (hj : j < m) (hu : 0 < rm_n P j) (h : post (wo j)) : wpY_getTask post ((nI m), (nI lc), fs, ti, ru, fj, ic, pr, fn, U, Q, D, C, B, O, M, rl, en, ov, mi, wo, la, re, rt, mk, lg) (nI j) (nI 12) := by
  have cj : (nI j).toNatClampNeg = j := nI_clamp (by omega)
  have ij : vp_in (nI j) 8 := vp_in_nI (by omega) (by omega)
  have hU : ¬ U (nI j).toNatClampNeg = 0 := by
    rw [cj, (rm_A_used hA hu).1]
    decide
  unfold wpY_getTask
  dsimp only
  exact br_f (nI_pos (by omega)) (br_f (nI_ge hj (by omega)) ⟨ij, br_f hU (br_f (by decide) (br_t (by decide) (br_f (by decide) (br_f (by decide) (br_f (by decide) (br_f (by decide) (br_f (by decide) (br_f (by decide) (br_f (by decide) (br_f (by decide) (br_f (by decide) (br_f (by decide) (br_f (by decide) (br_f (by decide) (br_f (by decide) (br_f (by decide) (br_t rfl ⟨ij, by rw [cj]; exact h⟩)))))))))))))))))⟩)
theorem rm_gx13 {post : Int32 → Prop} {j : Nat} (hm : m ≤ 8) (hj : j < m) (hP : 0 < P j) (h : post (la j)) : wpX_getTask post ((nI m), (nI lc), fn, fs, ti, ru, un, ic, pr, P, D, C, B, O, M, bo, bt, rl, en, ov, mi, wo, la, re, rt, mk, lg) (nI j) (nI 13) := by
  have cj : (nI j).toNatClampNeg = j := nI_clamp (by omega)
  have ij : vp_in (nI j) 8 := vp_in_nI (by omega) (by omega)
  unfold wpX_getTask
  dsimp only
  exact rm_xu_t hm hj hP (br_f (by decide) (br_f (by decide) (br_f (by decide) (br_f (by decide) (br_f (by decide) (br_f (by decide) (br_f (by decide) (br_f (by decide) (br_f (by decide) (br_f (by decide) (br_f (by decide) (br_f (by decide) (br_f (by decide) (br_f (by decide) (br_f (by decide) (br_f (by decide) (br_t rfl ⟨ij, by rw [cj]; exact h⟩)))))))))))))))))
theorem rm_gy13 (hA : rm_A m P Q U D C B M) {post : Int32 → Prop} {j : Nat} (hm : m ≤ 8) (hj : j < m) (hu : 0 < rm_n P j) (h : post (la j)) : wpY_getTask post ((nI m), (nI lc), fs, ti, ru, fj, ic, pr, fn, U, Q, D, C, B, O, M, rl, en, ov, mi, wo, la, re, rt, mk, lg) (nI j) (nI 13) := by
  have cj : (nI j).toNatClampNeg = j := nI_clamp (by omega)
  have ij : vp_in (nI j) 8 := vp_in_nI (by omega) (by omega)
  have hU : ¬ U (nI j).toNatClampNeg = 0 := by
    rw [cj, (rm_A_used hA hu).1]
    decide
  unfold wpY_getTask
  dsimp only
  exact br_f (nI_pos (by omega)) (br_f (nI_ge hj (by omega)) ⟨ij, br_f hU (br_f (by decide) (br_t (by decide) (br_f (by decide) (br_f (by decide) (br_f (by decide) (br_f (by decide) (br_f (by decide) (br_f (by decide) (br_f (by decide) (br_f (by decide) (br_f (by decide) (br_f (by decide) (br_f (by decide) (br_f (by decide) (br_f (by decide) (br_f (by decide) (br_f (by decide) (br_t rfl ⟨ij, by rw [cj]; exact h⟩))))))))))))))))))⟩)
theorem rm_gx14 {post : Int32 → Prop} {j : Nat} (hm : m ≤ 8) (hj : j < m) (hP : 0 < P j) (h : post (re j)) : wpX_getTask post ((nI m), (nI lc), fn, fs, ti, ru, un, ic, pr, P, D, C, B, O, M, bo, bt, rl, en, ov, mi, wo, la, re, rt, mk, lg) (nI j) (nI 14) := by
  have cj : (nI j).toNatClampNeg = j := nI_clamp (by omega)
  have ij : vp_in (nI j) 8 := vp_in_nI (by omega) (by omega)
  unfold wpX_getTask
  dsimp only
  exact rm_xu_t hm hj hP (br_f (by decide) (br_f (by decide) (br_f (by decide) (br_f (by decide) (br_f (by decide) (br_f (by decide) (br_f (by decide) (br_f (by decide) (br_f (by decide) (br_f (by decide) (br_f (by decide) (br_f (by decide) (br_f (by decide) (br_f (by decide) (br_f (by decide) (br_f (by decide) (br_f (by decide) (br_t rfl ⟨ij, by rw [cj]; exact h⟩))))))))))))))))))
theorem rm_gy14 (hA : rm_A m P Q U D C B M) {post : Int32 → Prop} {j : Nat} (hm : m ≤ 8) (hj : j < m) (hu : 0 < rm_n P j) (h : post (re j)) : wpY_getTask post ((nI m), (nI lc), fs, ti, ru, fj, ic, pr, fn, U, Q, D, C, B, O, M, rl, en, ov, mi, wo, la, re, rt, mk, lg) (nI j) (nI 14) := by
  have cj : (nI j).toNatClampNeg = j := nI_clamp (by omega)
  have ij : vp_in (nI j) 8 := vp_in_nI (by omega) (by omega)
  have hU : ¬ U (nI j).toNatClampNeg = 0 := by
    rw [cj, (rm_A_used hA hu).1]
    decide
  unfold wpY_getTask
  dsimp only
  exact br_f (nI_pos (by omega)) (br_f (nI_ge hj (by omega)) ⟨ij, br_f hU (br_f (by decide) (br_t (by decide) (br_f (by decide) (br_t (by decide) ⟨ij, by rw [cj]; exact h⟩))))⟩)
end
end
section
/-! what is owed, over rm_Rel -/
theorem rm_clamp (x : Int32) {lo hi : Nat} (h : lo ≤ hi) (hh : hi < 2 ^ 31) : ∃ m, lo ≤ m ∧ m ≤ hi ∧ ∀ A : Int32 → Prop, A (nI m) → (nI lo ≤ x → (x ≤ nI hi → A x) ∧ (¬ x ≤ nI hi → A (nI hi))) ∧ (¬ nI lo ≤ x → A (nI lo)) := by
  by_cases h1 : nI lo ≤ x
  · by_cases h2 : x ≤ nI hi
    · have hx : ¬ x < 0 := fun z => nI_pos (n := lo) (by omega) (Int32.lt_of_le_of_lt h1 z)
      obtain ⟨j, hj, rfl⟩ := nI_of hx
      rw [nI_leI (by omega) (by omega)] at h1 h2
      exact ⟨j, h1, h2, fun A a => br_t (nI_le h1 (by omega)) (br_t (nI_le h2 (by omega)) a)⟩
    · exact ⟨hi, h, Nat.le_refl _, fun A a => br_t h1 (br_f h2 a)⟩
  · exact ⟨lo, Nat.le_refl _, h, fun A a => br_f h1 a⟩
theorem rm_A_0 (m : Nat) : rm_A m (fun _ => 0) (fun _ => 0) (fun _ => 0) (fun _ => 0) (fun _ => 0) (fun _ => 0) (fun _ => 0) :=
  ⟨fun _ => Or.inl ⟨rfl, rfl⟩, rm_bd_0, rm_bd_0, rm_bd_0, rm_bd_0⟩
theorem rm_St_0 : rm_St (fun _ => 0) (fun _ => 0) (fun _ => 0) (fun _ => 0) (fun _ => 0) (fun _ => 0) := fun i hi => by
  have e : rm_n (fun _ => 0) i = 0 := rm_n_e (a := fun _ => 0) nI_0.symm (by omega)
  omega
theorem rm_vc0 (k0 k1 : Int32) : wpX_init (fun u => wpY_init (fun v => rm_Rel u v) k0 k1) k0 k1 := by
  obtain ⟨m, hm1, hm2, HM⟩ := rm_clamp k0 (lo := 1) (hi := 8) (by omega) (by omega)
  obtain ⟨lc, hl1, hl2, HL⟩ := rm_clamp k1 (lo := 8) (hi := 32) (by omega) (by omega)
  have HX : ∀ post : Int32 → Prop, post (nI m) → wpX_clamp post k0 1 8 := fun post h => HM post h
  have HX2 : ∀ post : Int32 → Prop, post (nI lc) → wpX_clamp post k1 8 32 := fun post h => HL post h
  unfold wpX_init
  refine HX _ ?_
  refine HX2 _ ?_
  unfold wpY_init
  refine HM (fun z => wY_init_162 _ k1 z _ _ _ _ _ _ _ _ _ _ _ _ _ _ _ _ _ _ _ _ _ _ _ _ _ _) ?_
  unfold wY_init_162
  refine HL (fun z => wY_init_189 _ z _ _ _ _ _ _ _ _ _ _ _ _ _ _ _ _ _ _ _ _ _ _ _ _ _ _) ?_
  unfold wY_init_189
  exact ⟨m, lc, 0, 0, 0, -1, -1, -1, 0, 0, (fun _ => 0), (fun _ => 0), (fun _ => 0), (fun _ => 0), (fun _ => 0), (fun _ => 0), (fun _ => 0), (fun _ => 0), (fun _ => 0), (fun _ => 0), (fun _ => 0), (fun _ => 0), (fun _ => 0), (fun _ => 0), (fun _ => 0), (fun _ => 0), (fun _ => 0), (fun _ => 0), (fun _ => 0), (fun _ => 0), rfl, rfl, ⟨hm1, hm2, hl1, hl2, Nat.zero_le _⟩, Or.inl rfl, rm_A_0 m, rm_St_0, rm_R_0, Or.inl ⟨rfl, rfl⟩, fun _ => ⟨rfl, rfl, rfl, rfl, rfl, rfl, rfl, rfl, rfl, rfl, rfl⟩⟩
theorem rm_vc_start {u : SX} {v : SY} (I : rm_Rel u v) : wpX_start (fun r u' => wpY_start (fun r' v' => r' = r ∧ rm_Rel u' v') v) u := by
  have I0 := I
  obtain ⟨m, lc, n, fs, ti, ru, un, fj, ic, pr, P, Q, U, D, C, B, O, M, bo, bt, rl, en, ov, mi, wo, la, re, rt, mk, lg, rfl, rfl, hN, hfs, hA, hSt, hR, hJ, hZ⟩ := I
  unfold wpX_start wpY_start
  dsimp only
  rcases hfs with rfl | rfl
  · have hti := (hZ rfl).1
    subst hti
    exact br_t rfl (br_t rfl ⟨rfl, m, lc, n, 1, 0, ru, un, fj, ic, pr, P, Q, U, D, C, B, O, M, bo, bt, rl, en, ov, mi, wo, la, re, rt, mk, lg, rfl, rfl, hN, Or.inr rfl, hA, hSt, hR, hJ, fun z => absurd z (by decide)⟩)
  · exact br_f (by decide) (br_f (by decide) ⟨rfl, I0⟩)
theorem rm_vc_run {u : SX} {v : SY} (I : rm_Rel u v) (v1 : Int32) : wpX_run (fun r u' => wpY_run (fun r' v' => r' = r ∧ rm_Rel u' v') v v1) u v1 := by
  have I0 := I
  obtain ⟨m, lc, n, fs, ti, ru, un, fj, ic, pr, P, Q, U, D, C, B, O, M, bo, bt, rl, en, ov, mi, wo, la, re, rt, mk, lg, rfl, rfl, hN, hfs, hA, hSt, hR, hJ, hZ⟩ := I
  rcases hfs with rfl | rfl
  · unfold wpX_run wpY_run
    dsimp only
    exact br_t rfl (br_t rfl ⟨rfl, I0⟩)
  · obtain ⟨N, hN1, hN2, HN⟩ := rm_clamp v1 (lo := 0) (hi := 1000) (by omega) (by omega)
    obtain ⟨r, u2, v2, I2, kX, kY⟩ := rm_run (N := N) (by omega) N 0 _ _ (by omega) I0 rfl
    have HC : ∀ post : Int32 → Prop, post (nI N) → wpX_clamp post v1 0 1000 := fun post h => HN post h
    have HX : ∀ post : Int32 → SX → Prop, post r u2 → wpX_run post ((nI m), (nI lc), nI n, 1, ti, ru, un, ic, pr, P, D, C, B, O, M, bo, bt, rl, en, ov, mi, wo, la, re, rt, mk, lg) v1 := fun post hp => by
      have h := kX post (N + 1) (by omega) hp
      unfold rm_XR at h
      dsimp only at h
      rw [nI_0] at h
      unfold wpX_run
      dsimp only
      exact br_f (by decide) (HC _ ⟨N + 1, h⟩)
    have HY : ∀ post : Int32 → SY → Prop, post r v2 → wpY_run post ((nI m), (nI lc), 1, ti, ru, fj, ic, pr, nI n, U, Q, D, C, B, O, M, rl, en, ov, mi, wo, la, re, rt, mk, lg) v1 := fun post hp => by
      have h := kY post (N + 1) (by omega) hp
      unfold rm_YR at h
      dsimp only at h
      rw [nI_0] at h
      unfold wpY_run
      dsimp only
      exact br_f (by decide) (HN (fun z => ∃ k, wY_run_34 post z k 0 (nI m) (nI lc) 1 ti ru fj ic pr (nI n) U Q D C B O M rl en ov mi wo la re rt mk lg) ⟨N + 1, h⟩)
    exact HX _ (HY _ ⟨rfl, I2⟩)
theorem rm_vc_isStarted {u : SX} {v : SY} (I : rm_Rel u v) : wpX_isStarted (fun r => wpY_isStarted (fun r' => r' = r ∧ rm_Rel u v) v) u := by
  have I0 := I
  obtain ⟨m, lc, n, fs, ti, ru, un, fj, ic, pr, P, Q, U, D, C, B, O, M, bo, bt, rl, en, ov, mi, wo, la, re, rt, mk, lg, rfl, rfl, hN, hfs, hA, hSt, hR, hJ, hZ⟩ := I
  unfold wpX_isStarted wpY_isStarted
  dsimp only
  have hb : narrow .boolean (.int fs) = .int fs := by rcases hfs with rfl | rfl <;> rfl
  exact ⟨hb, hb, rfl, I0⟩
theorem rm_vc_getTaskCount {u : SX} {v : SY} (I : rm_Rel u v) : wpX_getTaskCount (fun r => wpY_getTaskCount (fun r' => r' = r ∧ rm_Rel u v) v) u := by
  have I0 := I
  obtain ⟨m, lc, n, fs, ti, ru, un, fj, ic, pr, P, Q, U, D, C, B, O, M, bo, bt, rl, en, ov, mi, wo, la, re, rt, mk, lg, rfl, rfl, hN, hfs, hA, hSt, hR, hJ, hZ⟩ := I
  exact rm_xc hA hN.2.1 (rm_yc hA ⟨rfl, I0⟩)
theorem rm_vc_getLogEntry {u : SX} {v : SY} (I : rm_Rel u v) (v1 : Int32) : wpX_getLogEntry (fun r => wpY_getLogEntry (fun r' => r' = r ∧ rm_Rel u v) v v1) u v1 := by
  have I0 := I
  obtain ⟨m, lc, n, fs, ti, ru, un, fj, ic, pr, P, Q, U, D, C, B, O, M, bo, bt, rl, en, ov, mi, wo, la, re, rt, mk, lg, rfl, rfl, hN, hfs, hA, hSt, hR, hJ, hZ⟩ := I
  have hN4 := hN.2.2.2.1
  have hN5 := hN.2.2.2.2
  unfold wpX_getLogEntry wpY_getLogEntry
  dsimp only
  by_cases h0 : v1 < 0
  · exact br_t h0 (br_t h0 ⟨rfl, I0⟩)
  · refine br_f h0 ?_
    obtain ⟨j, hj, rfl⟩ := nI_of h0
    by_cases h1 : j < n
    · have i32 : vp_in (nI j) 32 := vp_in_nI (by omega) (by omega)
      exact br_t (nI_lt h1 (by omega)) ⟨i32, br_f h0 (br_f (nI_ge h1 (by omega)) (br_t (nI_lt (b := 32) (by omega) (by omega)) ⟨i32, rfl, I0⟩))⟩
    · exact br_f (nI_nlt (by omega) (by omega)) (br_f h0 (br_t (nI_le (by omega) (by omega)) ⟨rfl, I0⟩))
theorem rm_vc_getTime {u : SX} {v : SY} (I : rm_Rel u v) : wpX_getTime (fun r => wpY_getTime (fun r' => r' = r ∧ rm_Rel u v) v) u := by
  have I0 := I
  obtain ⟨m, lc, n, fs, ti, ru, un, fj, ic, pr, P, Q, U, D, C, B, O, M, bo, bt, rl, en, ov, mi, wo, la, re, rt, mk, lg, rfl, rfl, hN, hfs, hA, hSt, hR, hJ, hZ⟩ := I
  exact ⟨rfl, I0⟩
theorem rm_vc_getRunning {u : SX} {v : SY} (I : rm_Rel u v) : wpX_getRunning (fun r => wpY_getRunning (fun r' => r' = r ∧ rm_Rel u v) v) u := by
  have I0 := I
  obtain ⟨m, lc, n, fs, ti, ru, un, fj, ic, pr, P, Q, U, D, C, B, O, M, bo, bt, rl, en, ov, mi, wo, la, re, rt, mk, lg, rfl, rfl, hN, hfs, hA, hSt, hR, hJ, hZ⟩ := I
  exact ⟨rfl, I0⟩
theorem rm_vc_getIdleTicks {u : SX} {v : SY} (I : rm_Rel u v) : wpX_getIdleTicks (fun r => wpY_getIdleTicks (fun r' => r' = r ∧ rm_Rel u v) v) u := by
  have I0 := I
  obtain ⟨m, lc, n, fs, ti, ru, un, fj, ic, pr, P, Q, U, D, C, B, O, M, bo, bt, rl, en, ov, mi, wo, la, re, rt, mk, lg, rfl, rfl, hN, hfs, hA, hSt, hR, hJ, hZ⟩ := I
  exact ⟨rfl, I0⟩
theorem rm_vc_getPreemptions {u : SX} {v : SY} (I : rm_Rel u v) : wpX_getPreemptions (fun r => wpY_getPreemptions (fun r' => r' = r ∧ rm_Rel u v) v) u := by
  have I0 := I
  obtain ⟨m, lc, n, fs, ti, ru, un, fj, ic, pr, P, Q, U, D, C, B, O, M, bo, bt, rl, en, ov, mi, wo, la, re, rt, mk, lg, rfl, rfl, hN, hfs, hA, hSt, hR, hJ, hZ⟩ := I
  exact ⟨rfl, I0⟩
theorem rm_vc_getLogCount {u : SX} {v : SY} (I : rm_Rel u v) : wpX_getLogCount (fun r => wpY_getLogCount (fun r' => r' = r ∧ rm_Rel u v) v) u := by
  have I0 := I
  obtain ⟨m, lc, n, fs, ti, ru, un, fj, ic, pr, P, Q, U, D, C, B, O, M, bo, bt, rl, en, ov, mi, wo, la, re, rt, mk, lg, rfl, rfl, hN, hfs, hA, hSt, hR, hJ, hZ⟩ := I
  exact ⟨rfl, I0⟩
end
section
/-! setOffset, setDemand, remove, getTask -/
theorem rm_vc_setOffset {u : SX} {v : SY} (I : rm_Rel u v) (v1 v2 : Int32) : wpX_setOffset (fun r u' => wpY_setOffset (fun r' v' => r' = r ∧ rm_Rel u' v') v v1 v2) u v1 v2 := by
  have I0 := I
  obtain ⟨m, lc, n, fs, ti, ru, un, fj, ic, pr, P, Q, U, D, C, B, O, M, bo, bt, rl, en, ov, mi, wo, la, re, rt, mk, lg, rfl, rfl, hN, hfs, hA, hSt, hR, hJ, hZ⟩ := I
  have hm : m ≤ 8 := hN.2.1
  unfold wpX_setOffset wpY_setOffset
  dsimp only
  rcases hfs with rfl | rfl
  · refine br_t rfl ?_
    by_cases h0 : v1 < 0
    · exact rm_xu_lo h0 (br_t rfl (br_t rfl (br_t h0 ⟨rfl, I0⟩)))
    · rcases pk_ix v1 (n := m) (by omega) with h | h | ⟨j, hj, rfl⟩
      · exact absurd h h0
      · exact rm_xu_hi h0 h (br_t rfl (br_t rfl (br_f h0 (br_t h ⟨rfl, I0⟩))))
      · have cj : (nI j).toNatClampNeg = j := nI_clamp (by omega)
        have ij : vp_in (nI j) 8 := vp_in_nI (by omega) (by omega)
        have hge : ¬ nI m ≤ nI j := nI_ge hj (by omega)
        have hU : U (nI j).toNatClampNeg = 0 ↔ rm_n P j = 0 := by
          rw [cj]
          exact rm_A_U0 hA j
        refine rm_xu hA hm hj (fun hu => br_f (by decide) (rm_xw (fun hw => br_f (by decide) ⟨ij, nm_r (e' := upd O j v2) (by rw [cj]) ?_⟩) (fun hw => br_t rfl ?_))) (fun hu => br_t rfl (br_t rfl (br_f h0 (br_f hge ⟨ij, br_t (hU.mpr hu) ⟨rfl, I0⟩⟩))))
        · exact br_t rfl (br_f h0 (br_f hge ⟨ij, br_f (fun z => by have := hU.mp z; omega) (br_f (Int32.not_lt.mpr hw.1) (br_t hw.2 ⟨ij, nm_r (e' := upd O j v2) (by rw [cj]) ⟨rfl, m, lc, n, 0, ti, ru, un, fj, ic, pr, P, Q, U, D, C, B, (upd O j v2), M, bo, bt, rl, en, ov, mi, wo, la, re, rt, mk, lg, rfl, rfl, hN, Or.inl rfl, hA, hSt, hR, hJ, hZ⟩⟩))⟩))
        · exact br_t rfl (br_f h0 (br_f hge ⟨ij, br_f (fun z => by have := hU.mp z; omega) (br_c (fun _ => ⟨rfl, I0⟩) (fun z => br_c (fun y => absurd ⟨Int32.not_lt.mp z, y⟩ hw) (fun _ => ⟨rfl, I0⟩)))⟩))
  · exact br_f (by decide) (br_f (by decide) ⟨rfl, I0⟩)
theorem rm_vc_setDemand {u : SX} {v : SY} (I : rm_Rel u v) (v1 v2 : Int32) : wpX_setDemand (fun r u' => wpY_setDemand (fun r' v' => r' = r ∧ rm_Rel u' v') v v1 v2) u v1 v2 := by
  have I0 := I
  obtain ⟨m, lc, n, fs, ti, ru, un, fj, ic, pr, P, Q, U, D, C, B, O, M, bo, bt, rl, en, ov, mi, wo, la, re, rt, mk, lg, rfl, rfl, hN, hfs, hA, hSt, hR, hJ, hZ⟩ := I
  have hm : m ≤ 8 := hN.2.1
  unfold wpX_setDemand wpY_setDemand
  dsimp only
  by_cases h0 : v1 < 0
  · exact rm_xu_lo h0 (br_t rfl (br_t h0 ⟨rfl, I0⟩))
  · rcases pk_ix v1 (n := m) (by omega) with h | h | ⟨j, hj, rfl⟩
    · exact absurd h h0
    · exact rm_xu_hi h0 h (br_t rfl (br_f h0 (br_t h ⟨rfl, I0⟩)))
    · have cj : (nI j).toNatClampNeg = j := nI_clamp (by omega)
      have ij : vp_in (nI j) 8 := vp_in_nI (by omega) (by omega)
      have hge : ¬ nI m ≤ nI j := nI_ge hj (by omega)
      have hU : U (nI j).toNatClampNeg = 0 ↔ rm_n P j = 0 := by
        rw [cj]
        exact rm_A_U0 hA j
      refine rm_xu hA hm hj (fun hu => br_f (by decide) (rm_xw (fun hw => br_f (by decide) ⟨ij, nm_r (e' := upd M j v2) (by rw [cj]) ?_⟩) (fun hw => br_t rfl ?_))) (fun hu => br_t rfl (br_f h0 (br_f hge ⟨ij, br_t (hU.mpr hu) ⟨rfl, I0⟩⟩)))
      · have hpos : 0 < v2 := Int32.lt_of_lt_of_le (by decide) hw.1
        exact br_f h0 (br_f hge ⟨ij, br_f (fun z => by have := hU.mp z; omega) (br_f (Int32.not_lt.mpr hw.1) (br_t hw.2 ⟨ij, nm_r (e' := upd M j v2) (by rw [cj]) ⟨rfl, m, lc, n, fs, ti, ru, un, fj, ic, pr, P, Q, U, D, C, B, O, (upd M j v2), bo, bt, rl, en, ov, mi, wo, la, re, rt, mk, lg, rfl, rfl, hN, hfs, rm_A_dem hA hpos, hSt, hR, hJ, hZ⟩⟩))⟩)
      · exact br_f h0 (br_f hge ⟨ij, br_f (fun z => by have := hU.mp z; omega) (br_c (fun _ => ⟨rfl, I0⟩) (fun z => br_c (fun y => absurd ⟨Int32.not_lt.mp z, y⟩ hw) (fun _ => ⟨rfl, I0⟩)))⟩)
theorem rm_vc_remove {u : SX} {v : SY} (I : rm_Rel u v) (v1 : Int32) : wpX_remove (fun r u' => wpY_remove (fun r' v' => r' = r ∧ rm_Rel u' v') v v1) u v1 := by
  have I0 := I
  obtain ⟨m, lc, n, fs, ti, ru, un, fj, ic, pr, P, Q, U, D, C, B, O, M, bo, bt, rl, en, ov, mi, wo, la, re, rt, mk, lg, rfl, rfl, hN, hfs, hA, hSt, hR, hJ, hZ⟩ := I
  have hm : m ≤ 8 := hN.2.1
  unfold wpX_remove wpY_remove
  dsimp only
  rcases hfs with rfl | rfl
  · refine br_t rfl ?_
    by_cases h0 : v1 < 0
    · exact rm_xu_lo h0 (br_t rfl (br_t rfl (br_t h0 ⟨rfl, I0⟩)))
    · rcases pk_ix v1 (n := m) (by omega) with h | h | ⟨j, hj, rfl⟩
      · exact absurd h h0
      · exact rm_xu_hi h0 h (br_t rfl (br_t rfl (br_f h0 (br_t h ⟨rfl, I0⟩))))
      · have cj : (nI j).toNatClampNeg = j := nI_clamp (by omega)
        have ij : vp_in (nI j) 8 := vp_in_nI (by omega) (by omega)
        have hge : ¬ nI m ≤ nI j := nI_ge hj (by omega)
        have hU : U (nI j).toNatClampNeg = 0 ↔ rm_n P j = 0 := by
          rw [cj]
          exact rm_A_U0 hA j
        refine rm_xu hA hm hj (fun hu => br_f (by decide) (rm_xvac (by omega) ?_)) (fun hu => br_t rfl (br_t rfl (br_f h0 (br_f hge ⟨ij, br_t (hU.mpr hu) ⟨rfl, I0⟩⟩))))
        have hA2 : rm_A m (upd P j 0) Q (upd U j 0) D C B M := rm_A_out hA
        refine rm_xR hA2 hm (rm_L_out hA hSt) (fun bo bt hSt2 => ?_)
        have hre : re = fun _ => 0 := (hZ rfl).2.2.2.2.2.2.2.2.1
        exact br_t rfl (br_f h0 (br_f hge ⟨ij, br_f (fun z => by have := hU.mp z; omega) ⟨ij, nm_r (e' := upd U j 0) (by rw [cj]; rfl) ⟨rfl, m, lc, n, 0, ti, ru, un, fj, ic, pr, (upd P j 0), Q, (upd U j 0), D, C, B, O, M, bo, bt, rl, en, ov, mi, wo, la, re, rt, mk, lg, rfl, rfl, hN, Or.inl rfl, hA2, hSt2, by rw [hre]; exact rm_R_0, hJ, hZ⟩⟩⟩))
  · exact br_f (by decide) (br_f (by decide) ⟨rfl, I0⟩)
theorem rm_15 {A : Nat → Prop} {j : Nat} (hj : j < 15) (h0 : A 0) (h1 : A 1) (h2 : A 2) (h3 : A 3) (h4 : A 4) (h5 : A 5) (h6 : A 6) (h7 : A 7) (h8 : A 8) (h9 : A 9) (h10 : A 10) (h11 : A 11) (h12 : A 12) (h13 : A 13) (h14 : A 14) : A j :=
  match j, hj with
  | 0, _ => h0
  | 1, _ => h1
  | 2, _ => h2
  | 3, _ => h3
  | 4, _ => h4
  | 5, _ => h5
  | 6, _ => h6
  | 7, _ => h7
  | 8, _ => h8
  | 9, _ => h9
  | 10, _ => h10
  | 11, _ => h11
  | 12, _ => h12
  | 13, _ => h13
  | 14, _ => h14
theorem rm_vc_getTask {u : SX} {v : SY} (I : rm_Rel u v) (v1 v2 : Int32) : wpX_getTask (fun r => wpY_getTask (fun r' => r' = r ∧ rm_Rel u v) v v1 v2) u v1 v2 := by
  have I0 := I
  obtain ⟨m, lc, n, fs, ti, ru, un, fj, ic, pr, P, Q, U, D, C, B, O, M, bo, bt, rl, en, ov, mi, wo, la, re, rt, mk, lg, rfl, rfl, hN, hfs, hA, hSt, hR, hJ, hZ⟩ := I
  have hm : m ≤ 8 := hN.2.1
  by_cases h0 : v1 < 0
  · unfold wpX_getTask wpY_getTask
    dsimp only
    exact rm_xu_lo h0 (br_t rfl (br_t h0 ⟨rfl, I0⟩))
  · rcases pk_ix v1 (n := m) (by omega) with h | h | ⟨j, hj, rfl⟩
    · exact absurd h h0
    · unfold wpX_getTask wpY_getTask
      dsimp only
      exact rm_xu_hi h0 h (br_t rfl (br_f h0 (br_t h ⟨rfl, I0⟩)))
    · have cj : (nI j).toNatClampNeg = j := nI_clamp (by omega)
      have ij : vp_in (nI j) 8 := vp_in_nI (by omega) (by omega)
      have hge : ¬ nI m ≤ nI j := nI_ge hj (by omega)
      have hU : U (nI j).toNatClampNeg = 0 ↔ rm_n P j = 0 := by
        rw [cj]
        exact rm_A_U0 hA j
      by_cases hu : 0 < rm_n P j
      · have hP : 0 < P j := (rm_A_Ppos hA j).mpr hu
        have hq : P j = Q j := (rm_A_used hA hu).2.1
        obtain ⟨s1, s2, s3⟩ := hSt j hu
        have hB : rm_yl (rm_L (rm_n P) (rm_n D) (rm_n C) (rm_n B) j) = bo j := by
          rw [s2]
          exact if_neg s3
        have hT : nI (rm_T (rm_n P) (rm_n B) j 8) = bt j := s1.symm
        have hUn : ¬ U (nI j).toNatClampNeg = 0 := fun z => by
          have := hU.mp z
          omega
        by_cases k0 : v2 < 0
        · unfold wpX_getTask wpY_getTask
          dsimp only
          exact rm_xu_t hm hj hP (br_f (by decide) (br_t k0 (br_f h0 (br_f hge ⟨ij, br_f hUn (br_t k0 ⟨rfl, I0⟩)⟩))))
        · rcases pk_ix v2 (n := 15) (by omega) with k1 | k1 | ⟨f, hf, rfl⟩
          · exact absurd k1 k0
          · have k2 : (14 : Int32) < v2 := Int32.lt_of_lt_of_le (show (14 : Int32) < nI 15 by decide) k1
            unfold wpX_getTask wpY_getTask
            dsimp only
            exact rm_xu_t hm hj hP (br_f (by decide) (br_f k0 (br_t k2 (br_f h0 (br_f hge ⟨ij, br_f hUn (br_f k0 (br_f (Int32.not_le.mpr k2) ⟨rfl, I0⟩))⟩)))))
          · exact rm_15 (A := fun f => wpX_getTask (fun r => wpY_getTask (fun r' => r' = r ∧ rm_Rel _ _) _ (nI j) (nI f)) _ (nI j) (nI f)) hf (rm_gx0 hm hj hP (rm_gy0 hA hm hj hu ⟨hq.symm, I0⟩)) (rm_gx1 hm hj hP (rm_gy1 hA hm hj hu ⟨rfl, I0⟩)) (rm_gx2 hm hj hP (rm_gy2 hA hm hj hu ⟨rfl, I0⟩)) (rm_gx3 hm hj hP (rm_gy3 hA hm hj hu ⟨rfl, I0⟩)) (rm_gx4 hm hj hP (rm_gy4 hA hm hj hu ⟨rfl, I0⟩)) (rm_gx5 hm hj hP (rm_gy5 hA hm hj hu ⟨rfl, I0⟩)) (rm_gx6 hm hj hP (rm_gy6 hA hm hj hu ⟨hB, I0⟩)) (rm_gx7 hm hj hP (rm_gy7 hA hm hj hu ⟨hT, I0⟩)) (rm_gx8 hm hj hP (rm_gy8 hA hm hj hu ⟨rfl, I0⟩)) (rm_gx9 hm hj hP (rm_gy9 hA hm hj hu ⟨rfl, I0⟩)) (rm_gx10 hm hj hP (rm_gy10 hA hm hj hu ⟨rfl, I0⟩)) (rm_gx11 hm hj hP (rm_gy11 hA hm hj hu ⟨rfl, I0⟩)) (rm_gx12 hm hj hP (rm_gy12 hA hm hj hu ⟨rfl, I0⟩)) (rm_gx13 hm hj hP (rm_gy13 hA hm hj hu ⟨rfl, I0⟩)) (rm_gx14 hm hj hP (rm_gy14 hA hm hj hu ⟨rfl, I0⟩))
      · unfold wpX_getTask wpY_getTask
        dsimp only
        have hz : rm_n P j = 0 := by omega
        exact rm_xu_f hm hj (rm_A_free hA hz).2 (br_t rfl (br_f h0 (br_f hge ⟨ij, br_t (hU.mpr hz) ⟨rfl, I0⟩⟩)))
end
section
/-! a candidate, on both sides -/
theorem rm_vc_admit {u : SX} {v : SY} (I : rm_Rel u v) (v1 v2 v3 v4 : Int32) : wpX_admit (fun r u' => wpY_admit (fun r' v' => r' = r ∧ rm_Rel u' v') v v1 v2 v3 v4) u v1 v2 v3 v4 := by
  have I0 := I
  obtain ⟨m, lc, n, fs, ti, ru, un, fj, ic, pr, P, Q, U, D, C, B, O, M, bo, bt, rl, en, ov, mi, wo, la, re, rt, mk, lg, rfl, rfl, hN, hfs, hA, hSt, hR, hJ, hZ⟩ := I
  have hm : m ≤ 8 := hN.2.1
  rcases hfs with rfl | rfl
  · obtain ⟨rfl, rfl, rfl, rfl, rfl, rfl, rfl, rfl, rfl, rfl, rfl⟩ := hZ rfl
    unfold wpX_admit
    dsimp only
    by_cases hok : rm_ok v1 v2 v3 v4
    · refine br_t rfl (rm_xok (fun _ => br_f (by decide) (rm_xf hA hm ?_)) (fun z => absurd hok z))
      cases hff : rm_ff (rm_n P) m 0 with
      | none => exact br_t rfl (rm_yad_0 hA hm hok hff ⟨rfl, I0⟩)
      | some k =>
        obtain ⟨_, hk, hf⟩ := rm_ff_some m 0 hff
        have hk8 : k < 8 := by omega
        have hz := rm_A_free hA hf
        obtain ⟨p, d, c, b, rfl, rfl, rfl, rfl, hr⟩ := rm_ok_nat hok
        have hA1 := rm_A_put hA (k := k) (p := p) (d := d) (c := c) (b := b) (by omega) hr
        refine br_f (rm_ne1 (by omega)) (rm_xocc hk8 ?_)
        dsimp only
        refine rm_xE hA1 hm (fun hall => br_f (by decide) (rm_xR hA1 hm hall (fun bo bt hSt2 => ?_))) (fun hno => br_t rfl (rm_xvac hk8 ?_))
        · refine rm_yad_k hA hm hok hff hk8 ?_
          rw [rm_upd0]
          refine ⟨9, rm_ya240 hA1 hm hk8 8 0 9 1 (by omega) (by omega) (Or.inr rfl) (fun _ => ⟨rfl, m, lc, n, 0, 0, (-1), un, fj, ic, pr, (upd P k (nI p)), (upd Q k (nI p)), (upd U k 1), (upd D k (nI d)), (upd C k (nI c)), (upd B k (nI b)), (upd O k 0), (upd M k (nI c)), bo, bt, (fun _ => 0), (fun _ => 0), (fun _ => 0), (fun _ => 0), (fun _ => 0), (fun _ => 0), (fun _ => 0), (fun _ => 0), (fun _ => 0), lg, rfl, rfl, hN, Or.inl rfl, hA1, hSt2, rm_R_0, hJ, fun _ => ⟨rfl, rfl, rfl, rfl, rfl, rfl, rfl, rfl, rfl, rfl, rfl⟩⟩) (fun q => ?_)⟩
          rcases q with q | ⟨j, _, hj, hj2⟩
          · exact absurd q (by decide)
          · exact absurd hj2 (hall j hj)
        · rw [rm_upd_back hz.2]
          refine rm_yad_k hA hm hok hff hk8 ?_
          rw [rm_upd0]
          refine ⟨9, rm_ya240 hA1 hm hk8 8 0 9 1 (by omega) (by omega) (Or.inr rfl) (fun q => ?_) (fun _ => ?_)⟩
          · obtain ⟨j, _, hj, hj2⟩ := hno
            exact absurd hj2 (q.2 j (Nat.zero_le _) hj)
          · rw [rm_upd_back hz.1]
            exact ⟨rfl, m, lc, n, 0, 0, (-1), un, fj, ic, pr, P, (upd Q k (nI p)), U, (upd D k (nI d)), (upd C k (nI c)), (upd B k (nI b)), (upd O k 0), (upd M k (nI c)), bo, bt, (fun _ => 0), (fun _ => 0), (fun _ => 0), (fun _ => 0), (fun _ => 0), (fun _ => 0), (fun _ => 0), (fun _ => 0), (fun _ => 0), lg, rfl, rfl, hN, Or.inl rfl, rm_A_no hA hf hr, rm_St_no hA hSt hf, rm_R_0, hJ, fun _ => ⟨rfl, rfl, rfl, rfl, rfl, rfl, rfl, rfl, rfl, rfl, rfl⟩⟩
    · exact br_t rfl (rm_xok (fun z => absurd z hok) (fun _ => br_t rfl (rm_yad_r hok ⟨rfl, I0⟩)))
  · unfold wpX_admit wpY_admit
    dsimp only
    exact br_f (by decide) (br_f (by decide) ⟨rfl, I0⟩)
end
section
def i_Rel (_ : Nat) (u : SX) (v : SY) : Prop := rm_Rel u v
theorem i_up {k : Nat} {u : SX} {v : SY} (h : i_Rel k u v) : i_Rel (k + 5) u v := h
theorem i_vc0 (k0 : Int32) (k1 : Int32) : wpX_init (fun u => wpY_init (fun v => i_Rel 2 u v) k0 k1) k0 k1 := rm_vc0 k0 k1
theorem i_vc_admit {k : Nat} {u : SX} {v : SY} (I : i_Rel k u v) (hk : k + 5 ≤ 2562) (v1 : Int32) (v2 : Int32) (v3 : Int32) (v4 : Int32) : wpX_admit (fun r u' => wpY_admit (fun r' v' => r' = r ∧ i_Rel (k + 5) u' v') v v1 v2 v3 v4) u v1 v2 v3 v4 := rm_vc_admit I v1 v2 v3 v4
theorem i_vc_remove {k : Nat} {u : SX} {v : SY} (I : i_Rel k u v) (hk : k + 5 ≤ 2562) (v1 : Int32) : wpX_remove (fun r u' => wpY_remove (fun r' v' => r' = r ∧ i_Rel (k + 5) u' v') v v1) u v1 := rm_vc_remove I v1
theorem i_vc_setOffset {k : Nat} {u : SX} {v : SY} (I : i_Rel k u v) (hk : k + 5 ≤ 2562) (v1 : Int32) (v2 : Int32) : wpX_setOffset (fun r u' => wpY_setOffset (fun r' v' => r' = r ∧ i_Rel (k + 5) u' v') v v1 v2) u v1 v2 := rm_vc_setOffset I v1 v2
theorem i_vc_setDemand {k : Nat} {u : SX} {v : SY} (I : i_Rel k u v) (hk : k + 5 ≤ 2562) (v1 : Int32) (v2 : Int32) : wpX_setDemand (fun r u' => wpY_setDemand (fun r' v' => r' = r ∧ i_Rel (k + 5) u' v') v v1 v2) u v1 v2 := rm_vc_setDemand I v1 v2
theorem i_vc_start {k : Nat} {u : SX} {v : SY} (I : i_Rel k u v) (hk : k + 5 ≤ 2562) : wpX_start (fun r u' => wpY_start (fun r' v' => r' = r ∧ i_Rel (k + 5) u' v') v) u := rm_vc_start I
theorem i_vc_run {k : Nat} {u : SX} {v : SY} (I : i_Rel k u v) (hk : k + 5 ≤ 2562) (v1 : Int32) : wpX_run (fun r u' => wpY_run (fun r' v' => r' = r ∧ i_Rel (k + 5) u' v') v v1) u v1 := rm_vc_run I v1
theorem i_vc_getTask {k : Nat} {u : SX} {v : SY} (I : i_Rel k u v) (hk : k + 5 ≤ 2562) (v1 : Int32) (v2 : Int32) : wpX_getTask (fun r => wpY_getTask (fun r' => r' = r ∧ i_Rel (k + 5) u v) v v1 v2) u v1 v2 := rm_vc_getTask I v1 v2
theorem i_vc_getTaskCount {k : Nat} {u : SX} {v : SY} (I : i_Rel k u v) (hk : k + 5 ≤ 2562) : wpX_getTaskCount (fun r => wpY_getTaskCount (fun r' => r' = r ∧ i_Rel (k + 5) u v) v) u := rm_vc_getTaskCount I
theorem i_vc_isStarted {k : Nat} {u : SX} {v : SY} (I : i_Rel k u v) (hk : k + 5 ≤ 2562) : wpX_isStarted (fun r => wpY_isStarted (fun r' => r' = r ∧ i_Rel (k + 5) u v) v) u := rm_vc_isStarted I
theorem i_vc_getTime {k : Nat} {u : SX} {v : SY} (I : i_Rel k u v) (hk : k + 5 ≤ 2562) : wpX_getTime (fun r => wpY_getTime (fun r' => r' = r ∧ i_Rel (k + 5) u v) v) u := rm_vc_getTime I
theorem i_vc_getRunning {k : Nat} {u : SX} {v : SY} (I : i_Rel k u v) (hk : k + 5 ≤ 2562) : wpX_getRunning (fun r => wpY_getRunning (fun r' => r' = r ∧ i_Rel (k + 5) u v) v) u := rm_vc_getRunning I
theorem i_vc_getIdleTicks {k : Nat} {u : SX} {v : SY} (I : i_Rel k u v) (hk : k + 5 ≤ 2562) : wpX_getIdleTicks (fun r => wpY_getIdleTicks (fun r' => r' = r ∧ i_Rel (k + 5) u v) v) u := rm_vc_getIdleTicks I
theorem i_vc_getPreemptions {k : Nat} {u : SX} {v : SY} (I : i_Rel k u v) (hk : k + 5 ≤ 2562) : wpX_getPreemptions (fun r => wpY_getPreemptions (fun r' => r' = r ∧ i_Rel (k + 5) u v) v) u := rm_vc_getPreemptions I
theorem i_vc_getLogCount {k : Nat} {u : SX} {v : SY} (I : i_Rel k u v) (hk : k + 5 ≤ 2562) : wpX_getLogCount (fun r => wpY_getLogCount (fun r' => r' = r ∧ i_Rel (k + 5) u v) v) u := rm_vc_getLogCount I
theorem i_vc_getLogEntry {k : Nat} {u : SX} {v : SY} (I : i_Rel k u v) (hk : k + 5 ≤ 2562) (v1 : Int32) : wpX_getLogEntry (fun r => wpY_getLogEntry (fun r' => r' = r ∧ i_Rel (k + 5) u v) v v1) u v1 := rm_vc_getLogEntry I v1
end
