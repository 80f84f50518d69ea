/-! arrays of small naturals; what a loop over the slots makes of an array; the pick -/
def rm_bd (a : Nat → Int32) : Prop := ∀ j, ∃ q, q ≤ 255 ∧ a j = nI q
def rm_n (a : Nat → Int32) (j : Nat) : Nat := (a j).toNatClampNeg
theorem rm_n_e {a : Nat → Int32} {j q : Nat} (e : a j = nI q) (h : q < 2 ^ 31) : rm_n a j = q := by
  unfold rm_n
  rw [e, nI_clamp h]
theorem rm_nI {a : Nat → Int32} (h : rm_bd a) (j : Nat) : a j = nI (rm_n a j) := by
  obtain ⟨q, hq, e⟩ := h j
  rw [rm_n_e e (by omega)]
  exact e
theorem rm_n255 {a : Nat → Int32} (h : rm_bd a) (j : Nat) : rm_n a j ≤ 255 := by
  obtain ⟨q, hq, e⟩ := h j
  rw [rm_n_e e (by omega)]
  exact hq
theorem rm_bd_0 : rm_bd (fun _ => 0) := fun _ => ⟨0, Nat.zero_le _, nI_0.symm⟩
theorem rm_bd_u {a : Nat → Int32} {k q : Nat} (h : rm_bd a) (hq : q ≤ 255) : rm_bd (upd a k (nI q)) := by
  intro j
  by_cases e : j = k
  · subst e
    exact ⟨q, hq, pk_us⟩
  · obtain ⟨r, hr, e2⟩ := h j
    exact ⟨r, hr, (pk_un e).trans e2⟩
theorem rm_n_s {a : Nat → Int32} {k q : Nat} (h : q < 2 ^ 31) : rm_n (upd a k (nI q)) k = q := rm_n_e pk_us h
theorem rm_n_n {a : Nat → Int32} {k j : Nat} {x : Int32} (h : j ≠ k) : rm_n (upd a k x) j = rm_n a j := by
  unfold rm_n
  rw [pk_un h]
theorem rm_ne1 {k : Nat} (h : k < 2 ^ 31) : ¬ nI k = -1 := fun e => nI_pos h (by rw [e]; decide)
theorem rm_ne1' {k : Nat} (h : k < 2 ^ 31) : ¬ (-1 : Int32) = nI k := fun e => rm_ne1 h e.symm
theorem rm_pos {k : Nat} (h0 : 0 < k) (h : k < 2 ^ 31) : (0 : Int32) < nI k := by
  have := nI_lt h0 h
  rw [nI_0] at this
  exact this
theorem rm_pos_iff {k : Nat} (h : k < 2 ^ 31) : (0 : Int32) < nI k ↔ 0 < k := by
  rw [← nI_0]
  exact nI_ltI (by omega) h
theorem rm_inc (x : Int32) : ¬ x + 1 = x := by
  intro e
  have h : x + 1 = x + 0 := by rw [Int32.add_zero]; exact e
  exact absurd (Int32.add_right_inj x |>.mp h) (by decide)
theorem rm_dec {x : Int32} (h : 0 < x) : x - 1 = 0 ∨ 0 < x - 1 := by
  obtain ⟨j, hj, rfl⟩ := nI_of (x := x) (Int32.not_lt.mpr (Int32.le_of_lt h))
  rw [rm_pos_iff hj] at h
  obtain ⟨q, rfl⟩ : ∃ q, j = q + 1 := ⟨j - 1, by omega⟩
  rw [nI_pred]
  by_cases e : q = 0
  · subst e
    exact Or.inl nI_0
  · exact Or.inr (rm_pos (by omega) (by omega))
/-- f with g written where Q holds, below n -/
def rm_mx (n : Nat) (Q : Nat → Bool) (f g : Nat → Int32) : Nat → Int32 := fun j => if j < n ∧ Q j = true then g j else f j
theorem rm_mx_0 (Q : Nat → Bool) (f g : Nat → Int32) : rm_mx 0 Q f g = f := by
  funext j
  exact if_neg (fun z => Nat.not_lt_zero j z.1)
theorem rm_mx_hi {n j : Nat} (Q : Nat → Bool) (f g : Nat → Int32) (h : n ≤ j) : rm_mx n Q f g j = f j :=
  if_neg (fun z => Nat.not_lt.mpr h z.1)
theorem rm_mx_y {n j : Nat} {Q : Nat → Bool} (f g : Nat → Int32) (h : j < n) (hq : Q j = true) : rm_mx n Q f g j = g j :=
  if_pos ⟨h, hq⟩
theorem rm_mx_n {n j : Nat} {Q : Nat → Bool} (f g : Nat → Int32) (hq : Q j = false) : rm_mx n Q f g j = f j :=
  if_neg (fun z => by rw [hq] at z; exact absurd z.2 (by decide))
theorem rm_mx_t {n : Nat} {Q : Nat → Bool} (f g : Nat → Int32) (h : Q n = true) : upd (rm_mx n Q f g) n (g n) = rm_mx (n + 1) Q f g := by
  funext j
  by_cases e : j = n
  · subst e
    rw [pk_us, rm_mx_y (n := j + 1) f g (by omega) h]
  · rw [pk_un e]
    unfold rm_mx
    by_cases h1 : j < n ∧ Q j = true
    · have h2 : j < n + 1 ∧ Q j = true := ⟨by have := h1.1; omega, h1.2⟩
      rw [if_pos h1, if_pos h2]
    · have h2 : ¬ (j < n + 1 ∧ Q j = true) := fun z => h1 ⟨by have := z.1; omega, z.2⟩
      rw [if_neg h1, if_neg h2]
theorem rm_mx_f {n : Nat} {Q : Nat → Bool} (f g : Nat → Int32) (h : Q n = false) : rm_mx (n + 1) Q f g = rm_mx n Q f g := by
  funext j
  unfold rm_mx
  by_cases h1 : j < n ∧ Q j = true
  · have h2 : j < n + 1 ∧ Q j = true := ⟨by have := h1.1; omega, h1.2⟩
    rw [if_pos h1, if_pos h2]
  · rw [if_neg h1]
    refine if_neg (fun z => h1 ⟨?_, z.2⟩)
    by_cases e : j = n
    · subst e
      have z2 := z.2
      rw [h] at z2
      exact absurd z2 (by decide)
    · have := z.1
      omega
theorem rm_mx_end {m : Nat} {Q : Nat → Bool} (f g : Nat → Int32) (h : ∀ j, m ≤ j → Q j = false) : ∀ k, rm_mx (m + k) Q f g = rm_mx m Q f g := by
  intro k
  induction k with
  | zero => rfl
  | succ k ih => rw [← Nat.add_assoc, rm_mx_f f g (h (m + k) (by omega)), ih]
/-- the slot of the unfinished job while due jobs are dropped -/
def rm_un (Q : Nat → Bool) (u : Int32) : Nat → Int32
  | 0 => u
  | n + 1 => if Q n = true ∧ rm_un Q u n = nI n then -1 else rm_un Q u n
theorem rm_un_t {Q : Nat → Bool} {u : Int32} {n : Nat} (h : Q n = true) (e : rm_un Q u n = nI n) : rm_un Q u (n + 1) = -1 := by
  rw [rm_un, if_pos (And.intro h e)]
theorem rm_un_f {Q : Nat → Bool} {u : Int32} {n : Nat} (h : Q n = false) : rm_un Q u (n + 1) = rm_un Q u n := by
  have hf : ¬ (Q n = true ∧ rm_un Q u n = nI n) := fun z => by
    rw [h] at z
    exact absurd z.1 (by decide)
  rw [rm_un, if_neg hf]
theorem rm_un_e {Q : Nat → Bool} {u : Int32} {n : Nat} (e : ¬ rm_un Q u n = nI n) : rm_un Q u (n + 1) = rm_un Q u n := by
  have hf : ¬ (Q n = true ∧ rm_un Q u n = nI n) := fun z => e z.2
  rw [rm_un, if_neg hf]
theorem rm_un_end {m : Nat} {Q : Nat → Bool} {u : Int32} (h : ∀ j, m ≤ j → Q j = false) : ∀ k, rm_un Q u (m + k) = rm_un Q u m := by
  intro k
  induction k with
  | zero => rfl
  | succ k ih => rw [← Nat.add_assoc, rm_un_f (h (m + k) (by omega)), ih]
theorem rm_un_1 (Q : Nat → Bool) : ∀ n, n ≤ 8 → rm_un Q (-1) n = -1 := by
  intro n
  induction n with
  | zero => intro _; rfl
  | succ n ih =>
    intro h
    have e := ih (by omega)
    have hf : ¬ rm_un Q (-1) n = nI n := by
      rw [e]
      exact rm_ne1' (by omega)
    rw [rm_un_e hf, e]
theorem rm_un_k {Q : Nat → Bool} {q : Nat} (hq : q < 8) : ∀ n, n ≤ 8 → (q < n → Q q = true → rm_un Q (nI q) n = -1) ∧ ((n ≤ q ∨ Q q = false) → rm_un Q (nI q) n = nI q) := by
  intro n
  induction n with
  | zero => exact fun _ => ⟨fun h => absurd h (Nat.not_lt_zero _), fun _ => rfl⟩
  | succ n ih =>
    intro hn
    obtain ⟨i1, i2⟩ := ih (by omega)
    refine ⟨fun h hQ => ?_, fun h => ?_⟩
    · by_cases e : q = n
      · subst e
        exact rm_un_t hQ (i2 (Or.inl (Nat.le_refl _)))
      · have e1 := i1 (by omega) hQ
        have hf : ¬ rm_un Q (nI q) n = nI n := by
          rw [e1]
          exact rm_ne1' (by omega)
        rw [rm_un_e hf, e1]
    · have e1 := i2 (h.imp (fun z => by omega) id)
      by_cases e : q = n
      · subst e
        have hf : Q q = false := by
          rcases h with h | h
          · omega
          · exact h
        rw [rm_un_f hf, e1]
      · have hf : ¬ rm_un Q (nI q) n = nI n := by
          rw [e1]
          exact fun z => e ((nI_eq (by omega) (by omega)).mp z)
        rw [rm_un_e hf, e1]
/-- the pending slot of the highest priority below n -/
def rm_ps (P re : Nat → Int32) (n : Nat) : Option Nat → Option Nat
  | none => if 0 < re n then some n else none
  | some b => if 0 < re n ∧ (P n < P b ∨ (P n = P b ∧ n < b)) then some n else some b
def rm_pk (P re : Nat → Int32) : Nat → Option Nat
  | 0 => none
  | n + 1 => rm_ps P re n (rm_pk P re n)
def rm_oi : Option Nat → Int32
  | none => -1
  | some k => nI k
theorem rm_pk_z {P re : Nat → Int32} {n : Nat} (h : ¬ 0 < re n) : rm_pk P re (n + 1) = rm_pk P re n := by
  rw [rm_pk]
  cases e : rm_pk P re n with
  | none => exact if_neg h
  | some b => exact if_neg (fun z => h z.1)
theorem rm_pk_n {P re : Nat → Int32} {n : Nat} (h : 0 < re n) (e : rm_pk P re n = none) : rm_pk P re (n + 1) = some n := by
  rw [rm_pk, e]
  exact if_pos h
theorem rm_pk_t {P re : Nat → Int32} {n b : Nat} (h : 0 < re n) (e : rm_pk P re n = some b) (hh : P n < P b ∨ (P n = P b ∧ n < b)) : rm_pk P re (n + 1) = some n := by
  rw [rm_pk, e]
  exact if_pos ⟨h, hh⟩
theorem rm_pk_f {P re : Nat → Int32} {n b : Nat} (e : rm_pk P re n = some b) (hh : ¬ (P n < P b ∨ (P n = P b ∧ n < b))) : rm_pk P re (n + 1) = some b := by
  rw [rm_pk, e]
  exact if_neg (fun z => hh z.2)
theorem rm_pk_some {P re : Nat → Int32} : ∀ n b, rm_pk P re n = some b → b < n ∧ 0 < re b := by
  intro n
  induction n with
  | zero => intro b h; rw [rm_pk] at h; cases h
  | succ n ih =>
    intro b h
    by_cases h0 : 0 < re n
    · cases e : rm_pk P re n with
      | none =>
        rw [rm_pk_n h0 e] at h
        cases h
        exact ⟨by omega, h0⟩
      | some c =>
        by_cases hh : P n < P c ∨ (P n = P c ∧ n < c)
        · rw [rm_pk_t h0 e hh] at h
          cases h
          exact ⟨by omega, h0⟩
        · rw [rm_pk_f e hh] at h
          cases h
          have := ih b e
          exact ⟨by omega, this.2⟩
    · rw [rm_pk_z h0] at h
      have := ih b h
      exact ⟨by omega, this.2⟩
theorem rm_pk_none {P re : Nat → Int32} : ∀ n, rm_pk P re n = none → ∀ j, j < n → ¬ 0 < re j := by
  intro n
  induction n with
  | zero => intro _ j hj; omega
  | succ n ih =>
    intro h j hj
    by_cases h0 : 0 < re n
    · cases e : rm_pk P re n with
      | none =>
        rw [rm_pk_n h0 e] at h
        cases h
      | some c =>
        by_cases hh : P n < P c ∨ (P n = P c ∧ n < c)
        · rw [rm_pk_t h0 e hh] at h
          cases h
        · rw [rm_pk_f e hh] at h
          cases h
    · rw [rm_pk_z h0] at h
      by_cases e : j = n
      · subst e
        exact h0
      · exact ih h j (by omega)
theorem rm_pk_end {P re : Nat → Int32} {m : Nat} (h : ∀ j, m ≤ j → ¬ 0 < re j) : ∀ k, rm_pk P re (m + k) = rm_pk P re m := by
  intro k
  induction k with
  | zero => rfl
  | succ k ih => rw [← Nat.add_assoc, rm_pk_z (h (m + k) (by omega)), ih]
