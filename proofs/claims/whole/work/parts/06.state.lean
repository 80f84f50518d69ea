/-! the relation of the two states -/
def rm_I (m lc n : Nat) (fs ti ru un fj : Int32) (P Q U D C B M bo bt rl en ov mi wo la re rt mk : Nat → Int32) : Prop :=
  rm_N m lc n ∧ (fs = 0 ∨ fs = 1) ∧ rm_A m P Q U D C B M ∧ rm_St P D C B bo bt ∧ rm_R P re ∧ rm_J ru un fj rl re ∧ (fs = 0 → rm_Z ti ru rl en ov mi wo la re rt mk)
def rm_Rel (u : SX) (v : SY) : Prop := ∃ (m lc n : Nat) (fs ti ru un fj ic pr : Int32) (P Q U D C B O M bo bt rl en ov mi wo la re rt mk lg : Nat → Int32),
  u = ((nI m), (nI lc), nI n, fs, ti, ru, un, ic, pr, P, D, C, B, O, M, bo, bt, rl, en, ov, mi, wo, la, re, rt, mk, lg) ∧ v = ((nI m), (nI lc), fs, ti, ru, fj, ic, pr, nI n, U, Q, D, C, B, O, M, rl, en, ov, mi, wo, la, re, rt, mk, lg) ∧ rm_I m lc n fs ti ru un fj P Q U D C B M bo bt rl en ov mi wo la re rt mk
