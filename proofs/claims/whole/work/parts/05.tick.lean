/-! one tick: the releases, pure -/
def rm_due (P O : Nat → Int32) (ti : Int32) (j : Nat) : Bool := decide (0 < P j ∧ O j ≤ ti ∧ (ti - O j) - (ti - O j) / P j * P j = 0)
def rm_late (P O re : Nat → Int32) (ti : Int32) (j : Nat) : Bool := rm_due P O ti j && decide (0 < re j)
def rm_nr (C M : Nat → Int32) (j : Nat) : Int32 := if C j < M j then C j else M j
def rm_nk (C M : Nat → Int32) (j : Nat) : Int32 := if C j < M j then 1 else 0
def rm_rl (P O rl : Nat → Int32) (ti : Int32) (n : Nat) : Nat → Int32 := rm_mx n (rm_due P O ti) rl (fun j => rl j + 1)
def rm_mi (P O re mi : Nat → Int32) (ti : Int32) (n : Nat) : Nat → Int32 := rm_mx n (rm_late P O re ti) mi (fun j => mi j + 1)
def rm_mk (P O C M mk : Nat → Int32) (ti : Int32) (n : Nat) : Nat → Int32 := rm_mx n (rm_due P O ti) mk (rm_nk C M)
def rm_re (P O C M re : Nat → Int32) (ti : Int32) (n : Nat) : Nat → Int32 := rm_mx n (rm_due P O ti) re (rm_nr C M)
def rm_rt (P O rt : Nat → Int32) (ti : Int32) (n : Nat) : Nat → Int32 := rm_mx n (rm_due P O ti) rt (fun _ => ti)
def rm_uf (P O re : Nat → Int32) (ti un : Int32) (n : Nat) : Int32 := rm_un (rm_late P O re ti) un n
section
variable {m : Nat} {P Q U D C B M O re rl mi mk rt : Nat → Int32} {ti ru un fj : Int32}
theorem rm_due_t {j : Nat} (h0 : 0 < P j) (h1 : O j ≤ ti) (h2 : (ti - O j) - (ti - O j) / P j * P j = 0) : rm_due P O ti j = true := decide_eq_true ⟨h0, h1, h2⟩
theorem rm_due_f0 {j : Nat} (h0 : ¬ 0 < P j) : rm_due P O ti j = false := decide_eq_false fun z => h0 z.1
theorem rm_due_f1 {j : Nat} (h0 : ¬ O j ≤ ti) : rm_due P O ti j = false := decide_eq_false fun z => h0 z.2.1
theorem rm_due_f2 {j : Nat} (h0 : ¬ (ti - O j) - (ti - O j) / P j * P j = 0) : rm_due P O ti j = false := decide_eq_false fun z => h0 z.2.2
theorem rm_due_pos {j : Nat} (h : rm_due P O ti j = true) : 0 < P j := (of_decide_eq_true h).1
theorem rm_late_t {j : Nat} (h : rm_due P O ti j = true) (h0 : 0 < re j) : rm_late P O re ti j = true := by
  unfold rm_late
  simp only [h, decide_eq_true h0, Bool.and_true]
theorem rm_late_f {j : Nat} (h : rm_due P O ti j = false) : rm_late P O re ti j = false := by
  unfold rm_late
  simp only [h, Bool.false_and]
theorem rm_late_n {j : Nat} (h0 : ¬ 0 < re j) : rm_late P O re ti j = false := by
  unfold rm_late
  simp only [decide_eq_false h0, Bool.and_false]
theorem rm_due_end (hA : rm_A m P Q U D C B M) : ∀ j, m ≤ j → rm_due P O ti j = false := fun j hj =>
  rm_due_f0 (fun z => by
    have := (rm_A_Ppos hA j).mp z
    have := rm_A_ge hA hj
    omega)
theorem rm_late_end (hA : rm_A m P Q U D C B M) : ∀ j, m ≤ j → rm_late P O re ti j = false := fun j hj => rm_late_f (rm_due_end hA j hj)
theorem rm_to8 (hm : m ≤ 8) : m + (8 - m) = 8 := by omega
theorem rm_mx_8 {F : Nat → Bool} (f g : Nat → Int32) (hm : m ≤ 8) (h : ∀ j, m ≤ j → F j = false) : rm_mx m F f g = rm_mx 8 F f g := by
  have := rm_mx_end f g h (8 - m)
  rw [rm_to8 hm] at this
  exact this.symm
theorem rm_nr_pos (hA : rm_A m P Q U D C B M) {j : Nat} (h : 0 < P j) : 0 < rm_nr C M j := by
  have hu := rm_A_used hA ((rm_A_Ppos hA j).mp h)
  unfold rm_nr
  by_cases e : C j < M j
  · rw [if_pos e, rm_nI hA.2.2.2.1 j]
    have := rm_n255 hA.2.2.2.1 j
    exact rm_pos (by omega) (by omega)
  · rw [if_neg e]
    exact hu.2.2.2.2
/-- the reference takes the lesser of the two, the other way round -/
theorem rm_nr_y {j : Nat} (h : M j < C j) : M j = rm_nr C M j := by
  unfold rm_nr
  rw [if_neg (fun z => Int32.lt_irrefl (Int32.lt_trans h z))]
theorem rm_nr_n {j : Nat} (h : ¬ M j < C j) : C j = rm_nr C M j := by
  unfold rm_nr
  by_cases e : C j < M j
  · rw [if_pos e]
  · rw [if_neg e]
    exact Int32.le_antisymm (Int32.not_lt.mp h) (Int32.not_lt.mp e)
theorem rm_R_rel (hA : rm_A m P Q U D C B M) (hR : rm_R P re) : rm_R P (rm_re P O C M re ti 8) := by
  intro j
  cases e : rm_due P O ti j with
  | true =>
    have h0 := rm_due_pos e
    have h1 := (rm_A_Ppos hA j).mp h0
    by_cases hj : j < 8
    · unfold rm_re
      rw [rm_mx_y re (rm_nr C M) hj e]
      exact Or.inr ⟨rm_nr_pos hA h0, h1⟩
    · unfold rm_re
      rw [rm_mx_hi (n := 8) (j := j) _ _ _ (by omega)]
      exact hR j
  | false =>
    unfold rm_re
    rw [rm_mx_n re (rm_nr C M) e]
    exact hR j
def rm_Jr (ru un fj : Int32) (rl re : Nat → Int32) : Prop :=
  (ru = -1 ∧ un = -1) ∨ ∃ q, q < 8 ∧ ru = nI q ∧ ((0 < re q ∧ rl q = fj ∧ un = nI q) ∨ (¬ (0 < re q ∧ rl q = fj) ∧ un = -1))
theorem rm_J_rel (hJ : rm_J ru un fj rl re) : rm_Jr ru (rm_uf P O re ti un 8) fj (rm_rl P O rl ti 8) (rm_re P O C M re ti 8) := by
  rcases hJ with ⟨h1, h2⟩ | ⟨q, hq, h1, h2, h3⟩
  · subst h2
    exact Or.inl ⟨h1, rm_un_1 _ 8 (by omega)⟩
  · refine Or.inr ⟨q, hq, h1, ?_⟩
    cases e : rm_due P O ti q with
    | true =>
      right
      refine ⟨fun z => ?_, ?_⟩
      · have z2 := z.2
        unfold rm_rl at z2
        rw [rm_mx_y rl _ hq e, h2] at z2
        exact rm_inc _ z2
      · unfold rm_uf
        rcases h3 with ⟨h4, h5⟩ | ⟨h4, h5⟩
        · rw [h5]
          exact (rm_un_k hq 8 (by omega)).1 hq (rm_late_t e h4)
        · rw [h5]
          exact rm_un_1 _ 8 (by omega)
    | false =>
      have e1 : rm_rl P O rl ti 8 q = rl q := rm_mx_n _ _ e
      have e2 : rm_re P O C M re ti 8 q = re q := rm_mx_n _ _ e
      rw [e1, e2]
      unfold rm_uf
      rcases h3 with ⟨h4, h5⟩ | ⟨h4, h5⟩
      · left
        refine ⟨h4, h2.symm, ?_⟩
        rw [h5]
        exact (rm_un_k hq 8 (by omega)).2 (Or.inr (rm_late_f e))
      · right
        refine ⟨fun z => ?_, ?_⟩
        · rw [h4] at z
          exact Int32.lt_irrefl z.1
        · rw [h5]
          exact rm_un_1 _ 8 (by omega)
theorem rm_Jr_idle (h : rm_Jr ru un fj rl re) (hn : ∀ j, j < 8 → ¬ 0 < re j) : un = -1 := by
  rcases h with ⟨_, h2⟩ | ⟨q, hq, _, h3⟩
  · exact h2
  · rcases h3 with ⟨h4, _⟩ | ⟨_, h5⟩
    · exact absurd h4 (hn q hq)
    · exact h5
theorem rm_J_ex {b : Nat} (hb : b < 8) (h0 : 0 < re b) : rm_J (nI b) (if re b - 1 = 0 then -1 else nI b) (rl b) rl (upd re b (re b - 1)) := by
  refine Or.inr ⟨b, hb, rfl, rfl, ?_⟩
  rw [pk_us]
  by_cases e : re b - 1 = 0
  · rw [if_pos e]
    exact Or.inr ⟨e, rfl⟩
  · rw [if_neg e]
    rcases rm_dec h0 with z | z
    · exact absurd z e
    · exact Or.inl ⟨z, rfl⟩
theorem rm_R_ex {b : Nat} (hR : rm_R P re) (h0 : 0 < re b) : rm_R P (upd re b (re b - 1)) := by
  intro j
  by_cases e : j = b
  · subst e
    rw [pk_us]
    rcases hR j with z | z
    · rw [z] at h0
      exact absurd h0 (Int32.lt_irrefl)
    · rcases rm_dec h0 with y | y
      · exact Or.inl y
      · exact Or.inr ⟨y, z.2⟩
  · rw [pk_un e]
    exact hR j
theorem rm_rl_t {i : Nat} (h : rm_due P O ti i = true) : rm_rl P O rl ti (i + 1) = upd (rm_rl P O rl ti i) i (rm_rl P O rl ti i i + 1) := by
  have e : rm_rl P O rl ti i i = rl i := rm_mx_hi _ _ _ (Nat.le_refl _)
  rw [e]
  exact (rm_mx_t rl (fun j => rl j + 1) h).symm
theorem rm_rl_f {i : Nat} (h : rm_due P O ti i = false) : rm_rl P O rl ti (i + 1) = rm_rl P O rl ti i := rm_mx_f _ _ h
theorem rm_mi_t {i : Nat} (h : rm_late P O re ti i = true) : rm_mi P O re mi ti (i + 1) = upd (rm_mi P O re mi ti i) i (rm_mi P O re mi ti i i + 1) := by
  have e : rm_mi P O re mi ti i i = mi i := rm_mx_hi _ _ _ (Nat.le_refl _)
  rw [e]
  exact (rm_mx_t mi (fun j => mi j + 1) h).symm
theorem rm_mi_f {i : Nat} (h : rm_late P O re ti i = false) : rm_mi P O re mi ti (i + 1) = rm_mi P O re mi ti i := rm_mx_f _ _ h
theorem rm_mk_t {i : Nat} (h : rm_due P O ti i = true) : rm_mk P O C M mk ti (i + 1) = upd (rm_mk P O C M mk ti i) i (rm_nk C M i) := (rm_mx_t mk (rm_nk C M) h).symm
theorem rm_mk_f {i : Nat} (h : rm_due P O ti i = false) : rm_mk P O C M mk ti (i + 1) = rm_mk P O C M mk ti i := rm_mx_f _ _ h
theorem rm_re_t {i : Nat} (h : rm_due P O ti i = true) : rm_re P O C M re ti (i + 1) = upd (rm_re P O C M re ti i) i (rm_nr C M i) := (rm_mx_t re (rm_nr C M) h).symm
theorem rm_re_f {i : Nat} (h : rm_due P O ti i = false) : rm_re P O C M re ti (i + 1) = rm_re P O C M re ti i := rm_mx_f _ _ h
theorem rm_rt_t {i : Nat} (h : rm_due P O ti i = true) : rm_rt P O rt ti (i + 1) = upd (rm_rt P O rt ti i) i ti := (rm_mx_t rt (fun _ => ti) h).symm
theorem rm_rt_f {i : Nat} (h : rm_due P O ti i = false) : rm_rt P O rt ti (i + 1) = rm_rt P O rt ti i := rm_mx_f _ _ h
theorem rm_re_i (i : Nat) : rm_re P O C M re ti i i = re i := rm_mx_hi _ _ _ (Nat.le_refl _)
theorem rm_uf_t {i : Nat} (h : rm_late P O re ti i = true) : rm_uf P O re ti un (i + 1) = if rm_uf P O re ti un i = nI i then -1 else rm_uf P O re ti un i := by
  by_cases e : rm_uf P O re ti un i = nI i
  · rw [if_pos e]
    exact rm_un_t h e
  · rw [if_neg e]
    exact rm_un_e e
theorem rm_uf_f {i : Nat} (h : rm_late P O re ti i = false) : rm_uf P O re ti un (i + 1) = rm_uf P O re ti un i := rm_un_f h
theorem rm_rl_8 (hA : rm_A m P Q U D C B M) (hm : m ≤ 8) : rm_rl P O rl ti m = rm_rl P O rl ti 8 := rm_mx_8 _ _ hm (rm_due_end hA)
theorem rm_mi_8 (hA : rm_A m P Q U D C B M) (hm : m ≤ 8) : rm_mi P O re mi ti m = rm_mi P O re mi ti 8 := rm_mx_8 _ _ hm (rm_late_end hA)
theorem rm_mk_8 (hA : rm_A m P Q U D C B M) (hm : m ≤ 8) : rm_mk P O C M mk ti m = rm_mk P O C M mk ti 8 := rm_mx_8 _ _ hm (rm_due_end hA)
theorem rm_re_8 (hA : rm_A m P Q U D C B M) (hm : m ≤ 8) : rm_re P O C M re ti m = rm_re P O C M re ti 8 := rm_mx_8 _ _ hm (rm_due_end hA)
theorem rm_rt_8 (hA : rm_A m P Q U D C B M) (hm : m ≤ 8) : rm_rt P O rt ti m = rm_rt P O rt ti 8 := rm_mx_8 _ _ hm (rm_due_end hA)
theorem rm_uf_8 (hA : rm_A m P Q U D C B M) (hm : m ≤ 8) : rm_uf P O re ti un m = rm_uf P O re ti un 8 := by
  have := rm_un_end (u := un) (rm_late_end (O := O) (re := re) (ti := ti) hA) (8 - m)
  rw [rm_to8 hm] at this
  exact this.symm
theorem rm_pk_8 (hA : rm_A m P Q U D C B M) (hm : m ≤ 8) (hR : rm_R P re) : rm_pk P re m = rm_pk P re 8 := by
  have hz : ∀ j, m ≤ j → ¬ 0 < re j := fun j hj z => by
    rcases hR j with y | y
    · rw [y] at z
      exact Int32.lt_irrefl z
    · have := rm_A_ge hA hj
      omega
  have := rm_pk_end (P := P) hz (8 - m)
  rw [rm_to8 hm] at this
  exact this.symm
end
/-- the log with its oldest entry gone: n places moved -/
def rm_sh (lg : Nat → Int32) (n : Nat) : Nat → Int32 := rm_mx n (fun _ => true) lg (fun j => lg (j + 1))
theorem rm_sh_0 (lg : Nat → Int32) : rm_sh lg 0 = lg := rm_mx_0 _ _ _
theorem rm_sh_s (lg : Nat → Int32) (n : Nat) : upd (rm_sh lg n) n (rm_sh lg n (n + 1)) = rm_sh lg (n + 1) := by
  have e : rm_sh lg n (n + 1) = lg (n + 1) := rm_mx_hi _ _ _ (by omega)
  rw [e]
  exact rm_mx_t (Q := fun _ => true) lg (fun j => lg (j + 1)) rfl
/-- an entry appended; how many there are then -/
def rm_lg (lg : Nat → Int32) (lc n : Nat) (x : Int32) : Nat → Int32 := if n < lc then upd lg n x else upd (rm_sh lg (lc - 1)) (lc - 1) x
def rm_ln (lc n : Nat) : Nat := if n < lc then n + 1 else lc
/-- what the end of a job writes -/
def rm_ov (mk ov : Nat → Int32) (b : Nat) : Nat → Int32 := if mk b = 0 then ov else upd ov b (ov b + 1)
def rm_ms (D mi : Nat → Int32) (b : Nat) (x : Int32) : Nat → Int32 := if x ≤ D b then mi else upd mi b (mi b + 1)
def rm_wo (wo : Nat → Int32) (b : Nat) (x : Int32) : Nat → Int32 := if x ≤ wo b then wo else upd wo b x
def rm_ent (mk : Nat → Int32) (b : Nat) (x : Int32) : Int32 := if mk b = 0 then nI b * 1024 + x else nI b * 1024 + x + 512
