/-! the relation. m slots; P the component's periods (0: free), Q the reference's, U its used marks, D C B deadlines, costs, blockings, M demands; bo bt stored bounds and block terms -/
def rm_A (m : Nat) (P Q U D C B M : Nat → Int32) : Prop :=
  (∀ j, (U j = 0 ∧ P j = 0) ∨ (U j = 1 ∧ P j = Q j ∧ j < m ∧ (1 ≤ rm_n C j ∧ rm_n C j ≤ rm_n D j ∧ rm_n D j ≤ rm_n P j) ∧ 0 < M j)) ∧ rm_bd P ∧ rm_bd D ∧ rm_bd C ∧ rm_bd B
def rm_St (P D C B bo bt : Nat → Int32) : Prop :=
  ∀ i, 0 < rm_n P i → bt i = nI (rm_T (rm_n P) (rm_n B) i 8) ∧ bo i = nI (rm_L (rm_n P) (rm_n D) (rm_n C) (rm_n B) i) ∧ rm_L (rm_n P) (rm_n D) (rm_n C) (rm_n B) i ≠ 0
def rm_R (P re : Nat → Int32) : Prop := ∀ j, re j = 0 ∨ (0 < re j ∧ 0 < rm_n P j)
def rm_J (ru un fj : Int32) (rl re : Nat → Int32) : Prop :=
  (ru = -1 ∧ un = -1) ∨ ∃ q, q < 8 ∧ ru = nI q ∧ fj = rl q ∧ ((0 < re q ∧ un = nI q) ∨ (re q = 0 ∧ un = -1))
def rm_Z (ti ru : Int32) (rl en ov mi wo la re rt mk : Nat → Int32) : Prop :=
  ti = 0 ∧ ru = -1 ∧ rl = (fun _ => 0) ∧ en = (fun _ => 0) ∧ ov = (fun _ => 0) ∧ mi = (fun _ => 0) ∧ wo = (fun _ => 0) ∧ la = (fun _ => 0) ∧ re = (fun _ => 0) ∧ rt = (fun _ => 0) ∧ mk = (fun _ => 0)
def rm_N (m lc n : Nat) : Prop := 1 ≤ m ∧ m ≤ 8 ∧ 8 ≤ lc ∧ lc ≤ 32 ∧ n ≤ lc
section
variable {m : Nat} {P Q U D C B M bo bt : Nat → Int32}
theorem rm_A_free (h : rm_A m P Q U D C B M) {j : Nat} (e : rm_n P j = 0) : U j = 0 ∧ P j = 0 := by
  rcases h.1 j with z | z
  · exact z
  · have := z.2.2.2.1
    omega
theorem rm_A_used (h : rm_A m P Q U D C B M) {j : Nat} (e : 0 < rm_n P j) : U j = 1 ∧ P j = Q j ∧ j < m ∧ (1 ≤ rm_n C j ∧ rm_n C j ≤ rm_n D j ∧ rm_n D j ≤ rm_n P j) ∧ 0 < M j := by
  rcases h.1 j with z | z
  · rw [rm_n_e (z.2.trans nI_0.symm) (by omega)] at e
    omega
  · exact z
theorem rm_A_ge (h : rm_A m P Q U D C B M) {j : Nat} (e : m ≤ j) : rm_n P j = 0 := by
  by_cases z : 0 < rm_n P j
  · have := (rm_A_used h z).2.2.1
    omega
  · omega
theorem rm_A_P (h : rm_A m P Q U D C B M) (j : Nat) : P j = nI (rm_n P j) := rm_nI h.2.1 j
theorem rm_A_Ppos (h : rm_A m P Q U D C B M) (j : Nat) : (0 < P j) ↔ 0 < rm_n P j := by
  have := rm_n255 h.2.1 j
  rw [rm_A_P h j]
  exact rm_pos_iff (by omega)
theorem rm_A_U0 (h : rm_A m P Q U D C B M) (j : Nat) : U j = 0 ↔ rm_n P j = 0 := by
  constructor
  · intro e
    by_cases z : 0 < rm_n P j
    · have := (rm_A_used h z).1
      rw [e] at this
      exact absurd this (by decide)
    · omega
  · exact fun e => (rm_A_free h e).1
/-- a candidate goes in -/
theorem rm_A_put (h : rm_A m P Q U D C B M) {k p d c b : Nat} (hk : k < m) (hr : 1 ≤ c ∧ c ≤ d ∧ d ≤ p ∧ p ≤ 255 ∧ b ≤ 255) : rm_A m (upd P k (nI p)) (upd Q k (nI p)) (upd U k 1) (upd D k (nI d)) (upd C k (nI c)) (upd B k (nI b)) (upd M k (nI c)) := by
  obtain ⟨h1, h2, h3, h4, h5⟩ := h
  refine ⟨fun j => ?_, rm_bd_u h2 (by omega), rm_bd_u h3 (by omega), rm_bd_u h4 (by omega), rm_bd_u h5 (by omega)⟩
  by_cases e : j = k
  · subst e
    have e1 : rm_n (upd C j (nI c)) j = c := rm_n_s (by omega)
    have e2 : rm_n (upd D j (nI d)) j = d := rm_n_s (by omega)
    have e3 : rm_n (upd P j (nI p)) j = p := rm_n_s (by omega)
    rw [e1, e2, e3, pk_us, pk_us, pk_us, pk_us]
    exact Or.inr ⟨rfl, rfl, hk, ⟨by omega, by omega, by omega⟩, rm_pos (by omega) (by omega)⟩
  · rw [rm_n_n e, rm_n_n e, rm_n_n e, pk_un e, pk_un e, pk_un e, pk_un e]
    exact h1 j
/-- a candidate is refused -/
theorem rm_A_no (h : rm_A m P Q U D C B M) {k p d c b : Nat} {x y : Int32} (hf : rm_n P k = 0) (hr : 1 ≤ c ∧ c ≤ d ∧ d ≤ p ∧ p ≤ 255 ∧ b ≤ 255) : rm_A m P (upd Q k x) U (upd D k (nI d)) (upd C k (nI c)) (upd B k (nI b)) (upd M k y) := by
  have hz := rm_A_free h hf
  obtain ⟨h1, h2, h3, h4, h5⟩ := h
  refine ⟨fun j => ?_, h2, rm_bd_u h3 (by omega), rm_bd_u h4 (by omega), rm_bd_u h5 (by omega)⟩
  by_cases e : j = k
  · subst e
    exact Or.inl hz
  · rw [rm_n_n e, rm_n_n e, pk_un e, pk_un e]
    exact h1 j
theorem rm_St_no (hA : rm_A m P Q U D C B M) (h : rm_St P D C B bo bt) {k : Nat} {d c b : Int32} (hf : rm_n P k = 0) : rm_St P (upd D k d) (upd C k c) (upd B k b) bo bt := by
  intro i hi
  have hne : ∀ j, 0 < rm_n P j → j ≠ k := fun j hj e => by
    subst e
    omega
  obtain ⟨g1, g2, g3⟩ := h i hi
  have eT : rm_T (rm_n P) (rm_n (upd B k b)) i 8 = rm_T (rm_n P) (rm_n B) i 8 := rm_T_cg (fun j hj => rm_n_n (hne j hj)) 8
  have eL : rm_L (rm_n P) (rm_n (upd D k d)) (rm_n (upd C k c)) (rm_n (upd B k b)) i = rm_L (rm_n P) (rm_n D) (rm_n C) (rm_n B) i :=
    rm_L_cg hi (rm_n_n (hne i hi)) (fun j hj => rm_n_n (hne j hj)) (fun j hj => rm_n_n (hne j hj))
  rw [eT, eL]
  exact ⟨g1, g2, g3⟩
/-- a task goes out -/
theorem rm_n_z {k j : Nat} : rm_n (upd P k 0) j = if j = k then 0 else rm_n P j := by
  by_cases e : j = k
  · subst e
    rw [if_pos rfl]
    exact rm_n_e (pk_us.trans nI_0.symm) (by omega)
  · rw [if_neg e, rm_n_n e]
theorem rm_A_out (h : rm_A m P Q U D C B M) {k : Nat} : rm_A m (upd P k 0) Q (upd U k 0) D C B M := by
  obtain ⟨h1, h2, h3, h4, h5⟩ := h
  refine ⟨fun j => ?_, ?_, h3, h4, h5⟩
  · by_cases e : j = k
    · subst e
      exact Or.inl ⟨pk_us, pk_us⟩
    · rw [rm_n_n e, pk_un e, pk_un e]
      exact h1 j
  · have := rm_bd_u (k := k) (q := 0) h2 (by omega)
    rw [nI_0] at this
    exact this
theorem rm_L_out (hA : rm_A m P Q U D C B M) (h : rm_St P D C B bo bt) {k : Nat} : ∀ i, 0 < rm_n (upd P k 0) i → rm_L (rm_n (upd P k 0)) (rm_n D) (rm_n C) (rm_n B) i ≠ 0 := by
  intro i hi
  have hik : i ≠ k := by
    intro e
    subst e
    rw [rm_n_z, if_pos rfl] at hi
    omega
  have ei : rm_n (upd P k 0) i = rm_n P i := rm_n_n hik
  rw [ei] at hi
  refine rm_L_rm (p := rm_n P) (fun j => ?_) ei (rm_A_used hA hi).2.2.2.1.1 (h i hi).2.2
  by_cases e : j = k
  · right
    rw [rm_n_z, if_pos e]
  · exact Or.inl (rm_n_n e)
theorem rm_A_dem (h : rm_A m P Q U D C B M) {k : Nat} {y : Int32} (hy : 0 < y) : rm_A m P Q U D C B (upd M k y) := by
  obtain ⟨h1, h2, h3, h4, h5⟩ := h
  refine ⟨fun j => ?_, h2, h3, h4, h5⟩
  by_cases e : j = k
  · subst e
    rw [pk_us]
    rcases h1 j with z | z
    · exact Or.inl z
    · exact Or.inr ⟨z.1, z.2.1, z.2.2.1, z.2.2.2.1, hy⟩
  · rw [pk_un e]
    exact h1 j
theorem rm_R_0 : rm_R P (fun _ => 0) := fun _ => Or.inl rfl
theorem rm_upd0 (k : Nat) : upd (fun _ => 0) k 0 = (fun _ => (0 : Int32)) := by
  funext j
  by_cases e : j = k
  · rw [e, pk_us]
  · rw [pk_un e]
theorem rm_upd_back {f : Nat → Int32} {k : Nat} {x y : Int32} (h : f k = y) : upd (upd f k x) k y = f := by
  funext j
  by_cases e : j = k
  · rw [e, pk_us, h]
  · rw [pk_un e, pk_un e]
end
