/-! run: ticks in lockstep -/
def rm_XR (post : Int32 → SX → Prop) (x : Int32) (n : Nat) (i : Int32) (u : SX) : Prop := match u with
  | (a0, a1, a2, a3, a4, a5, a6, a7, a8, a9, a10, a11, a12, a13, a14, a15, a16, a17, a18, a19, a20, a21, a22, a23, a24, a25, a26) => wX_run_20 post x n i a0 a1 a2 a3 a4 a5 a6 a7 a8 a9 a10 a11 a12 a13 a14 a15 a16 a17 a18 a19 a20 a21 a22 a23 a24 a25 a26
def rm_YR (post : Int32 → SY → Prop) (x : Int32) (n : Nat) (i : Int32) (v : SY) : Prop := match v with
  | (a0, a1, a2, a3, a4, a5, a6, a7, a8, a9, a10, a11, a12, a13, a14, a15, a16, a17, a18, a19, a20, a21, a22, a23, a24, a25) => wY_run_34 post x n i a0 a1 a2 a3 a4 a5 a6 a7 a8 a9 a10 a11 a12 a13 a14 a15 a16 a17 a18 a19 a20 a21 a22 a23 a24 a25
theorem rm_XR_s {post : Int32 → SX → Prop} {x : Int32} {n i : Nat} {u : SX} (h : rm_XR post x n (nI (i + 1)) u) : (fun u : SX => match u with
  | (a0, a1, a2, a3, a4, a5, a6, a7, a8, a9, a10, a11, a12, a13, a14, a15, a16, a17, a18, a19, a20, a21, a22, a23, a24, a25, a26) => ∀ y : Int32, y = nI i + 1 → wX_run_20 post x n y a0 a1 a2 a3 a4 a5 a6 a7 a8 a9 a10 a11 a12 a13 a14 a15 a16 a17 a18 a19 a20 a21 a22 a23 a24 a25 a26) u := by
  obtain ⟨a0, a1, a2, a3, a4, a5, a6, a7, a8, a9, a10, a11, a12, a13, a14, a15, a16, a17, a18, a19, a20, a21, a22, a23, a24, a25, a26⟩ := u
  exact nm_r (nI_1 i) h
theorem rm_YR_s {post : Int32 → SY → Prop} {x : Int32} {n i : Nat} {v : SY} (h : rm_YR post x n (nI (i + 1)) v) : (fun v : SY => match v with
  | (a0, a1, a2, a3, a4, a5, a6, a7, a8, a9, a10, a11, a12, a13, a14, a15, a16, a17, a18, a19, a20, a21, a22, a23, a24, a25) => ∀ y : Int32, y = nI i + 1 → wY_run_34 post x n y a0 a1 a2 a3 a4 a5 a6 a7 a8 a9 a10 a11 a12 a13 a14 a15 a16 a17 a18 a19 a20 a21 a22 a23 a24 a25) v := by
  obtain ⟨a0, a1, a2, a3, a4, a5, a6, a7, a8, a9, a10, a11, a12, a13, a14, a15, a16, a17, a18, a19, a20, a21, a22, a23, a24, a25⟩ := v
  exact nm_r (nI_1 i) h
theorem rm_XR_t {post : Int32 → SX → Prop} {N n i : Nat} {u u' : SX} (hi : i < N) (hN : N < 2 ^ 31) (hT : ∀ post, post u' → wpX_runOneTick post u) (h : rm_XR post (nI N) n (nI (i + 1)) u') : rm_XR post (nI N) (n + 1) (nI i) u := by
  obtain ⟨a0, a1, a2, a3, a4, a5, a6, a7, a8, a9, a10, a11, a12, a13, a14, a15, a16, a17, a18, a19, a20, a21, a22, a23, a24, a25, a26⟩ := u
  unfold rm_XR
  dsimp only
  rw [wX_run_20]
  exact br_f (nI_ge hi hN) (hT _ (rm_XR_s h))
theorem rm_YR_t {post : Int32 → SY → Prop} {N n i : Nat} {v v' : SY} (hi : i < N) (hN : N < 2 ^ 31) (hT : ∀ post, post v' → wpY_tick post v) (h : rm_YR post (nI N) n (nI (i + 1)) v') : rm_YR post (nI N) (n + 1) (nI i) v := by
  obtain ⟨a0, a1, a2, a3, a4, a5, a6, a7, a8, a9, a10, a11, a12, a13, a14, a15, a16, a17, a18, a19, a20, a21, a22, a23, a24, a25⟩ := v
  unfold rm_YR
  dsimp only
  rw [wY_run_34]
  exact br_f (nI_ge hi hN) (hT _ (rm_YR_s h))
theorem rm_run {N : Nat} (hN : N < 2 ^ 31) : ∀ e i (u : SX) (v : SY), i + e = N → rm_Rel u v → u.2.2.2.1 = 1 → ∃ r u' v', rm_Rel u' v' ∧ (∀ post : Int32 → SX → Prop, ∀ n, e < n → post r u' → rm_XR post (nI N) n (nI i) u) ∧ (∀ post : Int32 → SY → Prop, ∀ n, e < n → post r v' → rm_YR post (nI N) n (nI i) v) := by
  intro e
  induction e with
  | zero =>
    intro i u v hi I hs
    have I0 := I
    obtain ⟨m, lc, n, fs, ti, ru, un, fj, ic, pr, P, Q, U, D, C, B, O, M, bo, bt, rl, en, ov, mi, wo, la, re, rt, mk, lg, rfl, rfl, -⟩ := I
    refine ⟨ti, _, _, I0, fun post k hk hp => ?_, fun post k hk hp => ?_⟩
    · obtain ⟨k, rfl⟩ : ∃ j, k = j + 1 := ⟨k - 1, by omega⟩
      unfold rm_XR
      dsimp only
      rw [wX_run_20]
      exact br_t (nI_le (by omega) (by omega)) hp
    · obtain ⟨k, rfl⟩ : ∃ j, k = j + 1 := ⟨k - 1, by omega⟩
      unfold rm_YR
      dsimp only
      rw [wY_run_34]
      exact br_t (nI_le (by omega) (by omega)) hp
  | succ e ih =>
    intro i u v hi I hs
    obtain ⟨u1, v1, I1, hs1, hX, hY⟩ := rm_tick I hs
    obtain ⟨r, u2, v2, I2, kX, kY⟩ := ih (i + 1) u1 v1 (by omega) I1 hs1
    refine ⟨r, u2, v2, I2, fun post k hk hp => ?_, fun post k hk hp => ?_⟩
    · obtain ⟨k, rfl⟩ : ∃ j, k = j + 1 := ⟨k - 1, by omega⟩
      exact rm_XR_t (by omega) hN hX (kX post k (by omega) hp)
    · obtain ⟨k, rfl⟩ : ∃ j, k = j + 1 := ⟨k - 1, by omega⟩
      exact rm_YR_t (by omega) hN hY (kY post k (by omega) hp)
