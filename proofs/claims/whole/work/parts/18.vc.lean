/-! what is owed, over rm_Rel -/
theorem rm_clamp (x : Int32) {lo hi : Nat} (h : lo ≤ hi) (hh : hi < 2 ^ 31) : ∃ m, lo ≤ m ∧ m ≤ hi ∧ ∀ A : Int32 → Prop, A (nI m) → (nI lo ≤ x → (x ≤ nI hi → A x) ∧ (¬ x ≤ nI hi → A (nI hi))) ∧ (¬ nI lo ≤ x → A (nI lo)) := by
  by_cases h1 : nI lo ≤ x
  · by_cases h2 : x ≤ nI hi
    · have hx : ¬ x < 0 := fun z => nI_pos (n := lo) (by omega) (Int32.lt_of_le_of_lt h1 z)
      obtain ⟨j, hj, rfl⟩ := nI_of hx
      rw [nI_leI (by omega) (by omega)] at h1 h2
      exact ⟨j, h1, h2, fun A a => br_t (nI_le h1 (by omega)) (br_t (nI_le h2 (by omega)) a)⟩
    · exact ⟨hi, h, Nat.le_refl _, fun A a => br_t h1 (br_f h2 a)⟩
  · exact ⟨lo, Nat.le_refl _, h, fun A a => br_f h1 a⟩
theorem rm_A_0 (m : Nat) : rm_A m (fun _ => 0) (fun _ => 0) (fun _ => 0) (fun _ => 0) (fun _ => 0) (fun _ => 0) (fun _ => 0) :=
  ⟨fun _ => Or.inl ⟨rfl, rfl⟩, rm_bd_0, rm_bd_0, rm_bd_0, rm_bd_0⟩
theorem rm_St_0 : rm_St (fun _ => 0) (fun _ => 0) (fun _ => 0) (fun _ => 0) (fun _ => 0) (fun _ => 0) := fun i hi => by
  have e : rm_n (fun _ => 0) i = 0 := rm_n_e (a := fun _ => 0) nI_0.symm (by omega)
  omega
theorem rm_vc0 (k0 k1 : Int32) : wpX_init (fun u => wpY_init (fun v => rm_Rel u v) k0 k1) k0 k1 := by
  obtain ⟨m, hm1, hm2, HM⟩ := rm_clamp k0 (lo := 1) (hi := 8) (by omega) (by omega)
  obtain ⟨lc, hl1, hl2, HL⟩ := rm_clamp k1 (lo := 8) (hi := 32) (by omega) (by omega)
  have HX : ∀ post : Int32 → Prop, post (nI m) → wpX_clamp post k0 1 8 := fun post h => HM post h
  have HX2 : ∀ post : Int32 → Prop, post (nI lc) → wpX_clamp post k1 8 32 := fun post h => HL post h
  unfold wpX_init
  refine HX _ ?_
  refine HX2 _ ?_
  unfold wpY_init
  refine HM (fun z => wY_init_162 _ k1 z _ _ _ _ _ _ _ _ _ _ _ _ _ _ _ _ _ _ _ _ _ _ _ _ _ _) ?_
  unfold wY_init_162
  refine HL (fun z => wY_init_189 _ z _ _ _ _ _ _ _ _ _ _ _ _ _ _ _ _ _ _ _ _ _ _ _ _ _ _) ?_
  unfold wY_init_189
  exact ⟨m, lc, 0, 0, 0, -1, -1, -1, 0, 0, (fun _ => 0), (fun _ => 0), (fun _ => 0), (fun _ => 0), (fun _ => 0), (fun _ => 0), (fun _ => 0), (fun _ => 0), (fun _ => 0), (fun _ => 0), (fun _ => 0), (fun _ => 0), (fun _ => 0), (fun _ => 0), (fun _ => 0), (fun _ => 0), (fun _ => 0), (fun _ => 0), (fun _ => 0), (fun _ => 0), rfl, rfl, ⟨hm1, hm2, hl1, hl2, Nat.zero_le _⟩, Or.inl rfl, rm_A_0 m, rm_St_0, rm_R_0, Or.inl ⟨rfl, rfl⟩, fun _ => ⟨rfl, rfl, rfl, rfl, rfl, rfl, rfl, rfl, rfl, rfl, rfl⟩⟩
theorem rm_vc_start {u : SX} {v : SY} (I : rm_Rel u v) : wpX_start (fun r u' => wpY_start (fun r' v' => r' = r ∧ rm_Rel u' v') v) u := by
  have I0 := I
  obtain ⟨m, lc, n, fs, ti, ru, un, fj, ic, pr, P, Q, U, D, C, B, O, M, bo, bt, rl, en, ov, mi, wo, la, re, rt, mk, lg, rfl, rfl, hN, hfs, hA, hSt, hR, hJ, hZ⟩ := I
  unfold wpX_start wpY_start
  dsimp only
  rcases hfs with rfl | rfl
  · have hti := (hZ rfl).1
    subst hti
    exact br_t rfl (br_t rfl ⟨rfl, m, lc, n, 1, 0, ru, un, fj, ic, pr, P, Q, U, D, C, B, O, M, bo, bt, rl, en, ov, mi, wo, la, re, rt, mk, lg, rfl, rfl, hN, Or.inr rfl, hA, hSt, hR, hJ, fun z => absurd z (by decide)⟩)
  · exact br_f (by decide) (br_f (by decide) ⟨rfl, I0⟩)
theorem rm_vc_run {u : SX} {v : SY} (I : rm_Rel u v) (v1 : Int32) : wpX_run (fun r u' => wpY_run (fun r' v' => r' = r ∧ rm_Rel u' v') v v1) u v1 := by
  have I0 := I
  obtain ⟨m, lc, n, fs, ti, ru, un, fj, ic, pr, P, Q, U, D, C, B, O, M, bo, bt, rl, en, ov, mi, wo, la, re, rt, mk, lg, rfl, rfl, hN, hfs, hA, hSt, hR, hJ, hZ⟩ := I
  rcases hfs with rfl | rfl
  · unfold wpX_run wpY_run
    dsimp only
    exact br_t rfl (br_t rfl ⟨rfl, I0⟩)
  · obtain ⟨N, hN1, hN2, HN⟩ := rm_clamp v1 (lo := 0) (hi := 1000) (by omega) (by omega)
    obtain ⟨r, u2, v2, I2, kX, kY⟩ := rm_run (N := N) (by omega) N 0 _ _ (by omega) I0 rfl
    have HC : ∀ post : Int32 → Prop, post (nI N) → wpX_clamp post v1 0 1000 := fun post h => HN post h
    have HX : ∀ post : Int32 → SX → Prop, post r u2 → wpX_run post ((nI m), (nI lc), nI n, 1, ti, ru, un, ic, pr, P, D, C, B, O, M, bo, bt, rl, en, ov, mi, wo, la, re, rt, mk, lg) v1 := fun post hp => by
      have h := kX post (N + 1) (by omega) hp
      unfold rm_XR at h
      dsimp only at h
      rw [nI_0] at h
      unfold wpX_run
      dsimp only
      exact br_f (by decide) (HC _ ⟨N + 1, h⟩)
    have HY : ∀ post : Int32 → SY → Prop, post r v2 → wpY_run post ((nI m), (nI lc), 1, ti, ru, fj, ic, pr, nI n, U, Q, D, C, B, O, M, rl, en, ov, mi, wo, la, re, rt, mk, lg) v1 := fun post hp => by
      have h := kY post (N + 1) (by omega) hp
      unfold rm_YR at h
      dsimp only at h
      rw [nI_0] at h
      unfold wpY_run
      dsimp only
      exact br_f (by decide) (HN (fun z => ∃ k, wY_run_34 post z k 0 (nI m) (nI lc) 1 ti ru fj ic pr (nI n) U Q D C B O M rl en ov mi wo la re rt mk lg) ⟨N + 1, h⟩)
    exact HX _ (HY _ ⟨rfl, I2⟩)
theorem rm_vc_isStarted {u : SX} {v : SY} (I : rm_Rel u v) : wpX_isStarted (fun r => wpY_isStarted (fun r' => r' = r ∧ rm_Rel u v) v) u := by
  have I0 := I
  obtain ⟨m, lc, n, fs, ti, ru, un, fj, ic, pr, P, Q, U, D, C, B, O, M, bo, bt, rl, en, ov, mi, wo, la, re, rt, mk, lg, rfl, rfl, hN, hfs, hA, hSt, hR, hJ, hZ⟩ := I
  unfold wpX_isStarted wpY_isStarted
  dsimp only
  have hb : narrow .boolean (.int fs) = .int fs := by rcases hfs with rfl | rfl <;> rfl
  exact ⟨hb, hb, rfl, I0⟩
theorem rm_vc_getTaskCount {u : SX} {v : SY} (I : rm_Rel u v) : wpX_getTaskCount (fun r => wpY_getTaskCount (fun r' => r' = r ∧ rm_Rel u v) v) u := by
  have I0 := I
  obtain ⟨m, lc, n, fs, ti, ru, un, fj, ic, pr, P, Q, U, D, C, B, O, M, bo, bt, rl, en, ov, mi, wo, la, re, rt, mk, lg, rfl, rfl, hN, hfs, hA, hSt, hR, hJ, hZ⟩ := I
  exact rm_xc hA hN.2.1 (rm_yc hA ⟨rfl, I0⟩)
theorem rm_vc_getLogEntry {u : SX} {v : SY} (I : rm_Rel u v) (v1 : Int32) : wpX_getLogEntry (fun r => wpY_getLogEntry (fun r' => r' = r ∧ rm_Rel u v) v v1) u v1 := by
  have I0 := I
  obtain ⟨m, lc, n, fs, ti, ru, un, fj, ic, pr, P, Q, U, D, C, B, O, M, bo, bt, rl, en, ov, mi, wo, la, re, rt, mk, lg, rfl, rfl, hN, hfs, hA, hSt, hR, hJ, hZ⟩ := I
  have hN4 := hN.2.2.2.1
  have hN5 := hN.2.2.2.2
  unfold wpX_getLogEntry wpY_getLogEntry
  dsimp only
  by_cases h0 : v1 < 0
  · exact br_t h0 (br_t h0 ⟨rfl, I0⟩)
  · refine br_f h0 ?_
    obtain ⟨j, hj, rfl⟩ := nI_of h0
    by_cases h1 : j < n
    · have i32 : vp_in (nI j) 32 := vp_in_nI (by omega) (by omega)
      exact br_t (nI_lt h1 (by omega)) ⟨i32, br_f h0 (br_f (nI_ge h1 (by omega)) (br_t (nI_lt (b := 32) (by omega) (by omega)) ⟨i32, rfl, I0⟩))⟩
    · exact br_f (nI_nlt (by omega) (by omega)) (br_f h0 (br_t (nI_le (by omega) (by omega)) ⟨rfl, I0⟩))
theorem rm_vc_getTime {u : SX} {v : SY} (I : rm_Rel u v) : wpX_getTime (fun r => wpY_getTime (fun r' => r' = r ∧ rm_Rel u v) v) u := by
  have I0 := I
  obtain ⟨m, lc, n, fs, ti, ru, un, fj, ic, pr, P, Q, U, D, C, B, O, M, bo, bt, rl, en, ov, mi, wo, la, re, rt, mk, lg, rfl, rfl, hN, hfs, hA, hSt, hR, hJ, hZ⟩ := I
  exact ⟨rfl, I0⟩
theorem rm_vc_getRunning {u : SX} {v : SY} (I : rm_Rel u v) : wpX_getRunning (fun r => wpY_getRunning (fun r' => r' = r ∧ rm_Rel u v) v) u := by
  have I0 := I
  obtain ⟨m, lc, n, fs, ti, ru, un, fj, ic, pr, P, Q, U, D, C, B, O, M, bo, bt, rl, en, ov, mi, wo, la, re, rt, mk, lg, rfl, rfl, hN, hfs, hA, hSt, hR, hJ, hZ⟩ := I
  exact ⟨rfl, I0⟩
theorem rm_vc_getIdleTicks {u : SX} {v : SY} (I : rm_Rel u v) : wpX_getIdleTicks (fun r => wpY_getIdleTicks (fun r' => r' = r ∧ rm_Rel u v) v) u := by
  have I0 := I
  obtain ⟨m, lc, n, fs, ti, ru, un, fj, ic, pr, P, Q, U, D, C, B, O, M, bo, bt, rl, en, ov, mi, wo, la, re, rt, mk, lg, rfl, rfl, hN, hfs, hA, hSt, hR, hJ, hZ⟩ := I
  exact ⟨rfl, I0⟩
theorem rm_vc_getPreemptions {u : SX} {v : SY} (I : rm_Rel u v) : wpX_getPreemptions (fun r => wpY_getPreemptions (fun r' => r' = r ∧ rm_Rel u v) v) u := by
  have I0 := I
  obtain ⟨m, lc, n, fs, ti, ru, un, fj, ic, pr, P, Q, U, D, C, B, O, M, bo, bt, rl, en, ov, mi, wo, la, re, rt, mk, lg, rfl, rfl, hN, hfs, hA, hSt, hR, hJ, hZ⟩ := I
  exact ⟨rfl, I0⟩
theorem rm_vc_getLogCount {u : SX} {v : SY} (I : rm_Rel u v) : wpX_getLogCount (fun r => wpY_getLogCount (fun r' => r' = r ∧ rm_Rel u v) v) u := by
  have I0 := I
  obtain ⟨m, lc, n, fs, ti, ru, un, fj, ic, pr, P, Q, U, D, C, B, O, M, bo, bt, rl, en, ov, mi, wo, la, re, rt, mk, lg, rfl, rfl, hN, hfs, hA, hSt, hR, hJ, hZ⟩ := I
  exact ⟨rfl, I0⟩
