/-! setOffset, setDemand, remove, getTask -/
theorem rm_vc_setOffset {u : SX} {v : SY} (I : rm_Rel u v) (v1 v2 : Int32) : wpX_setOffset (fun r u' => wpY_setOffset (fun r' v' => r' = r ∧ rm_Rel u' v') v v1 v2) u v1 v2 := by
  have I0 := I
  obtain ⟨m, lc, n, fs, ti, ru, un, fj, ic, pr, P, Q, U, D, C, B, O, M, bo, bt, rl, en, ov, mi, wo, la, re, rt, mk, lg, rfl, rfl, hN, hfs, hA, hSt, hR, hJ, hZ⟩ := I
  have hm : m ≤ 8 := hN.2.1
  unfold wpX_setOffset wpY_setOffset
  dsimp only
  rcases hfs with rfl | rfl
  · refine br_t rfl ?_
    by_cases h0 : v1 < 0
    · exact rm_xu_lo h0 (br_t rfl (br_t rfl (br_t h0 ⟨rfl, I0⟩)))
    · rcases pk_ix v1 (n := m) (by omega) with h | h | ⟨j, hj, rfl⟩
      · exact absurd h h0
      · exact rm_xu_hi h0 h (br_t rfl (br_t rfl (br_f h0 (br_t h ⟨rfl, I0⟩))))
      · have cj : (nI j).toNatClampNeg = j := nI_clamp (by omega)
        have ij : vp_in (nI j) 8 := vp_in_nI (by omega) (by omega)
        have hge : ¬ nI m ≤ nI j := nI_ge hj (by omega)
        have hU : U (nI j).toNatClampNeg = 0 ↔ rm_n P j = 0 := by
          rw [cj]
          exact rm_A_U0 hA j
        refine rm_xu hA hm hj (fun hu => br_f (by decide) (rm_xw (fun hw => br_f (by decide) ⟨ij, nm_r (e' := upd O j v2) (by rw [cj]) ?_⟩) (fun hw => br_t rfl ?_))) (fun hu => br_t rfl (br_t rfl (br_f h0 (br_f hge ⟨ij, br_t (hU.mpr hu) ⟨rfl, I0⟩⟩))))
        · exact br_t rfl (br_f h0 (br_f hge ⟨ij, br_f (fun z => by have := hU.mp z; omega) (br_f (Int32.not_lt.mpr hw.1) (br_t hw.2 ⟨ij, nm_r (e' := upd O j v2) (by rw [cj]) ⟨rfl, m, lc, n, 0, ti, ru, un, fj, ic, pr, P, Q, U, D, C, B, (upd O j v2), M, bo, bt, rl, en, ov, mi, wo, la, re, rt, mk, lg, rfl, rfl, hN, Or.inl rfl, hA, hSt, hR, hJ, hZ⟩⟩))⟩))
        · exact br_t rfl (br_f h0 (br_f hge ⟨ij, br_f (fun z => by have := hU.mp z; omega) (br_c (fun _ => ⟨rfl, I0⟩) (fun z => br_c (fun y => absurd ⟨Int32.not_lt.mp z, y⟩ hw) (fun _ => ⟨rfl, I0⟩)))⟩))
  · exact br_f (by decide) (br_f (by decide) ⟨rfl, I0⟩)
theorem rm_vc_setDemand {u : SX} {v : SY} (I : rm_Rel u v) (v1 v2 : Int32) : wpX_setDemand (fun r u' => wpY_setDemand (fun r' v' => r' = r ∧ rm_Rel u' v') v v1 v2) u v1 v2 := by
  have I0 := I
  obtain ⟨m, lc, n, fs, ti, ru, un, fj, ic, pr, P, Q, U, D, C, B, O, M, bo, bt, rl, en, ov, mi, wo, la, re, rt, mk, lg, rfl, rfl, hN, hfs, hA, hSt, hR, hJ, hZ⟩ := I
  have hm : m ≤ 8 := hN.2.1
  unfold wpX_setDemand wpY_setDemand
  dsimp only
  by_cases h0 : v1 < 0
  · exact rm_xu_lo h0 (br_t rfl (br_t h0 ⟨rfl, I0⟩))
  · rcases pk_ix v1 (n := m) (by omega) with h | h | ⟨j, hj, rfl⟩
    · exact absurd h h0
    · exact rm_xu_hi h0 h (br_t rfl (br_f h0 (br_t h ⟨rfl, I0⟩)))
    · have cj : (nI j).toNatClampNeg = j := nI_clamp (by omega)
      have ij : vp_in (nI j) 8 := vp_in_nI (by omega) (by omega)
      have hge : ¬ nI m ≤ nI j := nI_ge hj (by omega)
      have hU : U (nI j).toNatClampNeg = 0 ↔ rm_n P j = 0 := by
        rw [cj]
        exact rm_A_U0 hA j
      refine rm_xu hA hm hj (fun hu => br_f (by decide) (rm_xw (fun hw => br_f (by decide) ⟨ij, nm_r (e' := upd M j v2) (by rw [cj]) ?_⟩) (fun hw => br_t rfl ?_))) (fun hu => br_t rfl (br_f h0 (br_f hge ⟨ij, br_t (hU.mpr hu) ⟨rfl, I0⟩⟩)))
      · have hpos : 0 < v2 := Int32.lt_of_lt_of_le (by decide) hw.1
        exact br_f h0 (br_f hge ⟨ij, br_f (fun z => by have := hU.mp z; omega) (br_f (Int32.not_lt.mpr hw.1) (br_t hw.2 ⟨ij, nm_r (e' := upd M j v2) (by rw [cj]) ⟨rfl, m, lc, n, fs, ti, ru, un, fj, ic, pr, P, Q, U, D, C, B, O, (upd M j v2), bo, bt, rl, en, ov, mi, wo, la, re, rt, mk, lg, rfl, rfl, hN, hfs, rm_A_dem hA hpos, hSt, hR, hJ, hZ⟩⟩))⟩)
      · exact br_f h0 (br_f hge ⟨ij, br_f (fun z => by have := hU.mp z; omega) (br_c (fun _ => ⟨rfl, I0⟩) (fun z => br_c (fun y => absurd ⟨Int32.not_lt.mp z, y⟩ hw) (fun _ => ⟨rfl, I0⟩)))⟩)
theorem rm_vc_remove {u : SX} {v : SY} (I : rm_Rel u v) (v1 : Int32) : wpX_remove (fun r u' => wpY_remove (fun r' v' => r' = r ∧ rm_Rel u' v') v v1) u v1 := by
  have I0 := I
  obtain ⟨m, lc, n, fs, ti, ru, un, fj, ic, pr, P, Q, U, D, C, B, O, M, bo, bt, rl, en, ov, mi, wo, la, re, rt, mk, lg, rfl, rfl, hN, hfs, hA, hSt, hR, hJ, hZ⟩ := I
  have hm : m ≤ 8 := hN.2.1
  unfold wpX_remove wpY_remove
  dsimp only
  rcases hfs with rfl | rfl
  · refine br_t rfl ?_
    by_cases h0 : v1 < 0
    · exact rm_xu_lo h0 (br_t rfl (br_t rfl (br_t h0 ⟨rfl, I0⟩)))
    · rcases pk_ix v1 (n := m) (by omega) with h | h | ⟨j, hj, rfl⟩
      · exact absurd h h0
      · exact rm_xu_hi h0 h (br_t rfl (br_t rfl (br_f h0 (br_t h ⟨rfl, I0⟩))))
      · have cj : (nI j).toNatClampNeg = j := nI_clamp (by omega)
        have ij : vp_in (nI j) 8 := vp_in_nI (by omega) (by omega)
        have hge : ¬ nI m ≤ nI j := nI_ge hj (by omega)
        have hU : U (nI j).toNatClampNeg = 0 ↔ rm_n P j = 0 := by
          rw [cj]
          exact rm_A_U0 hA j
        refine rm_xu hA hm hj (fun hu => br_f (by decide) (rm_xvac (by omega) ?_)) (fun hu => br_t rfl (br_t rfl (br_f h0 (br_f hge ⟨ij, br_t (hU.mpr hu) ⟨rfl, I0⟩⟩))))
        have hA2 : rm_A m (upd P j 0) Q (upd U j 0) D C B M := rm_A_out hA
        refine rm_xR hA2 hm (rm_L_out hA hSt) (fun bo bt hSt2 => ?_)
        have hre : re = fun _ => 0 := (hZ rfl).2.2.2.2.2.2.2.2.1
        exact br_t rfl (br_f h0 (br_f hge ⟨ij, br_f (fun z => by have := hU.mp z; omega) ⟨ij, nm_r (e' := upd U j 0) (by rw [cj]; rfl) ⟨rfl, m, lc, n, 0, ti, ru, un, fj, ic, pr, (upd P j 0), Q, (upd U j 0), D, C, B, O, M, bo, bt, rl, en, ov, mi, wo, la, re, rt, mk, lg, rfl, rfl, hN, Or.inl rfl, hA2, hSt2, by rw [hre]; exact rm_R_0, hJ, hZ⟩⟩⟩))
  · exact br_f (by decide) (br_f (by decide) ⟨rfl, I0⟩)
theorem rm_15 {A : Nat → Prop} {j : Nat} (hj : j < 15) (h0 : A 0) (h1 : A 1) (h2 : A 2) (h3 : A 3) (h4 : A 4) (h5 : A 5) (h6 : A 6) (h7 : A 7) (h8 : A 8) (h9 : A 9) (h10 : A 10) (h11 : A 11) (h12 : A 12) (h13 : A 13) (h14 : A 14) : A j :=
  match j, hj with
  | 0, _ => h0
  | 1, _ => h1
  | 2, _ => h2
  | 3, _ => h3
  | 4, _ => h4
  | 5, _ => h5
  | 6, _ => h6
  | 7, _ => h7
  | 8, _ => h8
  | 9, _ => h9
  | 10, _ => h10
  | 11, _ => h11
  | 12, _ => h12
  | 13, _ => h13
  | 14, _ => h14
theorem rm_vc_getTask {u : SX} {v : SY} (I : rm_Rel u v) (v1 v2 : Int32) : wpX_getTask (fun r => wpY_getTask (fun r' => r' = r ∧ rm_Rel u v) v v1 v2) u v1 v2 := by
  have I0 := I
  obtain ⟨m, lc, n, fs, ti, ru, un, fj, ic, pr, P, Q, U, D, C, B, O, M, bo, bt, rl, en, ov, mi, wo, la, re, rt, mk, lg, rfl, rfl, hN, hfs, hA, hSt, hR, hJ, hZ⟩ := I
  have hm : m ≤ 8 := hN.2.1
  by_cases h0 : v1 < 0
  · unfold wpX_getTask wpY_getTask
    dsimp only
    exact rm_xu_lo h0 (br_t rfl (br_t h0 ⟨rfl, I0⟩))
  · rcases pk_ix v1 (n := m) (by omega) with h | h | ⟨j, hj, rfl⟩
    · exact absurd h h0
    · unfold wpX_getTask wpY_getTask
      dsimp only
      exact rm_xu_hi h0 h (br_t rfl (br_f h0 (br_t h ⟨rfl, I0⟩)))
    · have cj : (nI j).toNatClampNeg = j := nI_clamp (by omega)
      have ij : vp_in (nI j) 8 := vp_in_nI (by omega) (by omega)
      have hge : ¬ nI m ≤ nI j := nI_ge hj (by omega)
      have hU : U (nI j).toNatClampNeg = 0 ↔ rm_n P j = 0 := by
        rw [cj]
        exact rm_A_U0 hA j
      by_cases hu : 0 < rm_n P j
      · have hP : 0 < P j := (rm_A_Ppos hA j).mpr hu
        have hq : P j = Q j := (rm_A_used hA hu).2.1
        obtain ⟨s1, s2, s3⟩ := hSt j hu
        have hB : rm_yl (rm_L (rm_n P) (rm_n D) (rm_n C) (rm_n B) j) = bo j := by
          rw [s2]
          exact if_neg s3
        have hT : nI (rm_T (rm_n P) (rm_n B) j 8) = bt j := s1.symm
        have hUn : ¬ U (nI j).toNatClampNeg = 0 := fun z => by
          have := hU.mp z
          omega
        by_cases k0 : v2 < 0
        · unfold wpX_getTask wpY_getTask
          dsimp only
          exact rm_xu_t hm hj hP (br_f (by decide) (br_t k0 (br_f h0 (br_f hge ⟨ij, br_f hUn (br_t k0 ⟨rfl, I0⟩)⟩))))
        · rcases pk_ix v2 (n := 15) (by omega) with k1 | k1 | ⟨f, hf, rfl⟩
          · exact absurd k1 k0
          · have k2 : (14 : Int32) < v2 := Int32.lt_of_lt_of_le (show (14 : Int32) < nI 15 by decide) k1
            unfold wpX_getTask wpY_getTask
            dsimp only
            exact rm_xu_t hm hj hP (br_f (by decide) (br_f k0 (br_t k2 (br_f h0 (br_f hge ⟨ij, br_f hUn (br_f k0 (br_f (Int32.not_le.mpr k2) ⟨rfl, I0⟩))⟩)))))
          · exact rm_15 (A := fun f => wpX_getTask (fun r => wpY_getTask (fun r' => r' = r ∧ rm_Rel _ _) _ (nI j) (nI f)) _ (nI j) (nI f)) hf (rm_gx0 hm hj hP (rm_gy0 hA hm hj hu ⟨hq.symm, I0⟩)) (rm_gx1 hm hj hP (rm_gy1 hA hm hj hu ⟨rfl, I0⟩)) (rm_gx2 hm hj hP (rm_gy2 hA hm hj hu ⟨rfl, I0⟩)) (rm_gx3 hm hj hP (rm_gy3 hA hm hj hu ⟨rfl, I0⟩)) (rm_gx4 hm hj hP (rm_gy4 hA hm hj hu ⟨rfl, I0⟩)) (rm_gx5 hm hj hP (rm_gy5 hA hm hj hu ⟨rfl, I0⟩)) (rm_gx6 hm hj hP (rm_gy6 hA hm hj hu ⟨hB, I0⟩)) (rm_gx7 hm hj hP (rm_gy7 hA hm hj hu ⟨hT, I0⟩)) (rm_gx8 hm hj hP (rm_gy8 hA hm hj hu ⟨rfl, I0⟩)) (rm_gx9 hm hj hP (rm_gy9 hA hm hj hu ⟨rfl, I0⟩)) (rm_gx10 hm hj hP (rm_gy10 hA hm hj hu ⟨rfl, I0⟩)) (rm_gx11 hm hj hP (rm_gy11 hA hm hj hu ⟨rfl, I0⟩)) (rm_gx12 hm hj hP (rm_gy12 hA hm hj hu ⟨rfl, I0⟩)) (rm_gx13 hm hj hP (rm_gy13 hA hm hj hu ⟨rfl, I0⟩)) (rm_gx14 hm hj hP (rm_gy14 hA hm hj hu ⟨rfl, I0⟩))
      · unfold wpX_getTask wpY_getTask
        dsimp only
        have hz : rm_n P j = 0 := by omega
        exact rm_xu_f hm hj (rm_A_free hA hz).2 (br_t rfl (br_f h0 (br_f hge ⟨ij, br_t (hU.mpr hz) ⟨rfl, I0⟩⟩)))
