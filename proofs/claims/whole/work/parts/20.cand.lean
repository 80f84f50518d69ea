/-! a candidate, on both sides -/
theorem rm_vc_admit {u : SX} {v : SY} (I : rm_Rel u v) (v1 v2 v3 v4 : Int32) : wpX_admit (fun r u' => wpY_admit (fun r' v' => r' = r ∧ rm_Rel u' v') v v1 v2 v3 v4) u v1 v2 v3 v4 := by
  have I0 := I
  obtain ⟨m, lc, n, fs, ti, ru, un, fj, ic, pr, P, Q, U, D, C, B, O, M, bo, bt, rl, en, ov, mi, wo, la, re, rt, mk, lg, rfl, rfl, hN, hfs, hA, hSt, hR, hJ, hZ⟩ := I
  have hm : m ≤ 8 := hN.2.1
  rcases hfs with rfl | rfl
  · obtain ⟨rfl, rfl, rfl, rfl, rfl, rfl, rfl, rfl, rfl, rfl, rfl⟩ := hZ rfl
    unfold wpX_admit
    dsimp only
    by_cases hok : rm_ok v1 v2 v3 v4
    · refine br_t rfl (rm_xok (fun _ => br_f (by decide) (rm_xf hA hm ?_)) (fun z => absurd hok z))
      cases hff : rm_ff (rm_n P) m 0 with
      | none => exact br_t rfl (rm_yad_0 hA hm hok hff ⟨rfl, I0⟩)
      | some k =>
        obtain ⟨_, hk, hf⟩ := rm_ff_some m 0 hff
        have hk8 : k < 8 := by omega
        have hz := rm_A_free hA hf
        obtain ⟨p, d, c, b, rfl, rfl, rfl, rfl, hr⟩ := rm_ok_nat hok
        have hA1 := rm_A_put hA (k := k) (p := p) (d := d) (c := c) (b := b) (by omega) hr
        refine br_f (rm_ne1 (by omega)) (rm_xocc hk8 ?_)
        dsimp only
        refine rm_xE hA1 hm (fun hall => br_f (by decide) (rm_xR hA1 hm hall (fun bo bt hSt2 => ?_))) (fun hno => br_t rfl (rm_xvac hk8 ?_))
        · refine rm_yad_k hA hm hok hff hk8 ?_
          rw [rm_upd0]
          refine ⟨9, rm_ya240 hA1 hm hk8 8 0 9 1 (by omega) (by omega) (Or.inr rfl) (fun _ => ⟨rfl, m, lc, n, 0, 0, (-1), un, fj, ic, pr, (upd P k (nI p)), (upd Q k (nI p)), (upd U k 1), (upd D k (nI d)), (upd C k (nI c)), (upd B k (nI b)), (upd O k 0), (upd M k (nI c)), bo, bt, (fun _ => 0), (fun _ => 0), (fun _ => 0), (fun _ => 0), (fun _ => 0), (fun _ => 0), (fun _ => 0), (fun _ => 0), (fun _ => 0), lg, rfl, rfl, hN, Or.inl rfl, hA1, hSt2, rm_R_0, hJ, fun _ => ⟨rfl, rfl, rfl, rfl, rfl, rfl, rfl, rfl, rfl, rfl, rfl⟩⟩) (fun q => ?_)⟩
          rcases q with q | ⟨j, _, hj, hj2⟩
          · exact absurd q (by decide)
          · exact absurd hj2 (hall j hj)
        · rw [rm_upd_back hz.2]
          refine rm_yad_k hA hm hok hff hk8 ?_
          rw [rm_upd0]
          refine ⟨9, rm_ya240 hA1 hm hk8 8 0 9 1 (by omega) (by omega) (Or.inr rfl) (fun q => ?_) (fun _ => ?_)⟩
          · obtain ⟨j, _, hj, hj2⟩ := hno
            exact absurd hj2 (q.2 j (Nat.zero_le _) hj)
          · rw [rm_upd_back hz.1]
            exact ⟨rfl, m, lc, n, 0, 0, (-1), un, fj, ic, pr, P, (upd Q k (nI p)), U, (upd D k (nI d)), (upd C k (nI c)), (upd B k (nI b)), (upd O k 0), (upd M k (nI c)), bo, bt, (fun _ => 0), (fun _ => 0), (fun _ => 0), (fun _ => 0), (fun _ => 0), (fun _ => 0), (fun _ => 0), (fun _ => 0), (fun _ => 0), lg, rfl, rfl, hN, Or.inl rfl, rm_A_no hA hf hr, rm_St_no hA hSt hf, rm_R_0, hJ, fun _ => ⟨rfl, rfl, rfl, rfl, rfl, rfl, rfl, rfl, rfl, rfl, rfl⟩⟩
    · exact br_t rfl (rm_xok (fun z => absurd z hok) (fun _ => br_t rfl (rm_yad_r hok ⟨rfl, I0⟩)))
  · unfold wpX_admit wpY_admit
    dsimp only
    exact br_f (by decide) (br_f (by decide) ⟨rfl, I0⟩)
