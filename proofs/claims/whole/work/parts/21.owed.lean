def i_Rel (_ : Nat) (u : SX) (v : SY) : Prop := rm_Rel u v
theorem i_up {k : Nat} {u : SX} {v : SY} (h : i_Rel k u v) : i_Rel (k + 5) u v := h
theorem i_vc0 (k0 : Int32) (k1 : Int32) : wpX_init (fun u => wpY_init (fun v => i_Rel 2 u v) k0 k1) k0 k1 := rm_vc0 k0 k1
theorem i_vc_admit {k : Nat} {u : SX} {v : SY} (I : i_Rel k u v) (hk : k + 5 ≤ 2562) (v1 : Int32) (v2 : Int32) (v3 : Int32) (v4 : Int32) : wpX_admit (fun r u' => wpY_admit (fun r' v' => r' = r ∧ i_Rel (k + 5) u' v') v v1 v2 v3 v4) u v1 v2 v3 v4 := rm_vc_admit I v1 v2 v3 v4
theorem i_vc_remove {k : Nat} {u : SX} {v : SY} (I : i_Rel k u v) (hk : k + 5 ≤ 2562) (v1 : Int32) : wpX_remove (fun r u' => wpY_remove (fun r' v' => r' = r ∧ i_Rel (k + 5) u' v') v v1) u v1 := rm_vc_remove I v1
theorem i_vc_setOffset {k : Nat} {u : SX} {v : SY} (I : i_Rel k u v) (hk : k + 5 ≤ 2562) (v1 : Int32) (v2 : Int32) : wpX_setOffset (fun r u' => wpY_setOffset (fun r' v' => r' = r ∧ i_Rel (k + 5) u' v') v v1 v2) u v1 v2 := rm_vc_setOffset I v1 v2
theorem i_vc_setDemand {k : Nat} {u : SX} {v : SY} (I : i_Rel k u v) (hk : k + 5 ≤ 2562) (v1 : Int32) (v2 : Int32) : wpX_setDemand (fun r u' => wpY_setDemand (fun r' v' => r' = r ∧ i_Rel (k + 5) u' v') v v1 v2) u v1 v2 := rm_vc_setDemand I v1 v2
theorem i_vc_start {k : Nat} {u : SX} {v : SY} (I : i_Rel k u v) (hk : k + 5 ≤ 2562) : wpX_start (fun r u' => wpY_start (fun r' v' => r' = r ∧ i_Rel (k + 5) u' v') v) u := rm_vc_start I
theorem i_vc_run {k : Nat} {u : SX} {v : SY} (I : i_Rel k u v) (hk : k + 5 ≤ 2562) (v1 : Int32) : wpX_run (fun r u' => wpY_run (fun r' v' => r' = r ∧ i_Rel (k + 5) u' v') v v1) u v1 := rm_vc_run I v1
theorem i_vc_getTask {k : Nat} {u : SX} {v : SY} (I : i_Rel k u v) (hk : k + 5 ≤ 2562) (v1 : Int32) (v2 : Int32) : wpX_getTask (fun r => wpY_getTask (fun r' => r' = r ∧ i_Rel (k + 5) u v) v v1 v2) u v1 v2 := rm_vc_getTask I v1 v2
theorem i_vc_getTaskCount {k : Nat} {u : SX} {v : SY} (I : i_Rel k u v) (hk : k + 5 ≤ 2562) : wpX_getTaskCount (fun r => wpY_getTaskCount (fun r' => r' = r ∧ i_Rel (k + 5) u v) v) u := rm_vc_getTaskCount I
theorem i_vc_isStarted {k : Nat} {u : SX} {v : SY} (I : i_Rel k u v) (hk : k + 5 ≤ 2562) : wpX_isStarted (fun r => wpY_isStarted (fun r' => r' = r ∧ i_Rel (k + 5) u v) v) u := rm_vc_isStarted I
theorem i_vc_getTime {k : Nat} {u : SX} {v : SY} (I : i_Rel k u v) (hk : k + 5 ≤ 2562) : wpX_getTime (fun r => wpY_getTime (fun r' => r' = r ∧ i_Rel (k + 5) u v) v) u := rm_vc_getTime I
theorem i_vc_getRunning {k : Nat} {u : SX} {v : SY} (I : i_Rel k u v) (hk : k + 5 ≤ 2562) : wpX_getRunning (fun r => wpY_getRunning (fun r' => r' = r ∧ i_Rel (k + 5) u v) v) u := rm_vc_getRunning I
theorem i_vc_getIdleTicks {k : Nat} {u : SX} {v : SY} (I : i_Rel k u v) (hk : k + 5 ≤ 2562) : wpX_getIdleTicks (fun r => wpY_getIdleTicks (fun r' => r' = r ∧ i_Rel (k + 5) u v) v) u := rm_vc_getIdleTicks I
theorem i_vc_getPreemptions {k : Nat} {u : SX} {v : SY} (I : i_Rel k u v) (hk : k + 5 ≤ 2562) : wpX_getPreemptions (fun r => wpY_getPreemptions (fun r' => r' = r ∧ i_Rel (k + 5) u v) v) u := rm_vc_getPreemptions I
theorem i_vc_getLogCount {k : Nat} {u : SX} {v : SY} (I : i_Rel k u v) (hk : k + 5 ≤ 2562) : wpX_getLogCount (fun r => wpY_getLogCount (fun r' => r' = r ∧ i_Rel (k + 5) u v) v) u := rm_vc_getLogCount I
theorem i_vc_getLogEntry {k : Nat} {u : SX} {v : SY} (I : i_Rel k u v) (hk : k + 5 ≤ 2562) (v1 : Int32) : wpX_getLogEntry (fun r => wpY_getLogEntry (fun r' => r' = r ∧ i_Rel (k + 5) u v) v v1) u v1 := rm_vc_getLogEntry I v1
