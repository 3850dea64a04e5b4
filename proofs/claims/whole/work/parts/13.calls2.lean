theorem i_vc_kind {k : Nat} {u : SX} {v : SY} (I : i_Rel k u v) (hk : k + 4 ≤ 2048) (v1 : Int32) : wpX_kind (fun r => wpY_kind (fun r' v' => r' = r ∧ i_Rel (k + 4) u v') v v1) u v1 := by
  obtain ⟨nx, ou, ap, fp, ps, fr, bw, kn, w, rfl, rfl, hok, hA⟩ := I
  unfold wpX_kind
  dsimp only
  rcases mt_cs v1 (n := 16) (by omega) with hx | ⟨s, hs, rfl⟩
  · refine mx_st0 hx (br_t rfl ?_)
    unfold wpY_kind
    dsimp only
    exact my_st0 hx (br_t rfl ⟨rfl, mt_rel hok hA⟩)
  · exact mx_st hs (br_f (by decide) (mx_small hok hA hs (my_kind hok hs (fun _ _ _ _ _ _ => ⟨rfl, mt_rel hok hA⟩))))
theorem i_vc_kinds {k : Nat} {u : SX} {v : SY} (I : i_Rel k u v) (hk : k + 4 ≤ 2048) : wpX_kinds (fun r => wpY_kinds (fun r' v' => r' = r ∧ i_Rel (k + 4) u v') v) u := by
  obtain ⟨nx, ou, ap, fp, ps, fr, bw, kn, w, rfl, rfl, hok, hA⟩ := I
  unfold wpX_kinds
  dsimp only
  refine mx_count hok hA (my_kinds hok (fun _ _ _ _ _ _ => ⟨?_, mt_rel hok hA⟩))
  refine congrArg nI (mt_cb_eq 16 (fun i hi => ?_))
  exact (mt_ks_all (fun s hs => by rw [b_65535]; exact decide_eq_true hs) hi).symm
theorem i_vc_reachableKinds {k : Nat} {u : SX} {v : SY} (I : i_Rel k u v) (hk : k + 4 ≤ 2048) (v1 : Int32) : wpX_reachableKinds (fun r => wpY_reachableKinds (fun r' v' => r' = r ∧ i_Rel (k + 4) u v') v v1) u v1 := by
  obtain ⟨nx, ou, ap, fp, ps, fr, bw, kn, w, rfl, rfl, hok, hA⟩ := I
  unfold wpX_reachableKinds
  dsimp only
  rcases mt_cs v1 (n := 16) (by omega) with hx | ⟨s, hs, rfl⟩
  · refine mx_st0 hx (br_t rfl ?_)
    unfold wpY_reachableKinds
    dsimp only
    exact my_st0 hx (br_t rfl ⟨rfl, mt_rel hok hA⟩)
  · have h0 : mt_Rn (mt_f nx) s 0 (bt ((1 : Int32) <<< (nI s &&& 31))) := mt_Rn_0 hs (fun i hi => mk_shl s (by omega) i (by omega))
    refine mx_st hs (br_f (by decide) (nm_e ⟨16, mx_rk15 hok hs (fun y hy => mx_count hok hA ?_) 16 0 _ (by omega) (by omega) h0⟩))
    unfold wpY_reachableKinds
    dsimp only
    refine my_st hs (br_f (by decide) (nm_e ⟨17, my_r16 hok hs (fun y2 hy2 _ _ _ _ _ _ => ⟨?_, mt_rel hok hA⟩) 17 0 _ (by omega) (by omega) h0⟩))
    refine congrArg nI (mt_cb_eq 16 (fun i _ => ?_))
    exact mt_ks_eq (fun s2 hs2 => mt_Rn_eq (mt_ok_f hok) (by omega) (by omega) hy2 hy hs2) i
theorem i_vc_depth {k : Nat} {u : SX} {v : SY} (I : i_Rel k u v) (hk : k + 4 ≤ 2048) : wpX_depth (fun r => wpY_depth (fun r' v' => r' = r ∧ i_Rel (k + 4) u v') v) u := by
  obtain ⟨nx, ou, ap, fp, ps, fr, bw, kn, w, rfl, rfl, hok, hA⟩ := I
  exact mx_depth hok hA (fun m hm => my_depth hok (fun m2 hm2 _ _ _ _ _ _ => ⟨congrArg nI (mt_mx_uq hm2 hm), mt_rel hok hA⟩))
theorem i_vc_run {k : Nat} {u : SX} {v : SY} (I : i_Rel k u v) (hk : k + 4 ≤ 2048) (v1 : Int32) (v2 : Int32) (v3 : Int32) : wpX_run (fun r => wpY_run (fun r' => r' = r ∧ i_Rel (k + 4) u v) v v1 v2 v3) u v1 v2 v3 := by
  obtain ⟨nx, ou, ap, fp, ps, fr, bw, kn, w, rfl, rfl, hok, hA⟩ := I
  unfold wpX_run
  dsimp only
  rcases mt_cs v1 (n := 16) (by omega) with hx | ⟨s, hs, rfl⟩
  · refine mx_st0 hx (br_t rfl ?_)
    unfold wpY_run
    dsimp only
    exact my_st0 hx (br_t rfl ⟨rfl, mt_rel hok hA⟩)
  · by_cases h3 : v3 < 0
    · refine mx_st hs (br_f (by decide) (br_t h3 ?_))
      unfold wpY_run
      dsimp only
      exact my_st hs (br_f (by decide) (br_t h3 ⟨rfl, mt_rel hok hA⟩))
    · obtain ⟨n, hn, rfl⟩ := nI_of h3
      refine mx_st hs (br_f (by decide) (br_f h3 (pk_le n 10 (fun z => ?_) (fun z => ?_))))
      · obtain ⟨r, hX, hY⟩ := mz_run (ou := ou) (ps := ps) (fr := fr) (bw := bw) (kn := kn) (w := w) (fp := fp) (ap := ap) (x := v2) hok z n 0 s (by omega) hs
        refine ⟨n + 1, hX _ ?_⟩
        unfold wpY_run
        dsimp only
        exact my_st hs (br_f (by decide) (br_f h3 (pk_le n 10 (fun _ => ⟨n + 1, hY _ ⟨rfl, mt_rel hok hA⟩⟩) (fun q => absurd z (by omega)))))
      · unfold wpY_run
        dsimp only
        exact my_st hs (br_f (by decide) (br_f h3 (pk_le n 10 (fun q => absurd z (by omega)) (fun _ => ⟨rfl, mt_rel hok hA⟩))))
