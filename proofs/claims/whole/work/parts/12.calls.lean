theorem i_vc_transition {k : Nat} {u : SX} {v : SY} (I : i_Rel k u v) (hk : k + 4 ≤ 2048) (v1 : Int32) (v2 : Int32) (v3 : Int32) : wpX_transition (fun r u' => wpY_transition (fun r' v' => r' = r ∧ i_Rel (k + 4) u' v') v v1 v2 v3) u v1 v2 v3 := by
  obtain ⟨nx, ou, ap, fp, ps, fr, bw, kn, w, rfl, rfl, hok, hA⟩ := I
  unfold wpX_transition
  dsimp only
  rcases mt_cs v1 (n := 16) (by omega) with hx | ⟨s, hs, rfl⟩
  · refine mx_st0 hx (br_t rfl ?_)
    unfold wpY_transition
    dsimp only
    exact my_st0 hx (br_t rfl ⟨rfl, mt_rel hok hA⟩)
  · rcases mt_cs v2 (n := 3) (by omega) with hx | ⟨i, hi, rfl⟩
    · refine mx_st hs (br_f (by decide) (mx_in0 hx (br_t rfl ?_)))
      unfold wpY_transition
      dsimp only
      exact my_st hs (br_f (by decide) (my_in0 hx (br_t rfl ⟨rfl, mt_rel hok hA⟩)))
    · have hp : vp_in (nI (s * 3 + i)) 48 := vp_in_nI (by omega) (by omega)
      have c : (nI (s * 3 + i)).toNatClampNeg = s * 3 + i := nI_clamp (by omega)
      obtain ⟨t, ht, et⟩ := pk_andE v3 (m := 15) 4 (by decide)
      have ht' : t < 16 := ht
      refine mx_st hs (br_f (by decide) (mx_in hi (br_f (by decide) (mx_place ?_))))
      rw [c, et]
      refine ⟨hp, hp, nm_e ⟨hp, nm_e ⟨hp, nm_e (mx_measure (mt_ok_u hok ht') (fun ap2 hA2 => ?_))⟩⟩⟩
      unfold wpY_transition
      dsimp only
      refine my_st hs (br_f (by decide) (my_in hi (br_f (by decide) (nm_r (mx_ix3 s i) ?_))))
      rw [c, et]
      exact ⟨hp, hp, nm_e ⟨hp, nm_e ⟨hp, nm_e ⟨rfl, mt_rel (mt_ok_u hok ht') hA2⟩⟩⟩⟩
theorem i_vc_exchange {k : Nat} {u : SX} {v : SY} (I : i_Rel k u v) (hk : k + 4 ≤ 2048) (v1 : Int32) (v2 : Int32) (v3 : Int32) : wpX_exchange (fun r u' => wpY_exchange (fun r' v' => r' = r ∧ i_Rel (k + 4) u' v') v v1 v2 v3) u v1 v2 v3 := by
  obtain ⟨nx, ou, ap, fp, ps, fr, bw, kn, w, rfl, rfl, hok, hA⟩ := I
  unfold wpX_exchange
  dsimp only
  rcases mt_cs v1 (n := 16) (by omega) with hx | ⟨a, ha, rfl⟩
  · refine mx_st0 hx (br_t rfl ?_)
    unfold wpY_exchange
    dsimp only
    exact my_st0 hx (br_t rfl ⟨rfl, mt_rel hok hA⟩)
  · rcases mt_cs v2 (n := 16) (by omega) with hx | ⟨b, hb, rfl⟩
    · refine mx_st ha (br_f (by decide) (mx_st0 hx (br_t rfl ?_)))
      unfold wpY_exchange
      dsimp only
      exact my_st ha (br_f (by decide) (my_st0 hx (br_t rfl ⟨rfl, mt_rel hok hA⟩)))
    · rcases mt_cs v3 (n := 3) (by omega) with hx | ⟨i, hi, rfl⟩
      · refine mx_st ha (br_f (by decide) (mx_st hb (br_f (by decide) (mx_in0 hx (br_t rfl ?_)))))
        unfold wpY_exchange
        dsimp only
        exact my_st ha (br_f (by decide) (my_st hb (br_f (by decide) (my_in0 hx (br_t rfl ⟨rfl, mt_rel hok hA⟩)))))
      · have hp : vp_in (nI (a * 3 + i)) 48 := vp_in_nI (by omega) (by omega)
        have hq : vp_in (nI (b * 3 + i)) 48 := vp_in_nI (by omega) (by omega)
        refine mx_st ha (br_f (by decide) (mx_st hb (br_f (by decide) (mx_in hi (br_f (by decide) (mx_place (mx_place ?_)))))))
        refine ⟨hp, nm_e ⟨hq, hp, nm_e ⟨hq, nm_e (mx_measure hok (fun ap2 hA2 => ?_))⟩⟩⟩
        unfold wpY_exchange
        dsimp only
        refine my_st ha (br_f (by decide) (my_st hb (br_f (by decide) (my_in hi (br_f (by decide) ?_)))))
        rw [mx_ix3, mx_ix3]
        exact ⟨hp, nm_e ⟨hq, hp, nm_e ⟨hq, nm_e ⟨rfl, mt_rel hok hA2⟩⟩⟩⟩
theorem mx_ap {nx ou ap : Nat → Int32} (hA : mt_Ad (mt_f nx) ou ap) {a b : Nat} (ha : a < 16) (hb : b < 16) : ap (nI (a * 16 + b)).toNatClampNeg = nI (mt_D (mt_f nx) ou a b) := by
  rw [nI_clamp (by omega)]
  exact hA a b ha hb
theorem i_vc_alike {k : Nat} {u : SX} {v : SY} (I : i_Rel k u v) (hk : k + 4 ≤ 2048) (v1 : Int32) (v2 : Int32) : wpX_alike (fun r => wpY_alike (fun r' v' => r' = r ∧ i_Rel (k + 4) u v') v v1 v2) u v1 v2 := by
  obtain ⟨nx, ou, ap, fp, ps, fr, bw, kn, w, rfl, rfl, hok, hA⟩ := I
  unfold wpX_alike
  dsimp only
  rcases mt_cs v1 (n := 16) (by omega) with hx | ⟨a, ha, rfl⟩
  · refine mx_st0 hx (br_t rfl ?_)
    unfold wpY_alike
    dsimp only
    exact my_st0 hx (br_t rfl ⟨rfl, mt_rel hok hA⟩)
  · rcases mt_cs v2 (n := 16) (by omega) with hx | ⟨b, hb, rfl⟩
    · refine mx_st ha (br_f (by decide) (mx_st0 hx (br_t rfl ?_)))
      unfold wpY_alike
      dsimp only
      exact my_st ha (br_f (by decide) (my_st0 hx (br_t rfl ⟨rfl, mt_rel hok hA⟩)))
    · have hm := mt_moore (o := ou) (mt_ok_f hok) ha hb
      refine mx_st ha (br_f (by decide) (mx_st hb (br_f (by decide) (mx_pair ⟨vp_in_nI (by omega) (by omega), ?_⟩))))
      refine pk_eq (mt_D (mt_f nx) ou a b) 0 (fun z => ?_) (fun z => ?_) (mx_ap hA ha hb)
      · exact my_alike hok ha hb (fun _ _ _ _ _ _ _ => ⟨rfl, mt_rel hok hA⟩) (fun q => absurd z q)
      · exact my_alike hok ha hb (fun q => absurd q z) (fun _ _ _ _ _ _ _ => ⟨rfl, mt_rel hok hA⟩)
theorem i_vc_distance {k : Nat} {u : SX} {v : SY} (I : i_Rel k u v) (hk : k + 4 ≤ 2048) (v1 : Int32) (v2 : Int32) : wpX_distance (fun r => wpY_distance (fun r' v' => r' = r ∧ i_Rel (k + 4) u v') v v1 v2) u v1 v2 := by
  obtain ⟨nx, ou, ap, fp, ps, fr, bw, kn, w, rfl, rfl, hok, hA⟩ := I
  unfold wpX_distance
  dsimp only
  rcases mt_cs v1 (n := 16) (by omega) with hx | ⟨a, ha, rfl⟩
  · refine mx_st0 hx (br_t rfl ?_)
    unfold wpY_distance
    dsimp only
    exact my_st0 hx (br_t rfl ⟨rfl, mt_rel hok hA⟩)
  · rcases mt_cs v2 (n := 16) (by omega) with hx | ⟨b, hb, rfl⟩
    · refine mx_st ha (br_f (by decide) (mx_st0 hx (br_t rfl ?_)))
      unfold wpY_distance
      dsimp only
      exact my_st ha (br_f (by decide) (my_st0 hx (br_t rfl ⟨rfl, mt_rel hok hA⟩)))
    · have hm := mt_moore (o := ou) (mt_ok_f hok) ha hb
      refine mx_st ha (br_f (by decide) (mx_st hb (br_f (by decide) (mx_pair ⟨vp_in_nI (by omega) (by omega), nm_r (mx_ap hA ha hb) ?_⟩))))
      refine pk_eq (mt_D (mt_f nx) ou a b) 0 (fun z => ?_) (fun z => ?_)
      · unfold wpY_distance
        dsimp only
        refine my_st ha (br_f (by decide) (my_st hb (br_f (by decide) (my_search hok ha hb (fun n fp ps fr bw kn w hw => ?_)))))
        have hn := my_wb hok ha hb hw
        exact pk_eq n 0 (fun _ => ⟨rfl, mt_rel hok hA⟩) (fun q => absurd (hw.1.trans z) q)
      · unfold wpY_distance
        dsimp only
        refine my_st ha (br_f (by decide) (my_st hb (br_f (by decide) (my_search hok ha hb (fun n fp ps fr bw kn w hw => ?_)))))
        have hn := my_wb hok ha hb hw
        exact pk_eq n 0 (fun q => absurd (hw.1.symm.trans q) z) (fun _ => ⟨congrArg nI hw.1, mt_rel hok hA⟩)
theorem i_vc_teller {k : Nat} {u : SX} {v : SY} (I : i_Rel k u v) (hk : k + 4 ≤ 2048) (v1 : Int32) (v2 : Int32) (v3 : Int32) : wpX_teller (fun r => wpY_teller (fun r' v' => r' = r ∧ i_Rel (k + 4) u v') v v1 v2 v3) u v1 v2 v3 := by
  obtain ⟨nx, ou, ap, fp, ps, fr, bw, kn, w, rfl, rfl, hok, hA⟩ := I
  unfold wpX_teller
  dsimp only
  rcases mt_cs v1 (n := 16) (by omega) with hx | ⟨a, ha, rfl⟩
  · refine mx_st0 hx (br_t rfl ?_)
    unfold wpY_teller
    dsimp only
    exact my_st0 hx (br_t rfl ⟨rfl, mt_rel hok hA⟩)
  · rcases mt_cs v2 (n := 16) (by omega) with hx | ⟨b, hb, rfl⟩
    · refine mx_st ha (br_f (by decide) (mx_st0 hx (br_t rfl ?_)))
      unfold wpY_teller
      dsimp only
      exact my_st ha (br_f (by decide) (my_st0 hx (br_t rfl ⟨rfl, mt_rel hok hA⟩)))
    · have hm := mt_moore (o := ou) (mt_ok_f hok) ha hb
      refine mx_st ha (br_f (by decide) (mx_st hb (br_f (by decide) (mx_pair ⟨vp_in_nI (by omega) (by omega), nm_r (mx_ap hA ha hb) ?_⟩))))
      by_cases h3 : v3 < 0
      · refine br_t h3 ?_
        unfold wpY_teller
        dsimp only
        exact my_st ha (br_f (by decide) (my_st hb (br_f (by decide) (my_search hok ha hb (fun n fp ps fr bw kn w hw => br_t h3 ⟨rfl, mt_rel hok hA⟩)))))
      · obtain ⟨i, hi, rfl⟩ := nI_of h3
        refine br_f h3 (pk_lt i (mt_D (mt_f nx) ou a b) (fun z => ?_) (fun z => ?_))
        · obtain ⟨t, ht⟩ := mt_fst_ex (f := mt_f nx) (o := ou) (a := a) (b := b) (by omega)
          have hn := mt_ex_D ht
          refine ⟨i + 1, ?_⟩
          have g := mx_te50 (post := fun r => wpY_teller (fun r' v' => r' = r ∧ i_Rel (k + 4) (nx, ou, ap) v') (fp, nx, ou, ps, fr, bw, kn, w) (nI a) (nI b) (nI i)) hok hA ht ha hb hm z ?_ (i + 1) 0 0 (by omega) (by omega) hn
          · rw [mt_go_0, mt_go_0] at g
            exact g
          · unfold wpY_teller
            dsimp only
            refine my_st ha (br_f (by decide) (my_st hb (br_f (by decide) (my_search hok ha hb (fun n fp ps fr bw kn w hw => ?_)))))
            have hb2 := my_wb hok ha hb hw
            refine br_f h3 (pk_le n i (fun q => absurd z (by rw [← hw.1]; omega)) (fun q => ?_))
            obtain ⟨v2, hv2, hx2, hw2⟩ := hw.2 (by omega)
            have ev : v2 = t := mt_fst_uq hv2 ht
            have e1 : nI n - 1 - nI i = nI (n - 1 - i) := by
              have e0 : nI n - 1 = nI (n - 1) := pk_sub (a := n) (b := 1) (by omega)
              rw [e0, pk_sub (by omega)]
            rw [e1]
            refine ⟨vp_in_nI (by omega) (by omega), ?_, mt_rel hok hA⟩
            rw [nI_clamp (by omega)]
            show w (n - 1 - i) = _
            rw [hw2 _ (by omega), ev, ← hw.1]
        · unfold wpY_teller
          dsimp only
          refine my_st ha (br_f (by decide) (my_st hb (br_f (by decide) (my_search hok ha hb (fun n fp ps fr bw kn w hw => ?_)))))
          have hb2 := my_wb hok ha hb hw
          exact br_f h3 (pk_le n i (fun q => ⟨rfl, mt_rel hok hA⟩) (fun q => absurd q (by rw [hw.1]; omega)))
