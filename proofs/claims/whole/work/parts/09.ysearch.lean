/-! the reference's search -/
theorem my_b1 : vp_nar .boolean 1 = 1 := rfl
theorem my_b0 : vp_nar .boolean 0 = 0 := rfl
theorem my_st {post : Int32 → Prop} {u : SY} {s : Nat} (hs : s < 16) (h : post 1) : wpY_isState post u (nI s) := by
  obtain ⟨c, n, o, p, f, b, k, w⟩ := u
  exact br_f (nI_pos (by omega)) (br_f (nI_ge (b := 16) hs (by omega)) h)
theorem my_st0 {post : Int32 → Prop} {u : SY} {x : Int32} (hx : x < 0 ∨ nI 16 ≤ x) (h : post 0) : wpY_isState post u x := by
  obtain ⟨c, n, o, p, f, b, k, w⟩ := u
  by_cases h0 : x < 0
  · exact br_t h0 h
  · exact br_f h0 (br_t (hx.resolve_left h0) h)
theorem my_in {post : Int32 → Prop} {u : SY} {s : Nat} (hs : s < 3) (h : post 1) : wpY_isInput post u (nI s) := by
  obtain ⟨c, n, o, p, f, b, k, w⟩ := u
  exact br_f (nI_pos (by omega)) (br_f (nI_ge (b := 3) hs (by omega)) h)
theorem my_in0 {post : Int32 → Prop} {u : SY} {x : Int32} (hx : x < 0 ∨ nI 3 ≤ x) (h : post 0) : wpY_isInput post u x := by
  obtain ⟨c, n, o, p, f, b, k, w⟩ := u
  by_cases h0 : x < 0
  · exact br_t h0 h
  · exact br_f h0 (br_t (hx.resolve_left h0) h)
section
variable {nx ou ps fr bw kn w : Nat → Int32}
theorem my_come1 {post : SY → Prop} {pc x y p2 p3 : Int32} {p q : Nat} (hp : p < 16) (hq : q < 16) (ex : x = nI p) (ey : y = nI q) (hk : kn (p * 16 + q) = 1) (h : post (pc, nx, ou, ps, fr, bw, kn, w)) : wpY_come post (pc, nx, ou, ps, fr, bw, kn, w) x y p2 p3 := by
  unfold wpY_come
  dsimp only
  rw [ex, ey, mx_ix16, nI_clamp (show p * 16 + q < 2 ^ 31 by omega)]
  exact ⟨vp_in_nI (by omega) (by omega), br_f (by rw [hk]; decide) h⟩
theorem my_come0 {post : SY → Prop} {x y p2 p3 : Int32} {pc p q : Nat} (hp : p < 16) (hq : q < 16) (hpc : pc < 256) (ex : x = nI p) (ey : y = nI q) (hk : kn (p * 16 + q) = 0) (h : post (nI (pc + 1), nx, ou, upd ps pc (nI (p * 16 + q)), upd fr pc p2, upd bw pc p3, upd kn (p * 16 + q) 1, w)) : wpY_come post (nI pc, nx, ou, ps, fr, bw, kn, w) x y p2 p3 := by
  unfold wpY_come
  dsimp only
  rw [ex, ey, mx_ix16, nI_clamp (show p * 16 + q < 2 ^ 31 by omega), nI_clamp (show pc < 2 ^ 31 by omega)]
  have hi : vp_in (nI pc) 256 := vp_in_nI hpc (by omega)
  exact ⟨vp_in_nI (by omega) (by omega), br_t hk ⟨vp_in_nI (by omega) (by omega), nm_r (e' := upd kn (p * 16 + q) 1) (by rw [my_b1]) ⟨hi, nm_e ⟨hi, nm_e ⟨hi, nm_e (nm_r (nI_1 pc) h)⟩⟩⟩⟩⟩
/-! what holds after the search: post at the length, whatever the scratch is, but the word -/
theorem my_spell12 {post : Int32 → SY → Prop} {f : Nat → Nat} {a b pc v : Nat} {c q : Nat → Nat} {fp : Int32} (hQ : mt_Qm c pc) (hq : ∀ j, 1 ≤ j → j < pc → ∃ d, d < 3 ∧ c j = 3 * c (q j) + d + 1 ∧ q j < j) (hA : mt_QA f a b c q pc ps fr bw kn) (hp : ∀ n w, mt_ex n 0 v → (∀ t, t < n → w t = nI ((mt_pr v t - 1) % 3)) → post (nI n) (fp, nx, ou, ps, fr, bw, kn, w)) : ∀ m k j w, k < m → k < pc → k + j ≤ 256 → mt_ex j (c k) v → (∀ t, t < j → w t = nI ((mt_pr v t - 1) % 3)) → wY_spell_12 post fp m (nI j) (nI k) nx ou ps fr bw kn w := by
  have hle := mt_QA_le hA
  intro m
  induction m with
  | zero => intro k j w q1; omega
  | succ m ih =>
    intro k j w q1 q2 q3 hx hw
    rw [wY_spell_12]
    dsimp only
    have hi : vp_in (nI k) 256 := vp_in_nI (by omega) (by omega)
    have ck : (nI k).toNatClampNeg = k := nI_clamp (by omega)
    rw [ck]
    refine ⟨hi, ?_⟩
    by_cases e : k = 0
    · rw [e, hA.2.1]
      rw [e, hQ.2.1] at hx
      exact br_t (by decide) (hp j w hx hw)
    · obtain ⟨d, hd, ec, hl⟩ := hq k (by omega) q2
      have hfb := hA.2.2.1 k (by omega) q2
      have hs := mt_sp_s hx hw hd ec
      rw [hfb.1, hfb.2]
      refine br_f (nI_pos (by omega)) (br_f (nI_ge (b := 256) (by omega) (by omega)) ⟨hi, vp_in_nI (by omega) (by omega), nm_r (e' := upd w j (nI ((c k - 1) % 3))) (by rw [nI_clamp (by omega)]) (nm_r (nI_1 j) ⟨hi, nm_e ?_⟩)⟩)
      exact ih (q k) (j + 1) _ (by omega) (by omega) (by omega) hs.1 hs.2
theorem my_spell {post : Int32 → SY → Prop} {f : Nat → Nat} {o : Nat → Int32} {a b pc k i : Nat} {c q : Nat → Nat} {fp : Int32} (hQ : mt_Q f o a b c q pc k i) (hA : mt_QA f a b c q pc ps fr bw kn) (hk : k < pc) (hi : i < 3) (ho : ¬ o (mt_go f a (c k) * 3 + i) = o (mt_go f b (c k) * 3 + i)) (hp : ∀ n w, mt_wrd f o a b n w → 0 < n → post (nI n) (fp, nx, ou, ps, fr, bw, kn, w)) : wpY_spell post (fp, nx, ou, ps, fr, bw, kn, w) (nI k) (nI i) := by
  have hv := mt_Q_found hQ hk hi ho
  have hle := mt_QA_le hA
  unfold wpY_spell
  dsimp only
  refine nm_e ⟨257, ?_⟩
  refine my_spell12 (v := 3 * c k + i + 1) hQ.1 (fun j h1 h2 => ?_) hA (fun n w2 hx hw => ?_) 257 k 1 _ (by omega) hk (by omega) (mt_ex_s i hi (mt_ex_00 _)) (fun t ht => ?_)
  · obtain ⟨d, hd, e, hl, _⟩ := hQ.2.1 j h1 h2
    exact ⟨d, hd, e, hl⟩
  · have hn : 0 < n := by
      apply Nat.pos_of_ne_zero
      intro z
      rw [z] at hx
      have := mt_ex_0 hx
      omega
    exact hp n w2 ⟨(mt_fst_D hv hx).symm, fun _ => ⟨_, hv, hx, hw⟩⟩ hn
  · have e : t = 0 := by omega
    rw [e]
    show upd w 0 (nI i) 0 = nI ((3 * c k + i + 1 - 1) % 3)
    rw [pk_us]
    exact congrArg nI (by omega)
theorem my_se74 {post : Int32 → SY → Prop} {J37 : Int32 → Int32 → (Nat → Int32) → (Nat → Int32) → (Nat → Int32) → (Nat → Int32) → (Nat → Int32) → (Nat → Int32) → (Nat → Int32) → Prop} {a b k : Nat} (hok : mt_ok nx) (ha : a < 16) (hb : b < 16) (hp : ∀ n fp ps fr bw kn w, mt_wrd (mt_f nx) ou a b n w → post (nI n) (fp, nx, ou, ps, fr, bw, kn, w)) {A B : Nat} (HJ : ∀ c q pc ps fr bw kn w, mt_Q (mt_f nx) ou a b c q pc (k + 1) 0 → mt_QA (mt_f nx) a b c q pc ps fr bw kn → k < pc → J37 (nI (k + 1)) (nI pc) nx ou ps fr bw kn w) : ∀ n i c q pc ps fr bw kn w, 3 < n + i → i ≤ 3 → mt_Q (mt_f nx) ou a b c q pc k i → mt_QA (mt_f nx) a b c q pc ps fr bw kn → k < pc → A = mt_go (mt_f nx) a (c k) → B = mt_go (mt_f nx) b (c k) → wY_search_74 post J37 (nI k) (nI (A * 3)) (nI (B * 3)) n (nI i) (nI pc) nx ou ps fr bw kn w := by
  intro n
  induction n with
  | zero => intro i c q pc ps fr bw kn w q1 q2; omega
  | succ n ih =>
    intro i c q pc ps fr bw kn w q1 q2 hQ hA hk eA eB
    rw [wY_search_74]
    have hle := mt_QA_le hA
    refine pk_le 3 i (fun e => nm_r (nI_1 k) ?_) (fun e => ?_)
    · have ei : i = 3 := by omega
      rw [ei] at hQ
      exact HJ c q pc ps fr bw kn w (mt_Q_row hQ) hA hk
    · have gA := mt_go_lt (mt_ok_f hok) ha (c k)
      have gB := mt_go_lt (mt_ok_f hok) hb (c k)
      rw [← eA] at gA
      rw [← eB] at gB
      rw [nI_add, nI_add, nI_clamp (show A * 3 + i < 2 ^ 31 by omega), nI_clamp (show B * 3 + i < 2 ^ 31 by omega)]
      have iA : vp_in (nI (A * 3 + i)) 48 := vp_in_nI (by omega) (by omega)
      have iB : vp_in (nI (B * 3 + i)) 48 := vp_in_nI (by omega) (by omega)
      refine ⟨iA, iB, br_c (fun z => ⟨iA, iB, ?_⟩) (fun z => ?_)⟩
      · have fA := mt_ok_f hok (A * 3 + i) (by omega)
        have fB := mt_ok_f hok (B * 3 + i) (by omega)
        have eX := mt_ok_e hok (p := A * 3 + i) (by omega)
        have eY := mt_ok_e hok (p := B * 3 + i) (by omega)
        have hP : mt_f nx (A * 3 + i) * 16 + mt_f nx (B * 3 + i) < 256 := by omega
        rw [eA, eB] at z
        rcases hA.2.2.2.1 _ hP with h0 | h1
        · have hN := mt_QA_new (k := k) (i := i) (mt_ok_f hok) ha hb hA hQ.1.1 e rfl (by rw [mt_go_s _ _ _ _ e, mt_go_s _ _ _ _ e, ← eA, ← eB]) h0
          refine my_come0 fA fB hN.1 eX eY h0 (nm_r (nI_1 i) ?_)
          have ek : mt_up c pc (3 * c k + i + 1) k = c k := mt_up_n (by omega)
          exact ih (i + 1) _ _ (pc + 1) _ _ _ _ w (by omega) (by omega) (mt_Q_new hQ hk e z) hN.2 (by omega) (by rw [ek]; exact eA) (by rw [ek]; exact eB)
        · obtain ⟨m, hm, em⟩ := hA.2.2.2.2.1 _ hP h1
          have mA := mt_go_lt (mt_ok_f hok) ha (c m)
          have mB := mt_go_lt (mt_ok_f hok) hb (c m)
          refine my_come1 fA fB eX eY h1 (nm_r (nI_1 i) ?_)
          exact ih (i + 1) c q pc ps fr bw kn w (by omega) (by omega) (mt_Q_old hQ hk hm z (by rw [← eA]; omega) (by rw [← eB]; omega)) hA hk eA eB
      · rw [eA, eB] at z
        exact my_spell hQ hA hk e z (fun n w hw _ => hp n _ _ _ _ _ w hw)
theorem my_se37 {post : Int32 → SY → Prop} {a b : Nat} (hok : mt_ok nx) (ha : a < 16) (hb : b < 16) (hp : ∀ n fp ps fr bw kn w, mt_wrd (mt_f nx) ou a b n w → post (nI n) (fp, nx, ou, ps, fr, bw, kn, w)) : ∀ n k c q pc ps fr bw kn w, 256 < n + k → k ≤ pc → mt_Q (mt_f nx) ou a b c q pc k 0 → mt_QA (mt_f nx) a b c q pc ps fr bw kn → wY_search_37 post n (nI k) (nI pc) nx ou ps fr bw kn w := by
  intro n
  induction n with
  | zero =>
    intro k c q pc ps fr bw kn w q1 q2 hQ hA
    have := mt_QA_le hA
    omega
  | succ n ih =>
    intro k c q pc ps fr bw kn w q1 q2 hQ hA
    rw [wY_search_37]
    have hle := mt_QA_le hA
    refine pk_le pc k (fun e => ?_) (fun e => ?_)
    · have ek : k = pc := by omega
      rw [ek] at hQ
      exact hp 0 _ _ _ _ _ w ⟨(mt_Q_end hQ).symm, fun z => absurd z (by omega)⟩
    · have gA := mt_go_lt (mt_ok_f hok) ha (c k)
      have gB := mt_go_lt (mt_ok_f hok) hb (c k)
      have hi : vp_in (nI k) 256 := vp_in_nI (by omega) (by omega)
      have d1 : nI (mt_go (mt_f nx) a (c k) * 16 + mt_go (mt_f nx) b (c k)) / 16 * 3 = nI (mt_go (mt_f nx) a (c k) * 3) := by
        have h1 : nI (mt_go (mt_f nx) a (c k) * 16 + mt_go (mt_f nx) b (c k)) / 16 = nI ((mt_go (mt_f nx) a (c k) * 16 + mt_go (mt_f nx) b (c k)) / 16) := pk_div (d := 16) (by omega) (by omega) (by omega)
        rw [h1, show (mt_go (mt_f nx) a (c k) * 16 + mt_go (mt_f nx) b (c k)) / 16 = mt_go (mt_f nx) a (c k) by omega]
        exact pk_mul _ 3
      have d2 : (nI (mt_go (mt_f nx) a (c k) * 16 + mt_go (mt_f nx) b (c k)) - nI (mt_go (mt_f nx) a (c k) * 16 + mt_go (mt_f nx) b (c k)) / 16 * 16) * 3 = nI (mt_go (mt_f nx) b (c k) * 3) := by
        have h1 : nI (mt_go (mt_f nx) a (c k) * 16 + mt_go (mt_f nx) b (c k)) - nI (mt_go (mt_f nx) a (c k) * 16 + mt_go (mt_f nx) b (c k)) / 16 * 16 = nI ((mt_go (mt_f nx) a (c k) * 16 + mt_go (mt_f nx) b (c k)) % 16) := pk_rem (d := 16) (by omega) (by omega) (by omega)
        rw [h1, show (mt_go (mt_f nx) a (c k) * 16 + mt_go (mt_f nx) b (c k)) % 16 = mt_go (mt_f nx) b (c k) by omega]
        exact pk_mul _ 3
      have ck : (nI k).toNatClampNeg = k := nI_clamp (by omega)
      rw [ck, hA.1 k e]
      refine ⟨hi, by decide, nm_r d1 ⟨hi, by decide, nm_r d2 ⟨4, ?_⟩⟩⟩
      exact my_se74 hok ha hb hp (fun c2 q2 pc2 ps2 fr2 bw2 kn2 w2 hQ2 hA2 hk2 => ih (k + 1) c2 q2 pc2 ps2 fr2 bw2 kn2 w2 (by omega) hk2 hQ2 hA2) 4 0 c q pc ps fr bw kn w (by omega) (by omega) hQ hA e rfl rfl
theorem my_se2 {post : Int32 → SY → Prop} {a b : Nat} {fp : Int32} (hok : mt_ok nx) (ha : a < 16) (hb : b < 16) (hp : ∀ n fp ps fr bw kn w, mt_wrd (mt_f nx) ou a b n w → post (nI n) (fp, nx, ou, ps, fr, bw, kn, w)) : ∀ n i kn, 256 < n + i → i ≤ 256 → (∀ p, p < i → kn p = 0) → wY_search_2 post (nI a) (nI b) fp n (nI i) nx ou ps fr bw kn w := by
  intro n
  induction n with
  | zero => intro i kn q1 q2; omega
  | succ n ih =>
    intro i kn q1 q2 h
    rw [wY_search_2]
    refine pk_le 256 i (fun e => ?_) (fun e => ⟨vp_in_nI e (by omega), nm_r (e' := upd kn i 0) (by rw [nI_clamp (by omega), my_b0]) (nm_r (nI_1 i) ?_)⟩)
    · have h0 : ∀ p, p < 256 → kn p = 0 := fun p hp => h p (by omega)
      refine my_come0 (pc := 0) ha hb (by omega) rfl rfl (h0 _ (by omega)) ⟨257, ?_⟩
      exact my_se37 hok ha hb hp 257 0 (fun _ => 0) (fun _ => 0) 1 _ _ _ _ w (by omega) (by omega) mt_Q_0 (mt_QA_0 ha hb h0)
    · refine ih (i + 1) (upd kn i 0) (by omega) (by omega) (fun p hp => ?_)
      by_cases e2 : p = i
      · rw [e2]
        exact pk_us
      · rw [pk_un e2]
        exact h p (by omega)
theorem my_search {post : Int32 → SY → Prop} {a b : Nat} {fp : Int32} (hok : mt_ok nx) (ha : a < 16) (hb : b < 16) (hp : ∀ n fp ps fr bw kn w, mt_wrd (mt_f nx) ou a b n w → post (nI n) (fp, nx, ou, ps, fr, bw, kn, w)) : wpY_search post (fp, nx, ou, ps, fr, bw, kn, w) (nI a) (nI b) :=
  ⟨257, my_se2 hok ha hb hp 257 0 kn (by omega) (by omega) (fun p hp => absurd hp (Nat.not_lt_zero p))⟩
end
