/-! the asking methods of the reference -/
section
variable {nx ou ps fr bw kn w : Nat → Int32} {fp : Int32}
theorem my_wb {a b n : Nat} {w : Nat → Int32} (hok : mt_ok nx) (ha : a < 16) (hb : b < 16) (h : mt_wrd (mt_f nx) ou a b n w) : n ≤ 15 := by
  rw [h.1]
  exact mt_moore (mt_ok_f hok) ha hb
theorem my_alike {post : Int32 → SY → Prop} {a b : Nat} (hok : mt_ok nx) (ha : a < 16) (hb : b < 16) (h1 : mt_D (mt_f nx) ou a b = 0 → ∀ fp ps fr bw kn w, post 1 (fp, nx, ou, ps, fr, bw, kn, w)) (h0 : mt_D (mt_f nx) ou a b ≠ 0 → ∀ fp ps fr bw kn w, post 0 (fp, nx, ou, ps, fr, bw, kn, w)) : wpY_alike post (fp, nx, ou, ps, fr, bw, kn, w) (nI a) (nI b) := by
  unfold wpY_alike
  dsimp only
  refine my_st ha (br_f (by decide) (my_st hb (br_f (by decide) (my_search hok ha hb (fun n fp ps fr bw kn w hw => ?_)))))
  have hn := my_wb hok ha hb hw
  exact pk_eq n 0 (fun z => h1 (hw.1.symm.trans z) _ _ _ _ _ _) (fun z => h0 (fun q => z (hw.1.trans q)) _ _ _ _ _ _)
theorem my_ki12 {post : Int32 → SY → Prop} {s : Nat} (hok : mt_ok nx) (hs : s < 16) (h : ∀ fp ps fr bw kn w, post (nI (mt_K (mt_f nx) ou s)) (fp, nx, ou, ps, fr, bw, kn, w)) : ∀ n j fp ps fr bw kn w, 16 < n + j → j ≤ mt_K (mt_f nx) ou s → wY_kind_12 post (nI s) n (nI j) fp nx ou ps fr bw kn w := by
  have hk := mt_K_le (mt_f nx) ou s
  have hK := mt_K_is (mt_f nx) ou s
  intro n
  induction n with
  | zero => intro j fp ps fr bw kn w q1 q2; omega
  | succ n ih =>
    intro j fp ps fr bw kn w q1 q2
    rw [wY_kind_12]
    refine pk_le s j (fun e => ?_) (fun e => my_alike hok (by omega) hs (fun z fp ps fr bw kn w => br_f (by decide) ?_) (fun z fp ps fr bw kn w => br_t rfl (nm_r (nI_1 j) ?_)))
    · have ej : j = mt_K (mt_f nx) ou s := by omega
      rw [ej]
      exact h _ _ _ _ _ _
    · have ej : j = mt_K (mt_f nx) ou s := by
        apply Classical.byContradiction
        intro q
        exact hK.2 j (by omega) z
      rw [ej]
      exact h _ _ _ _ _ _
    · have ej : j ≠ mt_K (mt_f nx) ou s := fun q => z (by rw [q]; exact hK.1)
      exact ih (j + 1) _ _ _ _ _ _ (by omega) (by omega)
theorem my_kind {post : Int32 → SY → Prop} {s : Nat} (hok : mt_ok nx) (hs : s < 16) (h : ∀ fp ps fr bw kn w, post (nI (mt_K (mt_f nx) ou s)) (fp, nx, ou, ps, fr, bw, kn, w)) : wpY_kind post (fp, nx, ou, ps, fr, bw, kn, w) (nI s) := by
  unfold wpY_kind
  dsimp only
  exact my_st hs (br_f (by decide) ⟨17, my_ki12 hok hs h 17 0 _ _ _ _ _ _ (by omega) (by omega)⟩)
theorem my_ks4 {post : Int32 → SY → Prop} (hok : mt_ok nx) (h : ∀ fp ps fr bw kn w, post (nI (mt_cb (fun i => decide (mt_K (mt_f nx) ou i = i)) 16)) (fp, nx, ou, ps, fr, bw, kn, w)) : ∀ n s fp ps fr bw kn w, 16 < n + s → s ≤ 16 → wY_kinds_4 post n (nI (mt_cb (fun i => decide (mt_K (mt_f nx) ou i = i)) s)) (nI s) fp nx ou ps fr bw kn w := by
  intro n
  induction n with
  | zero => intro s fp ps fr bw kn w q1 q2; omega
  | succ n ih =>
    intro s fp ps fr bw kn w q1 q2
    rw [wY_kinds_4]
    refine pk_le 16 s (fun e => ?_) (fun e => my_kind hok e (fun fp ps fr bw kn w => ?_))
    · have es : s = 16 := by omega
      rw [es]
      exact h _ _ _ _ _ _
    · have hk := mt_K_le (mt_f nx) ou s
      refine pk_eq (mt_K (mt_f nx) ou s) s (fun z => nm_r (e' := nI (mt_cb (fun i => decide (mt_K (mt_f nx) ou i = i)) (s + 1))) ?_ (nm_r (nI_1 s) (ih (s + 1) _ _ _ _ _ _ (by omega) (by omega)))) (fun z => nm_r (nI_1 s) ?_)
      · rw [nI_1]
        show _ = nI (mt_cb _ s + (decide (mt_K (mt_f nx) ou s = s)).toNat)
        rw [decide_eq_true z]
        rfl
      · have g := ih (s + 1) fp ps fr bw kn w (by omega) (by omega)
        have e2 : mt_cb (fun i => decide (mt_K (mt_f nx) ou i = i)) (s + 1) = mt_cb (fun i => decide (mt_K (mt_f nx) ou i = i)) s := by
          show mt_cb _ s + (decide (mt_K (mt_f nx) ou s = s)).toNat = _
          rw [decide_eq_false z]
          rfl
        rw [e2] at g
        exact g
theorem my_kinds {post : Int32 → SY → Prop} (hok : mt_ok nx) (h : ∀ fp ps fr bw kn w, post (nI (mt_cb (fun i => decide (mt_K (mt_f nx) ou i = i)) 16)) (fp, nx, ou, ps, fr, bw, kn, w)) : wpY_kinds post (fp, nx, ou, ps, fr, bw, kn, w) :=
  ⟨17, my_ks4 hok h 17 0 _ _ _ _ _ _ (by omega) (by omega)⟩
theorem my_r111 {post : Int32 → SY → Prop} {y : Int32} (h : post (nI (mt_cb (bt y) 16)) (fp, nx, ou, ps, fr, bw, kn, w)) : ∀ n s, 16 < n + s → s ≤ 16 → wY_reachableKinds_111 post y fp nx ou ps fr bw kn w n (nI (mt_cb (bt y) s)) (nI s) := by
  intro n
  induction n with
  | zero => intro s q1 q2; omega
  | succ n ih =>
    intro s q1 q2
    rw [wY_reachableKinds_111]
    refine pk_le 16 s (fun e => ?_) (fun e => nm_r (e' := nI (mt_cb (bt y) (s + 1))) ?_ (nm_r (nI_1 s) (ih (s + 1) (by omega) (by omega))))
    · have es : s = 16 := by omega
      rw [es]
      exact h
    · rw [mk_tst y (by omega), nI_add]
      rfl
theorem my_r72 {post : Int32 → SY → Prop} {x : Int32} (hok : mt_ok nx) (h : ∀ fp ps fr bw kn w, post (nI (mt_cb (mt_ks (mt_f nx) ou (bt x) 16) 16)) (fp, nx, ou, ps, fr, bw, kn, w)) : ∀ n s y fp ps fr bw kn w, 16 < n + s → s ≤ 16 → (∀ i, i < 16 → bt y i = mt_ks (mt_f nx) ou (bt x) s i) → wY_reachableKinds_72 post x n y (nI s) fp nx ou ps fr bw kn w := by
  intro n
  induction n with
  | zero => intro s y fp ps fr bw kn w q1 q2; omega
  | succ n ih =>
    intro s y fp ps fr bw kn w q1 q2 hy
    rw [wY_reachableKinds_72]
    refine pk_le 16 s (fun e => ⟨17, ?_⟩) (fun e => ?_)
    · have es : s = 16 := by omega
      rw [es] at hy
      refine my_r111 ?_ 17 0 (by omega) (by omega)
      rw [mt_cb_eq 16 hy]
      exact h _ _ _ _ _ _
    · by_cases hb : bt x s = false
      · refine br_t ((mk_z x (by omega)).mpr hb) (nm_r (nI_1 s) (ih (s + 1) y _ _ _ _ _ _ (by omega) (by omega) (fun i hi => ?_)))
        rw [hy i hi]
        exact (mt_ks_n hb i).symm
      · have ht : bt x s = true := by
          cases q : bt x s with
          | true => rfl
          | false => exact absurd q hb
        have hk : mt_K (mt_f nx) ou s < 16 := by
          have := mt_K_le (mt_f nx) ou s
          omega
        refine br_f (fun z => hb ((mk_z x (by omega)).mp z)) (my_kind hok e (fun fp ps fr bw kn w => nm_e (nm_r (nI_1 s) (ih (s + 1) _ _ _ _ _ _ _ (by omega) (by omega) (fun i hi => ?_)))))
        rw [mk_or y (by omega) (by omega), hy i hi]
        exact (mt_ks_s ht i).symm
theorem my_r25 {post : Int32 → SY → Prop} {J16 : Int32 → Int32 → Prop} {x : Int32} {r : Nat} (hok : mt_ok nx) (h : ∀ y, mt_Rd (mt_f nx) (bt x) (bt y) → J16 y (nI (r + 1))) : ∀ n p y, 48 < n + p → p ≤ 48 → (∀ s, s < 16 → bt x s = true → bt y s = true) → (∀ q, q < p → bt x (q / 3) = true → bt y (mt_f nx q) = true) → (∀ C, mt_cl (mt_f nx) C → (∀ s, s < 16 → bt x s = true → C s = true) → ∀ s, s < 16 → bt y s = true → C s = true) → wY_reachableKinds_25 post J16 (nI r) fp nx ou ps fr bw kn w n y (nI p) := by
  intro n
  induction n with
  | zero => intro p y q1 q2; omega
  | succ n ih =>
    intro p y q1 q2 h1 h2 h3
    rw [wY_reachableKinds_25]
    refine pk_le 48 p (fun e => nm_r (nI_1 r) (h y ⟨h1, fun q hq => h2 q (by omega), h3⟩)) (fun e => ⟨by decide, ?_⟩)
    have ed : nI p / 3 = nI (p / 3) := pk_div (a := p) (d := 3) (by omega) (by omega) (by omega)
    rw [ed]
    by_cases hb : bt y (p / 3) = false
    · refine br_t ((mk_z y (by omega)).mpr hb) (nm_r (nI_1 p) (ih (p + 1) y (by omega) (by omega) h1 (fun q hq hx => ?_) h3))
      by_cases e2 : q = p
      · rw [e2] at hx
        have g := h1 (p / 3) (by omega) hx
        rw [hb] at g
        exact nomatch g
      · exact h2 q (by omega) hx
    · have ht : bt y (p / 3) = true := by
        cases q : bt y (p / 3) with
        | true => rfl
        | false => exact absurd q hb
      have hf := mt_ok_f hok p e
      have hor : ∀ i, i < 16 → bt (y ||| ((1 : Int32) <<< (nI (mt_f nx p) &&& 31))) i = (bt y i || decide (i = mt_f nx p)) := fun i hi => mk_or y (by omega) (by omega)
      refine br_f (fun z => hb ((mk_z y (by omega)).mp z)) ⟨vp_in_nI e (by omega), nm_r (e' := y ||| ((1 : Int32) <<< (nI (mt_f nx p) &&& 31))) ?_ (nm_r (nI_1 p) (ih (p + 1) _ (by omega) (by omega) (fun s hs hx => ?_) (fun q hq hx => ?_) (fun C hC hs s hs2 hx => ?_)))⟩
      · rw [nI_clamp (by omega), mt_ok_e hok e]
      · rw [hor s hs, h1 s hs hx, Bool.true_or]
      · by_cases e2 : q = p
        · rw [e2, hor _ hf, show decide (mt_f nx p = mt_f nx p) = true from decide_eq_true rfl, Bool.or_true]
        · rw [hor _ (mt_ok_f hok q (by omega)), h2 q (by omega) hx, Bool.true_or]
      · rw [hor s hs2] at hx
        by_cases e2 : s = mt_f nx p
        · rw [e2]
          exact hC p e (h3 C hC hs (p / 3) (by omega) ht)
        · rw [decide_eq_false e2, Bool.or_false] at hx
          exact h3 C hC hs s hs2 hx
theorem my_r16 {post : Int32 → SY → Prop} {st : Nat} (hok : mt_ok nx) (hst : st < 16) (h : ∀ y, mt_Rn (mt_f nx) st 16 (bt y) → ∀ fp ps fr bw kn w, post (nI (mt_cb (mt_ks (mt_f nx) ou (bt y) 16) 16)) (fp, nx, ou, ps, fr, bw, kn, w)) : ∀ n r y, 16 < n + r → r ≤ 16 → mt_Rn (mt_f nx) st r (bt y) → wY_reachableKinds_16 post fp nx ou ps fr bw kn w n y (nI r) := by
  intro n
  induction n with
  | zero => intro r y q1 q2; omega
  | succ n ih =>
    intro r y q1 q2 hR
    rw [wY_reachableKinds_16]
    refine pk_le 16 r (fun e => ⟨17, ?_⟩) (fun e => ⟨49, ?_⟩)
    · have er : r = 16 := by omega
      rw [er] at hR
      exact my_r72 hok (h y hR) 17 0 0 _ _ _ _ _ _ (by omega) (by omega) (fun i _ => (b_0 i).trans (mt_ks_0 _ _ _ i).symm)
    · exact my_r25 hok (fun z hz => ih (r + 1) z (by omega) (by omega) (mt_Rn_s (mt_ok_f hok) hst hR hz)) 49 0 y (by omega) (by omega) (fun s _ z => z) (fun q hq => absurd hq (Nat.not_lt_zero q)) (fun C _ hs => hs)
theorem my_de4 {post : Int32 → SY → Prop} (hok : mt_ok nx) (h : ∀ m, mt_mx (mt_f nx) ou m → ∀ fp ps fr bw kn w, post (nI m) (fp, nx, ou, ps, fr, bw, kn, w)) : ∀ n p m fp ps fr bw kn w, 256 < n + p → p ≤ 256 → m ≤ 15 → (∀ q, q < p → q / 16 < q % 16 → mt_D (mt_f nx) ou (q / 16) (q % 16) ≤ m) → (m = 0 ∨ ∃ a b, a < 16 ∧ b < 16 ∧ mt_D (mt_f nx) ou a b = m) → wY_depth_4 post n (nI m) (nI p) fp nx ou ps fr bw kn w := by
  intro n
  induction n with
  | zero => intro p m fp ps fr bw kn w q1 q2; omega
  | succ n ih =>
    intro p m fp ps fr bw kn w q1 q2 q3 h1 h2
    rw [wY_depth_4]
    have key : ∀ a b, a < b → b < 16 → 256 ≤ p → mt_D (mt_f nx) ou a b ≤ m := by
      intro a b hab hb hp
      have g := h1 (a * 16 + b) (by omega)
      rw [show (a * 16 + b) / 16 = a by omega, show (a * 16 + b) % 16 = b by omega] at g
      exact g hab
    refine pk_le 256 p (fun e => h m ⟨fun a b ha hb => ?_, h2⟩ _ _ _ _ _ _) (fun e => ⟨by decide, by decide, ?_⟩)
    · rcases Nat.lt_trichotomy a b with q | q | q
      · exact key a b q hb e
      · rw [q, mt_D_refl]
        omega
      · rw [mt_D_symm]
        exact key b a q ha e
    · have e1 : nI p / 16 = nI (p / 16) := pk_div (a := p) (d := 16) (by omega) (by omega) (by omega)
      have e2 : nI p - nI p / 16 * 16 = nI (p % 16) := pk_rem (a := p) (d := 16) (by omega) (by omega) (by omega)
      rw [e2, e1]
      refine pk_le (p % 16) (p / 16) (fun z => ?_) (fun z => ⟨by decide, by decide, my_search hok (by omega) (by omega) (fun d fp ps fr bw kn w hw => ?_)⟩)
      · unfold wY_depth_38
        refine pk_le 0 m (fun _ => nm_r (nI_1 p) (ih (p + 1) m _ _ _ _ _ _ (by omega) (by omega) q3 (fun q hq hl => ?_) h2)) (fun y => absurd y (by omega))
        by_cases e3 : q = p
        · rw [e3] at hl
          omega
        · exact h1 q (by omega) hl
      · have hd := my_wb hok (by omega) (by omega) hw
        show wY_depth_38 post (wY_depth_4 post n) (nI m) (nI p) (nI d) fp nx ou ps fr bw kn w
        unfold wY_depth_38
        refine pk_le d m (fun y => nm_r (nI_1 p) (ih (p + 1) m _ _ _ _ _ _ (by omega) (by omega) q3 (fun q hq hl => ?_) h2)) (fun y => nm_r (nI_1 p) (ih (p + 1) d _ _ _ _ _ _ (by omega) (by omega) hd (fun q hq hl => ?_) (Or.inr ⟨p / 16, p % 16, by omega, by omega, hw.1.symm⟩)))
        · by_cases e3 : q = p
          · rw [e3, ← hw.1]
            exact y
          · exact h1 q (by omega) hl
        · by_cases e3 : q = p
          · rw [e3, ← hw.1]
            exact Nat.le_refl _
          · have := h1 q (by omega) hl
            omega
theorem my_depth {post : Int32 → SY → Prop} (hok : mt_ok nx) (h : ∀ m, mt_mx (mt_f nx) ou m → ∀ fp ps fr bw kn w, post (nI m) (fp, nx, ou, ps, fr, bw, kn, w)) : wpY_depth post (fp, nx, ou, ps, fr, bw, kn, w) :=
  ⟨257, my_de4 hok h 257 0 0 _ _ _ _ _ _ (by omega) (by omega) (by omega) (fun q hq => absurd hq (Nat.not_lt_zero q)) (Or.inl rfl)⟩
/-! run, side by side -/
theorem mz_run {ap : Nat → Int32} {x : Int32} {N : Nat} (hok : mt_ok nx) (hN : N ≤ 10) : ∀ d t s, t + d = N → s < 16 → ∃ r : Int32, (∀ post : Int32 → Prop, post r → wX_run_28 post x (nI N) nx ou ap (d + 1) (nI s) (nI t)) ∧ (∀ post : Int32 → Prop, post r → wY_run_29 post x (nI N) fp nx ou ps fr bw kn w (d + 1) (nI s) (nI t)) := by
  intro d
  induction d with
  | zero =>
    intro t s ht hs
    refine ⟨nI s, fun post h => ?_, fun post h => ?_⟩
    · rw [wX_run_28]
      exact pk_le N t (fun _ => h) (fun e => absurd e (by omega))
    · rw [wY_run_29]
      exact pk_le N t (fun _ => h) (fun e => absurd e (by omega))
  | succ d ih =>
    intro t s ht hs
    obtain ⟨g, hg, eg⟩ := pk_andE (x >>> ((2 * nI t) &&& 31)) (m := 3) 2 (by decide)
    have hg4 : g < 4 := hg
    by_cases e3 : g = 3
    · have hf := mt_ok_f hok (s * 3 + 0) (by omega)
      obtain ⟨r, hX, hY⟩ := ih (t + 1) (mt_f nx (s * 3 + 0)) (by omega) hf
      have en : nx (nI (s * 3 + 0)).toNatClampNeg = nI (mt_f nx (s * 3 + 0)) := by
        rw [nI_clamp (by omega), mt_ok_e hok (by omega)]
      refine ⟨r, fun post h => ?_, fun post h => ?_⟩
      · rw [wX_run_28]
        refine pk_le N t (fun e => absurd e (by omega)) (fun _ => nm_r eg (pk_eq g 3 (fun _ => ?_) (fun z => absurd e3 z)))
        unfold wX_run_56
        exact mx_place (i := 0) ⟨vp_in_nI (by omega) (by omega), nm_r en (nm_r (nI_1 t) (hX post h))⟩
      · rw [wY_run_29]
        refine pk_le N t (fun e => absurd e (by omega)) (fun _ => nm_r eg (pk_eq g 3 (fun _ => ?_) (fun z => absurd e3 z)))
        have ei : nI s * 3 + 0 = nI (s * 3 + 0) := mx_ix3 s 0
        rw [ei]
        exact ⟨vp_in_nI (by omega) (by omega), nm_r en (nm_r (nI_1 t) (hY post h))⟩
    · have hf := mt_ok_f hok (s * 3 + g) (by omega)
      obtain ⟨r, hX, hY⟩ := ih (t + 1) (mt_f nx (s * 3 + g)) (by omega) hf
      have en : nx (nI (s * 3 + g)).toNatClampNeg = nI (mt_f nx (s * 3 + g)) := by
        rw [nI_clamp (by omega), mt_ok_e hok (by omega)]
      refine ⟨r, fun post h => ?_, fun post h => ?_⟩
      · rw [wX_run_28]
        refine pk_le N t (fun e => absurd e (by omega)) (fun _ => nm_r eg (pk_eq g 3 (fun z => absurd z e3) (fun _ => ?_)))
        unfold wX_run_56
        exact mx_place (i := g) ⟨vp_in_nI (by omega) (by omega), nm_r en (nm_r (nI_1 t) (hX post h))⟩
      · rw [wY_run_29]
        refine pk_le N t (fun e => absurd e (by omega)) (fun _ => nm_r eg (pk_eq g 3 (fun z => absurd z e3) (fun _ => ?_)))
        rw [mx_ix3]
        exact ⟨vp_in_nI (by omega) (by omega), nm_r en (nm_r (nI_1 t) (hY post h))⟩
end
