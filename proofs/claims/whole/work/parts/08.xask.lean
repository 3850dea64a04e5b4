/-! the asking methods of the component -/
section
variable {nx ou ap : Nat → Int32}
theorem mx_fi3 {post : Int32 → Prop} {a b i L : Nat} (hok : mt_ok nx) (hr : 2 ≤ L → mt_rd (mt_f nx) ou ap (L - 1)) (ha : a < 16) (hb : b < 16) (hi : i < 3) (hL : 1 ≤ L) (hL2 : L < 2 ^ 30) (s : mt_S (mt_f nx) ou a b i L) (m : ∀ j, j < i → ¬ mt_S (mt_f nx) ou a b j L) (h : post (nI i)) : ∀ n j, 3 < n + j → j ≤ i → wX_firstInput_3 post (nI a) (nI b) (nI L) nx ou ap n (nI j) := by
  intro n
  induction n with
  | zero => intro j q1 q2; omega
  | succ n ih =>
    intro j q1 q2
    rw [wX_firstInput_3]
    refine pk_le 2 j (fun e => ?_) (fun e => mx_starts hok hr ha hb (by omega) hL hL2 (fun t => br_f (by decide) ?_) (fun t => br_t rfl (nm_r (nI_1 j) ?_)))
    · have ej : j = i := by omega
      rw [ej]
      exact h
    · have ej : j = i := by
        apply Classical.byContradiction
        intro z
        exact m j (by omega) t
      rw [ej]
      exact h
    · have ej : j ≠ i := fun z => t (z ▸ s)
      exact ih (j + 1) (by omega) (by omega)
theorem mx_first {post : Int32 → Prop} {a b i L : Nat} (hok : mt_ok nx) (hr : 2 ≤ L → mt_rd (mt_f nx) ou ap (L - 1)) (ha : a < 16) (hb : b < 16) (hi : i < 3) (hL : 1 ≤ L) (hL2 : L < 2 ^ 30) (s : mt_S (mt_f nx) ou a b i L) (m : ∀ j, j < i → ¬ mt_S (mt_f nx) ou a b j L) (h : post (nI i)) : wpX_firstInput post (nx, ou, ap) (nI a) (nI b) (nI L) :=
  ⟨4, mx_fi3 hok hr ha hb hi hL hL2 s m h 4 0 (by omega) (by omega)⟩
theorem mx_te50 {post : Int32 → Prop} {a b v n i : Nat} (hok : mt_ok nx) (hA : mt_Ad (mt_f nx) ou ap) (hv : mt_fst (mt_f nx) ou a b v) (ha : a < 16) (hb : b < 16) (hn : n ≤ 15) (hi : i < n) (hp : post (nI ((mt_pr v (n - 1 - i) - 1) % 3))) : ∀ k t z, i < k + t → t ≤ i → mt_ex (n - t) z v → wX_teller_50 post (nI i) (nI n) nx ou ap k (nI (mt_go (mt_f nx) a z)) (nI (mt_go (mt_f nx) b z)) (nI t) := by
  intro k
  induction k with
  | zero => intro t z q1 q2; omega
  | succ k ih =>
    intro t z q1 q2 hx
    obtain ⟨m, em⟩ : ∃ m, n - t = m + 1 := ⟨n - t - 1, by omega⟩
    rw [em] at hx
    obtain ⟨d, hd, e⟩ := mt_ex_e hx
    have hS := mt_fst_S hv hd e
    have ga := mt_go_lt (mt_ok_f hok) ha z
    have gb := mt_go_lt (mt_ok_f hok) hb z
    have hpr := mt_ex_pr _ _ _ e
    rw [wX_teller_50]
    refine pk_le i t (fun c => ?_) (fun c => ?_)
    · have et : t = i := by omega
      have e5 : nI n - nI i = nI (m + 1) := by
        rw [pk_sub (by omega), ← et, em]
      rw [e5]
      refine mx_first hok (fun _ => mt_Ad_rd hA (mt_ok_f hok)) ga gb hd (by omega) (by omega) hS.1 hS.2 ?_
      have e6 : n - 1 - i = m := by omega
      rw [e6, hpr] at hp
      have e7 : (3 * z + d + 1 - 1) % 3 = d := by omega
      rw [e7] at hp
      exact hp
    · have e5 : nI n - nI t = nI (m + 1) := by
        rw [pk_sub (by omega), em]
      rw [e5]
      refine mx_first hok (fun _ => mt_Ad_rd hA (mt_ok_f hok)) ga gb hd (by omega) (by omega) hS.1 hS.2 ?_
      refine mx_place ⟨vp_in_nI (by omega) (by omega), nm_r (e' := nI (mt_go (mt_f nx) a (3 * z + d + 1))) ?_ ?_⟩
      · rw [nI_clamp (by omega), mt_ok_e hok (by omega), mt_go_s _ _ _ _ hd]
      · refine mx_place ⟨vp_in_nI (by omega) (by omega), nm_r (e' := nI (mt_go (mt_f nx) b (3 * z + d + 1))) ?_ ?_⟩
        · rw [nI_clamp (by omega), mt_ok_e hok (by omega), mt_go_s _ _ _ _ hd]
        · refine nm_r (nI_1 t) (ih (t + 1) (3 * z + d + 1) (by omega) (by omega) ?_)
          have e8 : n - (t + 1) = m := by omega
          rw [e8]
          exact e
theorem mx_sm2 {post : Int32 → Prop} {s : Nat} (hok : mt_ok nx) (hA : mt_Ad (mt_f nx) ou ap) (hs : s < 16) (h : post (nI (mt_K (mt_f nx) ou s))) : ∀ n j, 16 < n + j → j ≤ mt_K (mt_f nx) ou s → wX_smallestAlike_2 post (nI s) nx ou ap n (nI j) := by
  have hk := mt_K_le (mt_f nx) ou s
  have hK := mt_K_is (mt_f nx) ou s
  intro n
  induction n with
  | zero => intro j q1 q2; omega
  | succ n ih =>
    intro j q1 q2
    rw [wX_smallestAlike_2]
    refine pk_le s j (fun e => ?_) (fun e => mx_pair ⟨vp_in_nI (by omega) (by omega), ?_⟩)
    · have ej : j = mt_K (mt_f nx) ou s := by omega
      rw [ej]
      exact h
    · have hm := mt_moore (o := ou) (mt_ok_f hok) (show j < 16 by omega) hs
      refine pk_eq (mt_D (mt_f nx) ou j s) 0 (fun z => ?_) (fun z => nm_r (nI_1 j) ?_) (by rw [nI_clamp (by omega)]; exact hA j s (by omega) hs)
      · have ej : j = mt_K (mt_f nx) ou s := by
          apply Classical.byContradiction
          intro w
          exact hK.2 j (by omega) z
        rw [ej]
        exact h
      · have ej : j ≠ mt_K (mt_f nx) ou s := fun w => z (by rw [w]; exact hK.1)
        exact ih (j + 1) (by omega) (by omega)
theorem mx_small {post : Int32 → Prop} {s : Nat} (hok : mt_ok nx) (hA : mt_Ad (mt_f nx) ou ap) (hs : s < 16) (h : post (nI (mt_K (mt_f nx) ou s))) : wpX_smallestAlike post (nx, ou, ap) (nI s) :=
  ⟨17, mx_sm2 hok hA hs h 17 0 (by omega) (by omega)⟩
theorem mx_ck7 {post : Int32 → Prop} {x : Int32} (hok : mt_ok nx) (hA : mt_Ad (mt_f nx) ou ap) (h : post (nI (mt_cb (mt_ks (mt_f nx) ou (bt x) 16) 16))) : ∀ n s y, 16 < n + s → s ≤ 16 → (∀ i, i < 16 → bt y i = mt_ks (mt_f nx) ou (bt x) s i) → wX_countKinds_7 post x nx ou ap n y (nI (mt_cb (bt y) 16)) (nI s) := by
  intro n
  induction n with
  | zero => intro s y q1 q2; omega
  | succ n ih =>
    intro s y q1 q2 hy
    rw [wX_countKinds_7]
    refine pk_le 16 s (fun e => ?_) (fun e => mx_small hok hA e (nm_e ?_))
    · have es : s = 16 := by omega
      rw [es] at hy
      rw [mt_cb_eq 16 hy]
      exact h
    · have hk : mt_K (mt_f nx) ou s < 16 := by
        have := mt_K_le (mt_f nx) ou s
        omega
      by_cases hb : bt x s = false
      · refine br_t ((mk_z x (by omega)).mpr hb) (nm_r (nI_1 s) (ih (s + 1) y (by omega) (by omega) (fun i hi => ?_)))
        rw [hy i hi]
        exact (mt_ks_n hb i).symm
      · have ht : bt x s = true := by
          cases w : bt x s with
          | true => rfl
          | false => exact absurd w hb
        refine br_f (fun z => hb ((mk_z x (by omega)).mp z)) ?_
        by_cases hc : bt y (mt_K (mt_f nx) ou s) = false
        · have hor : ∀ i, i < 16 → bt (y ||| ((1 : Int32) <<< (nI (mt_K (mt_f nx) ou s) &&& 31))) i = (bt y i || decide (i = mt_K (mt_f nx) ou s)) := fun i hi => mk_or y (by omega) (by omega)
          have hcnt : mt_cb (bt (y ||| ((1 : Int32) <<< (nI (mt_K (mt_f nx) ou s) &&& 31)))) 16 = mt_cb (bt y) 16 + 1 := by
            refine mt_cb_add hc ?_ 16 (fun i hi hne => ?_) hk
            · rw [hor _ hk, show decide (mt_K (mt_f nx) ou s = mt_K (mt_f nx) ou s) = true from decide_eq_true rfl, Bool.or_true]
            · rw [hor i hi, decide_eq_false hne, Bool.or_false]
          refine br_t ((mk_and y (by omega)).mpr hc) (nm_e (nm_r (e' := nI (mt_cb (bt (y ||| ((1 : Int32) <<< (nI (mt_K (mt_f nx) ou s) &&& 31)))) 16)) ?_ (nm_r (nI_1 s) (ih (s + 1) _ (by omega) (by omega) (fun i hi => ?_)))))
          · rw [nI_1, hcnt]
          · rw [hor i hi, hy i hi]
            exact (mt_ks_s ht i).symm
        · refine br_f (fun z => hc ((mk_and y (by omega)).mp z)) (nm_r (nI_1 s) (ih (s + 1) y (by omega) (by omega) (fun i hi => ?_)))
          rw [mt_ks_s ht i, ← hy i hi]
          by_cases ei : i = mt_K (mt_f nx) ou s
          · have hct : bt y (mt_K (mt_f nx) ou s) = true := by
              cases w : bt y (mt_K (mt_f nx) ou s) with
              | true => rfl
              | false => exact absurd w hc
            rw [ei, hct, Bool.true_or]
          · rw [decide_eq_false ei, Bool.or_false]
theorem mx_count {post : Int32 → Prop} {x : Int32} (hok : mt_ok nx) (hA : mt_Ad (mt_f nx) ou ap) (h : post (nI (mt_cb (mt_ks (mt_f nx) ou (bt x) 16) 16))) : wpX_countKinds post (nx, ou, ap) x := by
  refine ⟨17, ?_⟩
  have g := mx_ck7 hok hA h 17 0 0 (by omega) (by omega) (fun i _ => (b_0 i).trans (mt_ks_0 _ _ _ i).symm)
  have e : mt_cb (bt 0) 16 = 0 := by decide +kernel
  rw [e] at g
  exact g
theorem mx_wn4 {post : Int32 → Prop} {x : Int32} (hok : mt_ok nx) (h : ∀ y, mt_Rd (mt_f nx) (bt x) (bt y) → post y) : ∀ n p y, 48 < n + p → p ≤ 48 → (∀ s, s < 16 → bt x s = true → bt y s = true) → (∀ q, q < p → bt x (q / 3) = true → bt y (mt_f nx q) = true) → (∀ C, mt_cl (mt_f nx) C → (∀ s, s < 16 → bt x s = true → C s = true) → ∀ s, s < 16 → bt y s = true → C s = true) → wX_withNextStates_4 post x nx ou ap n y (nI p) := by
  intro n
  induction n with
  | zero => intro p y q1 q2; omega
  | succ n ih =>
    intro p y q1 q2 h1 h2 h3
    rw [wX_withNextStates_4]
    refine pk_le 48 p (fun e => h y ⟨h1, fun q hq => h2 q (by omega), h3⟩) (fun e => ⟨by decide, ?_⟩)
    have ed : nI p / 3 = nI (p / 3) := pk_div (a := p) (d := 3) (by omega) (by omega) (by omega)
    rw [ed]
    by_cases hb : bt x (p / 3) = false
    · refine br_t ((mk_z x (by omega)).mpr hb) (nm_r (nI_1 p) (ih (p + 1) y (by omega) (by omega) h1 (fun q hq hx => ?_) h3))
      by_cases e2 : q = p
      · rw [e2, hb] at hx
        exact nomatch hx
      · exact h2 q (by omega) hx
    · have ht : bt x (p / 3) = true := by
        cases w : bt x (p / 3) with
        | true => rfl
        | false => exact absurd w hb
      have hf := mt_ok_f hok p e
      have hor : ∀ i, i < 16 → bt (y ||| ((1 : Int32) <<< (nI (mt_f nx p) &&& 31))) i = (bt y i || decide (i = mt_f nx p)) := fun i hi => mk_or y (by omega) (by omega)
      refine br_f (fun z => hb ((mk_z x (by omega)).mp z)) ⟨vp_in_nI e (by omega), nm_r (e' := y ||| ((1 : Int32) <<< (nI (mt_f nx p) &&& 31))) ?_ (nm_r (nI_1 p) (ih (p + 1) _ (by omega) (by omega) (fun s hs hx => ?_) (fun q hq hx => ?_) (fun C hC hs s hs2 hx => ?_)))⟩
      · rw [nI_clamp (by omega), mt_ok_e hok e]
      · rw [hor s hs, h1 s hs hx, Bool.true_or]
      · by_cases e2 : q = p
        · rw [e2, hor _ hf, show decide (mt_f nx p = mt_f nx p) = true from decide_eq_true rfl, Bool.or_true]
        · rw [hor _ (mt_ok_f hok q (by omega)), h2 q (by omega) hx, Bool.true_or]
      · rw [hor s hs2] at hx
        by_cases e2 : s = mt_f nx p
        · rw [e2]
          exact hC p e (hs (p / 3) (by omega) ht)
        · rw [decide_eq_false e2, Bool.or_false] at hx
          exact h3 C hC hs s hs2 hx
theorem mx_with {post : Int32 → Prop} {x : Int32} (hok : mt_ok nx) (h : ∀ y, mt_Rd (mt_f nx) (bt x) (bt y) → post y) : wpX_withNextStates post (nx, ou, ap) x :=
  ⟨49, mx_wn4 hok h 49 0 x (by omega) (by omega) (fun s _ z => z) (fun q hq => absurd hq (Nat.not_lt_zero q)) (fun C _ hs => hs)⟩
theorem mx_rk15 {post : Int32 → Prop} {st : Nat} (hok : mt_ok nx) (hst : st < 16) (h : ∀ y, mt_Rn (mt_f nx) st 15 (bt y) → wpX_countKinds (fun r => post r) (nx, ou, ap) y) : ∀ n r y, 15 < n + r → r ≤ 15 → mt_Rn (mt_f nx) st r (bt y) → wX_reachableKinds_15 post nx ou ap n y (nI (r + 1)) := by
  intro n
  induction n with
  | zero => intro r y q1 q2; omega
  | succ n ih =>
    intro r y q1 q2 hR
    rw [wX_reachableKinds_15]
    refine pk_le 16 (r + 1) (fun e => ?_) (fun e => mx_with hok (fun z hz => nm_r (nI_1 (r + 1)) (ih (r + 1) z (by omega) (by omega) (mt_Rn_s (mt_ok_f hok) hst hR hz))))
    have er : r = 15 := by omega
    rw [er] at hR
    exact h y hR
theorem mx_de4 {post : Int32 → Prop} (hok : mt_ok nx) (hA : mt_Ad (mt_f nx) ou ap) (h : ∀ m, mt_mx (mt_f nx) ou m → post (nI m)) : ∀ n p m, 256 < n + p → p ≤ 256 → m ≤ 15 → (∀ q, q < p → mt_D (mt_f nx) ou (q / 16) (q % 16) ≤ m) → (m = 0 ∨ ∃ a b, a < 16 ∧ b < 16 ∧ mt_D (mt_f nx) ou a b = m) → wX_depth_4 post nx ou ap n (nI m) (nI p) := by
  intro n
  induction n with
  | zero => intro p m q1 q2; omega
  | succ n ih =>
    intro p m q1 q2 q3 h1 h2
    rw [wX_depth_4]
    refine pk_le 256 p (fun e => h m ⟨fun a b ha hb => ?_, h2⟩) (fun e => ⟨vp_in_nI e (by omega), ?_⟩)
    · have g := h1 (a * 16 + b) (by omega)
      rw [show (a * 16 + b) / 16 = a by omega, show (a * 16 + b) % 16 = b by omega] at g
      exact g
    · have hm := mt_moore (o := ou) (mt_ok_f hok) (show p / 16 < 16 by omega) (show p % 16 < 16 by omega)
      have ep : ap (nI p).toNatClampNeg = nI (mt_D (mt_f nx) ou (p / 16) (p % 16)) := by
        rw [nI_clamp (by omega)]
        have g := hA (p / 16) (p % 16) (by omega) (by omega)
        rw [show p / 16 * 16 + p % 16 = p by omega] at g
        exact g
      refine pk_le (mt_D (mt_f nx) ou (p / 16) (p % 16)) m (fun z => nm_r (nI_1 p) (ih (p + 1) m (by omega) (by omega) q3 (fun q hq => ?_) h2)) (fun z => ⟨vp_in_nI e (by omega), nm_r ep (nm_r (nI_1 p) (ih (p + 1) _ (by omega) (by omega) hm (fun q hq => ?_) (Or.inr ⟨p / 16, p % 16, by omega, by omega, rfl⟩)))⟩) ep
      · by_cases e2 : q = p
        · rw [e2]
          exact z
        · exact h1 q (by omega)
      · by_cases e2 : q = p
        · rw [e2]
          exact Nat.le_refl _
        · have := h1 q (by omega)
          omega
theorem mx_depth {post : Int32 → Prop} (hok : mt_ok nx) (hA : mt_Ad (mt_f nx) ou ap) (h : ∀ m, mt_mx (mt_f nx) ou m → post (nI m)) : wpX_depth post (nx, ou, ap) :=
  ⟨257, mx_de4 hok hA h 257 0 0 (by omega) (by omega) (by omega) (fun q hq => absurd hq (Nat.not_lt_zero q)) (Or.inl rfl)⟩
end
