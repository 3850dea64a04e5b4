/-! the small helpers of the component -/
theorem mx_ix3 (s i : Nat) : nI s * 3 + nI i = nI (s * 3 + i) := by
  have h : nI s * 3 = nI (s * 3) := pk_mul s 3
  rw [h, nI_add]
theorem mx_ix16 (s i : Nat) : nI s * 16 + nI i = nI (s * 16 + i) := by
  have h : nI s * 16 = nI (s * 16) := pk_mul s 16
  rw [h, nI_add]
theorem mx_place {post : Int32 → Prop} {s i : Nat} (h : post (nI (s * 3 + i))) : wpX_place post (nI s) (nI i) := by
  unfold wpX_place
  rw [mx_ix3]
  exact h
theorem mx_pair {post : Int32 → Prop} {s i : Nat} (h : post (nI (s * 16 + i))) : wpX_pair post (nI s) (nI i) := by
  unfold wpX_pair
  rw [mx_ix16]
  exact h
theorem mx_st {post : Int32 → Prop} {s : Nat} (hs : s < 16) (h : post 1) : wpX_isState post (nI s) :=
  br_f (nI_pos (by omega)) (br_f (nI_ge (b := 16) hs (by omega)) h)
theorem mx_st0 {post : Int32 → Prop} {x : Int32} (hx : x < 0 ∨ nI 16 ≤ x) (h : post 0) : wpX_isState post x := by
  by_cases h0 : x < 0
  · exact br_t h0 h
  · exact br_f h0 (br_t (hx.resolve_left h0) h)
theorem mx_in {post : Int32 → Prop} {s : Nat} (hs : s < 3) (h : post 1) : wpX_isInput post (nI s) :=
  br_f (nI_pos (by omega)) (br_f (nI_ge (b := 3) hs (by omega)) h)
theorem mx_in0 {post : Int32 → Prop} {x : Int32} (hx : x < 0 ∨ nI 3 ≤ x) (h : post 0) : wpX_isInput post x := by
  by_cases h0 : x < 0
  · exact br_t h0 h
  · exact br_f h0 (br_t (hx.resolve_left h0) h)
theorem mx_starts {post : Int32 → Prop} {nx ou ap : Nat → Int32} {a b i L : Nat} (hok : mt_ok nx) (hr : 2 ≤ L → mt_rd (mt_f nx) ou ap (L - 1)) (ha : a < 16) (hb : b < 16) (hi : i < 3) (hL : 1 ≤ L) (hL2 : L < 2 ^ 30) (h1 : mt_S (mt_f nx) ou a b i L → post 1) (h0 : ¬ mt_S (mt_f nx) ou a b i L → post 0) : wpX_starts post (nx, ou, ap) (nI a) (nI b) (nI i) (nI L) := by
  unfold wpX_starts
  dsimp only
  refine mx_place (mx_place ?_)
  have ca : (nI (a * 3 + i)).toNatClampNeg = a * 3 + i := nI_clamp (by omega)
  have cb : (nI (b * 3 + i)).toNatClampNeg = b * 3 + i := nI_clamp (by omega)
  rw [ca, cb]
  refine pk_eq L 1 (fun e => ⟨vp_in_nI (by omega) (by omega), vp_in_nI (by omega) (by omega), ?_⟩) (fun e => ⟨vp_in_nI (by omega) (by omega), vp_in_nI (by omega) (by omega), ?_⟩)
  · refine br_c (fun z => h0 (fun s => ?_)) (fun z => h1 (Or.inl ⟨e, z⟩))
    rcases s with ⟨_, s⟩ | ⟨s, _⟩
    · exact s z
    · omega
  · rw [mt_ok_e hok (p := a * 3 + i) (by omega), mt_ok_e hok (p := b * 3 + i) (by omega)]
    have fa := mt_ok_f hok (a * 3 + i) (by omega)
    have fb := mt_ok_f hok (b * 3 + i) (by omega)
    obtain ⟨v, hv, ev, iff⟩ := hr (by omega) (mt_f nx (a * 3 + i)) (mt_f nx (b * 3 + i)) fa fb
    refine mx_pair ⟨vp_in_nI (by omega) (by omega), ?_⟩
    have cc : (nI (mt_f nx (a * 3 + i) * 16 + mt_f nx (b * 3 + i))).toNatClampNeg = mt_f nx (a * 3 + i) * 16 + mt_f nx (b * 3 + i) := nI_clamp (by omega)
    have e3 : nI L - 1 = nI (L - 1) := pk_sub (a := L) (b := 1) hL
    rw [cc, ev, e3]
    refine pk_eq v (L - 1) (fun q => h1 (Or.inr ⟨by omega, iff.mp q⟩)) (fun q => h0 (fun s => ?_))
    rcases s with ⟨s, _⟩ | ⟨_, s⟩
    · omega
    · exact q (iff.mpr s)
section
variable {nx ou ap : Nat → Int32} {a b L : Nat}
theorem mx_mp34 {post : Int32 → SX → Prop} (ha : a < 16) (hb : b < 16) (h : post 1 (nx, ou, upd (upd ap (a * 16 + b) (nI L)) (b * 16 + a) (nI L))) : wX_markPair_34 post (nI a) (nI b) (nI L) 1 nx ou ap := by
  unfold wX_markPair_34
  refine br_f (by decide) (mx_pair ⟨vp_in_nI (by omega) (by omega), nm_r (e' := upd ap (a * 16 + b) (nI L)) (by rw [nI_clamp (by omega)]) ?_⟩)
  exact mx_pair ⟨vp_in_nI (by omega) (by omega), nm_r (e' := upd (upd ap (a * 16 + b) (nI L)) (b * 16 + a) (nI L)) (by rw [nI_clamp (by omega)]) ⟨rfl, h⟩⟩
theorem mx_mp6t {post : Int32 → SX → Prop} {n i : Nat} (hi : i ≤ 3) (h : wX_markPair_34 post (nI a) (nI b) (nI L) 1 nx ou ap) : wX_markPair_6 post (nI a) (nI b) (nI L) nx ou ap (n + 1) 1 (nI i) := by
  rw [wX_markPair_6]
  exact pk_le 3 i (fun _ => h) (fun _ => br_f (by decide) h)
theorem mx_mp6 {post : Int32 → SX → Prop} (hok : mt_ok nx) (hr : 2 ≤ L → mt_rd (mt_f nx) ou ap (L - 1)) (ha : a < 16) (hb : b < 16) (hL : 1 ≤ L) (hL2 : L < 2 ^ 30) (h1 : (∃ i, i < 3 ∧ mt_S (mt_f nx) ou a b i L) → post 1 (nx, ou, upd (upd ap (a * 16 + b) (nI L)) (b * 16 + a) (nI L))) (h0 : ¬ (∃ i, i < 3 ∧ mt_S (mt_f nx) ou a b i L) → post 0 (nx, ou, ap)) : ∀ n i, 3 < n + i → i ≤ 3 → (∀ j, j < i → ¬ mt_S (mt_f nx) ou a b j L) → wX_markPair_6 post (nI a) (nI b) (nI L) nx ou ap n 0 (nI i) := by
  intro n
  induction n with
  | zero => intro i q1 q2; omega
  | succ n ih =>
    intro i q1 q2 q3
    rw [wX_markPair_6]
    refine pk_le 3 i (fun e => ?_) (fun e => br_t rfl ?_)
    · unfold wX_markPair_34
      refine br_t rfl ⟨rfl, h0 (fun s => ?_)⟩
      obtain ⟨j, hj, s⟩ := s
      exact q3 j (by omega) s
    · refine mx_starts hok hr ha hb e hL hL2 (fun s => nm_r (nI_1 i) ?_) (fun s => nm_r (nI_1 i) ?_)
      · obtain ⟨m, em⟩ : ∃ m, n = m + 1 := ⟨n - 1, by omega⟩
        rw [em]
        exact mx_mp6t (by omega) (mx_mp34 ha hb (h1 ⟨i, e, s⟩))
      · refine ih (i + 1) (by omega) (by omega) (fun j hj => ?_)
        by_cases e2 : j = i
        · rw [e2]
          exact s
        · exact q3 j (by omega)
theorem mx_markPair {post : Int32 → SX → Prop} (hok : mt_ok nx) (hr : 2 ≤ L → mt_rd (mt_f nx) ou ap (L - 1)) (ha : a < 16) (hb : b < 16) (hL : 1 ≤ L) (hL2 : L < 2 ^ 30) (h1 : (∃ i, i < 3 ∧ mt_S (mt_f nx) ou a b i L) → post 1 (nx, ou, upd (upd ap (a * 16 + b) (nI L)) (b * 16 + a) (nI L))) (h0 : ¬ (∃ i, i < 3 ∧ mt_S (mt_f nx) ou a b i L) → post 0 (nx, ou, ap)) : wpX_markPair post (nx, ou, ap) (nI a) (nI b) (nI L) :=
  ⟨4, mx_mp6 hok hr ha hb hL hL2 h1 h0 4 0 (by omega) (by omega) (fun j hj => absurd hj (Nat.not_lt_zero j))⟩
end
section
variable {nx ou : Nat → Int32} {L : Nat}
theorem mx_mps15 {post : Int32 → SX → Prop} {J4 : Int32 → Int32 → (Nat → Int32) → (Nat → Int32) → (Nat → Int32) → Prop} {a : Nat} (hok : mt_ok nx) (ha : a < 16) (hL : L + 1 < 2 ^ 30) (HJ : ∀ fo ap, mt_M (mt_f nx) ou L a 16 ap → mt_F (mt_f nx) ou L a 16 fo → J4 fo (nI (a + 1)) nx ou ap) : ∀ n b fo ap, 16 < n + b → a < b → b ≤ 16 → mt_M (mt_f nx) ou L a b ap → mt_F (mt_f nx) ou L a b fo → wX_markPairs_15 post J4 (nI (L + 1)) (nI a) n fo (nI b) nx ou ap := by
  intro n
  induction n with
  | zero => intro b fo ap q1 q2 q3; omega
  | succ n ih =>
    intro b fo ap q1 q2 q3 hM hF
    rw [wX_markPairs_15]
    refine pk_le 16 b (fun e => nm_r (nI_1 a) ?_) (fun e => mx_pair ⟨vp_in_nI (by omega) (by omega), ?_⟩)
    · have eb : b = 16 := by omega
      rw [eb] at hM hF
      exact HJ fo ap hM hF
    · have hA := mt_A_bd (f := mt_f nx) (o := ou) L a b
      refine pk_eq (mt_A (mt_f nx) ou L a b) 0 (fun z => ?_) (fun z => ?_) (by rw [nI_clamp (by omega)]; exact mt_M_get hM q2 e)
      · refine mx_markPair hok (fun h2 => mt_M_rd hM (by omega) (by omega)) ha e (by omega) hL (fun s => ?_) (fun s => ?_)
        · have hd := (mt_told z).mp s
          exact br_f (by decide) (nm_r (nI_1 b) (ih (b + 1) 1 _ (by omega) (by omega) (by omega) (mt_M_set hM q2 e hd) mt_F_set))
        · have hd : mt_D (mt_f nx) ou a b ≠ L + 1 := fun w => s ((mt_told z).mpr w)
          exact br_t rfl (nm_r (nI_1 b) (ih (b + 1) fo ap (by omega) (by omega) (by omega) (mt_M_skip hM q2 e hd) (mt_F_skip hF hd)))
      · have hd : mt_D (mt_f nx) ou a b ≠ L + 1 := fun w => z (mt_A_z.mpr (Or.inr (by omega)))
        exact nm_r (nI_1 b) (ih (b + 1) fo ap (by omega) (by omega) (by omega) (mt_M_skip hM q2 e hd) (mt_F_skip hF hd))
theorem mx_mps4 {post : Int32 → SX → Prop} (hok : mt_ok nx) (hL : L + 1 < 2 ^ 30) (hp : ∀ fo ap, mt_Ap (mt_f nx) ou (L + 1) ap → (fo = 0 ∨ fo = 1) → (fo = 0 → ∀ x y, x < 16 → y < 16 → mt_D (mt_f nx) ou x y ≤ L) → post fo (nx, ou, ap)) : ∀ n a fo ap, 16 < n + a → a ≤ 16 → mt_M (mt_f nx) ou L a (a + 1) ap → mt_F (mt_f nx) ou L a (a + 1) fo → wX_markPairs_4 post (nI (L + 1)) n fo (nI a) nx ou ap := by
  intro n
  induction n with
  | zero => intro a fo ap q1 q2; omega
  | succ n ih =>
    intro a fo ap q1 q2 hM hF
    rw [wX_markPairs_4]
    refine pk_le 16 a (fun e => ⟨?_, ?_⟩) (fun e => nm_r (nI_1 a) ⟨17, ?_⟩)
    · rcases hF.1 with w | w
      · rw [w]; rfl
      · rw [w]; rfl
    · have ea : a = 16 := by omega
      rw [ea] at hM hF
      refine hp fo ap (mt_M_end hM) hF.1 (fun z x y hx hy => ?_)
      rw [z] at hF
      exact mt_F_end (mt_ok_f hok) hF hx hy
    · exact mx_mps15 hok e hL (fun fo2 ap2 hM2 hF2 => ih (a + 1) fo2 ap2 (by omega) (by omega) (mt_M_row hM2) (mt_F_row hF2)) 17 (a + 1) fo ap (by omega) (by omega) (by omega) hM hF
theorem mx_markPairs {post : Int32 → SX → Prop} {ap : Nat → Int32} (hok : mt_ok nx) (hL : L + 1 < 2 ^ 30) (hA : mt_Ap (mt_f nx) ou L ap) (hp : ∀ fo ap, mt_Ap (mt_f nx) ou (L + 1) ap → (fo = 0 ∨ fo = 1) → (fo = 0 → ∀ x y, x < 16 → y < 16 → mt_D (mt_f nx) ou x y ≤ L) → post fo (nx, ou, ap)) : wpX_markPairs post (nx, ou, ap) (nI (L + 1)) :=
  ⟨17, mx_mps4 hok hL hp 17 0 0 ap (by omega) (by omega) (mt_M_0 hA) mt_F_0⟩
end
section
variable {nx ou : Nat → Int32}
theorem mx_me26 {post : SX → Prop} (hok : mt_ok nx) (hp : ∀ ap, mt_Ad (mt_f nx) ou ap → post (nx, ou, ap)) : ∀ n L fo ap, 15 < n + L → L ≤ 15 → mt_Ap (mt_f nx) ou L ap → (fo = 0 → ∀ x y, x < 16 → y < 16 → mt_D (mt_f nx) ou x y ≤ L) → wX_measure_26 post n fo (nI (L + 1)) nx ou ap := by
  intro n
  induction n with
  | zero => intro L fo ap q1 q2; omega
  | succ n ih =>
    intro L fo ap q1 q2 hA hF
    rw [wX_measure_26]
    refine pk_lt 15 (L + 1) (fun e => hp ap (mt_Ap_Ad hA (fun x y hx hy => ?_))) (fun e => ?_)
    · have := mt_moore (o := ou) (mt_ok_f hok) hx hy
      omega
    · by_cases z : fo = 0
      · exact br_t z (hp ap (mt_Ap_Ad hA (hF z)))
      · refine br_f z (mx_markPairs hok (by omega) hA (fun fo2 ap2 hA2 _ hF2 => nm_r (nI_1 (L + 1)) ?_))
        refine ih (L + 1) fo2 ap2 (by omega) (by omega) hA2 (fun z2 x y hx hy => ?_)
        have := hF2 z2 x y hx hy
        omega
theorem mx_me2 {post : SX → Prop} (hok : mt_ok nx) (hp : ∀ ap, mt_Ad (mt_f nx) ou ap → post (nx, ou, ap)) : ∀ n i ap, 256 < n + i → i ≤ 256 → (∀ p, p < i → ap p = 0) → wX_measure_2 post n (nI i) nx ou ap := by
  intro n
  induction n with
  | zero => intro i ap q1 q2; omega
  | succ n ih =>
    intro i ap q1 q2 h
    rw [wX_measure_2]
    refine pk_le 256 i (fun e => ⟨16, ?_⟩) (fun e => ⟨vp_in_nI e (by omega), nm_r (e' := upd ap i 0) (by rw [nI_clamp (by omega)]) (nm_r (nI_1 i) ?_)⟩)
    · exact mx_me26 hok hp 16 0 1 ap (by omega) (by omega) (mt_Ap_0 (fun p hp => h p (by omega))) (fun z => absurd z (by decide))
    · refine ih (i + 1) (upd ap i 0) (by omega) (by omega) (fun p hp => ?_)
      by_cases e2 : p = i
      · rw [e2]
        exact pk_us
      · rw [pk_un e2]
        exact h p (by omega)
theorem mx_measure {post : SX → Prop} {ap : Nat → Int32} (hok : mt_ok nx) (hp : ∀ ap, mt_Ad (mt_f nx) ou ap → post (nx, ou, ap)) : wpX_measure post (nx, ou, ap) :=
  ⟨257, mx_me2 hok hp 257 0 ap (by omega) (by omega) (fun p hp => absurd hp (Nat.not_lt_zero p))⟩
end
