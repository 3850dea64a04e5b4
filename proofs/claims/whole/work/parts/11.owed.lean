/-! the relation: the same tables, every next state within, apart the distances; the reference's scratch is free -/
def i_Rel (_ : Nat) (u : SX) (v : SY) : Prop := ∃ nx ou ap fp ps fr bw kn w, u = (nx, ou, ap) ∧ v = (fp, nx, ou, ps, fr, bw, kn, w) ∧ mt_ok nx ∧ mt_Ad (mt_f nx) ou ap
theorem mt_rel {k : Nat} {nx ou ap : Nat → Int32} {fp : Int32} {ps fr bw kn w : Nat → Int32} (h : mt_ok nx) (g : mt_Ad (mt_f nx) ou ap) : i_Rel k (nx, ou, ap) (fp, nx, ou, ps, fr, bw, kn, w) := ⟨nx, ou, ap, fp, ps, fr, bw, kn, w, rfl, rfl, h, g⟩
theorem i_up {k : Nat} {u : SX} {v : SY} (h : i_Rel k u v) : i_Rel (k + 4) u v := h
theorem mt_cs (x : Int32) {n : Nat} (hn : n < 2 ^ 31) : (x < 0 ∨ nI n ≤ x) ∨ ∃ j : Nat, j < n ∧ x = nI j := by
  rcases pk_ix x hn with h | h | h
  · exact Or.inl (Or.inl h)
  · exact Or.inl (Or.inr h)
  · exact Or.inr h
/-! the new objects -/
def mt_n0 (i : Nat) : Nat → Int32 := fun j => if j < i then nI (j / 3) else 0
theorem mt_n0_0 : mt_n0 0 = fun _ => 0 := by
  funext j
  exact if_neg (Nat.not_lt_zero j)
theorem mt_n0_s (i : Nat) : upd (mt_n0 i) i (nI (i / 3)) = mt_n0 (i + 1) := by
  funext j
  by_cases e : j = i
  · rw [e, pk_us]
    exact (if_pos (Nat.lt_succ_self i)).symm
  · rw [pk_un e]
    by_cases h : j < i
    · exact (if_pos h).trans (if_pos (by omega : j < i + 1)).symm
    · exact (if_neg h).trans (if_neg (by omega : ¬ j < i + 1)).symm
theorem mt_n0_ok : mt_ok (mt_n0 48) := fun p hp => ⟨p / 3, by omega, if_pos hp⟩
theorem mt_T_c {f : Nat → Nat} : ∀ n a b, ¬ mt_T f (fun _ => 0) n a b := by
  intro n
  induction n with
  | zero => intro a b h; exact mt_T_z h
  | succ n ih =>
    intro a b h
    rcases mt_T_el h with ⟨_, i, hi, g⟩ | ⟨i, hi, g⟩
    · exact g rfl
    · exact ih _ _ g
theorem mt_n0_Ad : mt_Ad (mt_f (mt_n0 48)) (fun _ => 0) (fun _ => 0) := by
  intro x y _ _
  rw [mt_D_zi (fun n => mt_T_c n x y)]
  exact nI_0.symm
theorem mx_in39 {post : SX → Prop} {J31 : Int32 → (Nat → Int32) → (Nat → Int32) → (Nat → Int32) → Prop} {s : Nat} {ou ap : Nat → Int32} (hs : s < 16) (h : J31 (nI (s + 1)) (mt_n0 ((s + 1) * 3)) ou ap) : ∀ n i, 3 < n + i → i ≤ 3 → wX_init_39 post J31 (nI s) n (nI i) (mt_n0 (s * 3 + i)) ou ap := by
  intro n
  induction n with
  | zero => intro i q1 q2; omega
  | succ n ih =>
    intro i q1 q2
    rw [wX_init_39]
    refine pk_le 3 i (fun e => nm_r (nI_1 s) ?_) (fun e => mx_place ⟨vp_in_nI (by omega) (by omega), nm_r (e' := mt_n0 (s * 3 + (i + 1))) ?_ (nm_r (nI_1 i) (ih (i + 1) (by omega) (by omega)))⟩)
    · have e2 : s * 3 + i = (s + 1) * 3 := by omega
      rw [e2]
      exact h
    · have g := mt_n0_s (s * 3 + i)
      rw [show (s * 3 + i) / 3 = s by omega] at g
      rw [nI_clamp (by omega)]
      exact g
theorem mx_in31 {post : SX → Prop} {ou ap : Nat → Int32} (h : post (mt_n0 48, ou, ap)) : ∀ n s, 16 < n + s → s ≤ 16 → wX_init_31 post n (nI s) (mt_n0 (s * 3)) ou ap := by
  intro n
  induction n with
  | zero => intro s q1 q2; omega
  | succ n ih =>
    intro s q1 q2
    rw [wX_init_31]
    refine pk_le 16 s (fun e => ?_) (fun e => ⟨4, mx_in39 e (ih (s + 1) (by omega) (by omega)) 4 0 (by omega) (by omega)⟩)
    have es : s = 16 := by omega
    rw [es]
    exact h
theorem my_in67 {post : SY → Prop} {fp : Int32} {ou ps fr bw kn w : Nat → Int32} (h : post (fp, mt_n0 48, ou, ps, fr, bw, kn, w)) : ∀ n i, 48 < n + i → i ≤ 48 → wY_init_67 post fp n (nI i) (mt_n0 i) ou ps fr bw kn w := by
  intro n
  induction n with
  | zero => intro i q1 q2; omega
  | succ n ih =>
    intro i q1 q2
    rw [wY_init_67]
    refine pk_le 48 i (fun e => ?_) (fun e => ⟨by decide, vp_in_nI e (by omega), nm_r (e' := mt_n0 (i + 1)) ?_ (nm_r (nI_1 i) (ih (i + 1) (by omega) (by omega)))⟩)
    · have ei : i = 48 := by omega
      rw [ei]
      exact h
    · have ed : nI i / 3 = nI (i / 3) := pk_div (a := i) (d := 3) (by omega) (by omega) (by omega)
      rw [nI_clamp (by omega), ed]
      exact mt_n0_s i
theorem i_vc0 : wpX_init (fun u => wpY_init (fun v => i_Rel 0 u v)) := by
  refine ⟨17, ?_⟩
  rw [← mt_n0_0]
  refine mx_in31 ?_ 17 0 (by omega) (by omega)
  refine ⟨49, ?_⟩
  exact my_in67 (mt_rel mt_n0_ok mt_n0_Ad) 49 0 (by omega) (by omega)
/-! the least word that tells two states apart -/
theorem mt_ex_app : ∀ n z u i, i < 3 → mt_ex n z u → mt_ex (n + 1) z (3 * u + i + 1) := by
  intro n
  induction n with
  | zero =>
    intro z u i hi h
    have e := mt_ex_0 h
    rw [e]
    exact mt_ex_s i hi (mt_ex_00 _)
  | succ n ih =>
    intro z u i hi h
    obtain ⟨j, hj, h⟩ := mt_ex_e h
    exact mt_ex_s j hj (ih _ u i hi h)
theorem mt_ln (v : Nat) : ∃ n, mt_ex n 0 v := by
  induction v using Nat.strongRecOn with
  | ind v ih =>
    by_cases e : v = 0
    · rw [e]
      exact ⟨0, mt_ex_00 0⟩
    · obtain ⟨u, i, hi, ev⟩ := mt_wd v e
      obtain ⟨n, hn⟩ := ih u (by omega)
      rw [ev]
      exact ⟨n + 1, mt_ex_app n 0 u i hi hn⟩
theorem mt_ex_D {f : Nat → Nat} {o : Nat → Int32} {a b v : Nat} (h : mt_fst f o a b v) : mt_ex (mt_D f o a b) 0 v := by
  obtain ⟨n, hn⟩ := mt_ln v
  rw [mt_fst_D h hn]
  exact hn
theorem mt_fst_ex {f : Nat → Nat} {o : Nat → Int32} {a b : Nat} (h : 1 ≤ mt_D f o a b) : ∃ v, mt_fst f o a b v := by
  have t := mt_D_pos h
  have g : ∃ w, mt_tl f o a b w ∧ mt_ex (mt_D f o a b) 0 w := mt_ext _ 0 (by
    rw [mt_go_0, mt_go_0]
    exact t)
  obtain ⟨w, hw, _⟩ := g
  obtain ⟨v, h1, h2⟩ := pk_least (fun w => mt_tl f o a b w) ⟨w, hw⟩
  exact ⟨v, h1, h2⟩
theorem mt_fst_uq {f : Nat → Nat} {o : Nat → Int32} {a b v t : Nat} (h : mt_fst f o a b v) (g : mt_fst f o a b t) : v = t := by
  rcases Nat.lt_trichotomy v t with q | q | q
  · exact absurd h.1 (g.2 v q)
  · exact q
  · exact absurd g.1 (h.2 t q)
