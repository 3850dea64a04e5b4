/-! words as naturals: the empty word is 0, the word u with input i behind it is 3 * u + i + 1 -/
def mt_go (f : Nat → Nat) (s : Nat) (v : Nat) : Nat :=
  if h : v = 0 then s else f (mt_go f s ((v - 1) / 3) * 3 + (v - 1) % 3)
termination_by v
decreasing_by omega
theorem mt_go_0 (f : Nat → Nat) (s : Nat) : mt_go f s 0 = s := by
  rw [mt_go, dif_pos rfl]
theorem mt_go_s (f : Nat → Nat) (s u i : Nat) (hi : i < 3) : mt_go f s (3 * u + i + 1) = f (mt_go f s u * 3 + i) := by
  rw [mt_go, dif_neg (by omega), show (3 * u + i + 1 - 1) / 3 = u by omega, show (3 * u + i + 1 - 1) % 3 = i by omega]
theorem mt_wd (v : Nat) (h : v ≠ 0) : ∃ u i, i < 3 ∧ v = 3 * u + i + 1 := ⟨(v - 1) / 3, (v - 1) % 3, by omega, by omega⟩
theorem mt_go_lt {f : Nat → Nat} (hf : ∀ p, p < 48 → f p < 16) {s : Nat} (hs : s < 16) (v : Nat) : mt_go f s v < 16 := by
  induction v using Nat.strongRecOn with
  | ind v ih =>
    by_cases h : v = 0
    · rw [h, mt_go_0]
      exact hs
    · obtain ⟨u, i, hi, e⟩ := mt_wd v h
      have g := ih u (by omega)
      rw [e, mt_go_s f s u i hi]
      exact hf _ (by omega)
/-! w is z with m inputs behind it -/
def mt_ex : Nat → Nat → Nat → Prop
  | 0, z, w => w = z
  | m + 1, z, w => ∃ i, i < 3 ∧ mt_ex m (3 * z + i + 1) w
theorem mt_ex_0 {z w : Nat} (h : mt_ex 0 z w) : w = z := h
theorem mt_ex_00 (z : Nat) : mt_ex 0 z z := Eq.refl z
theorem mt_ex_e {m z w : Nat} (h : mt_ex (m + 1) z w) : ∃ i, i < 3 ∧ mt_ex m (3 * z + i + 1) w := h
theorem mt_ex_s {m z w : Nat} (i : Nat) (hi : i < 3) (h : mt_ex m (3 * z + i + 1) w) : mt_ex (m + 1) z w := ⟨i, hi, h⟩
theorem mt_ex_le : ∀ m z w, mt_ex m z w → z ≤ w := by
  intro m
  induction m with
  | zero => intro z w h; have := mt_ex_0 h; omega
  | succ m ih =>
    intro z w h
    obtain ⟨i, hi, h⟩ := mt_ex_e h
    have := ih _ _ h
    omega
theorem mt_cmp : ∀ m j x y w v, m ≤ j → x < y → mt_ex m x w → mt_ex j y v → w < v := by
  intro m
  induction m with
  | zero =>
    intro j x y w v _ h g1 g2
    have h1 := mt_ex_0 g1
    have h2 := mt_ex_le _ _ _ g2
    omega
  | succ m ih =>
    intro j x y w v hj h g1 g2
    cases j with
    | zero => omega
    | succ j =>
      obtain ⟨i, hi, e1⟩ := mt_ex_e g1
      obtain ⟨k, hk, e2⟩ := mt_ex_e g2
      exact ih j _ _ w v (by omega) (by omega) e1 e2
theorem mt_cmp2 {m j z w v : Nat} (h : m < j) (g1 : mt_ex m z w) (g2 : mt_ex j z v) : w < v := by
  cases j with
  | zero => omega
  | succ j =>
    obtain ⟨k, hk, e2⟩ := mt_ex_e g2
    exact mt_cmp m j z _ w v (by omega) (by omega) g1 e2
def mt_pr (v : Nat) : Nat → Nat
  | 0 => v
  | m + 1 => (mt_pr v m - 1) / 3
theorem mt_ex_pr : ∀ m z v, mt_ex m z v → mt_pr v m = z := by
  intro m
  induction m with
  | zero => intro z v h; exact mt_ex_0 h
  | succ m ih =>
    intro z v h
    obtain ⟨i, hi, h⟩ := mt_ex_e h
    have g := ih _ _ h
    show (mt_pr v m - 1) / 3 = z
    omega
/-! the word w tells a and b apart by its last output; the least such word -/
def mt_tl (f : Nat → Nat) (o : Nat → Int32) (a b w : Nat) : Prop := ∃ u i, i < 3 ∧ w = 3 * u + i + 1 ∧ o (mt_go f a u * 3 + i) ≠ o (mt_go f b u * 3 + i)
def mt_fst (f : Nat → Nat) (o : Nat → Int32) (a b v : Nat) : Prop := mt_tl f o a b v ∧ ∀ w, w < v → ¬ mt_tl f o a b w
section
variable {f : Nat → Nat} {o : Nat → Int32} {a b : Nat}
theorem mt_ext : ∀ m z, mt_T f o m (mt_go f a z) (mt_go f b z) → ∃ w, mt_tl f o a b w ∧ mt_ex m z w := by
  intro m
  induction m with
  | zero => intro z h; exact (mt_T_z h).elim
  | succ m ih =>
    intro z h
    rcases mt_T_el h with ⟨e, i, hi, g⟩ | ⟨i, hi, g⟩
    · cases e
      exact ⟨3 * z + i + 1, ⟨z, i, hi, rfl, g⟩, mt_ex_s i hi (mt_ex_00 _)⟩
    · obtain ⟨w, t, e⟩ := ih (3 * z + i + 1) (by
        rw [mt_go_s f a z i hi, mt_go_s f b z i hi]
        exact g)
      exact ⟨w, t, mt_ex_s i hi e⟩
theorem mt_tel : ∀ m z w, mt_tl f o a b w → mt_ex (m + 1) z w → mt_T f o (m + 1) (mt_go f a z) (mt_go f b z) := by
  intro m
  induction m with
  | zero =>
    intro z w t h
    obtain ⟨i, hi, h⟩ := mt_ex_e h
    have e1 := mt_ex_0 h
    obtain ⟨u, j, hj, e2, g⟩ := t
    have eu : u = z := by omega
    have ej : j = i := by omega
    rw [eu, ej] at g
    exact mt_T_o i hi g
  | succ m ih =>
    intro z w t h
    obtain ⟨i, hi, h⟩ := mt_ex_e h
    have g := ih _ w t h
    rw [mt_go_s f a z i hi, mt_go_s f b z i hi] at g
    exact mt_T_st i hi g
theorem mt_fst_go {v m z : Nat} (hv : mt_fst f o a b v) (h : mt_ex (m + 1) z v) : mt_D f o (mt_go f a z) (mt_go f b z) = m + 1 := by
  refine mt_D_uq (Or.inl ⟨mt_tel m z v hv.1 h, fun n hn t => ?_⟩)
  obtain ⟨w, tw, e⟩ := mt_ext n z t
  exact hv.2 w (mt_cmp2 hn e h) tw
theorem mt_fst_D {v n : Nat} (hv : mt_fst f o a b v) (h : mt_ex n 0 v) : mt_D f o a b = n := by
  cases n with
  | zero =>
    obtain ⟨u, i, hi, e, _⟩ := hv.1
    have := mt_ex_0 h
    omega
  | succ n =>
    have g := mt_fst_go hv h
    rw [mt_go_0, mt_go_0] at g
    exact g
theorem mt_fst_S {v m z i : Nat} (hv : mt_fst f o a b v) (hi : i < 3) (h : mt_ex m (3 * z + i + 1) v) : mt_S f o (mt_go f a z) (mt_go f b z) i (m + 1) ∧ ∀ j, j < i → ¬ mt_S f o (mt_go f a z) (mt_go f b z) j (m + 1) := by
  cases m with
  | zero =>
    have e := mt_ex_0 h
    constructor
    · obtain ⟨u, j, hj, e2, g⟩ := hv.1
      have eu : u = z := by omega
      have ej : j = i := by omega
      rw [eu, ej] at g
      exact Or.inl ⟨rfl, g⟩
    · intro j hj s
      rcases s with ⟨_, g⟩ | ⟨q, _⟩
      · exact hv.2 (3 * z + j + 1) (by omega) ⟨z, j, by omega, rfl, g⟩
      · omega
  | succ m =>
    have g := mt_fst_go hv h
    rw [mt_go_s f a z i hi, mt_go_s f b z i hi] at g
    refine ⟨Or.inr ⟨by omega, by omega⟩, fun j hj s => ?_⟩
    rcases s with ⟨q, _⟩ | ⟨_, g2⟩
    · omega
    · have hj3 : j < 3 := by omega
      have t := mt_D_pos (f := f) (o := o) (a := f (mt_go f a z * 3 + j)) (b := f (mt_go f b z * 3 + j)) (by omega)
      have g3 : mt_D f o (f (mt_go f a z * 3 + j)) (f (mt_go f b z * 3 + j)) = m + 1 := by omega
      rw [g3] at t
      rw [← mt_go_s f a z j hj3, ← mt_go_s f b z j hj3] at t
      obtain ⟨w, tw, e⟩ := mt_ext _ _ t
      exact hv.2 w (mt_cmp (m + 1) (m + 1) _ _ w v (Nat.le_refl _) (by omega) e h) tw
theorem mt_none (h : ∀ w, ¬ mt_tl f o a b w) : mt_D f o a b = 0 := by
  refine mt_D_zi (fun n t => ?_)
  rw [← mt_go_0 f a, ← mt_go_0 f b] at t
  obtain ⟨w, tw, _⟩ := mt_ext n 0 t
  exact h w tw
end
/-! the breadth first search: place j of the queue stands for the word c j, found from place q j -/
def mt_up (c : Nat → Nat) (k x : Nat) : Nat → Nat := fun j => if j = k then x else c j
theorem mt_up_s (c : Nat → Nat) (k x : Nat) : mt_up c k x k = x := if_pos rfl
theorem mt_up_n {c : Nat → Nat} {k x j : Nat} (h : j ≠ k) : mt_up c k x j = c j := if_neg h
def mt_Qm (c : Nat → Nat) (pc : Nat) : Prop := 1 ≤ pc ∧ c 0 = 0 ∧ ∀ j m, j < m → m < pc → c j < c m
def mt_Qq (c q : Nat → Nat) (pc k i : Nat) : Prop := ∀ j, 1 ≤ j → j < pc → ∃ d, d < 3 ∧ c j = 3 * c (q j) + d + 1 ∧ q j < j ∧ (q j < k ∨ (q j = k ∧ d < i))
def mt_Qx (f : Nat → Nat) (o : Nat → Int32) (a b : Nat) (c : Nat → Nat) (pc k i : Nat) : Prop := ∀ j d, j < pc → d < 3 → (j < k ∨ (j = k ∧ d < i)) → o (mt_go f a (c j) * 3 + d) = o (mt_go f b (c j) * 3 + d) ∧ ∃ m, m < pc ∧ c m ≤ 3 * c j + d + 1 ∧ mt_go f a (c m) = f (mt_go f a (c j) * 3 + d) ∧ mt_go f b (c m) = f (mt_go f b (c j) * 3 + d)
def mt_Q (f : Nat → Nat) (o : Nat → Int32) (a b : Nat) (c q : Nat → Nat) (pc k i : Nat) : Prop := mt_Qm c pc ∧ mt_Qq c q pc k i ∧ mt_Qx f o a b c pc k i
section
variable {f : Nat → Nat} {o : Nat → Int32} {a b : Nat} {c q : Nat → Nat} {pc k i : Nat}
theorem mt_Q_0 : mt_Q f o a b (fun _ => 0) (fun _ => 0) 1 0 0 :=
  ⟨⟨Nat.le_refl 1, rfl, fun j m h1 h2 => absurd h1 (by omega)⟩, fun j h1 h2 => absurd h1 (by omega), fun j d h1 h2 h3 => absurd h3 (by omega)⟩
theorem mt_Q_top (h : mt_Q f o a b c q pc k i) (hk : k < pc) {j : Nat} (hj : j < pc) : c j < 3 * c k + i + 1 := by
  by_cases e : j = 0
  · rw [e, h.1.2.1]
    omega
  · obtain ⟨d, hd, e2, _, g⟩ := h.2.1 j (by omega) hj
    rcases g with g | ⟨g1, g2⟩
    · have := h.1.2.2 (q j) k g hk
      omega
    · rw [g1] at e2
      omega
theorem mt_Q_old (h : mt_Q f o a b c q pc k i) (hk : k < pc) {m : Nat} (hm : m < pc) (ho : o (mt_go f a (c k) * 3 + i) = o (mt_go f b (c k) * 3 + i)) (ea : mt_go f a (c m) = f (mt_go f a (c k) * 3 + i)) (eb : mt_go f b (c m) = f (mt_go f b (c k) * 3 + i)) : mt_Q f o a b c q pc k (i + 1) := by
  refine ⟨h.1, fun j h1 h2 => ?_, fun j d h1 h2 h3 => ?_⟩
  · obtain ⟨d, hd, e2, hl, g⟩ := h.2.1 j h1 h2
    exact ⟨d, hd, e2, hl, by omega⟩
  · by_cases e : j = k ∧ d = i
    · rw [e.1, e.2]
      exact ⟨ho, m, hm, Nat.le_of_lt (mt_Q_top h hk hm), ea, eb⟩
    · exact h.2.2 j d h1 h2 (by omega)
theorem mt_Q_new (h : mt_Q f o a b c q pc k i) (hk : k < pc) (hi : i < 3) (ho : o (mt_go f a (c k) * 3 + i) = o (mt_go f b (c k) * 3 + i)) : mt_Q f o a b (mt_up c pc (3 * c k + i + 1)) (mt_up q pc k) (pc + 1) k (i + 1) := by
  have ec : ∀ j, j < pc → mt_up c pc (3 * c k + i + 1) j = c j := fun j hj => mt_up_n (by omega)
  have eq : ∀ j, j < pc → mt_up q pc k j = q j := fun j hj => mt_up_n (by omega)
  refine ⟨⟨by omega, ?_, fun j m h1 h2 => ?_⟩, fun j h1 h2 => ?_, fun j d h1 h2 h3 => ?_⟩
  · rw [ec 0 h.1.1]
    exact h.1.2.1
  · by_cases e : m = pc
    · rw [e, mt_up_s, ec j (by omega)]
      exact mt_Q_top h hk (by omega)
    · rw [ec j (by omega), ec m (by omega)]
      exact h.1.2.2 j m h1 (by omega)
  · by_cases e : j = pc
    · rw [e, mt_up_s, mt_up_s, ec k hk]
      exact ⟨i, hi, rfl, hk, Or.inr ⟨rfl, by omega⟩⟩
    · obtain ⟨d, hd, e2, hl, g⟩ := h.2.1 j h1 (by omega)
      rw [eq j (by omega), ec j (by omega), ec (q j) (by omega)]
      exact ⟨d, hd, e2, hl, by omega⟩
  · by_cases e : j = k ∧ d = i
    · rw [e.1, e.2, ec k hk]
      refine ⟨ho, pc, by omega, ?_, ?_, ?_⟩
      · rw [mt_up_s]
        exact Nat.le_refl _
      · rw [mt_up_s, mt_go_s f a _ i hi]
      · rw [mt_up_s, mt_go_s f b _ i hi]
    · have hj : j < pc := by omega
      obtain ⟨g1, m, hm, g2, g3, g4⟩ := h.2.2 j d hj h2 (by omega)
      rw [ec j hj]
      refine ⟨g1, m, by omega, ?_, ?_, ?_⟩
      · rw [ec m hm]; exact g2
      · rw [ec m hm]; exact g3
      · rw [ec m hm]; exact g4
theorem mt_Q_row (h : mt_Q f o a b c q pc k 3) : mt_Q f o a b c q pc (k + 1) 0 := by
  refine ⟨h.1, fun j h1 h2 => ?_, fun j d h1 h2 h3 => h.2.2 j d h1 h2 (by omega)⟩
  obtain ⟨d, hd, e2, hl, g⟩ := h.2.1 j h1 h2
  exact ⟨d, hd, e2, hl, by omega⟩
theorem mt_Q_cov (h : mt_Q f o a b c q pc k i) (u : Nat) : (∀ m, m < pc → c m < u → m < k) → ∃ m, m < pc ∧ c m ≤ u ∧ mt_go f a (c m) = mt_go f a u ∧ mt_go f b (c m) = mt_go f b u := by
  induction u using Nat.strongRecOn with
  | ind u ih =>
    intro H
    by_cases e : u = 0
    · refine ⟨0, h.1.1, ?_, ?_, ?_⟩
      · rw [h.1.2.1]; omega
      · rw [h.1.2.1, e]
      · rw [h.1.2.1, e]
    · obtain ⟨u2, d, hd, e2⟩ := mt_wd u e
      obtain ⟨m, hm, g1, g2, g3⟩ := ih u2 (by omega) (fun m hm hl => H m hm (by omega))
      obtain ⟨_, m2, hm2, k1, k2, k3⟩ := h.2.2 m d hm hd (Or.inl (H m hm (by omega)))
      refine ⟨m2, hm2, by omega, ?_, ?_⟩
      · rw [k2, g2, e2, mt_go_s f a u2 d hd]
      · rw [k3, g3, e2, mt_go_s f b u2 d hd]
theorem mt_Q_mono (h : mt_Q f o a b c q pc k i) (hk : k < pc) {m : Nat} (hm : m < pc) (g : c m < c k) : m < k := by
  apply Nat.lt_of_not_le
  intro z
  by_cases e : m = k
  · rw [e] at g
    omega
  · have := h.1.2.2 k m (by omega) hm
    omega
theorem mt_Q_found (h : mt_Q f o a b c q pc k i) (hk : k < pc) (hi : i < 3) (ho : ¬ o (mt_go f a (c k) * 3 + i) = o (mt_go f b (c k) * 3 + i)) : mt_fst f o a b (3 * c k + i + 1) := by
  refine ⟨⟨c k, i, hi, rfl, ho⟩, fun w hw t => ?_⟩
  obtain ⟨u, d, hd, e, g⟩ := t
  obtain ⟨m, hm, g1, g2, g3⟩ := mt_Q_cov h u (fun m hm hl => mt_Q_mono h hk hm (by omega))
  have hx : m < k ∨ (m = k ∧ d < i) := by
    by_cases e2 : c m < c k
    · exact Or.inl (mt_Q_mono h hk hm e2)
    · have e3 : ¬ k < m := fun z => by
        have := h.1.2.2 k m z hm
        omega
      omega
  have r := (h.2.2 m d hm hd hx).1
  rw [g2, g3] at r
  exact g r
theorem mt_Q_end (h : mt_Q f o a b c q pc pc 0) : mt_D f o a b = 0 := by
  refine mt_none (fun w t => ?_)
  obtain ⟨u, d, hd, e, g⟩ := t
  obtain ⟨m, hm, g1, g2, g3⟩ := mt_Q_cov h u (fun m hm _ => hm)
  have r := (h.2.2 m d hm hd (Or.inl hm)).1
  rw [g2, g3] at r
  exact g r
end
