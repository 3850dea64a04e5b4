/-! the marking passes, as naturals -/
def mt_rd (f : Nat → Nat) (o : Nat → Int32) (ap : Nat → Int32) (L : Nat) : Prop := ∀ p q, p < 16 → q < 16 → ∃ v, v < 2 ^ 31 ∧ ap (p * 16 + q) = nI v ∧ (v = L ↔ mt_D f o p q = L)
def mt_Ap (f : Nat → Nat) (o : Nat → Int32) (L : Nat) (ap : Nat → Int32) : Prop := ∀ x y, x < 16 → y < 16 → ap (x * 16 + y) = nI (mt_A f o L x y)
def mt_Ad (f : Nat → Nat) (o : Nat → Int32) (ap : Nat → Int32) : Prop := ∀ x y, x < 16 → y < 16 → ap (x * 16 + y) = nI (mt_D f o x y)
def mt_lv (L a b x y : Nat) : Nat := if x < a ∨ (x = a ∧ y < b) then L + 1 else L
def mt_M (f : Nat → Nat) (o : Nat → Int32) (L a b : Nat) (ap : Nat → Int32) : Prop := (∀ x, x < 16 → ap (x * 16 + x) = nI 0) ∧ ∀ x y, x < y → y < 16 → ap (x * 16 + y) = nI (mt_A f o (mt_lv L a b x y) x y) ∧ ap (y * 16 + x) = nI (mt_A f o (mt_lv L a b x y) x y)
def mt_F (f : Nat → Nat) (o : Nat → Int32) (L a b : Nat) (fo : Int32) : Prop := (fo = 0 ∨ fo = 1) ∧ (fo = 0 → ∀ x y, x < y → y < 16 → (x < a ∨ (x = a ∧ y < b)) → mt_D f o x y ≠ L + 1)
theorem mt_lv_t {L a b x y : Nat} (h : x < a ∨ (x = a ∧ y < b)) : mt_lv L a b x y = L + 1 := if_pos h
theorem mt_lv_f {L a b x y : Nat} (h : ¬ (x < a ∨ (x = a ∧ y < b))) : mt_lv L a b x y = L := if_neg h
theorem mt_lv_or (L a b x y : Nat) : mt_lv L a b x y = L + 1 ∨ mt_lv L a b x y = L := by
  by_cases h : x < a ∨ (x = a ∧ y < b)
  · exact Or.inl (mt_lv_t h)
  · exact Or.inr (mt_lv_f h)
theorem mt_lv_c {L a b a2 b2 x y : Nat} (h : (x < a ∨ (x = a ∧ y < b)) ↔ (x < a2 ∨ (x = a2 ∧ y < b2))) : mt_lv L a b x y = mt_lv L a2 b2 x y := by
  by_cases e : x < a ∨ (x = a ∧ y < b)
  · rw [mt_lv_t e, mt_lv_t (h.mp e)]
  · rw [mt_lv_f e, mt_lv_f (fun z => e (h.mpr z))]
section
variable {f : Nat → Nat} {o : Nat → Int32} {ap : Nat → Int32} {L a b : Nat}
theorem mt_A_le {x y : Nat} (h : mt_D f o x y ≤ L) : mt_A f o L x y = mt_D f o x y := if_pos h
theorem mt_A_gt {x y : Nat} (h : ¬ mt_D f o x y ≤ L) : mt_A f o L x y = 0 := if_neg h
theorem mt_A_bd (L x y : Nat) : mt_A f o L x y ≤ L := by
  by_cases h : mt_D f o x y ≤ L
  · rw [mt_A_le h]; exact h
  · rw [mt_A_gt h]; omega
theorem mt_A_eq {L2 x y : Nat} (hL : 1 ≤ L) (h : L ≤ L2) : mt_A f o L2 x y = L ↔ mt_D f o x y = L := by
  by_cases e : mt_D f o x y ≤ L2
  · rw [mt_A_le e]
  · rw [mt_A_gt e]
    omega
theorem mt_A_nx {x y : Nat} (h : mt_D f o x y ≠ L + 1) : mt_A f o (L + 1) x y = mt_A f o L x y := by
  by_cases e : mt_D f o x y ≤ L
  · rw [mt_A_le e, mt_A_le (by omega)]
  · rw [mt_A_gt e, mt_A_gt (by omega)]
theorem mt_A_z {x y : Nat} : mt_A f o L x y = 0 ↔ (mt_D f o x y = 0 ∨ L + 1 ≤ mt_D f o x y) := by
  by_cases e : mt_D f o x y ≤ L
  · rw [mt_A_le e]
    omega
  · rw [mt_A_gt e]
    omega
theorem mt_M_rd (h : mt_M f o L a b ap) (hL : 1 ≤ L) (hL2 : L < 2 ^ 30) : mt_rd f o ap L := by
  intro p q hp hq
  have key : ∀ x y, x < y → y < 16 → mt_A f o (mt_lv L a b x y) x y < 2 ^ 31 ∧ (mt_A f o (mt_lv L a b x y) x y = L ↔ mt_D f o x y = L) := by
    intro x y _ _
    have h1 := mt_A_bd (f := f) (o := o) (mt_lv L a b x y) x y
    have h2 := mt_lv_or L a b x y
    exact ⟨by omega, mt_A_eq hL (by omega)⟩
  rcases Nat.lt_trichotomy p q with e | e | e
  · have k := key p q e hq
    exact ⟨_, k.1, (h.2 p q e hq).1, k.2⟩
  · refine ⟨0, by omega, ?_, ?_⟩
    · rw [← e]
      exact h.1 p hp
    · rw [← e, mt_D_refl]
  · have k := key q p e hp
    refine ⟨_, k.1, (h.2 q p e hp).2, ?_⟩
    rw [mt_D_symm p q]
    exact k.2
theorem mt_Ad_rd (h : mt_Ad f o ap) (hf : ∀ p, p < 48 → f p < 16) : mt_rd f o ap L := fun p q hp hq => ⟨mt_D f o p q, by
  have := mt_moore (o := o) hf hp hq
  omega, h p q hp hq, Iff.rfl⟩
theorem mt_M_get (h : mt_M f o L a b ap) (hab : a < b) (hb : b < 16) : ap (a * 16 + b) = nI (mt_A f o L a b) := by
  have g := (h.2 a b hab hb).1
  rw [mt_lv_f (by omega)] at g
  exact g
theorem mt_M_skip (h : mt_M f o L a b ap) (hab : a < b) (hb : b < 16) (hd : mt_D f o a b ≠ L + 1) : mt_M f o L a (b + 1) ap := by
  refine ⟨h.1, fun x y hxy hy => ?_⟩
  have g := h.2 x y hxy hy
  by_cases e : x = a ∧ y = b
  · rw [e.1, e.2] at g ⊢
    rw [mt_lv_f (by omega)] at g
    rw [mt_lv_t (by omega), mt_A_nx hd]
    exact g
  · rw [mt_lv_c (a2 := a) (b2 := b) (by omega)]
    exact g
theorem mt_M_set (h : mt_M f o L a b ap) (hab : a < b) (hb : b < 16) (hd : mt_D f o a b = L + 1) : mt_M f o L a (b + 1) (upd (upd ap (a * 16 + b) (nI (L + 1))) (b * 16 + a) (nI (L + 1))) := by
  refine ⟨fun x hx => ?_, fun x y hxy hy => ?_⟩
  · rw [pk_un (by omega), pk_un (by omega)]
    exact h.1 x hx
  · have g := h.2 x y hxy hy
    by_cases e : x = a ∧ y = b
    · rw [e.1, e.2, mt_lv_t (by omega), mt_A_le (by omega), hd]
      refine ⟨?_, pk_us⟩
      rw [pk_un (by omega)]
      exact pk_us
    · rw [mt_lv_c (a2 := a) (b2 := b) (by omega), pk_un (by omega), pk_un (by omega), pk_un (by omega), pk_un (by omega)]
      exact g
theorem mt_M_row (h : mt_M f o L a 16 ap) : mt_M f o L (a + 1) (a + 2) ap := by
  refine ⟨h.1, fun x y hxy hy => ?_⟩
  rw [mt_lv_c (a2 := a) (b2 := 16) (by omega)]
  exact h.2 x y hxy hy
theorem mt_M_0 (h : mt_Ap f o L ap) : mt_M f o L 0 1 ap := by
  refine ⟨fun x hx => ?_, fun x y hxy hy => ?_⟩
  · rw [h x x hx hx, mt_A_le (by rw [mt_D_refl]; omega), mt_D_refl]
  · rw [mt_lv_f (by omega), h x y (by omega) hy, h y x hy (by omega)]
    refine ⟨rfl, ?_⟩
    rw [mt_A, mt_A, mt_D_symm y x]
theorem mt_M_end {b : Nat} (h : mt_M f o L 16 b ap) : mt_Ap f o (L + 1) ap := by
  intro x y hx hy
  rcases Nat.lt_trichotomy x y with e | e | e
  · have g := (h.2 x y e hy).1
    rw [mt_lv_t (by omega)] at g
    exact g
  · rw [← e, h.1 x hx, mt_A_le (by rw [mt_D_refl]; omega), mt_D_refl]
  · have g := (h.2 y x e hx).2
    rw [mt_lv_t (by omega)] at g
    rw [g, mt_A, mt_A, mt_D_symm y x]
theorem mt_F_0 : mt_F f o L 0 1 0 := ⟨Or.inl rfl, fun _ x y h1 h2 h3 => absurd h3 (by omega)⟩
theorem mt_F_skip {fo : Int32} (h : mt_F f o L a b fo) (hd : mt_D f o a b ≠ L + 1) : mt_F f o L a (b + 1) fo := by
  refine ⟨h.1, fun z x y h1 h2 h3 => ?_⟩
  by_cases e : x = a ∧ y = b
  · rw [e.1, e.2]
    exact hd
  · exact h.2 z x y h1 h2 (by omega)
theorem mt_F_set : mt_F f o L a b 1 := ⟨Or.inr rfl, fun z => absurd z (by decide)⟩
theorem mt_F_row {fo : Int32} (h : mt_F f o L a 16 fo) : mt_F f o L (a + 1) (a + 2) fo := ⟨h.1, fun z x y h1 h2 h3 => h.2 z x y h1 h2 (by omega)⟩
theorem mt_F_end (hf : ∀ p, p < 48 → f p < 16) {b : Nat} (h : mt_F f o L 16 b 0) {x y : Nat} (hx : x < 16) (hy : y < 16) : mt_D f o x y ≤ L := by
  apply Nat.le_of_not_lt
  intro z
  obtain ⟨p, q, hp, hq, e⟩ := mt_chain hf (o := o) (L := L + 1) (by omega) (mt_D f o x y - (L + 1)) x y hx hy (by omega)
  rcases Nat.lt_trichotomy p q with w | w | w
  · exact h.2 rfl p q w hq (by omega) e
  · rw [w, mt_D_refl] at e
    omega
  · rw [mt_D_symm] at e
    exact h.2 rfl q p w hp (by omega) e
theorem mt_Ap_Ad (h : mt_Ap f o L ap) (g : ∀ x y, x < 16 → y < 16 → mt_D f o x y ≤ L) : mt_Ad f o ap := by
  intro x y hx hy
  rw [h x y hx hy, mt_A_le (g x y hx hy)]
theorem mt_Ap_0 (h : ∀ p, p < 256 → ap p = 0) : mt_Ap f o 0 ap := by
  intro x y hx hy
  rw [h _ (by omega)]
  have e : mt_A f o 0 x y = 0 := by
    have := mt_A_bd (f := f) (o := o) 0 x y
    omega
  rw [e]
  exact nI_0.symm
theorem mt_told (h : mt_A f o L a b = 0) : (∃ i, i < 3 ∧ mt_S f o a b i (L + 1)) ↔ mt_D f o a b = L + 1 := mt_S_D (by omega) (mt_A_z.mp h)
end
/-! the arrays read as naturals -/
def mt_f (nx : Nat → Int32) : Nat → Nat := fun p => (nx p).toNatClampNeg
def mt_ok (nx : Nat → Int32) : Prop := ∀ p, p < 48 → ∃ s, s < 16 ∧ nx p = nI s
theorem mt_ok_e {nx : Nat → Int32} (h : mt_ok nx) {p : Nat} (hp : p < 48) : nx p = nI (mt_f nx p) := by
  obtain ⟨s, hs, e⟩ := h p hp
  show nx p = nI (nx p).toNatClampNeg
  rw [e, nI_clamp (by omega)]
theorem mt_ok_f {nx : Nat → Int32} (h : mt_ok nx) : ∀ p, p < 48 → mt_f nx p < 16 := by
  intro p hp
  obtain ⟨s, hs, e⟩ := h p hp
  show (nx p).toNatClampNeg < 16
  rw [e, nI_clamp (by omega)]
  exact hs
theorem mt_ok_u {nx : Nat → Int32} (h : mt_ok nx) {k s : Nat} (hs : s < 16) : mt_ok (upd nx k (nI s)) := by
  intro p hp
  by_cases e : p = k
  · rw [e]
    exact ⟨s, hs, pk_us⟩
  · rw [pk_un e]
    exact h p hp
/-! what the search of the reference leaves: the length and the word, read from its end -/
def mt_wrd (f : Nat → Nat) (o : Nat → Int32) (a b n : Nat) (w : Nat → Int32) : Prop := n = mt_D f o a b ∧ (0 < n → ∃ v, mt_fst f o a b v ∧ mt_ex n 0 v ∧ ∀ j, j < n → w j = nI ((mt_pr v j - 1) % 3))
