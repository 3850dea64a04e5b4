/-- the count of places below n where p holds -/
def mt_cb (p : Nat → Bool) : Nat → Nat
  | 0 => 0
  | n + 1 => mt_cb p n + (p n).toNat
noncomputable def mt_dc (P : Prop) : Bool := @decide P (Classical.propDecidable P)
theorem mt_dc_iff (P : Prop) : mt_dc P = true ↔ P :=
  ⟨fun h => @of_decide_eq_true P (Classical.propDecidable P) h, fun h => @decide_eq_true P (Classical.propDecidable P) h⟩
theorem mt_bnt {b : Bool} (h : ¬ b = true) : b = false := by
  cases b with
  | false => rfl
  | true => exact absurd rfl h
theorem mt_beq {b c : Bool} (h : b = true ↔ c = true) : b = c := by
  cases b with
  | true => exact (h.mp rfl).symm
  | false =>
    cases c with
    | false => rfl
    | true => exact h.mpr rfl
theorem mt_tn {b c : Bool} (h : b = true → c = true) : b.toNat ≤ c.toNat := by
  cases b with
  | false => exact Nat.zero_le _
  | true => rw [h rfl]; exact Nat.le_refl _
theorem mt_cb_le {p q : Nat → Bool} : ∀ n, (∀ i, i < n → p i = true → q i = true) → mt_cb p n ≤ mt_cb q n := by
  intro n
  induction n with
  | zero => intro _; exact Nat.le_refl 0
  | succ n ih =>
    intro h
    have h1 := ih (fun i hi => h i (by omega))
    have h2 : (p n).toNat ≤ (q n).toNat := mt_tn (h n (by omega))
    show mt_cb p n + (p n).toNat ≤ mt_cb q n + (q n).toNat
    omega
theorem mt_cb_lt {p q : Nat → Bool} : ∀ n, (∀ i, i < n → p i = true → q i = true) → (∃ i, i < n ∧ p i = false ∧ q i = true) → mt_cb p n < mt_cb q n := by
  intro n
  induction n with
  | zero => intro _ h; obtain ⟨i, hi, _⟩ := h; omega
  | succ n ih =>
    intro h hx
    obtain ⟨i, hi, h1, h2⟩ := hx
    show mt_cb p n + (p n).toNat < mt_cb q n + (q n).toNat
    by_cases e : i = n
    · rw [e] at h1 h2
      have h3 := mt_cb_le (p := p) (q := q) n (fun j hj => h j (by omega))
      rw [h1, h2]
      show mt_cb p n + 0 < mt_cb q n + 1
      omega
    · have h3 := ih (fun j hj => h j (by omega)) ⟨i, by omega, h1, h2⟩
      have h4 : (p n).toNat ≤ (q n).toNat := mt_tn (h n (by omega))
      omega
theorem mt_cb_n (p : Nat → Bool) : ∀ n, mt_cb p n ≤ n := by
  intro n
  induction n with
  | zero => exact Nat.le_refl 0
  | succ n ih =>
    have h : (p n).toNat ≤ 1 := by cases p n <;> decide
    show mt_cb p n + (p n).toNat ≤ n + 1
    omega
theorem mt_cb_eq {p q : Nat → Bool} : ∀ n, (∀ i, i < n → q i = p i) → mt_cb q n = mt_cb p n := by
  intro n
  induction n with
  | zero => intro _; rfl
  | succ n ih =>
    intro h
    show mt_cb q n + (q n).toNat = mt_cb p n + (p n).toNat
    rw [ih (fun i hi => h i (by omega)), h n (by omega)]
theorem mt_cb_add {p q : Nat → Bool} {k : Nat} (h1 : p k = false) (h2 : q k = true) : ∀ n, (∀ i, i < n → i ≠ k → q i = p i) → k < n → mt_cb q n = mt_cb p n + 1 := by
  intro n
  induction n with
  | zero => intro _ hk; omega
  | succ n ih =>
    intro h hk
    show mt_cb q n + (q n).toNat = mt_cb p n + (p n).toNat + 1
    by_cases e : n = k
    · have h3 := mt_cb_eq (p := p) (q := q) n (fun i hi => h i (by omega) (by omega))
      rw [← e] at h1 h2
      rw [h3, h1, h2]
      rfl
    · rw [ih (fun i hi => h i (by omega)) (by omega), h n (by omega) e]
      omega
theorem mt_cb_room {p : Nat → Bool} {k : Nat} (h1 : p k = false) {n : Nat} (hk : k < n) : mt_cb p n < n := by
  have h2 := mt_cb_add (p := p) (q := fun i => if i = k then true else p i) h1 (if_pos rfl) n (fun i _ hi => if_neg hi) hk
  have h3 := mt_cb_n (fun i => if i = k then true else p i) n
  omega
theorem mt_cb_full {p : Nat → Bool} {n : Nat} (h : n ≤ mt_cb p n) {k : Nat} (hk : k < n) : p k = true := by
  cases e : p k with
  | true => rfl
  | false => have := mt_cb_room e hk; omega
theorem mt_cb_none : ∀ n, mt_cb (fun _ => false) n = 0 := by
  intro n
  induction n with
  | zero => rfl
  | succ n ih =>
    show mt_cb (fun _ => false) n + 0 = 0
    omega
/-! a word of n inputs tells a and b apart -/
def mt_T (f : Nat → Nat) (o : Nat → Int32) : Nat → Nat → Nat → Prop
  | 0, _, _ => False
  | n + 1, a, b => (n = 0 ∧ ∃ i, i < 3 ∧ o (a * 3 + i) ≠ o (b * 3 + i)) ∨ (∃ i, i < 3 ∧ mt_T f o n (f (a * 3 + i)) (f (b * 3 + i)))
section
variable {f : Nat → Nat} {o : Nat → Int32}
theorem mt_T_z {a b : Nat} (h : mt_T f o 0 a b) : False := h
theorem mt_T_el {n a b : Nat} (h : mt_T f o (n + 1) a b) : (n = 0 ∧ ∃ i, i < 3 ∧ o (a * 3 + i) ≠ o (b * 3 + i)) ∨ (∃ i, i < 3 ∧ mt_T f o n (f (a * 3 + i)) (f (b * 3 + i))) := h
theorem mt_T_o {a b : Nat} (i : Nat) (hi : i < 3) (h : o (a * 3 + i) ≠ o (b * 3 + i)) : mt_T f o 1 a b := Or.inl ⟨rfl, i, hi, h⟩
theorem mt_T_st {n a b : Nat} (i : Nat) (hi : i < 3) (h : mt_T f o n (f (a * 3 + i)) (f (b * 3 + i))) : mt_T f o (n + 1) a b := Or.inr ⟨i, hi, h⟩
theorem mt_T_symm : ∀ n a b, mt_T f o n a b → mt_T f o n b a := by
  intro n
  induction n with
  | zero => intro a b h; exact (mt_T_z h).elim
  | succ n ih =>
    intro a b h
    rcases mt_T_el h with ⟨e, i, hi, g⟩ | ⟨i, hi, g⟩
    · cases e
      exact mt_T_o i hi (fun z => g z.symm)
    · exact mt_T_st i hi (ih _ _ g)
theorem mt_T_refl : ∀ n a, ¬ mt_T f o n a a := by
  intro n
  induction n with
  | zero => intro a h; exact mt_T_z h
  | succ n ih =>
    intro a h
    rcases mt_T_el h with ⟨e, i, hi, h⟩ | ⟨i, hi, h⟩
    · exact h rfl
    · exact ih _ h
theorem mt_T_tri : ∀ n a b c, mt_T f o n a c → mt_T f o n a b ∨ mt_T f o n b c := by
  intro n
  induction n with
  | zero => intro a b c h; exact (mt_T_z h).elim
  | succ n ih =>
    intro a b c h
    rcases mt_T_el h with ⟨e, i, hi, w⟩ | ⟨i, hi, w⟩
    · cases e
      by_cases q : o (a * 3 + i) = o (b * 3 + i)
      · exact Or.inr (mt_T_o i hi (fun z => w (q.trans z)))
      · exact Or.inl (mt_T_o i hi q)
    · rcases ih _ (f (b * 3 + i)) _ w with g | g
      · exact Or.inl (mt_T_st i hi g)
      · exact Or.inr (mt_T_st i hi g)
end
/-! the distance: the least such n, 0 if there is none -/
def mt_Is (f : Nat → Nat) (o : Nat → Int32) (a b d : Nat) : Prop := (mt_T f o d a b ∧ ∀ m, m < d → ¬ mt_T f o m a b) ∨ (d = 0 ∧ ∀ n, ¬ mt_T f o n a b)
theorem mt_Is_ex (f : Nat → Nat) (o : Nat → Int32) (a b : Nat) : ∃ d, mt_Is f o a b d := by
  by_cases h : ∃ n, mt_T f o n a b
  · obtain ⟨d, h1, h2⟩ := pk_least (fun n => mt_T f o n a b) h
    exact ⟨d, Or.inl ⟨h1, h2⟩⟩
  · exact ⟨0, Or.inr ⟨rfl, fun n hn => h ⟨n, hn⟩⟩⟩
noncomputable def mt_D (f : Nat → Nat) (o : Nat → Int32) (a b : Nat) : Nat := Classical.choose (mt_Is_ex f o a b)
theorem mt_D_is (f : Nat → Nat) (o : Nat → Int32) (a b : Nat) : mt_Is f o a b (mt_D f o a b) := Classical.choose_spec (mt_Is_ex f o a b)
section
variable {f : Nat → Nat} {o : Nat → Int32}
theorem mt_Is_uq {a b d e : Nat} (h : mt_Is f o a b d) (g : mt_Is f o a b e) : e = d := by
  rcases h with ⟨h1, h2⟩ | ⟨h1, h2⟩
  · rcases g with ⟨g1, g2⟩ | ⟨g1, g2⟩
    · rcases Nat.lt_trichotomy e d with q | q | q
      · exact absurd g1 (h2 e q)
      · exact q
      · exact absurd h1 (g2 d q)
    · exact absurd h1 (g2 d)
  · rcases g with ⟨g1, g2⟩ | ⟨g1, g2⟩
    · exact absurd g1 (h2 e)
    · omega
theorem mt_D_uq {a b d : Nat} (h : mt_Is f o a b d) : mt_D f o a b = d := mt_Is_uq h (mt_D_is f o a b)
theorem mt_D_T {n a b : Nat} (h : mt_T f o n a b) : 1 ≤ mt_D f o a b ∧ mt_D f o a b ≤ n := by
  rcases mt_D_is f o a b with ⟨h1, h2⟩ | ⟨_, h2⟩
  · refine ⟨Nat.pos_of_ne_zero (fun z => ?_), Nat.le_of_not_lt (fun q => h2 n q h)⟩
    rw [z] at h1
    exact mt_T_z h1
  · exact absurd h (h2 n)
theorem mt_D_pos {a b : Nat} (h : 1 ≤ mt_D f o a b) : mt_T f o (mt_D f o a b) a b := by
  rcases mt_D_is f o a b with ⟨h1, _⟩ | ⟨h1, _⟩
  · exact h1
  · omega
theorem mt_D_lt {m a b : Nat} (h : m < mt_D f o a b) : ¬ mt_T f o m a b := fun t => by
  have := (mt_D_T t).2
  omega
theorem mt_D_z {a b : Nat} (h : mt_D f o a b = 0) (n : Nat) : ¬ mt_T f o n a b := fun t => by
  have := (mt_D_T t).1
  omega
theorem mt_D_zi {a b : Nat} (h : ∀ n, ¬ mt_T f o n a b) : mt_D f o a b = 0 := mt_D_uq (Or.inr ⟨rfl, h⟩)
theorem mt_D_st {a b : Nat} (i : Nat) (hi : i < 3) (h : 1 ≤ mt_D f o (f (a * 3 + i)) (f (b * 3 + i))) : 1 ≤ mt_D f o a b ∧ mt_D f o a b ≤ mt_D f o (f (a * 3 + i)) (f (b * 3 + i)) + 1 := mt_D_T (mt_T_st i hi (mt_D_pos h))
theorem mt_D_dn {a b L : Nat} (hL : 1 ≤ L) (h : mt_D f o a b = L + 1) : ∃ i, i < 3 ∧ mt_D f o (f (a * 3 + i)) (f (b * 3 + i)) = L := by
  have t := mt_D_pos (f := f) (o := o) (a := a) (b := b) (by omega)
  rw [h] at t
  rcases mt_T_el t with ⟨e, _⟩ | ⟨i, hi, t⟩
  · omega
  · have g := mt_D_T t
    have g2 := mt_D_st (a := a) (b := b) i hi g.1
    exact ⟨i, hi, by omega⟩
theorem mt_D_1 {a b : Nat} (h : mt_D f o a b = 1) : ∃ i, i < 3 ∧ o (a * 3 + i) ≠ o (b * 3 + i) := by
  have t := mt_D_pos (f := f) (o := o) (a := a) (b := b) (by omega)
  rw [h] at t
  rcases mt_T_el t with ⟨_, t⟩ | ⟨i, hi, t⟩
  · exact t
  · exact (mt_T_z t).elim
theorem mt_D_o {a b : Nat} (i : Nat) (hi : i < 3) (h : o (a * 3 + i) ≠ o (b * 3 + i)) : mt_D f o a b = 1 := by
  have := mt_D_T (mt_T_o (f := f) i hi h)
  omega
theorem mt_D_symm (a b : Nat) : mt_D f o a b = mt_D f o b a := by
  apply mt_D_uq
  rcases mt_D_is f o b a with ⟨h1, h2⟩ | ⟨h1, h2⟩
  · exact Or.inl ⟨mt_T_symm _ _ _ h1, fun m hm t => h2 m hm (mt_T_symm _ _ _ t)⟩
  · exact Or.inr ⟨h1, fun n t => h2 n (mt_T_symm _ _ _ t)⟩
theorem mt_D_refl (a : Nat) : mt_D f o a a = 0 := mt_D_zi (fun n => mt_T_refl n a)
theorem mt_D_tri {a b c : Nat} (h1 : mt_D f o a b = 0) (h2 : mt_D f o b c = 0) : mt_D f o a c = 0 :=
  mt_D_zi (fun n t => (mt_T_tri n a b c t).elim (mt_D_z h1 n) (mt_D_z h2 n))
theorem mt_chain (hf : ∀ p, p < 48 → f p < 16) {L : Nat} (hL : 1 ≤ L) : ∀ k a b, a < 16 → b < 16 → mt_D f o a b = L + k → ∃ x y, x < 16 ∧ y < 16 ∧ mt_D f o x y = L := by
  intro k
  induction k with
  | zero => intro a b ha hb h; exact ⟨a, b, ha, hb, h⟩
  | succ k ih =>
    intro a b ha hb h
    obtain ⟨i, hi, g⟩ := mt_D_dn (L := L + k) (by omega) h
    exact ih _ _ (hf _ (by omega)) (hf _ (by omega)) g
end
/-! Moore's bound: no word longer than 15 is a shortest one -/
def mt_E (f : Nat → Nat) (o : Nat → Int32) (n a b : Nat) : Prop := ∀ m, m ≤ n → ¬ mt_T f o m a b
noncomputable def mt_rp (f : Nat → Nat) (o : Nat → Int32) (n : Nat) : Nat → Bool := fun a => mt_dc (∀ b, b < a → ¬ mt_E f o n b a)
section
variable {f : Nat → Nat} {o : Nat → Int32}
theorem mt_E_tri {n a b c : Nat} (h1 : mt_E f o n a b) (h2 : mt_E f o n b c) : mt_E f o n a c := fun m hm t => (mt_T_tri m a b c t).elim (h1 m hm) (h2 m hm)
theorem mt_E_symm {n a b : Nat} (h : mt_E f o n a b) : mt_E f o n b a := fun m hm t => h m hm (mt_T_symm _ _ _ t)
theorem mt_E_dn {n a b : Nat} (h : mt_E f o (n + 1) a b) : mt_E f o n a b := fun m hm => h m (by omega)
theorem mt_lr (n a : Nat) : ∃ r, r ≤ a ∧ mt_E f o n r a ∧ ∀ b, b < r → ¬ mt_E f o n b r := by
  obtain ⟨r, h1, h2⟩ := pk_least (fun r => mt_E f o n r a) ⟨a, fun m _ => mt_T_refl m a⟩
  exact ⟨r, Nat.le_of_not_lt (fun q => h2 a q (fun m _ => mt_T_refl m a)), h1, fun b hb e => h2 b hb (mt_E_tri e h1)⟩
theorem mt_grow {n x y : Nat} (hx : x < 16) (hy : y < 16) (h1 : mt_E f o n x y) (h2 : ¬ mt_E f o (n + 1) x y) : mt_cb (mt_rp f o n) 16 < mt_cb (mt_rp f o (n + 1)) 16 := by
  apply mt_cb_lt
  · intro i _ h
    have h9 : ∀ b, b < i → ¬ mt_E f o n b i := (mt_dc_iff _).mp h
    exact (mt_dc_iff _).mpr (fun b hb e => h9 b hb (mt_E_dn e))
  · obtain ⟨r, hr, e1, mr⟩ := mt_lr (f := f) (o := o) n x
    have hz : ∃ z, z < 16 ∧ mt_E f o n r z ∧ ¬ mt_E f o (n + 1) r z := by
      by_cases q : mt_E f o (n + 1) r x
      · exact ⟨y, hy, mt_E_tri e1 h1, fun e => h2 (mt_E_tri (mt_E_symm q) e)⟩
      · exact ⟨x, hx, e1, q⟩
    obtain ⟨z, hz, e2, e3⟩ := hz
    obtain ⟨s, hs, e4, ms⟩ := mt_lr (f := f) (o := o) (n + 1) z
    have e5 : mt_E f o n s z := mt_E_dn e4
    have hrs : ¬ s < r := fun q => mr s q (mt_E_tri e5 (mt_E_symm e2))
    have hne : s ≠ r := fun q => e3 (q ▸ e4)
    refine ⟨s, by omega, mt_bnt (fun t => ?_), (mt_dc_iff _).mpr ms⟩
    have t2 : ∀ b, b < s → ¬ mt_E f o n b s := (mt_dc_iff _).mp t
    exact t2 r (by omega) (mt_E_tri e2 (mt_E_symm e5))
theorem mt_moore (hf : ∀ p, p < 48 → f p < 16) {a b : Nat} (ha : a < 16) (hb : b < 16) : mt_D f o a b ≤ 15 := by
  have key : ∀ n, n ≤ mt_D f o a b → n + 1 ≤ mt_cb (mt_rp f o n) 16 := by
    intro n
    induction n with
    | zero =>
      intro _
      have h := mt_cb_lt (p := fun _ => false) (q := mt_rp f o 0) 16 (fun i _ h => (nomatch h)) ⟨0, by omega, rfl, (mt_dc_iff _).mpr (fun b hb => absurd hb (Nat.not_lt_zero b))⟩
      omega
    | succ n ih =>
      intro hn
      have h := ih (by omega)
      obtain ⟨x, y, hx, hy, e⟩ := mt_chain hf (o := o) (L := n + 1) (by omega) (mt_D f o a b - (n + 1)) a b ha hb (by omega)
      have g := mt_grow (f := f) (o := o) (n := n) hx hy (fun m hm => mt_D_lt (by omega)) (fun q => q (n + 1) (Nat.le_refl _) (by
        have t := mt_D_pos (f := f) (o := o) (a := x) (b := y) (by omega)
        rw [e] at t
        exact t))
      omega
  have h1 := key _ (Nat.le_refl _)
  have h2 := mt_cb_n (mt_rp f o (mt_D f o a b)) 16
  omega
end
/-! which input begins a word of L inputs that tells a and b apart -/
def mt_S (f : Nat → Nat) (o : Nat → Int32) (a b i L : Nat) : Prop := (L = 1 ∧ o (a * 3 + i) ≠ o (b * 3 + i)) ∨ (2 ≤ L ∧ mt_D f o (f (a * 3 + i)) (f (b * 3 + i)) = L - 1)
theorem mt_S_D {f : Nat → Nat} {o : Nat → Int32} {a b L : Nat} (hL : 1 ≤ L) (h : mt_D f o a b = 0 ∨ L ≤ mt_D f o a b) : (∃ i, i < 3 ∧ mt_S f o a b i L) ↔ mt_D f o a b = L := by
  constructor
  · intro ⟨i, hi, g⟩
    rcases g with ⟨e, g⟩ | ⟨e, g⟩
    · rw [mt_D_o i hi g, e]
    · have g2 := mt_D_st (f := f) (o := o) (a := a) (b := b) i hi (by omega)
      omega
  · intro e
    by_cases h1 : L = 1
    · obtain ⟨i, hi, g⟩ := mt_D_1 (e.trans h1)
      exact ⟨i, hi, Or.inl ⟨h1, g⟩⟩
    · obtain ⟨i, hi, g⟩ := mt_D_dn (f := f) (o := o) (a := a) (b := b) (L := L - 1) (by omega) (by omega)
      exact ⟨i, hi, Or.inr ⟨by omega, g⟩⟩
/-! what stands in apart after the lengths up to L -/
noncomputable def mt_A (f : Nat → Nat) (o : Nat → Int32) (L a b : Nat) : Nat := if mt_D f o a b ≤ L then mt_D f o a b else 0
/-! the kind of a state -/
theorem mt_K_ex (f : Nat → Nat) (o : Nat → Int32) (s : Nat) : ∃ k, mt_D f o k s = 0 ∧ ∀ j, j < k → ¬ mt_D f o j s = 0 := pk_least (fun k => mt_D f o k s = 0) ⟨s, mt_D_refl s⟩
noncomputable def mt_K (f : Nat → Nat) (o : Nat → Int32) (s : Nat) : Nat := Classical.choose (mt_K_ex f o s)
theorem mt_K_is (f : Nat → Nat) (o : Nat → Int32) (s : Nat) : mt_D f o (mt_K f o s) s = 0 ∧ ∀ j, j < mt_K f o s → ¬ mt_D f o j s = 0 := Classical.choose_spec (mt_K_ex f o s)
theorem mt_K_le (f : Nat → Nat) (o : Nat → Int32) (s : Nat) : mt_K f o s ≤ s := Nat.le_of_not_lt (fun q => (mt_K_is f o s).2 s q (mt_D_refl s))
theorem mt_K_id (f : Nat → Nat) (o : Nat → Int32) (s : Nat) : mt_K f o (mt_K f o s) = mt_K f o s := by
  have h1 := mt_K_le f o (mt_K f o s)
  have h2 : ¬ mt_K f o (mt_K f o s) < mt_K f o s := fun q => (mt_K_is f o s).2 _ q (mt_D_tri (mt_K_is f o (mt_K f o s)).1 (mt_K_is f o s).1)
  omega
