/-! masks by their bits -/
theorem mk_1 : ∀ i, i < 32 → bt 1 i = decide (i = 0) := by decide +kernel
theorem mk_n1 : ∀ i, i < 32 → bt (nI 1) i = decide (i = 0) := by decide +kernel
theorem mk_n0 : ∀ i, i < 32 → bt (nI 0) i = false := by decide +kernel
theorem mk_shl : ∀ n, n < 32 → ∀ i, i < 32 → bt ((1 : Int32) <<< (nI n &&& 31)) i = decide (i = n) := by decide +kernel
theorem mk_tst (x : Int32) {n : Nat} (hn : n < 32) : (x >>> (nI n &&& 31)) &&& 1 = nI (bt x n).toNat := by
  apply b_ext
  intro i hi
  rw [b_and, b_sshr n hn x hi, mk_1 i hi]
  by_cases e : i = 0
  · rw [e, if_pos (show n + 0 < 32 by omega), Nat.add_zero]
    cases bt x n <;> decide +kernel
  · rw [decide_eq_false e, Bool.and_false]
    cases bt x n
    · exact (mk_n0 i hi).symm
    · show false = bt (nI 1) i
      rw [mk_n1 i hi, decide_eq_false e]
theorem mk_z (x : Int32) {n : Nat} (hn : n < 32) : (x >>> (nI n &&& 31)) &&& 1 = 0 ↔ bt x n = false := by
  rw [mk_tst x hn]
  cases bt x n <;> decide +kernel
theorem mk_and (x : Int32) {n : Nat} (hn : n < 32) : x &&& ((1 : Int32) <<< (nI n &&& 31)) = 0 ↔ bt x n = false := by
  constructor
  · intro h
    have g : bt (x &&& ((1 : Int32) <<< (nI n &&& 31))) n = false := by rw [h, b_0]
    rw [b_and, mk_shl n hn n hn, show decide (n = n) = true from decide_eq_true rfl, Bool.and_true] at g
    exact g
  · intro h
    apply b_ext
    intro i hi
    rw [b_and, mk_shl n hn i hi, b_0]
    by_cases e : i = n
    · rw [e, h, Bool.false_and]
    · rw [decide_eq_false e, Bool.and_false]
theorem mk_or (x : Int32) {n i : Nat} (hn : n < 32) (hi : i < 32) : bt (x ||| ((1 : Int32) <<< (nI n &&& 31))) i = (bt x i || decide (i = n)) := by
  rw [b_or, mk_shl n hn i hi]
/-! sets of states, and a round that adds the next states -/
def mt_cl (f : Nat → Nat) (C : Nat → Bool) : Prop := ∀ p, p < 48 → C (p / 3) = true → C (f p) = true
def mt_Rd (f : Nat → Nat) (S S2 : Nat → Bool) : Prop := (∀ s, s < 16 → S s = true → S2 s = true) ∧ (∀ p, p < 48 → S (p / 3) = true → S2 (f p) = true) ∧ (∀ C, mt_cl f C → (∀ s, s < 16 → S s = true → C s = true) → ∀ s, s < 16 → S2 s = true → C s = true)
/-! after r rounds from the start st -/
def mt_Rn (f : Nat → Nat) (st r : Nat) (S : Nat → Bool) : Prop := S st = true ∧ (∀ C, mt_cl f C → C st = true → ∀ s, s < 16 → S s = true → C s = true) ∧ (mt_cl f S ∨ r + 1 ≤ mt_cb S 16)
theorem mt_Rn_0 {f : Nat → Nat} {st : Nat} (hst : st < 16) {S : Nat → Bool} (h : ∀ s, s < 16 → S s = decide (s = st)) : mt_Rn f st 0 S := by
  have h1 : S st = true := (h st hst).trans (decide_eq_true rfl)
  refine ⟨h1, fun C _ g s hs e => ?_, Or.inr ?_⟩
  · rw [h s hs] at e
    rw [of_decide_eq_true e]
    exact g
  · have h2 := mt_cb_lt (p := fun _ => false) (q := S) 16 (fun i _ z => (nomatch z)) ⟨st, hst, rfl, h1⟩
    omega
theorem mt_Rn_s {f : Nat → Nat} (hf : ∀ p, p < 48 → f p < 16) {st r : Nat} (hst : st < 16) {S S2 : Nat → Bool} (h : mt_Rn f st r S) (g : mt_Rd f S S2) : mt_Rn f st (r + 1) S2 := by
  refine ⟨g.1 st hst h.1, fun C hC hs => g.2.2 C hC (h.2.1 C hC hs), ?_⟩
  by_cases e : mt_cl f S
  · refine Or.inl (fun p hp hq => ?_)
    have q := g.2.2 S e (fun s _ z => z)
    exact g.1 (f p) (hf p hp) (e p hp (q (p / 3) (by omega) hq))
  · refine Or.inr ?_
    have h1 : r + 1 ≤ mt_cb S 16 := h.2.2.resolve_left e
    have h2 : ∃ i, i < 16 ∧ S i = false ∧ S2 i = true := by
      apply Classical.byContradiction
      intro z
      apply e
      intro p hp hq
      cases w : S (f p) with
      | true => rfl
      | false => exact absurd ⟨f p, hf p hp, w, g.2.1 p hp hq⟩ z
    have h3 := mt_cb_lt (p := S) (q := S2) 16 g.1 h2
    omega
theorem mt_Rn_cl {f : Nat → Nat} (hf : ∀ p, p < 48 → f p < 16) {st r : Nat} (hr : 15 ≤ r) {S : Nat → Bool} (h : mt_Rn f st r S) : mt_cl f S := by
  rcases h.2.2 with g | g
  · exact g
  · intro p hp _
    exact mt_cb_full (p := S) (n := 16) (by omega) (hf p hp)
theorem mt_Rn_eq {f : Nat → Nat} (hf : ∀ p, p < 48 → f p < 16) {st r r2 : Nat} (hr : 15 ≤ r) (hr2 : 15 ≤ r2) {S S2 : Nat → Bool} (h : mt_Rn f st r S) (h2 : mt_Rn f st r2 S2) {s : Nat} (hs : s < 16) : S s = S2 s :=
  mt_beq ⟨fun z => h.2.1 S2 (mt_Rn_cl hf hr2 h2) h2.1 s hs z, fun z => h2.2.1 S (mt_Rn_cl hf hr h) h.1 s hs z⟩
/-! the kinds of a set of states -/
noncomputable def mt_ks (f : Nat → Nat) (o : Nat → Int32) (S : Nat → Bool) (n : Nat) : Nat → Bool := fun k => mt_dc (∃ s, s < n ∧ S s = true ∧ mt_K f o s = k)
theorem mt_ks_0 (f : Nat → Nat) (o : Nat → Int32) (S : Nat → Bool) (k : Nat) : mt_ks f o S 0 k = false := mt_bnt (fun h => by
  obtain ⟨s, hs, _⟩ := (mt_dc_iff _).mp h
  omega)
theorem mt_ks_n {f : Nat → Nat} {o : Nat → Int32} {S : Nat → Bool} {n : Nat} (h : S n = false) (k : Nat) : mt_ks f o S (n + 1) k = mt_ks f o S n k := by
  refine mt_beq ⟨fun g => ?_, fun g => ?_⟩
  · obtain ⟨s, hs, h1, h2⟩ := (mt_dc_iff _).mp g
    by_cases e : s = n
    · rw [e, h] at h1
      exact nomatch h1
    · exact (mt_dc_iff _).mpr ⟨s, by omega, h1, h2⟩
  · obtain ⟨s, hs, h1, h2⟩ := (mt_dc_iff _).mp g
    exact (mt_dc_iff _).mpr ⟨s, by omega, h1, h2⟩
theorem mt_ks_s {f : Nat → Nat} {o : Nat → Int32} {S : Nat → Bool} {n : Nat} (h : S n = true) (k : Nat) : mt_ks f o S (n + 1) k = (mt_ks f o S n k || decide (k = mt_K f o n)) := by
  refine mt_beq ⟨fun g => ?_, fun g => ?_⟩
  · obtain ⟨s, hs, h1, h2⟩ := (mt_dc_iff _).mp g
    by_cases e : s = n
    · rw [e] at h2
      rw [decide_eq_true h2.symm, Bool.or_true]
    · have q : mt_ks f o S n k = true := (mt_dc_iff _).mpr ⟨s, by omega, h1, h2⟩
      rw [q, Bool.true_or]
  · by_cases e : k = mt_K f o n
    · exact (mt_dc_iff _).mpr ⟨n, by omega, h, e.symm⟩
    · rw [decide_eq_false e, Bool.or_false] at g
      obtain ⟨s, hs, h1, h2⟩ := (mt_dc_iff _).mp g
      exact (mt_dc_iff _).mpr ⟨s, by omega, h1, h2⟩
theorem mt_ks_all {f : Nat → Nat} {o : Nat → Int32} {S : Nat → Bool} (h : ∀ s, s < 16 → S s = true) {k : Nat} (hk : k < 16) : mt_ks f o S 16 k = decide (mt_K f o k = k) := by
  refine mt_beq ⟨fun g => ?_, fun g => ?_⟩
  · obtain ⟨s, hs, h1, h2⟩ := (mt_dc_iff _).mp g
    apply decide_eq_true
    rw [← h2]
    exact mt_K_id f o s
  · exact (mt_dc_iff _).mpr ⟨k, hk, h k hk, of_decide_eq_true g⟩
theorem mt_ks_eq {f : Nat → Nat} {o : Nat → Int32} {S S2 : Nat → Bool} (h : ∀ s, s < 16 → S s = S2 s) (k : Nat) : mt_ks f o S 16 k = mt_ks f o S2 16 k := by
  refine mt_beq ⟨fun g => ?_, fun g => ?_⟩
  · obtain ⟨s, hs, h1, h2⟩ := (mt_dc_iff _).mp g
    exact (mt_dc_iff _).mpr ⟨s, hs, (h s hs).symm.trans h1, h2⟩
  · obtain ⟨s, hs, h1, h2⟩ := (mt_dc_iff _).mp g
    exact (mt_dc_iff _).mpr ⟨s, hs, (h s hs).trans h1, h2⟩
/-! the greatest distance -/
def mt_mx (f : Nat → Nat) (o : Nat → Int32) (m : Nat) : Prop := (∀ a b, a < 16 → b < 16 → mt_D f o a b ≤ m) ∧ (m = 0 ∨ ∃ a b, a < 16 ∧ b < 16 ∧ mt_D f o a b = m)
theorem mt_mx_uq {f : Nat → Nat} {o : Nat → Int32} {m n : Nat} (h : mt_mx f o m) (g : mt_mx f o n) : m = n := by
  have h1 : m ≤ n := by
    rcases h.2 with e | ⟨a, b, ha, hb, e⟩
    · omega
    · have := g.1 a b ha hb
      omega
  have h2 : n ≤ m := by
    rcases g.2 with e | ⟨a, b, ha, hb, e⟩
    · omega
    · have := h.1 a b ha hb
      omega
  omega
