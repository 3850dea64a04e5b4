/-! the queue's arrays -/
def mt_QA (f : Nat → Nat) (a b : Nat) (c q : Nat → Nat) (pc : Nat) (ps fr bw kn : Nat → Int32) : Prop :=
  (∀ j, j < pc → ps j = nI (mt_go f a (c j) * 16 + mt_go f b (c j))) ∧ fr 0 = -1 ∧ (∀ j, 1 ≤ j → j < pc → fr j = nI (q j) ∧ bw j = nI ((c j - 1) % 3)) ∧
  (∀ p, p < 256 → kn p = 0 ∨ kn p = 1) ∧ (∀ p, p < 256 → kn p = 1 → ∃ j, j < pc ∧ p = mt_go f a (c j) * 16 + mt_go f b (c j)) ∧ mt_cb (fun p => decide (kn p = 1)) 256 = pc
theorem mt_kn_add {kn : Nat → Int32} {p : Nat} (hp : p < 256) (h : kn p = 0) : mt_cb (fun j => decide (upd kn p 1 j = 1)) 256 = mt_cb (fun j => decide (kn j = 1)) 256 + 1 := by
  refine mt_cb_add (k := p) ?_ ?_ 256 ?_ hp
  · exact decide_eq_false (by rw [h]; decide)
  · exact decide_eq_true pk_us
  · intro i _ hi
    show decide (upd kn p 1 i = 1) = decide (kn i = 1)
    rw [pk_un hi]
theorem mt_kn_room {kn : Nat → Int32} {p : Nat} (hp : p < 256) (h : kn p = 0) : mt_cb (fun j => decide (kn j = 1)) 256 < 256 := by
  refine mt_cb_room (k := p) ?_ hp
  exact decide_eq_false (by rw [h]; decide)
theorem mt_kn_0 {kn : Nat → Int32} (h : ∀ p, p < 256 → kn p = 0) : mt_cb (fun j => decide (kn j = 1)) 256 = 0 := by
  have e := mt_cb_eq (p := fun _ => false) (q := fun j => decide (kn j = 1)) 256 (fun i hi => decide_eq_false (by rw [h i hi]; decide))
  rw [e, mt_cb_none]
section
variable {f : Nat → Nat} {a b : Nat} {c q : Nat → Nat} {pc k i : Nat} {ps fr bw kn : Nat → Int32}
theorem mt_QA_0 (ha : a < 16) (hb : b < 16) (h : ∀ p, p < 256 → kn p = 0) : mt_QA f a b (fun _ => 0) (fun _ => 0) 1 (upd ps 0 (nI (a * 16 + b))) (upd fr 0 (-1)) (upd bw 0 0) (upd kn (a * 16 + b) 1) := by
  refine ⟨fun j hj => ?_, pk_us, fun j h1 h2 => absurd h1 (by omega), fun p hp => ?_, fun p hp e => ?_, ?_⟩
  · have e : j = 0 := by omega
    rw [e, pk_us]
    show nI (a * 16 + b) = nI (mt_go f a 0 * 16 + mt_go f b 0)
    rw [mt_go_0, mt_go_0]
  · by_cases e : p = a * 16 + b
    · rw [e, pk_us]
      exact Or.inr rfl
    · rw [pk_un e, h p hp]
      exact Or.inl rfl
  · refine ⟨0, by omega, ?_⟩
    show p = mt_go f a 0 * 16 + mt_go f b 0
    rw [mt_go_0, mt_go_0]
    apply Classical.byContradiction
    intro z
    rw [pk_un z, h p hp] at e
    exact absurd e (by decide)
  · rw [mt_kn_add (by omega) (h _ (by omega)), mt_kn_0 h]
theorem mt_QA_new (hf : ∀ p, p < 48 → f p < 16) (ha : a < 16) (hb : b < 16) (h : mt_QA f a b c q pc ps fr bw kn) (hp1 : 1 ≤ pc) (hi : i < 3) {v p0 : Nat} (hv : v = 3 * c k + i + 1) (ep : p0 = mt_go f a v * 16 + mt_go f b v) (h0 : kn p0 = 0) : pc < 256 ∧ mt_QA f a b (mt_up c pc v) (mt_up q pc k) (pc + 1) (upd ps pc (nI p0)) (upd fr pc (nI k)) (upd bw pc (nI i)) (upd kn p0 1) := by
  have h1 := mt_go_lt hf ha v
  have h2 := mt_go_lt hf hb v
  have hp0 : p0 < 256 := by omega
  have hr := mt_kn_room hp0 h0
  rw [h.2.2.2.2.2] at hr
  have ec : ∀ j, j < pc → mt_up c pc v j = c j := fun j hj => mt_up_n (by omega)
  refine ⟨hr, fun j hj => ?_, ?_, fun j g1 g2 => ?_, fun p hp => ?_, fun p hp e => ?_, ?_⟩
  · by_cases e : j = pc
    · rw [e, pk_us, mt_up_s, ep]
    · rw [pk_un e, ec j (by omega)]
      exact h.1 j (by omega)
  · rw [pk_un (by omega)]
    exact h.2.1
  · by_cases e : j = pc
    · rw [e, pk_us, pk_us, mt_up_s, mt_up_s]
      exact ⟨rfl, congrArg nI (by omega)⟩
    · rw [pk_un e, pk_un e, ec j (by omega), mt_up_n e]
      exact h.2.2.1 j g1 (by omega)
  · by_cases e : p = p0
    · rw [e, pk_us]
      exact Or.inr rfl
    · rw [pk_un e]
      exact h.2.2.2.1 p hp
  · by_cases e2 : p = p0
    · refine ⟨pc, by omega, ?_⟩
      rw [mt_up_s, e2, ep]
    · rw [pk_un e2] at e
      obtain ⟨j, hj, g⟩ := h.2.2.2.2.1 p hp e
      refine ⟨j, by omega, ?_⟩
      rw [ec j hj]
      exact g
  · rw [mt_kn_add hp0 h0, h.2.2.2.2.2]
theorem mt_QA_le (h : mt_QA f a b c q pc ps fr bw kn) : pc ≤ 256 := by
  rw [← h.2.2.2.2.2]
  exact mt_cb_n _ 256
/-! reading the word from its end -/
theorem mt_sp_s {v j m z d : Nat} {w : Nat → Int32} (h : mt_ex j m v) (g : ∀ t, t < j → w t = nI ((mt_pr v t - 1) % 3)) (hd : d < 3) (e : m = 3 * z + d + 1) : mt_ex (j + 1) z v ∧ ∀ t, t < j + 1 → upd w j (nI ((m - 1) % 3)) t = nI ((mt_pr v t - 1) % 3) := by
  constructor
  · rw [e] at h
    exact mt_ex_s d hd h
  · intro t ht
    by_cases e2 : t = j
    · rw [e2, pk_us, mt_ex_pr j m v h]
    · rw [pk_un e2]
      exact g t (by omega)
end
