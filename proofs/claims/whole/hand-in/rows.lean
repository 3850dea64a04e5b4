section
theorem pk_us {f : Nat → Int32} {k : Nat} {x : Int32} : upd f k x k = x := if_pos rfl
theorem pk_un {f : Nat → Int32} {k j : Nat} {x : Int32} (h : j ≠ k) : upd f k x j = f j := if_neg h
theorem pk_sub {a b : Nat} (h : b ≤ a) : nI a - nI b = nI (a - b) := by
  obtain ⟨c, rfl⟩ : ∃ c, a = c + b := ⟨a - b, by omega⟩
  rw [← nI_add, Int32.add_sub_cancel, Nat.add_sub_cancel]
theorem pk_m1 (n : Nat) : nI (n + 1) + (-1) = nI n := by
  rw [← nI_1, Int32.add_assoc, show (1 : Int32) + (-1) = 0 from rfl, Int32.add_zero]
theorem pk_mul (a b : Nat) : nI a * nI b = nI (a * b) := (Int32.ofNat_mul a b).symm
theorem pk_div {a d : Nat} (ha : a < 2 ^ 31) (h0 : 0 < d) (hd : d < 2 ^ 31) : nI a / nI d = nI (a / d) := by
  apply Int32.toInt_inj.mp
  rw [lg_idiv_nonneg (by rw [nI_toInt ha]; omega) (by rw [nI_toInt hd]; omega), nI_toInt ha, nI_toInt hd, nI_toInt (Nat.lt_of_le_of_lt (Nat.div_le_self a d) ha)]
  first | rfl | exact (Int.natCast_ediv _ _).symm
theorem pk_rem {a d : Nat} (ha : a < 2 ^ 31) (h0 : 0 < d) (hd : d < 2 ^ 31) : nI a - nI a / nI d * nI d = nI (a % d) := by
  rw [pk_div ha h0 hd, pk_mul, pk_sub (Nat.div_mul_le_self a d)]
  exact congrArg nI (by have := Nat.div_add_mod' a d; omega)
theorem pk_sub_toInt {a b : Nat} (ha : a < 2 ^ 30) (hb : b < 2 ^ 30) : (nI a - nI b).toInt = (a : Int) - b := by
  rw [Int32.toInt_sub, nI_toInt (by omega), nI_toInt (by omega)]
  exact Int.bmod_eq_of_le (by omega) (by omega)
theorem pk_sneg {a b : Nat} (hb : b < 2 ^ 30) (h : a < b) : nI a - nI b < 0 := by
  rw [Int32.lt_iff_toInt_lt, pk_sub_toInt (by omega) hb, show (0 : Int32).toInt = 0 from by decide]
  omega
theorem pk_ix (x : Int32) {n : Nat} (hn : n < 2 ^ 31) : x < 0 ∨ nI n ≤ x ∨ ∃ j : Nat, j < n ∧ x = nI j := by
  by_cases h : x < 0
  · exact Or.inl h
  · obtain ⟨j, hj, rfl⟩ := nI_of h
    by_cases h2 : j < n
    · exact Or.inr (Or.inr ⟨j, h2, rfl⟩)
    · exact Or.inr (Or.inl (nI_le (by omega) hj))
theorem pk_le {x y : Int32} {A B : Prop} (a b : Nat) (f : a ≤ b → A) (g : b < a → B) (hx : x = nI a := by rfl) (hy : y = nI b := by rfl) (ha : a < 2 ^ 31 := by omega) (hb : b < 2 ^ 31 := by omega) : (x ≤ y → A) ∧ (¬ x ≤ y → B) := by
  subst hx hy
  rw [nI_leI ha hb]
  exact ⟨f, fun z => g (by omega)⟩
theorem pk_lt {x y : Int32} {A B : Prop} (a b : Nat) (f : a < b → A) (g : b ≤ a → B) (hx : x = nI a := by rfl) (hy : y = nI b := by rfl) (ha : a < 2 ^ 31 := by omega) (hb : b < 2 ^ 31 := by omega) : (x < y → A) ∧ (¬ x < y → B) := by
  subst hx hy
  rw [nI_ltI ha hb]
  exact ⟨f, fun z => g (by omega)⟩
theorem pk_eq {x y : Int32} {A B : Prop} (a b : Nat) (f : a = b → A) (g : a ≠ b → B) (hx : x = nI a := by rfl) (hy : y = nI b := by rfl) (ha : a < 2 ^ 31 := by omega) (hb : b < 2 ^ 31 := by omega) : (x = y → A) ∧ (¬ x = y → B) := by
  subst hx hy
  rw [nI_eq ha hb]
  exact ⟨f, g⟩
theorem pk_in {x : Int32} (n N : Nat) (h : n < N) (hx : x = nI n := by rfl) (hN : N < 2 ^ 31 := by omega) : vp_in x N := by
  subst hx
  exact vp_in_nI h hN
theorem pk_cl {x : Int32} (n : Nat) (hx : x = nI n := by rfl) (h : n < 2 ^ 31 := by omega) : x.toNatClampNeg = n := by
  subst hx
  exact nI_clamp h
theorem pk_tn {n : Nat} (h : n < 2 ^ 32) : (nI n).toBitVec.toNat = n := Nat.mod_eq_of_lt h
theorem pk_and (x : Int32) {m : Int32} (k : Nat) (hm : m.toBitVec.toNat = 2 ^ k - 1) : x &&& m = nI (x.toBitVec.toNat % 2 ^ k) := by
  apply Int32.toBitVec_inj.mp
  apply BitVec.eq_of_toNat_eq
  rw [Int32.toBitVec_and, BitVec.toNat_and, hm, Nat.and_two_pow_sub_one_eq_mod]
  show _ = (BitVec.ofNat 32 _).toNat
  rw [BitVec.toNat_ofNat]
  exact (Nat.mod_eq_of_lt (Nat.lt_of_le_of_lt (Nat.mod_le _ _) x.toBitVec.isLt)).symm
theorem pk_andN {n : Nat} (h : n < 2 ^ 32) {m : Int32} (k : Nat) (hm : m.toBitVec.toNat = 2 ^ k - 1) : nI n &&& m = nI (n % 2 ^ k) := by
  rw [pk_and _ k hm, pk_tn h]
theorem pk_andE (x : Int32) {m : Int32} (k : Nat) (hm : m.toBitVec.toNat = 2 ^ k - 1) : ∃ j : Nat, j < 2 ^ k ∧ x &&& m = nI j := ⟨_, Nat.mod_lt _ (Nat.two_pow_pos k), pk_and x k hm⟩
theorem pk_andIn (x : Int32) {m : Int32} (k : Nat) (hm : m.toBitVec.toNat = 2 ^ k - 1) (hk : k ≤ 30) : vp_in (x &&& m) (2 ^ k) := by
  obtain ⟨j, hj, e⟩ := pk_andE x k hm
  rw [e]
  exact vp_in_nI hj (Nat.lt_of_le_of_lt (Nat.pow_le_pow_right (by decide) hk) (by decide))
theorem pk_shr (a s : Int32) (k : Nat) (hs : (s.toBitVec.smod 32).toNat = k) : (a >>> s).toInt = a.toInt >>> k := by
  show (a.toBitVec.sshiftRight (s.toBitVec.smod 32).toNat).toInt = _
  rw [hs, BitVec.toInt_sshiftRight]
  rfl
theorem pk_shrN {n : Nat} (h : n < 2 ^ 31) (s : Int32) (k : Nat) (hs : (s.toBitVec.smod 32).toNat = k) : nI n >>> s = nI (n / 2 ^ k) := by
  apply Int32.toInt_inj.mp
  have h2 : n / 2 ^ k ≤ n := Nat.div_le_self _ _
  rw [pk_shr _ _ k hs, nI_toInt h, nI_toInt (by omega), Int.shiftRight_eq_div_pow]
  rfl
theorem pk_loop {σ : Type} (W : Nat → Nat → σ → Prop) (I : Nat → σ → Prop) (e i0 : Nat) (s : σ) (hi : i0 ≤ e) (h0 : I i0 s) (hx : ∀ n s, I e s → W (n + 1) e s)
    (hs : ∀ n i s, i < e → I i s → (∀ s', I (i + 1) s' → W n (i + 1) s') → W (n + 1) i s) : ∃ n, W n i0 s :=
  ⟨e + 1, loop_i W I e hx hs (e + 1) i0 s hi (by omega) h0⟩
theorem lp1 {A1 : Type} (W : Nat → A1 → Prop) (I : A1 → Prop) (μ : A1 → Nat) (hs : ∀ (n : Nat) (a1 : A1), I a1 → (∀ (b1 : A1), I b1 → μ b1 < μ a1 → W n b1) → W (n + 1) a1) (a1 : A1) (h : I a1) : ∃ n, W n a1 :=
  loop_m (σ := A1) (fun n s => W n s) (fun s => I s) (fun s => μ s) (fun n s hI hk => hs n s hI (fun b1 h9 hm => hk b1 h9 hm)) a1 h
theorem lp2 {A1 A2 : Type} (W : Nat → A1 → A2 → Prop) (I : A1 → A2 → Prop) (μ : A1 → A2 → Nat) (hs : ∀ (n : Nat) (a1 : A1) (a2 : A2), I a1 a2 → (∀ (b1 : A1) (b2 : A2), I b1 b2 → μ b1 b2 < μ a1 a2 → W n b1 b2) → W (n + 1) a1 a2) (a1 : A1) (a2 : A2) (h : I a1 a2) : ∃ n, W n a1 a2 :=
  loop_m (σ := A1 × A2) (fun n s => W n s.1 s.2) (fun s => I s.1 s.2) (fun s => μ s.1 s.2) (fun n s hI hk => hs n s.1 s.2 hI (fun b1 b2 h9 hm => hk (b1, b2) h9 hm)) (a1, a2) h
theorem lp3 {A1 A2 A3 : Type} (W : Nat → A1 → A2 → A3 → Prop) (I : A1 → A2 → A3 → Prop) (μ : A1 → A2 → A3 → Nat) (hs : ∀ (n : Nat) (a1 : A1) (a2 : A2) (a3 : A3), I a1 a2 a3 → (∀ (b1 : A1) (b2 : A2) (b3 : A3), I b1 b2 b3 → μ b1 b2 b3 < μ a1 a2 a3 → W n b1 b2 b3) → W (n + 1) a1 a2 a3) (a1 : A1) (a2 : A2) (a3 : A3) (h : I a1 a2 a3) : ∃ n, W n a1 a2 a3 :=
  loop_m (σ := A1 × A2 × A3) (fun n s => W n s.1 s.2.1 s.2.2) (fun s => I s.1 s.2.1 s.2.2) (fun s => μ s.1 s.2.1 s.2.2) (fun n s hI hk => hs n s.1 s.2.1 s.2.2 hI (fun b1 b2 b3 h9 hm => hk (b1, b2, b3) h9 hm)) (a1, a2, a3) h
theorem lp4 {A1 A2 A3 A4 : Type} (W : Nat → A1 → A2 → A3 → A4 → Prop) (I : A1 → A2 → A3 → A4 → Prop) (μ : A1 → A2 → A3 → A4 → Nat) (hs : ∀ (n : Nat) (a1 : A1) (a2 : A2) (a3 : A3) (a4 : A4), I a1 a2 a3 a4 → (∀ (b1 : A1) (b2 : A2) (b3 : A3) (b4 : A4), I b1 b2 b3 b4 → μ b1 b2 b3 b4 < μ a1 a2 a3 a4 → W n b1 b2 b3 b4) → W (n + 1) a1 a2 a3 a4) (a1 : A1) (a2 : A2) (a3 : A3) (a4 : A4) (h : I a1 a2 a3 a4) : ∃ n, W n a1 a2 a3 a4 :=
  loop_m (σ := A1 × A2 × A3 × A4) (fun n s => W n s.1 s.2.1 s.2.2.1 s.2.2.2) (fun s => I s.1 s.2.1 s.2.2.1 s.2.2.2) (fun s => μ s.1 s.2.1 s.2.2.1 s.2.2.2) (fun n s hI hk => hs n s.1 s.2.1 s.2.2.1 s.2.2.2 hI (fun b1 b2 b3 b4 h9 hm => hk (b1, b2, b3, b4) h9 hm)) (a1, a2, a3, a4) h
theorem lp5 {A1 A2 A3 A4 A5 : Type} (W : Nat → A1 → A2 → A3 → A4 → A5 → Prop) (I : A1 → A2 → A3 → A4 → A5 → Prop) (μ : A1 → A2 → A3 → A4 → A5 → Nat) (hs : ∀ (n : Nat) (a1 : A1) (a2 : A2) (a3 : A3) (a4 : A4) (a5 : A5), I a1 a2 a3 a4 a5 → (∀ (b1 : A1) (b2 : A2) (b3 : A3) (b4 : A4) (b5 : A5), I b1 b2 b3 b4 b5 → μ b1 b2 b3 b4 b5 < μ a1 a2 a3 a4 a5 → W n b1 b2 b3 b4 b5) → W (n + 1) a1 a2 a3 a4 a5) (a1 : A1) (a2 : A2) (a3 : A3) (a4 : A4) (a5 : A5) (h : I a1 a2 a3 a4 a5) : ∃ n, W n a1 a2 a3 a4 a5 :=
  loop_m (σ := A1 × A2 × A3 × A4 × A5) (fun n s => W n s.1 s.2.1 s.2.2.1 s.2.2.2.1 s.2.2.2.2) (fun s => I s.1 s.2.1 s.2.2.1 s.2.2.2.1 s.2.2.2.2) (fun s => μ s.1 s.2.1 s.2.2.1 s.2.2.2.1 s.2.2.2.2) (fun n s hI hk => hs n s.1 s.2.1 s.2.2.1 s.2.2.2.1 s.2.2.2.2 hI (fun b1 b2 b3 b4 b5 h9 hm => hk (b1, b2, b3, b4, b5) h9 hm)) (a1, a2, a3, a4, a5) h
theorem lp6 {A1 A2 A3 A4 A5 A6 : Type} (W : Nat → A1 → A2 → A3 → A4 → A5 → A6 → Prop) (I : A1 → A2 → A3 → A4 → A5 → A6 → Prop) (μ : A1 → A2 → A3 → A4 → A5 → A6 → Nat) (hs : ∀ (n : Nat) (a1 : A1) (a2 : A2) (a3 : A3) (a4 : A4) (a5 : A5) (a6 : A6), I a1 a2 a3 a4 a5 a6 → (∀ (b1 : A1) (b2 : A2) (b3 : A3) (b4 : A4) (b5 : A5) (b6 : A6), I b1 b2 b3 b4 b5 b6 → μ b1 b2 b3 b4 b5 b6 < μ a1 a2 a3 a4 a5 a6 → W n b1 b2 b3 b4 b5 b6) → W (n + 1) a1 a2 a3 a4 a5 a6) (a1 : A1) (a2 : A2) (a3 : A3) (a4 : A4) (a5 : A5) (a6 : A6) (h : I a1 a2 a3 a4 a5 a6) : ∃ n, W n a1 a2 a3 a4 a5 a6 :=
  loop_m (σ := A1 × A2 × A3 × A4 × A5 × A6) (fun n s => W n s.1 s.2.1 s.2.2.1 s.2.2.2.1 s.2.2.2.2.1 s.2.2.2.2.2) (fun s => I s.1 s.2.1 s.2.2.1 s.2.2.2.1 s.2.2.2.2.1 s.2.2.2.2.2) (fun s => μ s.1 s.2.1 s.2.2.1 s.2.2.2.1 s.2.2.2.2.1 s.2.2.2.2.2) (fun n s hI hk => hs n s.1 s.2.1 s.2.2.1 s.2.2.2.1 s.2.2.2.2.1 s.2.2.2.2.2 hI (fun b1 b2 b3 b4 b5 b6 h9 hm => hk (b1, b2, b3, b4, b5, b6) h9 hm)) (a1, a2, a3, a4, a5, a6) h
theorem lp7 {A1 A2 A3 A4 A5 A6 A7 : Type} (W : Nat → A1 → A2 → A3 → A4 → A5 → A6 → A7 → Prop) (I : A1 → A2 → A3 → A4 → A5 → A6 → A7 → Prop) (μ : A1 → A2 → A3 → A4 → A5 → A6 → A7 → Nat) (hs : ∀ (n : Nat) (a1 : A1) (a2 : A2) (a3 : A3) (a4 : A4) (a5 : A5) (a6 : A6) (a7 : A7), I a1 a2 a3 a4 a5 a6 a7 → (∀ (b1 : A1) (b2 : A2) (b3 : A3) (b4 : A4) (b5 : A5) (b6 : A6) (b7 : A7), I b1 b2 b3 b4 b5 b6 b7 → μ b1 b2 b3 b4 b5 b6 b7 < μ a1 a2 a3 a4 a5 a6 a7 → W n b1 b2 b3 b4 b5 b6 b7) → W (n + 1) a1 a2 a3 a4 a5 a6 a7) (a1 : A1) (a2 : A2) (a3 : A3) (a4 : A4) (a5 : A5) (a6 : A6) (a7 : A7) (h : I a1 a2 a3 a4 a5 a6 a7) : ∃ n, W n a1 a2 a3 a4 a5 a6 a7 :=
  loop_m (σ := A1 × A2 × A3 × A4 × A5 × A6 × A7) (fun n s => W n s.1 s.2.1 s.2.2.1 s.2.2.2.1 s.2.2.2.2.1 s.2.2.2.2.2.1 s.2.2.2.2.2.2) (fun s => I s.1 s.2.1 s.2.2.1 s.2.2.2.1 s.2.2.2.2.1 s.2.2.2.2.2.1 s.2.2.2.2.2.2) (fun s => μ s.1 s.2.1 s.2.2.1 s.2.2.2.1 s.2.2.2.2.1 s.2.2.2.2.2.1 s.2.2.2.2.2.2) (fun n s hI hk => hs n s.1 s.2.1 s.2.2.1 s.2.2.2.1 s.2.2.2.2.1 s.2.2.2.2.2.1 s.2.2.2.2.2.2 hI (fun b1 b2 b3 b4 b5 b6 b7 h9 hm => hk (b1, b2, b3, b4, b5, b6, b7) h9 hm)) (a1, a2, a3, a4, a5, a6, a7) h
theorem pk_least (P : Nat → Prop) (h : ∃ k, P k) : ∃ k, P k ∧ ∀ j, j < k → ¬ P j := by
  obtain ⟨k, hk⟩ := h
  induction k using Nat.strongRecOn with
  | ind k ih =>
    by_cases e : ∃ j, j < k ∧ P j
    · obtain ⟨j, hj, pj⟩ := e
      exact ih j hj pj
    · exact ⟨k, hk, fun j hj pj => e ⟨j, hj, pj⟩⟩
def bt (x : Int32) (i : Nat) : Bool := x.toBitVec.getLsbD i
theorem b_ext {x y : Int32} (h : ∀ i, i < 32 → bt x i = bt y i) : x = y := Int32.toBitVec_inj.mp (BitVec.eq_of_getLsbD_eq (fun i hi => h i hi))
theorem b_or (x y : Int32) (i : Nat) : bt (x ||| y) i = (bt x i || bt y i) := by unfold bt; rw [Int32.toBitVec_or, BitVec.getLsbD_or]
theorem b_and (x y : Int32) (i : Nat) : bt (x &&& y) i = (bt x i && bt y i) := by unfold bt; rw [Int32.toBitVec_and, BitVec.getLsbD_and]
theorem b_big {x : Int32} {i : Nat} (h : 32 ≤ i) : bt x i = false := BitVec.getLsbD_of_ge _ _ h
theorem b_65535 (i : Nat) : bt 65535 i = decide (i < 16) := by
  rcases Nat.lt_or_ge i 32 with h | h
  · exact (by decide +kernel : ∀ i, i < 32 → bt 65535 i = decide (i < 16)) i h
  · rw [b_big h, decide_eq_false (by omega)]
theorem b_0 (i : Nat) : bt 0 i = false := BitVec.getLsbD_zero
theorem s_l : ∀ n, n < 32 → ((nI n &&& 31).toBitVec.smod 32).toNat = n := by decide +kernel
theorem b_shl (n : Nat) (hn : n < 32) (x : Int32) {i : Nat} (hi : i < 32) : bt (x <<< (nI n &&& 31)) i = (decide (n ≤ i) && bt x (i - n)) := by
  unfold bt
  rw [Int32.toBitVec_shiftLeft]
  show (x.toBitVec <<< ((nI n &&& 31).toBitVec.smod 32).toNat).getLsbD i = _
  rw [s_l n hn, BitVec.getLsbD_shiftLeft]
  rcases Nat.lt_or_ge i n with h | h
  · simp [h, Nat.not_le.mpr h]
  · simp [hi, h, Nat.not_lt.mpr h]
theorem b_sshr (n : Nat) (hn : n < 32) (x : Int32) {i : Nat} (hi : i < 32) : bt (x >>> (nI n &&& 31)) i = if n + i < 32 then bt x (n + i) else bt x 31 := by
  unfold bt
  rw [Int32.toBitVec_shiftRight]
  show (x.toBitVec.sshiftRight ((nI n &&& 31).toBitVec.smod 32).toNat).getLsbD i = _
  rw [s_l n hn, BitVec.getLsbD_sshiftRight, BitVec.msb_eq_getLsbD_last]
  simp [hi]
end
section
/-- the count of places below n where p holds -/
def mt_cb (p : Nat → Bool) : Nat → Nat
  | 0 => 0
  | n + 1 => mt_cb p n + (p n).toNat
noncomputable def mt_dc (P : Prop) : Bool := @decide P (Classical.propDecidable P)
theorem mt_dc_iff (P : Prop) : mt_dc P = true ↔ P :=
  ⟨fun h => @of_decide_eq_true P (Classical.propDecidable P) h, fun h => @decide_eq_true P (Classical.propDecidable P) h⟩
theorem mt_bnt {b : Bool} (h : ¬ b = true) : b = false := by
  cases b with
  | false => rfl
  | true => exact absurd rfl h
theorem mt_beq {b c : Bool} (h : b = true ↔ c = true) : b = c := by
  cases b with
  | true => exact (h.mp rfl).symm
  | false =>
    cases c with
    | false => rfl
    | true => exact h.mpr rfl
theorem mt_tn {b c : Bool} (h : b = true → c = true) : b.toNat ≤ c.toNat := by
  cases b with
  | false => exact Nat.zero_le _
  | true => rw [h rfl]; exact Nat.le_refl _
theorem mt_cb_le {p q : Nat → Bool} : ∀ n, (∀ i, i < n → p i = true → q i = true) → mt_cb p n ≤ mt_cb q n := by
  intro n
  induction n with
  | zero => intro _; exact Nat.le_refl 0
  | succ n ih =>
    intro h
    have h1 := ih (fun i hi => h i (by omega))
    have h2 : (p n).toNat ≤ (q n).toNat := mt_tn (h n (by omega))
    show mt_cb p n + (p n).toNat ≤ mt_cb q n + (q n).toNat
    omega
theorem mt_cb_lt {p q : Nat → Bool} : ∀ n, (∀ i, i < n → p i = true → q i = true) → (∃ i, i < n ∧ p i = false ∧ q i = true) → mt_cb p n < mt_cb q n := by
  intro n
  induction n with
  | zero => intro _ h; obtain ⟨i, hi, _⟩ := h; omega
  | succ n ih =>
    intro h hx
    obtain ⟨i, hi, h1, h2⟩ := hx
    show mt_cb p n + (p n).toNat < mt_cb q n + (q n).toNat
    by_cases e : i = n
    · rw [e] at h1 h2
      have h3 := mt_cb_le (p := p) (q := q) n (fun j hj => h j (by omega))
      rw [h1, h2]
      show mt_cb p n + 0 < mt_cb q n + 1
      omega
    · have h3 := ih (fun j hj => h j (by omega)) ⟨i, by omega, h1, h2⟩
      have h4 : (p n).toNat ≤ (q n).toNat := mt_tn (h n (by omega))
      omega
theorem mt_cb_n (p : Nat → Bool) : ∀ n, mt_cb p n ≤ n := by
  intro n
  induction n with
  | zero => exact Nat.le_refl 0
  | succ n ih =>
    have h : (p n).toNat ≤ 1 := by cases p n <;> decide
    show mt_cb p n + (p n).toNat ≤ n + 1
    omega
theorem mt_cb_eq {p q : Nat → Bool} : ∀ n, (∀ i, i < n → q i = p i) → mt_cb q n = mt_cb p n := by
  intro n
  induction n with
  | zero => intro _; rfl
  | succ n ih =>
    intro h
    show mt_cb q n + (q n).toNat = mt_cb p n + (p n).toNat
    rw [ih (fun i hi => h i (by omega)), h n (by omega)]
theorem mt_cb_add {p q : Nat → Bool} {k : Nat} (h1 : p k = false) (h2 : q k = true) : ∀ n, (∀ i, i < n → i ≠ k → q i = p i) → k < n → mt_cb q n = mt_cb p n + 1 := by
  intro n
  induction n with
  | zero => intro _ hk; omega
  | succ n ih =>
    intro h hk
    show mt_cb q n + (q n).toNat = mt_cb p n + (p n).toNat + 1
    by_cases e : n = k
    · have h3 := mt_cb_eq (p := p) (q := q) n (fun i hi => h i (by omega) (by omega))
      rw [← e] at h1 h2
      rw [h3, h1, h2]
      rfl
    · rw [ih (fun i hi => h i (by omega)) (by omega), h n (by omega) e]
      omega
theorem mt_cb_room {p : Nat → Bool} {k : Nat} (h1 : p k = false) {n : Nat} (hk : k < n) : mt_cb p n < n := by
  have h2 := mt_cb_add (p := p) (q := fun i => if i = k then true else p i) h1 (if_pos rfl) n (fun i _ hi => if_neg hi) hk
  have h3 := mt_cb_n (fun i => if i = k then true else p i) n
  omega
theorem mt_cb_full {p : Nat → Bool} {n : Nat} (h : n ≤ mt_cb p n) {k : Nat} (hk : k < n) : p k = true := by
  cases e : p k with
  | true => rfl
  | false => have := mt_cb_room e hk; omega
theorem mt_cb_none : ∀ n, mt_cb (fun _ => false) n = 0 := by
  intro n
  induction n with
  | zero => rfl
  | succ n ih =>
    show mt_cb (fun _ => false) n + 0 = 0
    omega
/-! a word of n inputs tells a and b apart -/
def mt_T (f : Nat → Nat) (o : Nat → Int32) : Nat → Nat → Nat → Prop
  | 0, _, _ => False
  | n + 1, a, b => (n = 0 ∧ ∃ i, i < 3 ∧ o (a * 3 + i) ≠ o (b * 3 + i)) ∨ (∃ i, i < 3 ∧ mt_T f o n (f (a * 3 + i)) (f (b * 3 + i)))
section
variable {f : Nat → Nat} {o : Nat → Int32}
theorem mt_T_z {a b : Nat} (h : mt_T f o 0 a b) : False := h
theorem mt_T_el {n a b : Nat} (h : mt_T f o (n + 1) a b) : (n = 0 ∧ ∃ i, i < 3 ∧ o (a * 3 + i) ≠ o (b * 3 + i)) ∨ (∃ i, i < 3 ∧ mt_T f o n (f (a * 3 + i)) (f (b * 3 + i))) := h
theorem mt_T_o {a b : Nat} (i : Nat) (hi : i < 3) (h : o (a * 3 + i) ≠ o (b * 3 + i)) : mt_T f o 1 a b := Or.inl ⟨rfl, i, hi, h⟩
theorem mt_T_st {n a b : Nat} (i : Nat) (hi : i < 3) (h : mt_T f o n (f (a * 3 + i)) (f (b * 3 + i))) : mt_T f o (n + 1) a b := Or.inr ⟨i, hi, h⟩
theorem mt_T_symm : ∀ n a b, mt_T f o n a b → mt_T f o n b a := by
  intro n
  induction n with
  | zero => intro a b h; exact (mt_T_z h).elim
  | succ n ih =>
    intro a b h
    rcases mt_T_el h with ⟨e, i, hi, g⟩ | ⟨i, hi, g⟩
    · cases e
      exact mt_T_o i hi (fun z => g z.symm)
    · exact mt_T_st i hi (ih _ _ g)
theorem mt_T_refl : ∀ n a, ¬ mt_T f o n a a := by
  intro n
  induction n with
  | zero => intro a h; exact mt_T_z h
  | succ n ih =>
    intro a h
    rcases mt_T_el h with ⟨e, i, hi, h⟩ | ⟨i, hi, h⟩
    · exact h rfl
    · exact ih _ h
theorem mt_T_tri : ∀ n a b c, mt_T f o n a c → mt_T f o n a b ∨ mt_T f o n b c := by
  intro n
  induction n with
  | zero => intro a b c h; exact (mt_T_z h).elim
  | succ n ih =>
    intro a b c h
    rcases mt_T_el h with ⟨e, i, hi, w⟩ | ⟨i, hi, w⟩
    · cases e
      by_cases q : o (a * 3 + i) = o (b * 3 + i)
      · exact Or.inr (mt_T_o i hi (fun z => w (q.trans z)))
      · exact Or.inl (mt_T_o i hi q)
    · rcases ih _ (f (b * 3 + i)) _ w with g | g
      · exact Or.inl (mt_T_st i hi g)
      · exact Or.inr (mt_T_st i hi g)
end
/-! the distance: the least such n, 0 if there is none -/
def mt_Is (f : Nat → Nat) (o : Nat → Int32) (a b d : Nat) : Prop := (mt_T f o d a b ∧ ∀ m, m < d → ¬ mt_T f o m a b) ∨ (d = 0 ∧ ∀ n, ¬ mt_T f o n a b)
theorem mt_Is_ex (f : Nat → Nat) (o : Nat → Int32) (a b : Nat) : ∃ d, mt_Is f o a b d := by
  by_cases h : ∃ n, mt_T f o n a b
  · obtain ⟨d, h1, h2⟩ := pk_least (fun n => mt_T f o n a b) h
    exact ⟨d, Or.inl ⟨h1, h2⟩⟩
  · exact ⟨0, Or.inr ⟨rfl, fun n hn => h ⟨n, hn⟩⟩⟩
noncomputable def mt_D (f : Nat → Nat) (o : Nat → Int32) (a b : Nat) : Nat := Classical.choose (mt_Is_ex f o a b)
theorem mt_D_is (f : Nat → Nat) (o : Nat → Int32) (a b : Nat) : mt_Is f o a b (mt_D f o a b) := Classical.choose_spec (mt_Is_ex f o a b)
section
variable {f : Nat → Nat} {o : Nat → Int32}
theorem mt_Is_uq {a b d e : Nat} (h : mt_Is f o a b d) (g : mt_Is f o a b e) : e = d := by
  rcases h with ⟨h1, h2⟩ | ⟨h1, h2⟩
  · rcases g with ⟨g1, g2⟩ | ⟨g1, g2⟩
    · rcases Nat.lt_trichotomy e d with q | q | q
      · exact absurd g1 (h2 e q)
      · exact q
      · exact absurd h1 (g2 d q)
    · exact absurd h1 (g2 d)
  · rcases g with ⟨g1, g2⟩ | ⟨g1, g2⟩
    · exact absurd g1 (h2 e)
    · omega
theorem mt_D_uq {a b d : Nat} (h : mt_Is f o a b d) : mt_D f o a b = d := mt_Is_uq h (mt_D_is f o a b)
theorem mt_D_T {n a b : Nat} (h : mt_T f o n a b) : 1 ≤ mt_D f o a b ∧ mt_D f o a b ≤ n := by
  rcases mt_D_is f o a b with ⟨h1, h2⟩ | ⟨_, h2⟩
  · refine ⟨Nat.pos_of_ne_zero (fun z => ?_), Nat.le_of_not_lt (fun q => h2 n q h)⟩
    rw [z] at h1
    exact mt_T_z h1
  · exact absurd h (h2 n)
theorem mt_D_pos {a b : Nat} (h : 1 ≤ mt_D f o a b) : mt_T f o (mt_D f o a b) a b := by
  rcases mt_D_is f o a b with ⟨h1, _⟩ | ⟨h1, _⟩
  · exact h1
  · omega
theorem mt_D_lt {m a b : Nat} (h : m < mt_D f o a b) : ¬ mt_T f o m a b := fun t => by
  have := (mt_D_T t).2
  omega
theorem mt_D_z {a b : Nat} (h : mt_D f o a b = 0) (n : Nat) : ¬ mt_T f o n a b := fun t => by
  have := (mt_D_T t).1
  omega
theorem mt_D_zi {a b : Nat} (h : ∀ n, ¬ mt_T f o n a b) : mt_D f o a b = 0 := mt_D_uq (Or.inr ⟨rfl, h⟩)
theorem mt_D_st {a b : Nat} (i : Nat) (hi : i < 3) (h : 1 ≤ mt_D f o (f (a * 3 + i)) (f (b * 3 + i))) : 1 ≤ mt_D f o a b ∧ mt_D f o a b ≤ mt_D f o (f (a * 3 + i)) (f (b * 3 + i)) + 1 := mt_D_T (mt_T_st i hi (mt_D_pos h))
theorem mt_D_dn {a b L : Nat} (hL : 1 ≤ L) (h : mt_D f o a b = L + 1) : ∃ i, i < 3 ∧ mt_D f o (f (a * 3 + i)) (f (b * 3 + i)) = L := by
  have t := mt_D_pos (f := f) (o := o) (a := a) (b := b) (by omega)
  rw [h] at t
  rcases mt_T_el t with ⟨e, _⟩ | ⟨i, hi, t⟩
  · omega
  · have g := mt_D_T t
    have g2 := mt_D_st (a := a) (b := b) i hi g.1
    exact ⟨i, hi, by omega⟩
theorem mt_D_1 {a b : Nat} (h : mt_D f o a b = 1) : ∃ i, i < 3 ∧ o (a * 3 + i) ≠ o (b * 3 + i) := by
  have t := mt_D_pos (f := f) (o := o) (a := a) (b := b) (by omega)
  rw [h] at t
  rcases mt_T_el t with ⟨_, t⟩ | ⟨i, hi, t⟩
  · exact t
  · exact (mt_T_z t).elim
theorem mt_D_o {a b : Nat} (i : Nat) (hi : i < 3) (h : o (a * 3 + i) ≠ o (b * 3 + i)) : mt_D f o a b = 1 := by
  have := mt_D_T (mt_T_o (f := f) i hi h)
  omega
theorem mt_D_symm (a b : Nat) : mt_D f o a b = mt_D f o b a := by
  apply mt_D_uq
  rcases mt_D_is f o b a with ⟨h1, h2⟩ | ⟨h1, h2⟩
  · exact Or.inl ⟨mt_T_symm _ _ _ h1, fun m hm t => h2 m hm (mt_T_symm _ _ _ t)⟩
  · exact Or.inr ⟨h1, fun n t => h2 n (mt_T_symm _ _ _ t)⟩
theorem mt_D_refl (a : Nat) : mt_D f o a a = 0 := mt_D_zi (fun n => mt_T_refl n a)
theorem mt_D_tri {a b c : Nat} (h1 : mt_D f o a b = 0) (h2 : mt_D f o b c = 0) : mt_D f o a c = 0 :=
  mt_D_zi (fun n t => (mt_T_tri n a b c t).elim (mt_D_z h1 n) (mt_D_z h2 n))
theorem mt_chain (hf : ∀ p, p < 48 → f p < 16) {L : Nat} (hL : 1 ≤ L) : ∀ k a b, a < 16 → b < 16 → mt_D f o a b = L + k → ∃ x y, x < 16 ∧ y < 16 ∧ mt_D f o x y = L := by
  intro k
  induction k with
  | zero => intro a b ha hb h; exact ⟨a, b, ha, hb, h⟩
  | succ k ih =>
    intro a b ha hb h
    obtain ⟨i, hi, g⟩ := mt_D_dn (L := L + k) (by omega) h
    exact ih _ _ (hf _ (by omega)) (hf _ (by omega)) g
end
/-! Moore's bound: no word longer than 15 is a shortest one -/
def mt_E (f : Nat → Nat) (o : Nat → Int32) (n a b : Nat) : Prop := ∀ m, m ≤ n → ¬ mt_T f o m a b
noncomputable def mt_rp (f : Nat → Nat) (o : Nat → Int32) (n : Nat) : Nat → Bool := fun a => mt_dc (∀ b, b < a → ¬ mt_E f o n b a)
section
variable {f : Nat → Nat} {o : Nat → Int32}
theorem mt_E_tri {n a b c : Nat} (h1 : mt_E f o n a b) (h2 : mt_E f o n b c) : mt_E f o n a c := fun m hm t => (mt_T_tri m a b c t).elim (h1 m hm) (h2 m hm)
theorem mt_E_symm {n a b : Nat} (h : mt_E f o n a b) : mt_E f o n b a := fun m hm t => h m hm (mt_T_symm _ _ _ t)
theorem mt_E_dn {n a b : Nat} (h : mt_E f o (n + 1) a b) : mt_E f o n a b := fun m hm => h m (by omega)
theorem mt_lr (n a : Nat) : ∃ r, r ≤ a ∧ mt_E f o n r a ∧ ∀ b, b < r → ¬ mt_E f o n b r := by
  obtain ⟨r, h1, h2⟩ := pk_least (fun r => mt_E f o n r a) ⟨a, fun m _ => mt_T_refl m a⟩
  exact ⟨r, Nat.le_of_not_lt (fun q => h2 a q (fun m _ => mt_T_refl m a)), h1, fun b hb e => h2 b hb (mt_E_tri e h1)⟩
theorem mt_grow {n x y : Nat} (hx : x < 16) (hy : y < 16) (h1 : mt_E f o n x y) (h2 : ¬ mt_E f o (n + 1) x y) : mt_cb (mt_rp f o n) 16 < mt_cb (mt_rp f o (n + 1)) 16 := by
  apply mt_cb_lt
  · intro i _ h
    have h9 : ∀ b, b < i → ¬ mt_E f o n b i := (mt_dc_iff _).mp h
    exact (mt_dc_iff _).mpr (fun b hb e => h9 b hb (mt_E_dn e))
  · obtain ⟨r, hr, e1, mr⟩ := mt_lr (f := f) (o := o) n x
    have hz : ∃ z, z < 16 ∧ mt_E f o n r z ∧ ¬ mt_E f o (n + 1) r z := by
      by_cases q : mt_E f o (n + 1) r x
      · exact ⟨y, hy, mt_E_tri e1 h1, fun e => h2 (mt_E_tri (mt_E_symm q) e)⟩
      · exact ⟨x, hx, e1, q⟩
    obtain ⟨z, hz, e2, e3⟩ := hz
    obtain ⟨s, hs, e4, ms⟩ := mt_lr (f := f) (o := o) (n + 1) z
    have e5 : mt_E f o n s z := mt_E_dn e4
    have hrs : ¬ s < r := fun q => mr s q (mt_E_tri e5 (mt_E_symm e2))
    have hne : s ≠ r := fun q => e3 (q ▸ e4)
    refine ⟨s, by omega, mt_bnt (fun t => ?_), (mt_dc_iff _).mpr ms⟩
    have t2 : ∀ b, b < s → ¬ mt_E f o n b s := (mt_dc_iff _).mp t
    exact t2 r (by omega) (mt_E_tri e2 (mt_E_symm e5))
theorem mt_moore (hf : ∀ p, p < 48 → f p < 16) {a b : Nat} (ha : a < 16) (hb : b < 16) : mt_D f o a b ≤ 15 := by
  have key : ∀ n, n ≤ mt_D f o a b → n + 1 ≤ mt_cb (mt_rp f o n) 16 := by
    intro n
    induction n with
    | zero =>
      intro _
      have h := mt_cb_lt (p := fun _ => false) (q := mt_rp f o 0) 16 (fun i _ h => (nomatch h)) ⟨0, by omega, rfl, (mt_dc_iff _).mpr (fun b hb => absurd hb (Nat.not_lt_zero b))⟩
      omega
    | succ n ih =>
      intro hn
      have h := ih (by omega)
      obtain ⟨x, y, hx, hy, e⟩ := mt_chain hf (o := o) (L := n + 1) (by omega) (mt_D f o a b - (n + 1)) a b ha hb (by omega)
      have g := mt_grow (f := f) (o := o) (n := n) hx hy (fun m hm => mt_D_lt (by omega)) (fun q => q (n + 1) (Nat.le_refl _) (by
        have t := mt_D_pos (f := f) (o := o) (a := x) (b := y) (by omega)
        rw [e] at t
        exact t))
      omega
  have h1 := key _ (Nat.le_refl _)
  have h2 := mt_cb_n (mt_rp f o (mt_D f o a b)) 16
  omega
end
/-! which input begins a word of L inputs that tells a and b apart -/
def mt_S (f : Nat → Nat) (o : Nat → Int32) (a b i L : Nat) : Prop := (L = 1 ∧ o (a * 3 + i) ≠ o (b * 3 + i)) ∨ (2 ≤ L ∧ mt_D f o (f (a * 3 + i)) (f (b * 3 + i)) = L - 1)
theorem mt_S_D {f : Nat → Nat} {o : Nat → Int32} {a b L : Nat} (hL : 1 ≤ L) (h : mt_D f o a b = 0 ∨ L ≤ mt_D f o a b) : (∃ i, i < 3 ∧ mt_S f o a b i L) ↔ mt_D f o a b = L := by
  constructor
  · intro ⟨i, hi, g⟩
    rcases g with ⟨e, g⟩ | ⟨e, g⟩
    · rw [mt_D_o i hi g, e]
    · have g2 := mt_D_st (f := f) (o := o) (a := a) (b := b) i hi (by omega)
      omega
  · intro e
    by_cases h1 : L = 1
    · obtain ⟨i, hi, g⟩ := mt_D_1 (e.trans h1)
      exact ⟨i, hi, Or.inl ⟨h1, g⟩⟩
    · obtain ⟨i, hi, g⟩ := mt_D_dn (f := f) (o := o) (a := a) (b := b) (L := L - 1) (by omega) (by omega)
      exact ⟨i, hi, Or.inr ⟨by omega, g⟩⟩
/-! what stands in apart after the lengths up to L -/
noncomputable def mt_A (f : Nat → Nat) (o : Nat → Int32) (L a b : Nat) : Nat := if mt_D f o a b ≤ L then mt_D f o a b else 0
/-! the kind of a state -/
theorem mt_K_ex (f : Nat → Nat) (o : Nat → Int32) (s : Nat) : ∃ k, mt_D f o k s = 0 ∧ ∀ j, j < k → ¬ mt_D f o j s = 0 := pk_least (fun k => mt_D f o k s = 0) ⟨s, mt_D_refl s⟩
noncomputable def mt_K (f : Nat → Nat) (o : Nat → Int32) (s : Nat) : Nat := Classical.choose (mt_K_ex f o s)
theorem mt_K_is (f : Nat → Nat) (o : Nat → Int32) (s : Nat) : mt_D f o (mt_K f o s) s = 0 ∧ ∀ j, j < mt_K f o s → ¬ mt_D f o j s = 0 := Classical.choose_spec (mt_K_ex f o s)
theorem mt_K_le (f : Nat → Nat) (o : Nat → Int32) (s : Nat) : mt_K f o s ≤ s := Nat.le_of_not_lt (fun q => (mt_K_is f o s).2 s q (mt_D_refl s))
theorem mt_K_id (f : Nat → Nat) (o : Nat → Int32) (s : Nat) : mt_K f o (mt_K f o s) = mt_K f o s := by
  have h1 := mt_K_le f o (mt_K f o s)
  have h2 : ¬ mt_K f o (mt_K f o s) < mt_K f o s := fun q => (mt_K_is f o s).2 _ q (mt_D_tri (mt_K_is f o (mt_K f o s)).1 (mt_K_is f o s).1)
  omega
end
section
/-! words as naturals: the empty word is 0, the word u with input i behind it is 3 * u + i + 1 -/
def mt_go (f : Nat → Nat) (s : Nat) (v : Nat) : Nat :=
  if h : v = 0 then s else f (mt_go f s ((v - 1) / 3) * 3 + (v - 1) % 3)
termination_by v
decreasing_by omega
theorem mt_go_0 (f : Nat → Nat) (s : Nat) : mt_go f s 0 = s := by
  rw [mt_go, dif_pos rfl]
theorem mt_go_s (f : Nat → Nat) (s u i : Nat) (hi : i < 3) : mt_go f s (3 * u + i + 1) = f (mt_go f s u * 3 + i) := by
  rw [mt_go, dif_neg (by omega), show (3 * u + i + 1 - 1) / 3 = u by omega, show (3 * u + i + 1 - 1) % 3 = i by omega]
theorem mt_wd (v : Nat) (h : v ≠ 0) : ∃ u i, i < 3 ∧ v = 3 * u + i + 1 := ⟨(v - 1) / 3, (v - 1) % 3, by omega, by omega⟩
theorem mt_go_lt {f : Nat → Nat} (hf : ∀ p, p < 48 → f p < 16) {s : Nat} (hs : s < 16) (v : Nat) : mt_go f s v < 16 := by
  induction v using Nat.strongRecOn with
  | ind v ih =>
    by_cases h : v = 0
    · rw [h, mt_go_0]
      exact hs
    · obtain ⟨u, i, hi, e⟩ := mt_wd v h
      have g := ih u (by omega)
      rw [e, mt_go_s f s u i hi]
      exact hf _ (by omega)
/-! w is z with m inputs behind it -/
def mt_ex : Nat → Nat → Nat → Prop
  | 0, z, w => w = z
  | m + 1, z, w => ∃ i, i < 3 ∧ mt_ex m (3 * z + i + 1) w
theorem mt_ex_0 {z w : Nat} (h : mt_ex 0 z w) : w = z := h
theorem mt_ex_00 (z : Nat) : mt_ex 0 z z := Eq.refl z
theorem mt_ex_e {m z w : Nat} (h : mt_ex (m + 1) z w) : ∃ i, i < 3 ∧ mt_ex m (3 * z + i + 1) w := h
theorem mt_ex_s {m z w : Nat} (i : Nat) (hi : i < 3) (h : mt_ex m (3 * z + i + 1) w) : mt_ex (m + 1) z w := ⟨i, hi, h⟩
theorem mt_ex_le : ∀ m z w, mt_ex m z w → z ≤ w := by
  intro m
  induction m with
  | zero => intro z w h; have := mt_ex_0 h; omega
  | succ m ih =>
    intro z w h
    obtain ⟨i, hi, h⟩ := mt_ex_e h
    have := ih _ _ h
    omega
theorem mt_cmp : ∀ m j x y w v, m ≤ j → x < y → mt_ex m x w → mt_ex j y v → w < v := by
  intro m
  induction m with
  | zero =>
    intro j x y w v _ h g1 g2
    have h1 := mt_ex_0 g1
    have h2 := mt_ex_le _ _ _ g2
    omega
  | succ m ih =>
    intro j x y w v hj h g1 g2
    cases j with
    | zero => omega
    | succ j =>
      obtain ⟨i, hi, e1⟩ := mt_ex_e g1
      obtain ⟨k, hk, e2⟩ := mt_ex_e g2
      exact ih j _ _ w v (by omega) (by omega) e1 e2
theorem mt_cmp2 {m j z w v : Nat} (h : m < j) (g1 : mt_ex m z w) (g2 : mt_ex j z v) : w < v := by
  cases j with
  | zero => omega
  | succ j =>
    obtain ⟨k, hk, e2⟩ := mt_ex_e g2
    exact mt_cmp m j z _ w v (by omega) (by omega) g1 e2
def mt_pr (v : Nat) : Nat → Nat
  | 0 => v
  | m + 1 => (mt_pr v m - 1) / 3
theorem mt_ex_pr : ∀ m z v, mt_ex m z v → mt_pr v m = z := by
  intro m
  induction m with
  | zero => intro z v h; exact mt_ex_0 h
  | succ m ih =>
    intro z v h
    obtain ⟨i, hi, h⟩ := mt_ex_e h
    have g := ih _ _ h
    show (mt_pr v m - 1) / 3 = z
    omega
/-! the word w tells a and b apart by its last output; the least such word -/
def mt_tl (f : Nat → Nat) (o : Nat → Int32) (a b w : Nat) : Prop := ∃ u i, i < 3 ∧ w = 3 * u + i + 1 ∧ o (mt_go f a u * 3 + i) ≠ o (mt_go f b u * 3 + i)
def mt_fst (f : Nat → Nat) (o : Nat → Int32) (a b v : Nat) : Prop := mt_tl f o a b v ∧ ∀ w, w < v → ¬ mt_tl f o a b w
section
variable {f : Nat → Nat} {o : Nat → Int32} {a b : Nat}
theorem mt_ext : ∀ m z, mt_T f o m (mt_go f a z) (mt_go f b z) → ∃ w, mt_tl f o a b w ∧ mt_ex m z w := by
  intro m
  induction m with
  | zero => intro z h; exact (mt_T_z h).elim
  | succ m ih =>
    intro z h
    rcases mt_T_el h with ⟨e, i, hi, g⟩ | ⟨i, hi, g⟩
    · cases e
      exact ⟨3 * z + i + 1, ⟨z, i, hi, rfl, g⟩, mt_ex_s i hi (mt_ex_00 _)⟩
    · obtain ⟨w, t, e⟩ := ih (3 * z + i + 1) (by
        rw [mt_go_s f a z i hi, mt_go_s f b z i hi]
        exact g)
      exact ⟨w, t, mt_ex_s i hi e⟩
theorem mt_tel : ∀ m z w, mt_tl f o a b w → mt_ex (m + 1) z w → mt_T f o (m + 1) (mt_go f a z) (mt_go f b z) := by
  intro m
  induction m with
  | zero =>
    intro z w t h
    obtain ⟨i, hi, h⟩ := mt_ex_e h
    have e1 := mt_ex_0 h
    obtain ⟨u, j, hj, e2, g⟩ := t
    have eu : u = z := by omega
    have ej : j = i := by omega
    rw [eu, ej] at g
    exact mt_T_o i hi g
  | succ m ih =>
    intro z w t h
    obtain ⟨i, hi, h⟩ := mt_ex_e h
    have g := ih _ w t h
    rw [mt_go_s f a z i hi, mt_go_s f b z i hi] at g
    exact mt_T_st i hi g
theorem mt_fst_go {v m z : Nat} (hv : mt_fst f o a b v) (h : mt_ex (m + 1) z v) : mt_D f o (mt_go f a z) (mt_go f b z) = m + 1 := by
  refine mt_D_uq (Or.inl ⟨mt_tel m z v hv.1 h, fun n hn t => ?_⟩)
  obtain ⟨w, tw, e⟩ := mt_ext n z t
  exact hv.2 w (mt_cmp2 hn e h) tw
theorem mt_fst_D {v n : Nat} (hv : mt_fst f o a b v) (h : mt_ex n 0 v) : mt_D f o a b = n := by
  cases n with
  | zero =>
    obtain ⟨u, i, hi, e, _⟩ := hv.1
    have := mt_ex_0 h
    omega
  | succ n =>
    have g := mt_fst_go hv h
    rw [mt_go_0, mt_go_0] at g
    exact g
theorem mt_fst_S {v m z i : Nat} (hv : mt_fst f o a b v) (hi : i < 3) (h : mt_ex m (3 * z + i + 1) v) : mt_S f o (mt_go f a z) (mt_go f b z) i (m + 1) ∧ ∀ j, j < i → ¬ mt_S f o (mt_go f a z) (mt_go f b z) j (m + 1) := by
  cases m with
  | zero =>
    have e := mt_ex_0 h
    constructor
    · obtain ⟨u, j, hj, e2, g⟩ := hv.1
      have eu : u = z := by omega
      have ej : j = i := by omega
      rw [eu, ej] at g
      exact Or.inl ⟨rfl, g⟩
    · intro j hj s
      rcases s with ⟨_, g⟩ | ⟨q, _⟩
      · exact hv.2 (3 * z + j + 1) (by omega) ⟨z, j, by omega, rfl, g⟩
      · omega
  | succ m =>
    have g := mt_fst_go hv h
    rw [mt_go_s f a z i hi, mt_go_s f b z i hi] at g
    refine ⟨Or.inr ⟨by omega, by omega⟩, fun j hj s => ?_⟩
    rcases s with ⟨q, _⟩ | ⟨_, g2⟩
    · omega
    · have hj3 : j < 3 := by omega
      have t := mt_D_pos (f := f) (o := o) (a := f (mt_go f a z * 3 + j)) (b := f (mt_go f b z * 3 + j)) (by omega)
      have g3 : mt_D f o (f (mt_go f a z * 3 + j)) (f (mt_go f b z * 3 + j)) = m + 1 := by omega
      rw [g3] at t
      rw [← mt_go_s f a z j hj3, ← mt_go_s f b z j hj3] at t
      obtain ⟨w, tw, e⟩ := mt_ext _ _ t
      exact hv.2 w (mt_cmp (m + 1) (m + 1) _ _ w v (Nat.le_refl _) (by omega) e h) tw
theorem mt_none (h : ∀ w, ¬ mt_tl f o a b w) : mt_D f o a b = 0 := by
  refine mt_D_zi (fun n t => ?_)
  rw [← mt_go_0 f a, ← mt_go_0 f b] at t
  obtain ⟨w, tw, _⟩ := mt_ext n 0 t
  exact h w tw
end
/-! the breadth first search: place j of the queue stands for the word c j, found from place q j -/
def mt_up (c : Nat → Nat) (k x : Nat) : Nat → Nat := fun j => if j = k then x else c j
theorem mt_up_s (c : Nat → Nat) (k x : Nat) : mt_up c k x k = x := if_pos rfl
theorem mt_up_n {c : Nat → Nat} {k x j : Nat} (h : j ≠ k) : mt_up c k x j = c j := if_neg h
def mt_Qm (c : Nat → Nat) (pc : Nat) : Prop := 1 ≤ pc ∧ c 0 = 0 ∧ ∀ j m, j < m → m < pc → c j < c m
def mt_Qq (c q : Nat → Nat) (pc k i : Nat) : Prop := ∀ j, 1 ≤ j → j < pc → ∃ d, d < 3 ∧ c j = 3 * c (q j) + d + 1 ∧ q j < j ∧ (q j < k ∨ (q j = k ∧ d < i))
def mt_Qx (f : Nat → Nat) (o : Nat → Int32) (a b : Nat) (c : Nat → Nat) (pc k i : Nat) : Prop := ∀ j d, j < pc → d < 3 → (j < k ∨ (j = k ∧ d < i)) → o (mt_go f a (c j) * 3 + d) = o (mt_go f b (c j) * 3 + d) ∧ ∃ m, m < pc ∧ c m ≤ 3 * c j + d + 1 ∧ mt_go f a (c m) = f (mt_go f a (c j) * 3 + d) ∧ mt_go f b (c m) = f (mt_go f b (c j) * 3 + d)
def mt_Q (f : Nat → Nat) (o : Nat → Int32) (a b : Nat) (c q : Nat → Nat) (pc k i : Nat) : Prop := mt_Qm c pc ∧ mt_Qq c q pc k i ∧ mt_Qx f o a b c pc k i
section
variable {f : Nat → Nat} {o : Nat → Int32} {a b : Nat} {c q : Nat → Nat} {pc k i : Nat}
theorem mt_Q_0 : mt_Q f o a b (fun _ => 0) (fun _ => 0) 1 0 0 :=
  ⟨⟨Nat.le_refl 1, rfl, fun j m h1 h2 => absurd h1 (by omega)⟩, fun j h1 h2 => absurd h1 (by omega), fun j d h1 h2 h3 => absurd h3 (by omega)⟩
theorem mt_Q_top (h : mt_Q f o a b c q pc k i) (hk : k < pc) {j : Nat} (hj : j < pc) : c j < 3 * c k + i + 1 := by
  by_cases e : j = 0
  · rw [e, h.1.2.1]
    omega
  · obtain ⟨d, hd, e2, _, g⟩ := h.2.1 j (by omega) hj
    rcases g with g | ⟨g1, g2⟩
    · have := h.1.2.2 (q j) k g hk
      omega
    · rw [g1] at e2
      omega
theorem mt_Q_old (h : mt_Q f o a b c q pc k i) (hk : k < pc) {m : Nat} (hm : m < pc) (ho : o (mt_go f a (c k) * 3 + i) = o (mt_go f b (c k) * 3 + i)) (ea : mt_go f a (c m) = f (mt_go f a (c k) * 3 + i)) (eb : mt_go f b (c m) = f (mt_go f b (c k) * 3 + i)) : mt_Q f o a b c q pc k (i + 1) := by
  refine ⟨h.1, fun j h1 h2 => ?_, fun j d h1 h2 h3 => ?_⟩
  · obtain ⟨d, hd, e2, hl, g⟩ := h.2.1 j h1 h2
    exact ⟨d, hd, e2, hl, by omega⟩
  · by_cases e : j = k ∧ d = i
    · rw [e.1, e.2]
      exact ⟨ho, m, hm, Nat.le_of_lt (mt_Q_top h hk hm), ea, eb⟩
    · exact h.2.2 j d h1 h2 (by omega)
theorem mt_Q_new (h : mt_Q f o a b c q pc k i) (hk : k < pc) (hi : i < 3) (ho : o (mt_go f a (c k) * 3 + i) = o (mt_go f b (c k) * 3 + i)) : mt_Q f o a b (mt_up c pc (3 * c k + i + 1)) (mt_up q pc k) (pc + 1) k (i + 1) := by
  have ec : ∀ j, j < pc → mt_up c pc (3 * c k + i + 1) j = c j := fun j hj => mt_up_n (by omega)
  have eq : ∀ j, j < pc → mt_up q pc k j = q j := fun j hj => mt_up_n (by omega)
  refine ⟨⟨by omega, ?_, fun j m h1 h2 => ?_⟩, fun j h1 h2 => ?_, fun j d h1 h2 h3 => ?_⟩
  · rw [ec 0 h.1.1]
    exact h.1.2.1
  · by_cases e : m = pc
    · rw [e, mt_up_s, ec j (by omega)]
      exact mt_Q_top h hk (by omega)
    · rw [ec j (by omega), ec m (by omega)]
      exact h.1.2.2 j m h1 (by omega)
  · by_cases e : j = pc
    · rw [e, mt_up_s, mt_up_s, ec k hk]
      exact ⟨i, hi, rfl, hk, Or.inr ⟨rfl, by omega⟩⟩
    · obtain ⟨d, hd, e2, hl, g⟩ := h.2.1 j h1 (by omega)
      rw [eq j (by omega), ec j (by omega), ec (q j) (by omega)]
      exact ⟨d, hd, e2, hl, by omega⟩
  · by_cases e : j = k ∧ d = i
    · rw [e.1, e.2, ec k hk]
      refine ⟨ho, pc, by omega, ?_, ?_, ?_⟩
      · rw [mt_up_s]
        exact Nat.le_refl _
      · rw [mt_up_s, mt_go_s f a _ i hi]
      · rw [mt_up_s, mt_go_s f b _ i hi]
    · have hj : j < pc := by omega
      obtain ⟨g1, m, hm, g2, g3, g4⟩ := h.2.2 j d hj h2 (by omega)
      rw [ec j hj]
      refine ⟨g1, m, by omega, ?_, ?_, ?_⟩
      · rw [ec m hm]; exact g2
      · rw [ec m hm]; exact g3
      · rw [ec m hm]; exact g4
theorem mt_Q_row (h : mt_Q f o a b c q pc k 3) : mt_Q f o a b c q pc (k + 1) 0 := by
  refine ⟨h.1, fun j h1 h2 => ?_, fun j d h1 h2 h3 => h.2.2 j d h1 h2 (by omega)⟩
  obtain ⟨d, hd, e2, hl, g⟩ := h.2.1 j h1 h2
  exact ⟨d, hd, e2, hl, by omega⟩
theorem mt_Q_cov (h : mt_Q f o a b c q pc k i) (u : Nat) : (∀ m, m < pc → c m < u → m < k) → ∃ m, m < pc ∧ c m ≤ u ∧ mt_go f a (c m) = mt_go f a u ∧ mt_go f b (c m) = mt_go f b u := by
  induction u using Nat.strongRecOn with
  | ind u ih =>
    intro H
    by_cases e : u = 0
    · refine ⟨0, h.1.1, ?_, ?_, ?_⟩
      · rw [h.1.2.1]; omega
      · rw [h.1.2.1, e]
      · rw [h.1.2.1, e]
    · obtain ⟨u2, d, hd, e2⟩ := mt_wd u e
      obtain ⟨m, hm, g1, g2, g3⟩ := ih u2 (by omega) (fun m hm hl => H m hm (by omega))
      obtain ⟨_, m2, hm2, k1, k2, k3⟩ := h.2.2 m d hm hd (Or.inl (H m hm (by omega)))
      refine ⟨m2, hm2, by omega, ?_, ?_⟩
      · rw [k2, g2, e2, mt_go_s f a u2 d hd]
      · rw [k3, g3, e2, mt_go_s f b u2 d hd]
theorem mt_Q_mono (h : mt_Q f o a b c q pc k i) (hk : k < pc) {m : Nat} (hm : m < pc) (g : c m < c k) : m < k := by
  apply Nat.lt_of_not_le
  intro z
  by_cases e : m = k
  · rw [e] at g
    omega
  · have := h.1.2.2 k m (by omega) hm
    omega
theorem mt_Q_found (h : mt_Q f o a b c q pc k i) (hk : k < pc) (hi : i < 3) (ho : ¬ o (mt_go f a (c k) * 3 + i) = o (mt_go f b (c k) * 3 + i)) : mt_fst f o a b (3 * c k + i + 1) := by
  refine ⟨⟨c k, i, hi, rfl, ho⟩, fun w hw t => ?_⟩
  obtain ⟨u, d, hd, e, g⟩ := t
  obtain ⟨m, hm, g1, g2, g3⟩ := mt_Q_cov h u (fun m hm hl => mt_Q_mono h hk hm (by omega))
  have hx : m < k ∨ (m = k ∧ d < i) := by
    by_cases e2 : c m < c k
    · exact Or.inl (mt_Q_mono h hk hm e2)
    · have e3 : ¬ k < m := fun z => by
        have := h.1.2.2 k m z hm
        omega
      omega
  have r := (h.2.2 m d hm hd hx).1
  rw [g2, g3] at r
  exact g r
theorem mt_Q_end (h : mt_Q f o a b c q pc pc 0) : mt_D f o a b = 0 := by
  refine mt_none (fun w t => ?_)
  obtain ⟨u, d, hd, e, g⟩ := t
  obtain ⟨m, hm, g1, g2, g3⟩ := mt_Q_cov h u (fun m hm _ => hm)
  have r := (h.2.2 m d hm hd (Or.inl hm)).1
  rw [g2, g3] at r
  exact g r
end
end
section
/-! masks by their bits -/
theorem mk_1 : ∀ i, i < 32 → bt 1 i = decide (i = 0) := by decide +kernel
theorem mk_n1 : ∀ i, i < 32 → bt (nI 1) i = decide (i = 0) := by decide +kernel
theorem mk_n0 : ∀ i, i < 32 → bt (nI 0) i = false := by decide +kernel
theorem mk_shl : ∀ n, n < 32 → ∀ i, i < 32 → bt ((1 : Int32) <<< (nI n &&& 31)) i = decide (i = n) := by decide +kernel
theorem mk_tst (x : Int32) {n : Nat} (hn : n < 32) : (x >>> (nI n &&& 31)) &&& 1 = nI (bt x n).toNat := by
  apply b_ext
  intro i hi
  rw [b_and, b_sshr n hn x hi, mk_1 i hi]
  by_cases e : i = 0
  · rw [e, if_pos (show n + 0 < 32 by omega), Nat.add_zero]
    cases bt x n <;> decide +kernel
  · rw [decide_eq_false e, Bool.and_false]
    cases bt x n
    · exact (mk_n0 i hi).symm
    · show false = bt (nI 1) i
      rw [mk_n1 i hi, decide_eq_false e]
theorem mk_z (x : Int32) {n : Nat} (hn : n < 32) : (x >>> (nI n &&& 31)) &&& 1 = 0 ↔ bt x n = false := by
  rw [mk_tst x hn]
  cases bt x n <;> decide +kernel
theorem mk_and (x : Int32) {n : Nat} (hn : n < 32) : x &&& ((1 : Int32) <<< (nI n &&& 31)) = 0 ↔ bt x n = false := by
  constructor
  · intro h
    have g : bt (x &&& ((1 : Int32) <<< (nI n &&& 31))) n = false := by rw [h, b_0]
    rw [b_and, mk_shl n hn n hn, show decide (n = n) = true from decide_eq_true rfl, Bool.and_true] at g
    exact g
  · intro h
    apply b_ext
    intro i hi
    rw [b_and, mk_shl n hn i hi, b_0]
    by_cases e : i = n
    · rw [e, h, Bool.false_and]
    · rw [decide_eq_false e, Bool.and_false]
theorem mk_or (x : Int32) {n i : Nat} (hn : n < 32) (hi : i < 32) : bt (x ||| ((1 : Int32) <<< (nI n &&& 31))) i = (bt x i || decide (i = n)) := by
  rw [b_or, mk_shl n hn i hi]
/-! sets of states, and a round that adds the next states -/
def mt_cl (f : Nat → Nat) (C : Nat → Bool) : Prop := ∀ p, p < 48 → C (p / 3) = true → C (f p) = true
def mt_Rd (f : Nat → Nat) (S S2 : Nat → Bool) : Prop := (∀ s, s < 16 → S s = true → S2 s = true) ∧ (∀ p, p < 48 → S (p / 3) = true → S2 (f p) = true) ∧ (∀ C, mt_cl f C → (∀ s, s < 16 → S s = true → C s = true) → ∀ s, s < 16 → S2 s = true → C s = true)
/-! after r rounds from the start st -/
def mt_Rn (f : Nat → Nat) (st r : Nat) (S : Nat → Bool) : Prop := S st = true ∧ (∀ C, mt_cl f C → C st = true → ∀ s, s < 16 → S s = true → C s = true) ∧ (mt_cl f S ∨ r + 1 ≤ mt_cb S 16)
theorem mt_Rn_0 {f : Nat → Nat} {st : Nat} (hst : st < 16) {S : Nat → Bool} (h : ∀ s, s < 16 → S s = decide (s = st)) : mt_Rn f st 0 S := by
  have h1 : S st = true := (h st hst).trans (decide_eq_true rfl)
  refine ⟨h1, fun C _ g s hs e => ?_, Or.inr ?_⟩
  · rw [h s hs] at e
    rw [of_decide_eq_true e]
    exact g
  · have h2 := mt_cb_lt (p := fun _ => false) (q := S) 16 (fun i _ z => (nomatch z)) ⟨st, hst, rfl, h1⟩
    omega
theorem mt_Rn_s {f : Nat → Nat} (hf : ∀ p, p < 48 → f p < 16) {st r : Nat} (hst : st < 16) {S S2 : Nat → Bool} (h : mt_Rn f st r S) (g : mt_Rd f S S2) : mt_Rn f st (r + 1) S2 := by
  refine ⟨g.1 st hst h.1, fun C hC hs => g.2.2 C hC (h.2.1 C hC hs), ?_⟩
  by_cases e : mt_cl f S
  · refine Or.inl (fun p hp hq => ?_)
    have q := g.2.2 S e (fun s _ z => z)
    exact g.1 (f p) (hf p hp) (e p hp (q (p / 3) (by omega) hq))
  · refine Or.inr ?_
    have h1 : r + 1 ≤ mt_cb S 16 := h.2.2.resolve_left e
    have h2 : ∃ i, i < 16 ∧ S i = false ∧ S2 i = true := by
      apply Classical.byContradiction
      intro z
      apply e
      intro p hp hq
      cases w : S (f p) with
      | true => rfl
      | false => exact absurd ⟨f p, hf p hp, w, g.2.1 p hp hq⟩ z
    have h3 := mt_cb_lt (p := S) (q := S2) 16 g.1 h2
    omega
theorem mt_Rn_cl {f : Nat → Nat} (hf : ∀ p, p < 48 → f p < 16) {st r : Nat} (hr : 15 ≤ r) {S : Nat → Bool} (h : mt_Rn f st r S) : mt_cl f S := by
  rcases h.2.2 with g | g
  · exact g
  · intro p hp _
    exact mt_cb_full (p := S) (n := 16) (by omega) (hf p hp)
theorem mt_Rn_eq {f : Nat → Nat} (hf : ∀ p, p < 48 → f p < 16) {st r r2 : Nat} (hr : 15 ≤ r) (hr2 : 15 ≤ r2) {S S2 : Nat → Bool} (h : mt_Rn f st r S) (h2 : mt_Rn f st r2 S2) {s : Nat} (hs : s < 16) : S s = S2 s :=
  mt_beq ⟨fun z => h.2.1 S2 (mt_Rn_cl hf hr2 h2) h2.1 s hs z, fun z => h2.2.1 S (mt_Rn_cl hf hr h) h.1 s hs z⟩
/-! the kinds of a set of states -/
noncomputable def mt_ks (f : Nat → Nat) (o : Nat → Int32) (S : Nat → Bool) (n : Nat) : Nat → Bool := fun k => mt_dc (∃ s, s < n ∧ S s = true ∧ mt_K f o s = k)
theorem mt_ks_0 (f : Nat → Nat) (o : Nat → Int32) (S : Nat → Bool) (k : Nat) : mt_ks f o S 0 k = false := mt_bnt (fun h => by
  obtain ⟨s, hs, _⟩ := (mt_dc_iff _).mp h
  omega)
theorem mt_ks_n {f : Nat → Nat} {o : Nat → Int32} {S : Nat → Bool} {n : Nat} (h : S n = false) (k : Nat) : mt_ks f o S (n + 1) k = mt_ks f o S n k := by
  refine mt_beq ⟨fun g => ?_, fun g => ?_⟩
  · obtain ⟨s, hs, h1, h2⟩ := (mt_dc_iff _).mp g
    by_cases e : s = n
    · rw [e, h] at h1
      exact nomatch h1
    · exact (mt_dc_iff _).mpr ⟨s, by omega, h1, h2⟩
  · obtain ⟨s, hs, h1, h2⟩ := (mt_dc_iff _).mp g
    exact (mt_dc_iff _).mpr ⟨s, by omega, h1, h2⟩
theorem mt_ks_s {f : Nat → Nat} {o : Nat → Int32} {S : Nat → Bool} {n : Nat} (h : S n = true) (k : Nat) : mt_ks f o S (n + 1) k = (mt_ks f o S n k || decide (k = mt_K f o n)) := by
  refine mt_beq ⟨fun g => ?_, fun g => ?_⟩
  · obtain ⟨s, hs, h1, h2⟩ := (mt_dc_iff _).mp g
    by_cases e : s = n
    · rw [e] at h2
      rw [decide_eq_true h2.symm, Bool.or_true]
    · have q : mt_ks f o S n k = true := (mt_dc_iff _).mpr ⟨s, by omega, h1, h2⟩
      rw [q, Bool.true_or]
  · by_cases e : k = mt_K f o n
    · exact (mt_dc_iff _).mpr ⟨n, by omega, h, e.symm⟩
    · rw [decide_eq_false e, Bool.or_false] at g
      obtain ⟨s, hs, h1, h2⟩ := (mt_dc_iff _).mp g
      exact (mt_dc_iff _).mpr ⟨s, by omega, h1, h2⟩
theorem mt_ks_all {f : Nat → Nat} {o : Nat → Int32} {S : Nat → Bool} (h : ∀ s, s < 16 → S s = true) {k : Nat} (hk : k < 16) : mt_ks f o S 16 k = decide (mt_K f o k = k) := by
  refine mt_beq ⟨fun g => ?_, fun g => ?_⟩
  · obtain ⟨s, hs, h1, h2⟩ := (mt_dc_iff _).mp g
    apply decide_eq_true
    rw [← h2]
    exact mt_K_id f o s
  · exact (mt_dc_iff _).mpr ⟨k, hk, h k hk, of_decide_eq_true g⟩
theorem mt_ks_eq {f : Nat → Nat} {o : Nat → Int32} {S S2 : Nat → Bool} (h : ∀ s, s < 16 → S s = S2 s) (k : Nat) : mt_ks f o S 16 k = mt_ks f o S2 16 k := by
  refine mt_beq ⟨fun g => ?_, fun g => ?_⟩
  · obtain ⟨s, hs, h1, h2⟩ := (mt_dc_iff _).mp g
    exact (mt_dc_iff _).mpr ⟨s, hs, (h s hs).symm.trans h1, h2⟩
  · obtain ⟨s, hs, h1, h2⟩ := (mt_dc_iff _).mp g
    exact (mt_dc_iff _).mpr ⟨s, hs, (h s hs).trans h1, h2⟩
/-! the greatest distance -/
def mt_mx (f : Nat → Nat) (o : Nat → Int32) (m : Nat) : Prop := (∀ a b, a < 16 → b < 16 → mt_D f o a b ≤ m) ∧ (m = 0 ∨ ∃ a b, a < 16 ∧ b < 16 ∧ mt_D f o a b = m)
theorem mt_mx_uq {f : Nat → Nat} {o : Nat → Int32} {m n : Nat} (h : mt_mx f o m) (g : mt_mx f o n) : m = n := by
  have h1 : m ≤ n := by
    rcases h.2 with e | ⟨a, b, ha, hb, e⟩
    · omega
    · have := g.1 a b ha hb
      omega
  have h2 : n ≤ m := by
    rcases g.2 with e | ⟨a, b, ha, hb, e⟩
    · omega
    · have := h.1 a b ha hb
      omega
  omega
end
section
/-! the marking passes, as naturals -/
def mt_rd (f : Nat → Nat) (o : Nat → Int32) (ap : Nat → Int32) (L : Nat) : Prop := ∀ p q, p < 16 → q < 16 → ∃ v, v < 2 ^ 31 ∧ ap (p * 16 + q) = nI v ∧ (v = L ↔ mt_D f o p q = L)
def mt_Ap (f : Nat → Nat) (o : Nat → Int32) (L : Nat) (ap : Nat → Int32) : Prop := ∀ x y, x < 16 → y < 16 → ap (x * 16 + y) = nI (mt_A f o L x y)
def mt_Ad (f : Nat → Nat) (o : Nat → Int32) (ap : Nat → Int32) : Prop := ∀ x y, x < 16 → y < 16 → ap (x * 16 + y) = nI (mt_D f o x y)
def mt_lv (L a b x y : Nat) : Nat := if x < a ∨ (x = a ∧ y < b) then L + 1 else L
def mt_M (f : Nat → Nat) (o : Nat → Int32) (L a b : Nat) (ap : Nat → Int32) : Prop := (∀ x, x < 16 → ap (x * 16 + x) = nI 0) ∧ ∀ x y, x < y → y < 16 → ap (x * 16 + y) = nI (mt_A f o (mt_lv L a b x y) x y) ∧ ap (y * 16 + x) = nI (mt_A f o (mt_lv L a b x y) x y)
def mt_F (f : Nat → Nat) (o : Nat → Int32) (L a b : Nat) (fo : Int32) : Prop := (fo = 0 ∨ fo = 1) ∧ (fo = 0 → ∀ x y, x < y → y < 16 → (x < a ∨ (x = a ∧ y < b)) → mt_D f o x y ≠ L + 1)
theorem mt_lv_t {L a b x y : Nat} (h : x < a ∨ (x = a ∧ y < b)) : mt_lv L a b x y = L + 1 := if_pos h
theorem mt_lv_f {L a b x y : Nat} (h : ¬ (x < a ∨ (x = a ∧ y < b))) : mt_lv L a b x y = L := if_neg h
theorem mt_lv_or (L a b x y : Nat) : mt_lv L a b x y = L + 1 ∨ mt_lv L a b x y = L := by
  by_cases h : x < a ∨ (x = a ∧ y < b)
  · exact Or.inl (mt_lv_t h)
  · exact Or.inr (mt_lv_f h)
theorem mt_lv_c {L a b a2 b2 x y : Nat} (h : (x < a ∨ (x = a ∧ y < b)) ↔ (x < a2 ∨ (x = a2 ∧ y < b2))) : mt_lv L a b x y = mt_lv L a2 b2 x y := by
  by_cases e : x < a ∨ (x = a ∧ y < b)
  · rw [mt_lv_t e, mt_lv_t (h.mp e)]
  · rw [mt_lv_f e, mt_lv_f (fun z => e (h.mpr z))]
section
variable {f : Nat → Nat} {o : Nat → Int32} {ap : Nat → Int32} {L a b : Nat}
theorem mt_A_le {x y : Nat} (h : mt_D f o x y ≤ L) : mt_A f o L x y = mt_D f o x y := if_pos h
theorem mt_A_gt {x y : Nat} (h : ¬ mt_D f o x y ≤ L) : mt_A f o L x y = 0 := if_neg h
theorem mt_A_bd (L x y : Nat) : mt_A f o L x y ≤ L := by
  by_cases h : mt_D f o x y ≤ L
  · rw [mt_A_le h]; exact h
  · rw [mt_A_gt h]; omega
theorem mt_A_eq {L2 x y : Nat} (hL : 1 ≤ L) (h : L ≤ L2) : mt_A f o L2 x y = L ↔ mt_D f o x y = L := by
  by_cases e : mt_D f o x y ≤ L2
  · rw [mt_A_le e]
  · rw [mt_A_gt e]
    omega
theorem mt_A_nx {x y : Nat} (h : mt_D f o x y ≠ L + 1) : mt_A f o (L + 1) x y = mt_A f o L x y := by
  by_cases e : mt_D f o x y ≤ L
  · rw [mt_A_le e, mt_A_le (by omega)]
  · rw [mt_A_gt e, mt_A_gt (by omega)]
theorem mt_A_z {x y : Nat} : mt_A f o L x y = 0 ↔ (mt_D f o x y = 0 ∨ L + 1 ≤ mt_D f o x y) := by
  by_cases e : mt_D f o x y ≤ L
  · rw [mt_A_le e]
    omega
  · rw [mt_A_gt e]
    omega
theorem mt_M_rd (h : mt_M f o L a b ap) (hL : 1 ≤ L) (hL2 : L < 2 ^ 30) : mt_rd f o ap L := by
  intro p q hp hq
  have key : ∀ x y, x < y → y < 16 → mt_A f o (mt_lv L a b x y) x y < 2 ^ 31 ∧ (mt_A f o (mt_lv L a b x y) x y = L ↔ mt_D f o x y = L) := by
    intro x y _ _
    have h1 := mt_A_bd (f := f) (o := o) (mt_lv L a b x y) x y
    have h2 := mt_lv_or L a b x y
    exact ⟨by omega, mt_A_eq hL (by omega)⟩
  rcases Nat.lt_trichotomy p q with e | e | e
  · have k := key p q e hq
    exact ⟨_, k.1, (h.2 p q e hq).1, k.2⟩
  · refine ⟨0, by omega, ?_, ?_⟩
    · rw [← e]
      exact h.1 p hp
    · rw [← e, mt_D_refl]
  · have k := key q p e hp
    refine ⟨_, k.1, (h.2 q p e hp).2, ?_⟩
    rw [mt_D_symm p q]
    exact k.2
theorem mt_Ad_rd (h : mt_Ad f o ap) (hf : ∀ p, p < 48 → f p < 16) : mt_rd f o ap L := fun p q hp hq => ⟨mt_D f o p q, by
  have := mt_moore (o := o) hf hp hq
  omega, h p q hp hq, Iff.rfl⟩
theorem mt_M_get (h : mt_M f o L a b ap) (hab : a < b) (hb : b < 16) : ap (a * 16 + b) = nI (mt_A f o L a b) := by
  have g := (h.2 a b hab hb).1
  rw [mt_lv_f (by omega)] at g
  exact g
theorem mt_M_skip (h : mt_M f o L a b ap) (hab : a < b) (hb : b < 16) (hd : mt_D f o a b ≠ L + 1) : mt_M f o L a (b + 1) ap := by
  refine ⟨h.1, fun x y hxy hy => ?_⟩
  have g := h.2 x y hxy hy
  by_cases e : x = a ∧ y = b
  · rw [e.1, e.2] at g ⊢
    rw [mt_lv_f (by omega)] at g
    rw [mt_lv_t (by omega), mt_A_nx hd]
    exact g
  · rw [mt_lv_c (a2 := a) (b2 := b) (by omega)]
    exact g
theorem mt_M_set (h : mt_M f o L a b ap) (hab : a < b) (hb : b < 16) (hd : mt_D f o a b = L + 1) : mt_M f o L a (b + 1) (upd (upd ap (a * 16 + b) (nI (L + 1))) (b * 16 + a) (nI (L + 1))) := by
  refine ⟨fun x hx => ?_, fun x y hxy hy => ?_⟩
  · rw [pk_un (by omega), pk_un (by omega)]
    exact h.1 x hx
  · have g := h.2 x y hxy hy
    by_cases e : x = a ∧ y = b
    · rw [e.1, e.2, mt_lv_t (by omega), mt_A_le (by omega), hd]
      refine ⟨?_, pk_us⟩
      rw [pk_un (by omega)]
      exact pk_us
    · rw [mt_lv_c (a2 := a) (b2 := b) (by omega), pk_un (by omega), pk_un (by omega), pk_un (by omega), pk_un (by omega)]
      exact g
theorem mt_M_row (h : mt_M f o L a 16 ap) : mt_M f o L (a + 1) (a + 2) ap := by
  refine ⟨h.1, fun x y hxy hy => ?_⟩
  rw [mt_lv_c (a2 := a) (b2 := 16) (by omega)]
  exact h.2 x y hxy hy
theorem mt_M_0 (h : mt_Ap f o L ap) : mt_M f o L 0 1 ap := by
  refine ⟨fun x hx => ?_, fun x y hxy hy => ?_⟩
  · rw [h x x hx hx, mt_A_le (by rw [mt_D_refl]; omega), mt_D_refl]
  · rw [mt_lv_f (by omega), h x y (by omega) hy, h y x hy (by omega)]
    refine ⟨rfl, ?_⟩
    rw [mt_A, mt_A, mt_D_symm y x]
theorem mt_M_end {b : Nat} (h : mt_M f o L 16 b ap) : mt_Ap f o (L + 1) ap := by
  intro x y hx hy
  rcases Nat.lt_trichotomy x y with e | e | e
  · have g := (h.2 x y e hy).1
    rw [mt_lv_t (by omega)] at g
    exact g
  · rw [← e, h.1 x hx, mt_A_le (by rw [mt_D_refl]; omega), mt_D_refl]
  · have g := (h.2 y x e hx).2
    rw [mt_lv_t (by omega)] at g
    rw [g, mt_A, mt_A, mt_D_symm y x]
theorem mt_F_0 : mt_F f o L 0 1 0 := ⟨Or.inl rfl, fun _ x y h1 h2 h3 => absurd h3 (by omega)⟩
theorem mt_F_skip {fo : Int32} (h : mt_F f o L a b fo) (hd : mt_D f o a b ≠ L + 1) : mt_F f o L a (b + 1) fo := by
  refine ⟨h.1, fun z x y h1 h2 h3 => ?_⟩
  by_cases e : x = a ∧ y = b
  · rw [e.1, e.2]
    exact hd
  · exact h.2 z x y h1 h2 (by omega)
theorem mt_F_set : mt_F f o L a b 1 := ⟨Or.inr rfl, fun z => absurd z (by decide)⟩
theorem mt_F_row {fo : Int32} (h : mt_F f o L a 16 fo) : mt_F f o L (a + 1) (a + 2) fo := ⟨h.1, fun z x y h1 h2 h3 => h.2 z x y h1 h2 (by omega)⟩
theorem mt_F_end (hf : ∀ p, p < 48 → f p < 16) {b : Nat} (h : mt_F f o L 16 b 0) {x y : Nat} (hx : x < 16) (hy : y < 16) : mt_D f o x y ≤ L := by
  apply Nat.le_of_not_lt
  intro z
  obtain ⟨p, q, hp, hq, e⟩ := mt_chain hf (o := o) (L := L + 1) (by omega) (mt_D f o x y - (L + 1)) x y hx hy (by omega)
  rcases Nat.lt_trichotomy p q with w | w | w
  · exact h.2 rfl p q w hq (by omega) e
  · rw [w, mt_D_refl] at e
    omega
  · rw [mt_D_symm] at e
    exact h.2 rfl q p w hp (by omega) e
theorem mt_Ap_Ad (h : mt_Ap f o L ap) (g : ∀ x y, x < 16 → y < 16 → mt_D f o x y ≤ L) : mt_Ad f o ap := by
  intro x y hx hy
  rw [h x y hx hy, mt_A_le (g x y hx hy)]
theorem mt_Ap_0 (h : ∀ p, p < 256 → ap p = 0) : mt_Ap f o 0 ap := by
  intro x y hx hy
  rw [h _ (by omega)]
  have e : mt_A f o 0 x y = 0 := by
    have := mt_A_bd (f := f) (o := o) 0 x y
    omega
  rw [e]
  exact nI_0.symm
theorem mt_told (h : mt_A f o L a b = 0) : (∃ i, i < 3 ∧ mt_S f o a b i (L + 1)) ↔ mt_D f o a b = L + 1 := mt_S_D (by omega) (mt_A_z.mp h)
end
/-! the arrays read as naturals -/
def mt_f (nx : Nat → Int32) : Nat → Nat := fun p => (nx p).toNatClampNeg
def mt_ok (nx : Nat → Int32) : Prop := ∀ p, p < 48 → ∃ s, s < 16 ∧ nx p = nI s
theorem mt_ok_e {nx : Nat → Int32} (h : mt_ok nx) {p : Nat} (hp : p < 48) : nx p = nI (mt_f nx p) := by
  obtain ⟨s, hs, e⟩ := h p hp
  show nx p = nI (nx p).toNatClampNeg
  rw [e, nI_clamp (by omega)]
theorem mt_ok_f {nx : Nat → Int32} (h : mt_ok nx) : ∀ p, p < 48 → mt_f nx p < 16 := by
  intro p hp
  obtain ⟨s, hs, e⟩ := h p hp
  show (nx p).toNatClampNeg < 16
  rw [e, nI_clamp (by omega)]
  exact hs
theorem mt_ok_u {nx : Nat → Int32} (h : mt_ok nx) {k s : Nat} (hs : s < 16) : mt_ok (upd nx k (nI s)) := by
  intro p hp
  by_cases e : p = k
  · rw [e]
    exact ⟨s, hs, pk_us⟩
  · rw [pk_un e]
    exact h p hp
/-! what the search of the reference leaves: the length and the word, read from its end -/
def mt_wrd (f : Nat → Nat) (o : Nat → Int32) (a b n : Nat) (w : Nat → Int32) : Prop := n = mt_D f o a b ∧ (0 < n → ∃ v, mt_fst f o a b v ∧ mt_ex n 0 v ∧ ∀ j, j < n → w j = nI ((mt_pr v j - 1) % 3))
end
section
/-! the queue's arrays -/
def mt_QA (f : Nat → Nat) (a b : Nat) (c q : Nat → Nat) (pc : Nat) (ps fr bw kn : Nat → Int32) : Prop :=
  (∀ j, j < pc → ps j = nI (mt_go f a (c j) * 16 + mt_go f b (c j))) ∧ fr 0 = -1 ∧ (∀ j, 1 ≤ j → j < pc → fr j = nI (q j) ∧ bw j = nI ((c j - 1) % 3)) ∧
  (∀ p, p < 256 → kn p = 0 ∨ kn p = 1) ∧ (∀ p, p < 256 → kn p = 1 → ∃ j, j < pc ∧ p = mt_go f a (c j) * 16 + mt_go f b (c j)) ∧ mt_cb (fun p => decide (kn p = 1)) 256 = pc
theorem mt_kn_add {kn : Nat → Int32} {p : Nat} (hp : p < 256) (h : kn p = 0) : mt_cb (fun j => decide (upd kn p 1 j = 1)) 256 = mt_cb (fun j => decide (kn j = 1)) 256 + 1 := by
  refine mt_cb_add (k := p) ?_ ?_ 256 ?_ hp
  · exact decide_eq_false (by rw [h]; decide)
  · exact decide_eq_true pk_us
  · intro i _ hi
    show decide (upd kn p 1 i = 1) = decide (kn i = 1)
    rw [pk_un hi]
theorem mt_kn_room {kn : Nat → Int32} {p : Nat} (hp : p < 256) (h : kn p = 0) : mt_cb (fun j => decide (kn j = 1)) 256 < 256 := by
  refine mt_cb_room (k := p) ?_ hp
  exact decide_eq_false (by rw [h]; decide)
theorem mt_kn_0 {kn : Nat → Int32} (h : ∀ p, p < 256 → kn p = 0) : mt_cb (fun j => decide (kn j = 1)) 256 = 0 := by
  have e := mt_cb_eq (p := fun _ => false) (q := fun j => decide (kn j = 1)) 256 (fun i hi => decide_eq_false (by rw [h i hi]; decide))
  rw [e, mt_cb_none]
section
variable {f : Nat → Nat} {a b : Nat} {c q : Nat → Nat} {pc k i : Nat} {ps fr bw kn : Nat → Int32}
theorem mt_QA_0 (ha : a < 16) (hb : b < 16) (h : ∀ p, p < 256 → kn p = 0) : mt_QA f a b (fun _ => 0) (fun _ => 0) 1 (upd ps 0 (nI (a * 16 + b))) (upd fr 0 (-1)) (upd bw 0 0) (upd kn (a * 16 + b) 1) := by
  refine ⟨fun j hj => ?_, pk_us, fun j h1 h2 => absurd h1 (by omega), fun p hp => ?_, fun p hp e => ?_, ?_⟩
  · have e : j = 0 := by omega
    rw [e, pk_us]
    show nI (a * 16 + b) = nI (mt_go f a 0 * 16 + mt_go f b 0)
    rw [mt_go_0, mt_go_0]
  · by_cases e : p = a * 16 + b
    · rw [e, pk_us]
      exact Or.inr rfl
    · rw [pk_un e, h p hp]
      exact Or.inl rfl
  · refine ⟨0, by omega, ?_⟩
    show p = mt_go f a 0 * 16 + mt_go f b 0
    rw [mt_go_0, mt_go_0]
    apply Classical.byContradiction
    intro z
    rw [pk_un z, h p hp] at e
    exact absurd e (by decide)
  · rw [mt_kn_add (by omega) (h _ (by omega)), mt_kn_0 h]
theorem mt_QA_new (hf : ∀ p, p < 48 → f p < 16) (ha : a < 16) (hb : b < 16) (h : mt_QA f a b c q pc ps fr bw kn) (hp1 : 1 ≤ pc) (hi : i < 3) {v p0 : Nat} (hv : v = 3 * c k + i + 1) (ep : p0 = mt_go f a v * 16 + mt_go f b v) (h0 : kn p0 = 0) : pc < 256 ∧ mt_QA f a b (mt_up c pc v) (mt_up q pc k) (pc + 1) (upd ps pc (nI p0)) (upd fr pc (nI k)) (upd bw pc (nI i)) (upd kn p0 1) := by
  have h1 := mt_go_lt hf ha v
  have h2 := mt_go_lt hf hb v
  have hp0 : p0 < 256 := by omega
  have hr := mt_kn_room hp0 h0
  rw [h.2.2.2.2.2] at hr
  have ec : ∀ j, j < pc → mt_up c pc v j = c j := fun j hj => mt_up_n (by omega)
  refine ⟨hr, fun j hj => ?_, ?_, fun j g1 g2 => ?_, fun p hp => ?_, fun p hp e => ?_, ?_⟩
  · by_cases e : j = pc
    · rw [e, pk_us, mt_up_s, ep]
    · rw [pk_un e, ec j (by omega)]
      exact h.1 j (by omega)
  · rw [pk_un (by omega)]
    exact h.2.1
  · by_cases e : j = pc
    · rw [e, pk_us, pk_us, mt_up_s, mt_up_s]
      exact ⟨rfl, congrArg nI (by omega)⟩
    · rw [pk_un e, pk_un e, ec j (by omega), mt_up_n e]
      exact h.2.2.1 j g1 (by omega)
  · by_cases e : p = p0
    · rw [e, pk_us]
      exact Or.inr rfl
    · rw [pk_un e]
      exact h.2.2.2.1 p hp
  · by_cases e2 : p = p0
    · refine ⟨pc, by omega, ?_⟩
      rw [mt_up_s, e2, ep]
    · rw [pk_un e2] at e
      obtain ⟨j, hj, g⟩ := h.2.2.2.2.1 p hp e
      refine ⟨j, by omega, ?_⟩
      rw [ec j hj]
      exact g
  · rw [mt_kn_add hp0 h0, h.2.2.2.2.2]
theorem mt_QA_le (h : mt_QA f a b c q pc ps fr bw kn) : pc ≤ 256 := by
  rw [← h.2.2.2.2.2]
  exact mt_cb_n _ 256
/-! reading the word from its end -/
theorem mt_sp_s {v j m z d : Nat} {w : Nat → Int32} (h : mt_ex j m v) (g : ∀ t, t < j → w t = nI ((mt_pr v t - 1) % 3)) (hd : d < 3) (e : m = 3 * z + d + 1) : mt_ex (j + 1) z v ∧ ∀ t, t < j + 1 → upd w j (nI ((m - 1) % 3)) t = nI ((mt_pr v t - 1) % 3) := by
  constructor
  · rw [e] at h
    exact mt_ex_s d hd h
  · intro t ht
    by_cases e2 : t = j
    · rw [e2, pk_us, mt_ex_pr j m v h]
    · rw [pk_un e2]
      exact g t (by omega)
end
end
section
/-! the small helpers of the component -/
theorem mx_ix3 (s i : Nat) : nI s * 3 + nI i = nI (s * 3 + i) := by
  have h : nI s * 3 = nI (s * 3) := pk_mul s 3
  rw [h, nI_add]
theorem mx_ix16 (s i : Nat) : nI s * 16 + nI i = nI (s * 16 + i) := by
  have h : nI s * 16 = nI (s * 16) := pk_mul s 16
  rw [h, nI_add]
theorem mx_place {post : Int32 → Prop} {s i : Nat} (h : post (nI (s * 3 + i))) : wpX_place post (nI s) (nI i) := by
  unfold wpX_place
  rw [mx_ix3]
  exact h
theorem mx_pair {post : Int32 → Prop} {s i : Nat} (h : post (nI (s * 16 + i))) : wpX_pair post (nI s) (nI i) := by
  unfold wpX_pair
  rw [mx_ix16]
  exact h
theorem mx_st {post : Int32 → Prop} {s : Nat} (hs : s < 16) (h : post 1) : wpX_isState post (nI s) :=
  br_f (nI_pos (by omega)) (br_f (nI_ge (b := 16) hs (by omega)) h)
theorem mx_st0 {post : Int32 → Prop} {x : Int32} (hx : x < 0 ∨ nI 16 ≤ x) (h : post 0) : wpX_isState post x := by
  by_cases h0 : x < 0
  · exact br_t h0 h
  · exact br_f h0 (br_t (hx.resolve_left h0) h)
theorem mx_in {post : Int32 → Prop} {s : Nat} (hs : s < 3) (h : post 1) : wpX_isInput post (nI s) :=
  br_f (nI_pos (by omega)) (br_f (nI_ge (b := 3) hs (by omega)) h)
theorem mx_in0 {post : Int32 → Prop} {x : Int32} (hx : x < 0 ∨ nI 3 ≤ x) (h : post 0) : wpX_isInput post x := by
  by_cases h0 : x < 0
  · exact br_t h0 h
  · exact br_f h0 (br_t (hx.resolve_left h0) h)
theorem mx_starts {post : Int32 → Prop} {nx ou ap : Nat → Int32} {a b i L : Nat} (hok : mt_ok nx) (hr : 2 ≤ L → mt_rd (mt_f nx) ou ap (L - 1)) (ha : a < 16) (hb : b < 16) (hi : i < 3) (hL : 1 ≤ L) (hL2 : L < 2 ^ 30) (h1 : mt_S (mt_f nx) ou a b i L → post 1) (h0 : ¬ mt_S (mt_f nx) ou a b i L → post 0) : wpX_starts post (nx, ou, ap) (nI a) (nI b) (nI i) (nI L) := by
  unfold wpX_starts
  dsimp only
  refine mx_place (mx_place ?_)
  have ca : (nI (a * 3 + i)).toNatClampNeg = a * 3 + i := nI_clamp (by omega)
  have cb : (nI (b * 3 + i)).toNatClampNeg = b * 3 + i := nI_clamp (by omega)
  rw [ca, cb]
  refine pk_eq L 1 (fun e => ⟨vp_in_nI (by omega) (by omega), vp_in_nI (by omega) (by omega), ?_⟩) (fun e => ⟨vp_in_nI (by omega) (by omega), vp_in_nI (by omega) (by omega), ?_⟩)
  · refine br_c (fun z => h0 (fun s => ?_)) (fun z => h1 (Or.inl ⟨e, z⟩))
    rcases s with ⟨_, s⟩ | ⟨s, _⟩
    · exact s z
    · omega
  · rw [mt_ok_e hok (p := a * 3 + i) (by omega), mt_ok_e hok (p := b * 3 + i) (by omega)]
    have fa := mt_ok_f hok (a * 3 + i) (by omega)
    have fb := mt_ok_f hok (b * 3 + i) (by omega)
    obtain ⟨v, hv, ev, iff⟩ := hr (by omega) (mt_f nx (a * 3 + i)) (mt_f nx (b * 3 + i)) fa fb
    refine mx_pair ⟨vp_in_nI (by omega) (by omega), ?_⟩
    have cc : (nI (mt_f nx (a * 3 + i) * 16 + mt_f nx (b * 3 + i))).toNatClampNeg = mt_f nx (a * 3 + i) * 16 + mt_f nx (b * 3 + i) := nI_clamp (by omega)
    have e3 : nI L - 1 = nI (L - 1) := pk_sub (a := L) (b := 1) hL
    rw [cc, ev, e3]
    refine pk_eq v (L - 1) (fun q => h1 (Or.inr ⟨by omega, iff.mp q⟩)) (fun q => h0 (fun s => ?_))
    rcases s with ⟨s, _⟩ | ⟨_, s⟩
    · omega
    · exact q (iff.mpr s)
section
variable {nx ou ap : Nat → Int32} {a b L : Nat}
theorem mx_mp34 {post : Int32 → SX → Prop} (ha : a < 16) (hb : b < 16) (h : post 1 (nx, ou, upd (upd ap (a * 16 + b) (nI L)) (b * 16 + a) (nI L))) : wX_markPair_34 post (nI a) (nI b) (nI L) 1 nx ou ap := by
  unfold wX_markPair_34
  refine br_f (by decide) (mx_pair ⟨vp_in_nI (by omega) (by omega), nm_r (e' := upd ap (a * 16 + b) (nI L)) (by rw [nI_clamp (by omega)]) ?_⟩)
  exact mx_pair ⟨vp_in_nI (by omega) (by omega), nm_r (e' := upd (upd ap (a * 16 + b) (nI L)) (b * 16 + a) (nI L)) (by rw [nI_clamp (by omega)]) ⟨rfl, h⟩⟩
theorem mx_mp6t {post : Int32 → SX → Prop} {n i : Nat} (hi : i ≤ 3) (h : wX_markPair_34 post (nI a) (nI b) (nI L) 1 nx ou ap) : wX_markPair_6 post (nI a) (nI b) (nI L) nx ou ap (n + 1) 1 (nI i) := by
  rw [wX_markPair_6]
  exact pk_le 3 i (fun _ => h) (fun _ => br_f (by decide) h)
theorem mx_mp6 {post : Int32 → SX → Prop} (hok : mt_ok nx) (hr : 2 ≤ L → mt_rd (mt_f nx) ou ap (L - 1)) (ha : a < 16) (hb : b < 16) (hL : 1 ≤ L) (hL2 : L < 2 ^ 30) (h1 : (∃ i, i < 3 ∧ mt_S (mt_f nx) ou a b i L) → post 1 (nx, ou, upd (upd ap (a * 16 + b) (nI L)) (b * 16 + a) (nI L))) (h0 : ¬ (∃ i, i < 3 ∧ mt_S (mt_f nx) ou a b i L) → post 0 (nx, ou, ap)) : ∀ n i, 3 < n + i → i ≤ 3 → (∀ j, j < i → ¬ mt_S (mt_f nx) ou a b j L) → wX_markPair_6 post (nI a) (nI b) (nI L) nx ou ap n 0 (nI i) := by
  intro n
  induction n with
  | zero => intro i q1 q2; omega
  | succ n ih =>
    intro i q1 q2 q3
    rw [wX_markPair_6]
    refine pk_le 3 i (fun e => ?_) (fun e => br_t rfl ?_)
    · unfold wX_markPair_34
      refine br_t rfl ⟨rfl, h0 (fun s => ?_)⟩
      obtain ⟨j, hj, s⟩ := s
      exact q3 j (by omega) s
    · refine mx_starts hok hr ha hb e hL hL2 (fun s => nm_r (nI_1 i) ?_) (fun s => nm_r (nI_1 i) ?_)
      · obtain ⟨m, em⟩ : ∃ m, n = m + 1 := ⟨n - 1, by omega⟩
        rw [em]
        exact mx_mp6t (by omega) (mx_mp34 ha hb (h1 ⟨i, e, s⟩))
      · refine ih (i + 1) (by omega) (by omega) (fun j hj => ?_)
        by_cases e2 : j = i
        · rw [e2]
          exact s
        · exact q3 j (by omega)
theorem mx_markPair {post : Int32 → SX → Prop} (hok : mt_ok nx) (hr : 2 ≤ L → mt_rd (mt_f nx) ou ap (L - 1)) (ha : a < 16) (hb : b < 16) (hL : 1 ≤ L) (hL2 : L < 2 ^ 30) (h1 : (∃ i, i < 3 ∧ mt_S (mt_f nx) ou a b i L) → post 1 (nx, ou, upd (upd ap (a * 16 + b) (nI L)) (b * 16 + a) (nI L))) (h0 : ¬ (∃ i, i < 3 ∧ mt_S (mt_f nx) ou a b i L) → post 0 (nx, ou, ap)) : wpX_markPair post (nx, ou, ap) (nI a) (nI b) (nI L) :=
  ⟨4, mx_mp6 hok hr ha hb hL hL2 h1 h0 4 0 (by omega) (by omega) (fun j hj => absurd hj (Nat.not_lt_zero j))⟩
end
section
variable {nx ou : Nat → Int32} {L : Nat}
theorem mx_mps15 {post : Int32 → SX → Prop} {J4 : Int32 → Int32 → (Nat → Int32) → (Nat → Int32) → (Nat → Int32) → Prop} {a : Nat} (hok : mt_ok nx) (ha : a < 16) (hL : L + 1 < 2 ^ 30) (HJ : ∀ fo ap, mt_M (mt_f nx) ou L a 16 ap → mt_F (mt_f nx) ou L a 16 fo → J4 fo (nI (a + 1)) nx ou ap) : ∀ n b fo ap, 16 < n + b → a < b → b ≤ 16 → mt_M (mt_f nx) ou L a b ap → mt_F (mt_f nx) ou L a b fo → wX_markPairs_15 post J4 (nI (L + 1)) (nI a) n fo (nI b) nx ou ap := by
  intro n
  induction n with
  | zero => intro b fo ap q1 q2 q3; omega
  | succ n ih =>
    intro b fo ap q1 q2 q3 hM hF
    rw [wX_markPairs_15]
    refine pk_le 16 b (fun e => nm_r (nI_1 a) ?_) (fun e => mx_pair ⟨vp_in_nI (by omega) (by omega), ?_⟩)
    · have eb : b = 16 := by omega
      rw [eb] at hM hF
      exact HJ fo ap hM hF
    · have hA := mt_A_bd (f := mt_f nx) (o := ou) L a b
      refine pk_eq (mt_A (mt_f nx) ou L a b) 0 (fun z => ?_) (fun z => ?_) (by rw [nI_clamp (by omega)]; exact mt_M_get hM q2 e)
      · refine mx_markPair hok (fun h2 => mt_M_rd hM (by omega) (by omega)) ha e (by omega) hL (fun s => ?_) (fun s => ?_)
        · have hd := (mt_told z).mp s
          exact br_f (by decide) (nm_r (nI_1 b) (ih (b + 1) 1 _ (by omega) (by omega) (by omega) (mt_M_set hM q2 e hd) mt_F_set))
        · have hd : mt_D (mt_f nx) ou a b ≠ L + 1 := fun w => s ((mt_told z).mpr w)
          exact br_t rfl (nm_r (nI_1 b) (ih (b + 1) fo ap (by omega) (by omega) (by omega) (mt_M_skip hM q2 e hd) (mt_F_skip hF hd)))
      · have hd : mt_D (mt_f nx) ou a b ≠ L + 1 := fun w => z (mt_A_z.mpr (Or.inr (by omega)))
        exact nm_r (nI_1 b) (ih (b + 1) fo ap (by omega) (by omega) (by omega) (mt_M_skip hM q2 e hd) (mt_F_skip hF hd))
theorem mx_mps4 {post : Int32 → SX → Prop} (hok : mt_ok nx) (hL : L + 1 < 2 ^ 30) (hp : ∀ fo ap, mt_Ap (mt_f nx) ou (L + 1) ap → (fo = 0 ∨ fo = 1) → (fo = 0 → ∀ x y, x < 16 → y < 16 → mt_D (mt_f nx) ou x y ≤ L) → post fo (nx, ou, ap)) : ∀ n a fo ap, 16 < n + a → a ≤ 16 → mt_M (mt_f nx) ou L a (a + 1) ap → mt_F (mt_f nx) ou L a (a + 1) fo → wX_markPairs_4 post (nI (L + 1)) n fo (nI a) nx ou ap := by
  intro n
  induction n with
  | zero => intro a fo ap q1 q2; omega
  | succ n ih =>
    intro a fo ap q1 q2 hM hF
    rw [wX_markPairs_4]
    refine pk_le 16 a (fun e => ⟨?_, ?_⟩) (fun e => nm_r (nI_1 a) ⟨17, ?_⟩)
    · rcases hF.1 with w | w
      · rw [w]; rfl
      · rw [w]; rfl
    · have ea : a = 16 := by omega
      rw [ea] at hM hF
      refine hp fo ap (mt_M_end hM) hF.1 (fun z x y hx hy => ?_)
      rw [z] at hF
      exact mt_F_end (mt_ok_f hok) hF hx hy
    · exact mx_mps15 hok e hL (fun fo2 ap2 hM2 hF2 => ih (a + 1) fo2 ap2 (by omega) (by omega) (mt_M_row hM2) (mt_F_row hF2)) 17 (a + 1) fo ap (by omega) (by omega) (by omega) hM hF
theorem mx_markPairs {post : Int32 → SX → Prop} {ap : Nat → Int32} (hok : mt_ok nx) (hL : L + 1 < 2 ^ 30) (hA : mt_Ap (mt_f nx) ou L ap) (hp : ∀ fo ap, mt_Ap (mt_f nx) ou (L + 1) ap → (fo = 0 ∨ fo = 1) → (fo = 0 → ∀ x y, x < 16 → y < 16 → mt_D (mt_f nx) ou x y ≤ L) → post fo (nx, ou, ap)) : wpX_markPairs post (nx, ou, ap) (nI (L + 1)) :=
  ⟨17, mx_mps4 hok hL hp 17 0 0 ap (by omega) (by omega) (mt_M_0 hA) mt_F_0⟩
end
section
variable {nx ou : Nat → Int32}
theorem mx_me26 {post : SX → Prop} (hok : mt_ok nx) (hp : ∀ ap, mt_Ad (mt_f nx) ou ap → post (nx, ou, ap)) : ∀ n L fo ap, 15 < n + L → L ≤ 15 → mt_Ap (mt_f nx) ou L ap → (fo = 0 → ∀ x y, x < 16 → y < 16 → mt_D (mt_f nx) ou x y ≤ L) → wX_measure_26 post n fo (nI (L + 1)) nx ou ap := by
  intro n
  induction n with
  | zero => intro L fo ap q1 q2; omega
  | succ n ih =>
    intro L fo ap q1 q2 hA hF
    rw [wX_measure_26]
    refine pk_lt 15 (L + 1) (fun e => hp ap (mt_Ap_Ad hA (fun x y hx hy => ?_))) (fun e => ?_)
    · have := mt_moore (o := ou) (mt_ok_f hok) hx hy
      omega
    · by_cases z : fo = 0
      · exact br_t z (hp ap (mt_Ap_Ad hA (hF z)))
      · refine br_f z (mx_markPairs hok (by omega) hA (fun fo2 ap2 hA2 _ hF2 => nm_r (nI_1 (L + 1)) ?_))
        refine ih (L + 1) fo2 ap2 (by omega) (by omega) hA2 (fun z2 x y hx hy => ?_)
        have := hF2 z2 x y hx hy
        omega
theorem mx_me2 {post : SX → Prop} (hok : mt_ok nx) (hp : ∀ ap, mt_Ad (mt_f nx) ou ap → post (nx, ou, ap)) : ∀ n i ap, 256 < n + i → i ≤ 256 → (∀ p, p < i → ap p = 0) → wX_measure_2 post n (nI i) nx ou ap := by
  intro n
  induction n with
  | zero => intro i ap q1 q2; omega
  | succ n ih =>
    intro i ap q1 q2 h
    rw [wX_measure_2]
    refine pk_le 256 i (fun e => ⟨16, ?_⟩) (fun e => ⟨vp_in_nI e (by omega), nm_r (e' := upd ap i 0) (by rw [nI_clamp (by omega)]) (nm_r (nI_1 i) ?_)⟩)
    · exact mx_me26 hok hp 16 0 1 ap (by omega) (by omega) (mt_Ap_0 (fun p hp => h p (by omega))) (fun z => absurd z (by decide))
    · refine ih (i + 1) (upd ap i 0) (by omega) (by omega) (fun p hp => ?_)
      by_cases e2 : p = i
      · rw [e2]
        exact pk_us
      · rw [pk_un e2]
        exact h p (by omega)
theorem mx_measure {post : SX → Prop} {ap : Nat → Int32} (hok : mt_ok nx) (hp : ∀ ap, mt_Ad (mt_f nx) ou ap → post (nx, ou, ap)) : wpX_measure post (nx, ou, ap) :=
  ⟨257, mx_me2 hok hp 257 0 ap (by omega) (by omega) (fun p hp => absurd hp (Nat.not_lt_zero p))⟩
end
end
section
/-! the asking methods of the component -/
section
variable {nx ou ap : Nat → Int32}
theorem mx_fi3 {post : Int32 → Prop} {a b i L : Nat} (hok : mt_ok nx) (hr : 2 ≤ L → mt_rd (mt_f nx) ou ap (L - 1)) (ha : a < 16) (hb : b < 16) (hi : i < 3) (hL : 1 ≤ L) (hL2 : L < 2 ^ 30) (s : mt_S (mt_f nx) ou a b i L) (m : ∀ j, j < i → ¬ mt_S (mt_f nx) ou a b j L) (h : post (nI i)) : ∀ n j, 3 < n + j → j ≤ i → wX_firstInput_3 post (nI a) (nI b) (nI L) nx ou ap n (nI j) := by
  intro n
  induction n with
  | zero => intro j q1 q2; omega
  | succ n ih =>
    intro j q1 q2
    rw [wX_firstInput_3]
    refine pk_le 2 j (fun e => ?_) (fun e => mx_starts hok hr ha hb (by omega) hL hL2 (fun t => br_f (by decide) ?_) (fun t => br_t rfl (nm_r (nI_1 j) ?_)))
    · have ej : j = i := by omega
      rw [ej]
      exact h
    · have ej : j = i := by
        apply Classical.byContradiction
        intro z
        exact m j (by omega) t
      rw [ej]
      exact h
    · have ej : j ≠ i := fun z => t (z ▸ s)
      exact ih (j + 1) (by omega) (by omega)
theorem mx_first {post : Int32 → Prop} {a b i L : Nat} (hok : mt_ok nx) (hr : 2 ≤ L → mt_rd (mt_f nx) ou ap (L - 1)) (ha : a < 16) (hb : b < 16) (hi : i < 3) (hL : 1 ≤ L) (hL2 : L < 2 ^ 30) (s : mt_S (mt_f nx) ou a b i L) (m : ∀ j, j < i → ¬ mt_S (mt_f nx) ou a b j L) (h : post (nI i)) : wpX_firstInput post (nx, ou, ap) (nI a) (nI b) (nI L) :=
  ⟨4, mx_fi3 hok hr ha hb hi hL hL2 s m h 4 0 (by omega) (by omega)⟩
theorem mx_te50 {post : Int32 → Prop} {a b v n i : Nat} (hok : mt_ok nx) (hA : mt_Ad (mt_f nx) ou ap) (hv : mt_fst (mt_f nx) ou a b v) (ha : a < 16) (hb : b < 16) (hn : n ≤ 15) (hi : i < n) (hp : post (nI ((mt_pr v (n - 1 - i) - 1) % 3))) : ∀ k t z, i < k + t → t ≤ i → mt_ex (n - t) z v → wX_teller_50 post (nI i) (nI n) nx ou ap k (nI (mt_go (mt_f nx) a z)) (nI (mt_go (mt_f nx) b z)) (nI t) := by
  intro k
  induction k with
  | zero => intro t z q1 q2; omega
  | succ k ih =>
    intro t z q1 q2 hx
    obtain ⟨m, em⟩ : ∃ m, n - t = m + 1 := ⟨n - t - 1, by omega⟩
    rw [em] at hx
    obtain ⟨d, hd, e⟩ := mt_ex_e hx
    have hS := mt_fst_S hv hd e
    have ga := mt_go_lt (mt_ok_f hok) ha z
    have gb := mt_go_lt (mt_ok_f hok) hb z
    have hpr := mt_ex_pr _ _ _ e
    rw [wX_teller_50]
    refine pk_le i t (fun c => ?_) (fun c => ?_)
    · have et : t = i := by omega
      have e5 : nI n - nI i = nI (m + 1) := by
        rw [pk_sub (by omega), ← et, em]
      rw [e5]
      refine mx_first hok (fun _ => mt_Ad_rd hA (mt_ok_f hok)) ga gb hd (by omega) (by omega) hS.1 hS.2 ?_
      have e6 : n - 1 - i = m := by omega
      rw [e6, hpr] at hp
      have e7 : (3 * z + d + 1 - 1) % 3 = d := by omega
      rw [e7] at hp
      exact hp
    · have e5 : nI n - nI t = nI (m + 1) := by
        rw [pk_sub (by omega), em]
      rw [e5]
      refine mx_first hok (fun _ => mt_Ad_rd hA (mt_ok_f hok)) ga gb hd (by omega) (by omega) hS.1 hS.2 ?_
      refine mx_place ⟨vp_in_nI (by omega) (by omega), nm_r (e' := nI (mt_go (mt_f nx) a (3 * z + d + 1))) ?_ ?_⟩
      · rw [nI_clamp (by omega), mt_ok_e hok (by omega), mt_go_s _ _ _ _ hd]
      · refine mx_place ⟨vp_in_nI (by omega) (by omega), nm_r (e' := nI (mt_go (mt_f nx) b (3 * z + d + 1))) ?_ ?_⟩
        · rw [nI_clamp (by omega), mt_ok_e hok (by omega), mt_go_s _ _ _ _ hd]
        · refine nm_r (nI_1 t) (ih (t + 1) (3 * z + d + 1) (by omega) (by omega) ?_)
          have e8 : n - (t + 1) = m := by omega
          rw [e8]
          exact e
theorem mx_sm2 {post : Int32 → Prop} {s : Nat} (hok : mt_ok nx) (hA : mt_Ad (mt_f nx) ou ap) (hs : s < 16) (h : post (nI (mt_K (mt_f nx) ou s))) : ∀ n j, 16 < n + j → j ≤ mt_K (mt_f nx) ou s → wX_smallestAlike_2 post (nI s) nx ou ap n (nI j) := by
  have hk := mt_K_le (mt_f nx) ou s
  have hK := mt_K_is (mt_f nx) ou s
  intro n
  induction n with
  | zero => intro j q1 q2; omega
  | succ n ih =>
    intro j q1 q2
    rw [wX_smallestAlike_2]
    refine pk_le s j (fun e => ?_) (fun e => mx_pair ⟨vp_in_nI (by omega) (by omega), ?_⟩)
    · have ej : j = mt_K (mt_f nx) ou s := by omega
      rw [ej]
      exact h
    · have hm := mt_moore (o := ou) (mt_ok_f hok) (show j < 16 by omega) hs
      refine pk_eq (mt_D (mt_f nx) ou j s) 0 (fun z => ?_) (fun z => nm_r (nI_1 j) ?_) (by rw [nI_clamp (by omega)]; exact hA j s (by omega) hs)
      · have ej : j = mt_K (mt_f nx) ou s := by
          apply Classical.byContradiction
          intro w
          exact hK.2 j (by omega) z
        rw [ej]
        exact h
      · have ej : j ≠ mt_K (mt_f nx) ou s := fun w => z (by rw [w]; exact hK.1)
        exact ih (j + 1) (by omega) (by omega)
theorem mx_small {post : Int32 → Prop} {s : Nat} (hok : mt_ok nx) (hA : mt_Ad (mt_f nx) ou ap) (hs : s < 16) (h : post (nI (mt_K (mt_f nx) ou s))) : wpX_smallestAlike post (nx, ou, ap) (nI s) :=
  ⟨17, mx_sm2 hok hA hs h 17 0 (by omega) (by omega)⟩
theorem mx_ck7 {post : Int32 → Prop} {x : Int32} (hok : mt_ok nx) (hA : mt_Ad (mt_f nx) ou ap) (h : post (nI (mt_cb (mt_ks (mt_f nx) ou (bt x) 16) 16))) : ∀ n s y, 16 < n + s → s ≤ 16 → (∀ i, i < 16 → bt y i = mt_ks (mt_f nx) ou (bt x) s i) → wX_countKinds_7 post x nx ou ap n y (nI (mt_cb (bt y) 16)) (nI s) := by
  intro n
  induction n with
  | zero => intro s y q1 q2; omega
  | succ n ih =>
    intro s y q1 q2 hy
    rw [wX_countKinds_7]
    refine pk_le 16 s (fun e => ?_) (fun e => mx_small hok hA e (nm_e ?_))
    · have es : s = 16 := by omega
      rw [es] at hy
      rw [mt_cb_eq 16 hy]
      exact h
    · have hk : mt_K (mt_f nx) ou s < 16 := by
        have := mt_K_le (mt_f nx) ou s
        omega
      by_cases hb : bt x s = false
      · refine br_t ((mk_z x (by omega)).mpr hb) (nm_r (nI_1 s) (ih (s + 1) y (by omega) (by omega) (fun i hi => ?_)))
        rw [hy i hi]
        exact (mt_ks_n hb i).symm
      · have ht : bt x s = true := by
          cases w : bt x s with
          | true => rfl
          | false => exact absurd w hb
        refine br_f (fun z => hb ((mk_z x (by omega)).mp z)) ?_
        by_cases hc : bt y (mt_K (mt_f nx) ou s) = false
        · have hor : ∀ i, i < 16 → bt (y ||| ((1 : Int32) <<< (nI (mt_K (mt_f nx) ou s) &&& 31))) i = (bt y i || decide (i = mt_K (mt_f nx) ou s)) := fun i hi => mk_or y (by omega) (by omega)
          have hcnt : mt_cb (bt (y ||| ((1 : Int32) <<< (nI (mt_K (mt_f nx) ou s) &&& 31)))) 16 = mt_cb (bt y) 16 + 1 := by
            refine mt_cb_add hc ?_ 16 (fun i hi hne => ?_) hk
            · rw [hor _ hk, show decide (mt_K (mt_f nx) ou s = mt_K (mt_f nx) ou s) = true from decide_eq_true rfl, Bool.or_true]
            · rw [hor i hi, decide_eq_false hne, Bool.or_false]
          refine br_t ((mk_and y (by omega)).mpr hc) (nm_e (nm_r (e' := nI (mt_cb (bt (y ||| ((1 : Int32) <<< (nI (mt_K (mt_f nx) ou s) &&& 31)))) 16)) ?_ (nm_r (nI_1 s) (ih (s + 1) _ (by omega) (by omega) (fun i hi => ?_)))))
          · rw [nI_1, hcnt]
          · rw [hor i hi, hy i hi]
            exact (mt_ks_s ht i).symm
        · refine br_f (fun z => hc ((mk_and y (by omega)).mp z)) (nm_r (nI_1 s) (ih (s + 1) y (by omega) (by omega) (fun i hi => ?_)))
          rw [mt_ks_s ht i, ← hy i hi]
          by_cases ei : i = mt_K (mt_f nx) ou s
          · have hct : bt y (mt_K (mt_f nx) ou s) = true := by
              cases w : bt y (mt_K (mt_f nx) ou s) with
              | true => rfl
              | false => exact absurd w hc
            rw [ei, hct, Bool.true_or]
          · rw [decide_eq_false ei, Bool.or_false]
theorem mx_count {post : Int32 → Prop} {x : Int32} (hok : mt_ok nx) (hA : mt_Ad (mt_f nx) ou ap) (h : post (nI (mt_cb (mt_ks (mt_f nx) ou (bt x) 16) 16))) : wpX_countKinds post (nx, ou, ap) x := by
  refine ⟨17, ?_⟩
  have g := mx_ck7 hok hA h 17 0 0 (by omega) (by omega) (fun i _ => (b_0 i).trans (mt_ks_0 _ _ _ i).symm)
  have e : mt_cb (bt 0) 16 = 0 := by decide +kernel
  rw [e] at g
  exact g
theorem mx_wn4 {post : Int32 → Prop} {x : Int32} (hok : mt_ok nx) (h : ∀ y, mt_Rd (mt_f nx) (bt x) (bt y) → post y) : ∀ n p y, 48 < n + p → p ≤ 48 → (∀ s, s < 16 → bt x s = true → bt y s = true) → (∀ q, q < p → bt x (q / 3) = true → bt y (mt_f nx q) = true) → (∀ C, mt_cl (mt_f nx) C → (∀ s, s < 16 → bt x s = true → C s = true) → ∀ s, s < 16 → bt y s = true → C s = true) → wX_withNextStates_4 post x nx ou ap n y (nI p) := by
  intro n
  induction n with
  | zero => intro p y q1 q2; omega
  | succ n ih =>
    intro p y q1 q2 h1 h2 h3
    rw [wX_withNextStates_4]
    refine pk_le 48 p (fun e => h y ⟨h1, fun q hq => h2 q (by omega), h3⟩) (fun e => ⟨by decide, ?_⟩)
    have ed : nI p / 3 = nI (p / 3) := pk_div (a := p) (d := 3) (by omega) (by omega) (by omega)
    rw [ed]
    by_cases hb : bt x (p / 3) = false
    · refine br_t ((mk_z x (by omega)).mpr hb) (nm_r (nI_1 p) (ih (p + 1) y (by omega) (by omega) h1 (fun q hq hx => ?_) h3))
      by_cases e2 : q = p
      · rw [e2, hb] at hx
        exact nomatch hx
      · exact h2 q (by omega) hx
    · have ht : bt x (p / 3) = true := by
        cases w : bt x (p / 3) with
        | true => rfl
        | false => exact absurd w hb
      have hf := mt_ok_f hok p e
      have hor : ∀ i, i < 16 → bt (y ||| ((1 : Int32) <<< (nI (mt_f nx p) &&& 31))) i = (bt y i || decide (i = mt_f nx p)) := fun i hi => mk_or y (by omega) (by omega)
      refine br_f (fun z => hb ((mk_z x (by omega)).mp z)) ⟨vp_in_nI e (by omega), nm_r (e' := y ||| ((1 : Int32) <<< (nI (mt_f nx p) &&& 31))) ?_ (nm_r (nI_1 p) (ih (p + 1) _ (by omega) (by omega) (fun s hs hx => ?_) (fun q hq hx => ?_) (fun C hC hs s hs2 hx => ?_)))⟩
      · rw [nI_clamp (by omega), mt_ok_e hok e]
      · rw [hor s hs, h1 s hs hx, Bool.true_or]
      · by_cases e2 : q = p
        · rw [e2, hor _ hf, show decide (mt_f nx p = mt_f nx p) = true from decide_eq_true rfl, Bool.or_true]
        · rw [hor _ (mt_ok_f hok q (by omega)), h2 q (by omega) hx, Bool.true_or]
      · rw [hor s hs2] at hx
        by_cases e2 : s = mt_f nx p
        · rw [e2]
          exact hC p e (hs (p / 3) (by omega) ht)
        · rw [decide_eq_false e2, Bool.or_false] at hx
          exact h3 C hC hs s hs2 hx
theorem mx_with {post : Int32 → Prop} {x : Int32} (hok : mt_ok nx) (h : ∀ y, mt_Rd (mt_f nx) (bt x) (bt y) → post y) : wpX_withNextStates post (nx, ou, ap) x :=
  ⟨49, mx_wn4 hok h 49 0 x (by omega) (by omega) (fun s _ z => z) (fun q hq => absurd hq (Nat.not_lt_zero q)) (fun C _ hs => hs)⟩
theorem mx_rk15 {post : Int32 → Prop} {st : Nat} (hok : mt_ok nx) (hst : st < 16) (h : ∀ y, mt_Rn (mt_f nx) st 15 (bt y) → wpX_countKinds (fun r => post r) (nx, ou, ap) y) : ∀ n r y, 15 < n + r → r ≤ 15 → mt_Rn (mt_f nx) st r (bt y) → wX_reachableKinds_15 post nx ou ap n y (nI (r + 1)) := by
  intro n
  induction n with
  | zero => intro r y q1 q2; omega
  | succ n ih =>
    intro r y q1 q2 hR
    rw [wX_reachableKinds_15]
    refine pk_le 16 (r + 1) (fun e => ?_) (fun e => mx_with hok (fun z hz => nm_r (nI_1 (r + 1)) (ih (r + 1) z (by omega) (by omega) (mt_Rn_s (mt_ok_f hok) hst hR hz))))
    have er : r = 15 := by omega
    rw [er] at hR
    exact h y hR
theorem mx_de4 {post : Int32 → Prop} (hok : mt_ok nx) (hA : mt_Ad (mt_f nx) ou ap) (h : ∀ m, mt_mx (mt_f nx) ou m → post (nI m)) : ∀ n p m, 256 < n + p → p ≤ 256 → m ≤ 15 → (∀ q, q < p → mt_D (mt_f nx) ou (q / 16) (q % 16) ≤ m) → (m = 0 ∨ ∃ a b, a < 16 ∧ b < 16 ∧ mt_D (mt_f nx) ou a b = m) → wX_depth_4 post nx ou ap n (nI m) (nI p) := by
  intro n
  induction n with
  | zero => intro p m q1 q2; omega
  | succ n ih =>
    intro p m q1 q2 q3 h1 h2
    rw [wX_depth_4]
    refine pk_le 256 p (fun e => h m ⟨fun a b ha hb => ?_, h2⟩) (fun e => ⟨vp_in_nI e (by omega), ?_⟩)
    · have g := h1 (a * 16 + b) (by omega)
      rw [show (a * 16 + b) / 16 = a by omega, show (a * 16 + b) % 16 = b by omega] at g
      exact g
    · have hm := mt_moore (o := ou) (mt_ok_f hok) (show p / 16 < 16 by omega) (show p % 16 < 16 by omega)
      have ep : ap (nI p).toNatClampNeg = nI (mt_D (mt_f nx) ou (p / 16) (p % 16)) := by
        rw [nI_clamp (by omega)]
        have g := hA (p / 16) (p % 16) (by omega) (by omega)
        rw [show p / 16 * 16 + p % 16 = p by omega] at g
        exact g
      refine pk_le (mt_D (mt_f nx) ou (p / 16) (p % 16)) m (fun z => nm_r (nI_1 p) (ih (p + 1) m (by omega) (by omega) q3 (fun q hq => ?_) h2)) (fun z => ⟨vp_in_nI e (by omega), nm_r ep (nm_r (nI_1 p) (ih (p + 1) _ (by omega) (by omega) hm (fun q hq => ?_) (Or.inr ⟨p / 16, p % 16, by omega, by omega, rfl⟩)))⟩) ep
      · by_cases e2 : q = p
        · rw [e2]
          exact z
        · exact h1 q (by omega)
      · by_cases e2 : q = p
        · rw [e2]
          exact Nat.le_refl _
        · have := h1 q (by omega)
          omega
theorem mx_depth {post : Int32 → Prop} (hok : mt_ok nx) (hA : mt_Ad (mt_f nx) ou ap) (h : ∀ m, mt_mx (mt_f nx) ou m → post (nI m)) : wpX_depth post (nx, ou, ap) :=
  ⟨257, mx_de4 hok hA h 257 0 0 (by omega) (by omega) (by omega) (fun q hq => absurd hq (Nat.not_lt_zero q)) (Or.inl rfl)⟩
end
end
section
/-! the reference's search -/
theorem my_b1 : vp_nar .boolean 1 = 1 := rfl
theorem my_b0 : vp_nar .boolean 0 = 0 := rfl
theorem my_st {post : Int32 → Prop} {u : SY} {s : Nat} (hs : s < 16) (h : post 1) : wpY_isState post u (nI s) := by
  obtain ⟨c, n, o, p, f, b, k, w⟩ := u
  exact br_f (nI_pos (by omega)) (br_f (nI_ge (b := 16) hs (by omega)) h)
theorem my_st0 {post : Int32 → Prop} {u : SY} {x : Int32} (hx : x < 0 ∨ nI 16 ≤ x) (h : post 0) : wpY_isState post u x := by
  obtain ⟨c, n, o, p, f, b, k, w⟩ := u
  by_cases h0 : x < 0
  · exact br_t h0 h
  · exact br_f h0 (br_t (hx.resolve_left h0) h)
theorem my_in {post : Int32 → Prop} {u : SY} {s : Nat} (hs : s < 3) (h : post 1) : wpY_isInput post u (nI s) := by
  obtain ⟨c, n, o, p, f, b, k, w⟩ := u
  exact br_f (nI_pos (by omega)) (br_f (nI_ge (b := 3) hs (by omega)) h)
theorem my_in0 {post : Int32 → Prop} {u : SY} {x : Int32} (hx : x < 0 ∨ nI 3 ≤ x) (h : post 0) : wpY_isInput post u x := by
  obtain ⟨c, n, o, p, f, b, k, w⟩ := u
  by_cases h0 : x < 0
  · exact br_t h0 h
  · exact br_f h0 (br_t (hx.resolve_left h0) h)
section
variable {nx ou ps fr bw kn w : Nat → Int32}
theorem my_come1 {post : SY → Prop} {pc x y p2 p3 : Int32} {p q : Nat} (hp : p < 16) (hq : q < 16) (ex : x = nI p) (ey : y = nI q) (hk : kn (p * 16 + q) = 1) (h : post (pc, nx, ou, ps, fr, bw, kn, w)) : wpY_come post (pc, nx, ou, ps, fr, bw, kn, w) x y p2 p3 := by
  unfold wpY_come
  dsimp only
  rw [ex, ey, mx_ix16, nI_clamp (show p * 16 + q < 2 ^ 31 by omega)]
  exact ⟨vp_in_nI (by omega) (by omega), br_f (by rw [hk]; decide) h⟩
theorem my_come0 {post : SY → Prop} {x y p2 p3 : Int32} {pc p q : Nat} (hp : p < 16) (hq : q < 16) (hpc : pc < 256) (ex : x = nI p) (ey : y = nI q) (hk : kn (p * 16 + q) = 0) (h : post (nI (pc + 1), nx, ou, upd ps pc (nI (p * 16 + q)), upd fr pc p2, upd bw pc p3, upd kn (p * 16 + q) 1, w)) : wpY_come post (nI pc, nx, ou, ps, fr, bw, kn, w) x y p2 p3 := by
  unfold wpY_come
  dsimp only
  rw [ex, ey, mx_ix16, nI_clamp (show p * 16 + q < 2 ^ 31 by omega), nI_clamp (show pc < 2 ^ 31 by omega)]
  have hi : vp_in (nI pc) 256 := vp_in_nI hpc (by omega)
  exact ⟨vp_in_nI (by omega) (by omega), br_t hk ⟨vp_in_nI (by omega) (by omega), nm_r (e' := upd kn (p * 16 + q) 1) (by rw [my_b1]) ⟨hi, nm_e ⟨hi, nm_e ⟨hi, nm_e (nm_r (nI_1 pc) h)⟩⟩⟩⟩⟩
/-! what holds after the search: post at the length, whatever the scratch is, but the word -/
theorem my_spell12 {post : Int32 → SY → Prop} {f : Nat → Nat} {a b pc v : Nat} {c q : Nat → Nat} {fp : Int32} (hQ : mt_Qm c pc) (hq : ∀ j, 1 ≤ j → j < pc → ∃ d, d < 3 ∧ c j = 3 * c (q j) + d + 1 ∧ q j < j) (hA : mt_QA f a b c q pc ps fr bw kn) (hp : ∀ n w, mt_ex n 0 v → (∀ t, t < n → w t = nI ((mt_pr v t - 1) % 3)) → post (nI n) (fp, nx, ou, ps, fr, bw, kn, w)) : ∀ m k j w, k < m → k < pc → k + j ≤ 256 → mt_ex j (c k) v → (∀ t, t < j → w t = nI ((mt_pr v t - 1) % 3)) → wY_spell_12 post fp m (nI j) (nI k) nx ou ps fr bw kn w := by
  have hle := mt_QA_le hA
  intro m
  induction m with
  | zero => intro k j w q1; omega
  | succ m ih =>
    intro k j w q1 q2 q3 hx hw
    rw [wY_spell_12]
    dsimp only
    have hi : vp_in (nI k) 256 := vp_in_nI (by omega) (by omega)
    have ck : (nI k).toNatClampNeg = k := nI_clamp (by omega)
    rw [ck]
    refine ⟨hi, ?_⟩
    by_cases e : k = 0
    · rw [e, hA.2.1]
      rw [e, hQ.2.1] at hx
      exact br_t (by decide) (hp j w hx hw)
    · obtain ⟨d, hd, ec, hl⟩ := hq k (by omega) q2
      have hfb := hA.2.2.1 k (by omega) q2
      have hs := mt_sp_s hx hw hd ec
      rw [hfb.1, hfb.2]
      refine br_f (nI_pos (by omega)) (br_f (nI_ge (b := 256) (by omega) (by omega)) ⟨hi, vp_in_nI (by omega) (by omega), nm_r (e' := upd w j (nI ((c k - 1) % 3))) (by rw [nI_clamp (by omega)]) (nm_r (nI_1 j) ⟨hi, nm_e ?_⟩)⟩)
      exact ih (q k) (j + 1) _ (by omega) (by omega) (by omega) hs.1 hs.2
theorem my_spell {post : Int32 → SY → Prop} {f : Nat → Nat} {o : Nat → Int32} {a b pc k i : Nat} {c q : Nat → Nat} {fp : Int32} (hQ : mt_Q f o a b c q pc k i) (hA : mt_QA f a b c q pc ps fr bw kn) (hk : k < pc) (hi : i < 3) (ho : ¬ o (mt_go f a (c k) * 3 + i) = o (mt_go f b (c k) * 3 + i)) (hp : ∀ n w, mt_wrd f o a b n w → 0 < n → post (nI n) (fp, nx, ou, ps, fr, bw, kn, w)) : wpY_spell post (fp, nx, ou, ps, fr, bw, kn, w) (nI k) (nI i) := by
  have hv := mt_Q_found hQ hk hi ho
  have hle := mt_QA_le hA
  unfold wpY_spell
  dsimp only
  refine nm_e ⟨257, ?_⟩
  refine my_spell12 (v := 3 * c k + i + 1) hQ.1 (fun j h1 h2 => ?_) hA (fun n w2 hx hw => ?_) 257 k 1 _ (by omega) hk (by omega) (mt_ex_s i hi (mt_ex_00 _)) (fun t ht => ?_)
  · obtain ⟨d, hd, e, hl, _⟩ := hQ.2.1 j h1 h2
    exact ⟨d, hd, e, hl⟩
  · have hn : 0 < n := by
      apply Nat.pos_of_ne_zero
      intro z
      rw [z] at hx
      have := mt_ex_0 hx
      omega
    exact hp n w2 ⟨(mt_fst_D hv hx).symm, fun _ => ⟨_, hv, hx, hw⟩⟩ hn
  · have e : t = 0 := by omega
    rw [e]
    show upd w 0 (nI i) 0 = nI ((3 * c k + i + 1 - 1) % 3)
    rw [pk_us]
    exact congrArg nI (by omega)
theorem my_se74 {post : Int32 → SY → Prop} {J37 : Int32 → Int32 → (Nat → Int32) → (Nat → Int32) → (Nat → Int32) → (Nat → Int32) → (Nat → Int32) → (Nat → Int32) → (Nat → Int32) → Prop} {a b k : Nat} (hok : mt_ok nx) (ha : a < 16) (hb : b < 16) (hp : ∀ n fp ps fr bw kn w, mt_wrd (mt_f nx) ou a b n w → post (nI n) (fp, nx, ou, ps, fr, bw, kn, w)) {A B : Nat} (HJ : ∀ c q pc ps fr bw kn w, mt_Q (mt_f nx) ou a b c q pc (k + 1) 0 → mt_QA (mt_f nx) a b c q pc ps fr bw kn → k < pc → J37 (nI (k + 1)) (nI pc) nx ou ps fr bw kn w) : ∀ n i c q pc ps fr bw kn w, 3 < n + i → i ≤ 3 → mt_Q (mt_f nx) ou a b c q pc k i → mt_QA (mt_f nx) a b c q pc ps fr bw kn → k < pc → A = mt_go (mt_f nx) a (c k) → B = mt_go (mt_f nx) b (c k) → wY_search_74 post J37 (nI k) (nI (A * 3)) (nI (B * 3)) n (nI i) (nI pc) nx ou ps fr bw kn w := by
  intro n
  induction n with
  | zero => intro i c q pc ps fr bw kn w q1 q2; omega
  | succ n ih =>
    intro i c q pc ps fr bw kn w q1 q2 hQ hA hk eA eB
    rw [wY_search_74]
    have hle := mt_QA_le hA
    refine pk_le 3 i (fun e => nm_r (nI_1 k) ?_) (fun e => ?_)
    · have ei : i = 3 := by omega
      rw [ei] at hQ
      exact HJ c q pc ps fr bw kn w (mt_Q_row hQ) hA hk
    · have gA := mt_go_lt (mt_ok_f hok) ha (c k)
      have gB := mt_go_lt (mt_ok_f hok) hb (c k)
      rw [← eA] at gA
      rw [← eB] at gB
      rw [nI_add, nI_add, nI_clamp (show A * 3 + i < 2 ^ 31 by omega), nI_clamp (show B * 3 + i < 2 ^ 31 by omega)]
      have iA : vp_in (nI (A * 3 + i)) 48 := vp_in_nI (by omega) (by omega)
      have iB : vp_in (nI (B * 3 + i)) 48 := vp_in_nI (by omega) (by omega)
      refine ⟨iA, iB, br_c (fun z => ⟨iA, iB, ?_⟩) (fun z => ?_)⟩
      · have fA := mt_ok_f hok (A * 3 + i) (by omega)
        have fB := mt_ok_f hok (B * 3 + i) (by omega)
        have eX := mt_ok_e hok (p := A * 3 + i) (by omega)
        have eY := mt_ok_e hok (p := B * 3 + i) (by omega)
        have hP : mt_f nx (A * 3 + i) * 16 + mt_f nx (B * 3 + i) < 256 := by omega
        rw [eA, eB] at z
        rcases hA.2.2.2.1 _ hP with h0 | h1
        · have hN := mt_QA_new (k := k) (i := i) (mt_ok_f hok) ha hb hA hQ.1.1 e rfl (by rw [mt_go_s _ _ _ _ e, mt_go_s _ _ _ _ e, ← eA, ← eB]) h0
          refine my_come0 fA fB hN.1 eX eY h0 (nm_r (nI_1 i) ?_)
          have ek : mt_up c pc (3 * c k + i + 1) k = c k := mt_up_n (by omega)
          exact ih (i + 1) _ _ (pc + 1) _ _ _ _ w (by omega) (by omega) (mt_Q_new hQ hk e z) hN.2 (by omega) (by rw [ek]; exact eA) (by rw [ek]; exact eB)
        · obtain ⟨m, hm, em⟩ := hA.2.2.2.2.1 _ hP h1
          have mA := mt_go_lt (mt_ok_f hok) ha (c m)
          have mB := mt_go_lt (mt_ok_f hok) hb (c m)
          refine my_come1 fA fB eX eY h1 (nm_r (nI_1 i) ?_)
          exact ih (i + 1) c q pc ps fr bw kn w (by omega) (by omega) (mt_Q_old hQ hk hm z (by rw [← eA]; omega) (by rw [← eB]; omega)) hA hk eA eB
      · rw [eA, eB] at z
        exact my_spell hQ hA hk e z (fun n w hw _ => hp n _ _ _ _ _ w hw)
theorem my_se37 {post : Int32 → SY → Prop} {a b : Nat} (hok : mt_ok nx) (ha : a < 16) (hb : b < 16) (hp : ∀ n fp ps fr bw kn w, mt_wrd (mt_f nx) ou a b n w → post (nI n) (fp, nx, ou, ps, fr, bw, kn, w)) : ∀ n k c q pc ps fr bw kn w, 256 < n + k → k ≤ pc → mt_Q (mt_f nx) ou a b c q pc k 0 → mt_QA (mt_f nx) a b c q pc ps fr bw kn → wY_search_37 post n (nI k) (nI pc) nx ou ps fr bw kn w := by
  intro n
  induction n with
  | zero =>
    intro k c q pc ps fr bw kn w q1 q2 hQ hA
    have := mt_QA_le hA
    omega
  | succ n ih =>
    intro k c q pc ps fr bw kn w q1 q2 hQ hA
    rw [wY_search_37]
    have hle := mt_QA_le hA
    refine pk_le pc k (fun e => ?_) (fun e => ?_)
    · have ek : k = pc := by omega
      rw [ek] at hQ
      exact hp 0 _ _ _ _ _ w ⟨(mt_Q_end hQ).symm, fun z => absurd z (by omega)⟩
    · have gA := mt_go_lt (mt_ok_f hok) ha (c k)
      have gB := mt_go_lt (mt_ok_f hok) hb (c k)
      have hi : vp_in (nI k) 256 := vp_in_nI (by omega) (by omega)
      have d1 : nI (mt_go (mt_f nx) a (c k) * 16 + mt_go (mt_f nx) b (c k)) / 16 * 3 = nI (mt_go (mt_f nx) a (c k) * 3) := by
        have h1 : nI (mt_go (mt_f nx) a (c k) * 16 + mt_go (mt_f nx) b (c k)) / 16 = nI ((mt_go (mt_f nx) a (c k) * 16 + mt_go (mt_f nx) b (c k)) / 16) := pk_div (d := 16) (by omega) (by omega) (by omega)
        rw [h1, show (mt_go (mt_f nx) a (c k) * 16 + mt_go (mt_f nx) b (c k)) / 16 = mt_go (mt_f nx) a (c k) by omega]
        exact pk_mul _ 3
      have d2 : (nI (mt_go (mt_f nx) a (c k) * 16 + mt_go (mt_f nx) b (c k)) - nI (mt_go (mt_f nx) a (c k) * 16 + mt_go (mt_f nx) b (c k)) / 16 * 16) * 3 = nI (mt_go (mt_f nx) b (c k) * 3) := by
        have h1 : nI (mt_go (mt_f nx) a (c k) * 16 + mt_go (mt_f nx) b (c k)) - nI (mt_go (mt_f nx) a (c k) * 16 + mt_go (mt_f nx) b (c k)) / 16 * 16 = nI ((mt_go (mt_f nx) a (c k) * 16 + mt_go (mt_f nx) b (c k)) % 16) := pk_rem (d := 16) (by omega) (by omega) (by omega)
        rw [h1, show (mt_go (mt_f nx) a (c k) * 16 + mt_go (mt_f nx) b (c k)) % 16 = mt_go (mt_f nx) b (c k) by omega]
        exact pk_mul _ 3
      have ck : (nI k).toNatClampNeg = k := nI_clamp (by omega)
      rw [ck, hA.1 k e]
      refine ⟨hi, by decide, nm_r d1 ⟨hi, by decide, nm_r d2 ⟨4, ?_⟩⟩⟩
      exact my_se74 hok ha hb hp (fun c2 q2 pc2 ps2 fr2 bw2 kn2 w2 hQ2 hA2 hk2 => ih (k + 1) c2 q2 pc2 ps2 fr2 bw2 kn2 w2 (by omega) hk2 hQ2 hA2) 4 0 c q pc ps fr bw kn w (by omega) (by omega) hQ hA e rfl rfl
theorem my_se2 {post : Int32 → SY → Prop} {a b : Nat} {fp : Int32} (hok : mt_ok nx) (ha : a < 16) (hb : b < 16) (hp : ∀ n fp ps fr bw kn w, mt_wrd (mt_f nx) ou a b n w → post (nI n) (fp, nx, ou, ps, fr, bw, kn, w)) : ∀ n i kn, 256 < n + i → i ≤ 256 → (∀ p, p < i → kn p = 0) → wY_search_2 post (nI a) (nI b) fp n (nI i) nx ou ps fr bw kn w := by
  intro n
  induction n with
  | zero => intro i kn q1 q2; omega
  | succ n ih =>
    intro i kn q1 q2 h
    rw [wY_search_2]
    refine pk_le 256 i (fun e => ?_) (fun e => ⟨vp_in_nI e (by omega), nm_r (e' := upd kn i 0) (by rw [nI_clamp (by omega), my_b0]) (nm_r (nI_1 i) ?_)⟩)
    · have h0 : ∀ p, p < 256 → kn p = 0 := fun p hp => h p (by omega)
      refine my_come0 (pc := 0) ha hb (by omega) rfl rfl (h0 _ (by omega)) ⟨257, ?_⟩
      exact my_se37 hok ha hb hp 257 0 (fun _ => 0) (fun _ => 0) 1 _ _ _ _ w (by omega) (by omega) mt_Q_0 (mt_QA_0 ha hb h0)
    · refine ih (i + 1) (upd kn i 0) (by omega) (by omega) (fun p hp => ?_)
      by_cases e2 : p = i
      · rw [e2]
        exact pk_us
      · rw [pk_un e2]
        exact h p (by omega)
theorem my_search {post : Int32 → SY → Prop} {a b : Nat} {fp : Int32} (hok : mt_ok nx) (ha : a < 16) (hb : b < 16) (hp : ∀ n fp ps fr bw kn w, mt_wrd (mt_f nx) ou a b n w → post (nI n) (fp, nx, ou, ps, fr, bw, kn, w)) : wpY_search post (fp, nx, ou, ps, fr, bw, kn, w) (nI a) (nI b) :=
  ⟨257, my_se2 hok ha hb hp 257 0 kn (by omega) (by omega) (fun p hp => absurd hp (Nat.not_lt_zero p))⟩
end
end
section
/-! the asking methods of the reference -/
section
variable {nx ou ps fr bw kn w : Nat → Int32} {fp : Int32}
theorem my_wb {a b n : Nat} {w : Nat → Int32} (hok : mt_ok nx) (ha : a < 16) (hb : b < 16) (h : mt_wrd (mt_f nx) ou a b n w) : n ≤ 15 := by
  rw [h.1]
  exact mt_moore (mt_ok_f hok) ha hb
theorem my_alike {post : Int32 → SY → Prop} {a b : Nat} (hok : mt_ok nx) (ha : a < 16) (hb : b < 16) (h1 : mt_D (mt_f nx) ou a b = 0 → ∀ fp ps fr bw kn w, post 1 (fp, nx, ou, ps, fr, bw, kn, w)) (h0 : mt_D (mt_f nx) ou a b ≠ 0 → ∀ fp ps fr bw kn w, post 0 (fp, nx, ou, ps, fr, bw, kn, w)) : wpY_alike post (fp, nx, ou, ps, fr, bw, kn, w) (nI a) (nI b) := by
  unfold wpY_alike
  dsimp only
  refine my_st ha (br_f (by decide) (my_st hb (br_f (by decide) (my_search hok ha hb (fun n fp ps fr bw kn w hw => ?_)))))
  have hn := my_wb hok ha hb hw
  exact pk_eq n 0 (fun z => h1 (hw.1.symm.trans z) _ _ _ _ _ _) (fun z => h0 (fun q => z (hw.1.trans q)) _ _ _ _ _ _)
theorem my_ki12 {post : Int32 → SY → Prop} {s : Nat} (hok : mt_ok nx) (hs : s < 16) (h : ∀ fp ps fr bw kn w, post (nI (mt_K (mt_f nx) ou s)) (fp, nx, ou, ps, fr, bw, kn, w)) : ∀ n j fp ps fr bw kn w, 16 < n + j → j ≤ mt_K (mt_f nx) ou s → wY_kind_12 post (nI s) n (nI j) fp nx ou ps fr bw kn w := by
  have hk := mt_K_le (mt_f nx) ou s
  have hK := mt_K_is (mt_f nx) ou s
  intro n
  induction n with
  | zero => intro j fp ps fr bw kn w q1 q2; omega
  | succ n ih =>
    intro j fp ps fr bw kn w q1 q2
    rw [wY_kind_12]
    refine pk_le s j (fun e => ?_) (fun e => my_alike hok (by omega) hs (fun z fp ps fr bw kn w => br_f (by decide) ?_) (fun z fp ps fr bw kn w => br_t rfl (nm_r (nI_1 j) ?_)))
    · have ej : j = mt_K (mt_f nx) ou s := by omega
      rw [ej]
      exact h _ _ _ _ _ _
    · have ej : j = mt_K (mt_f nx) ou s := by
        apply Classical.byContradiction
        intro q
        exact hK.2 j (by omega) z
      rw [ej]
      exact h _ _ _ _ _ _
    · have ej : j ≠ mt_K (mt_f nx) ou s := fun q => z (by rw [q]; exact hK.1)
      exact ih (j + 1) _ _ _ _ _ _ (by omega) (by omega)
theorem my_kind {post : Int32 → SY → Prop} {s : Nat} (hok : mt_ok nx) (hs : s < 16) (h : ∀ fp ps fr bw kn w, post (nI (mt_K (mt_f nx) ou s)) (fp, nx, ou, ps, fr, bw, kn, w)) : wpY_kind post (fp, nx, ou, ps, fr, bw, kn, w) (nI s) := by
  unfold wpY_kind
  dsimp only
  exact my_st hs (br_f (by decide) ⟨17, my_ki12 hok hs h 17 0 _ _ _ _ _ _ (by omega) (by omega)⟩)
theorem my_ks4 {post : Int32 → SY → Prop} (hok : mt_ok nx) (h : ∀ fp ps fr bw kn w, post (nI (mt_cb (fun i => decide (mt_K (mt_f nx) ou i = i)) 16)) (fp, nx, ou, ps, fr, bw, kn, w)) : ∀ n s fp ps fr bw kn w, 16 < n + s → s ≤ 16 → wY_kinds_4 post n (nI (mt_cb (fun i => decide (mt_K (mt_f nx) ou i = i)) s)) (nI s) fp nx ou ps fr bw kn w := by
  intro n
  induction n with
  | zero => intro s fp ps fr bw kn w q1 q2; omega
  | succ n ih =>
    intro s fp ps fr bw kn w q1 q2
    rw [wY_kinds_4]
    refine pk_le 16 s (fun e => ?_) (fun e => my_kind hok e (fun fp ps fr bw kn w => ?_))
    · have es : s = 16 := by omega
      rw [es]
      exact h _ _ _ _ _ _
    · have hk := mt_K_le (mt_f nx) ou s
      refine pk_eq (mt_K (mt_f nx) ou s) s (fun z => nm_r (e' := nI (mt_cb (fun i => decide (mt_K (mt_f nx) ou i = i)) (s + 1))) ?_ (nm_r (nI_1 s) (ih (s + 1) _ _ _ _ _ _ (by omega) (by omega)))) (fun z => nm_r (nI_1 s) ?_)
      · rw [nI_1]
        show _ = nI (mt_cb _ s + (decide (mt_K (mt_f nx) ou s = s)).toNat)
        rw [decide_eq_true z]
        rfl
      · have g := ih (s + 1) fp ps fr bw kn w (by omega) (by omega)
        have e2 : mt_cb (fun i => decide (mt_K (mt_f nx) ou i = i)) (s + 1) = mt_cb (fun i => decide (mt_K (mt_f nx) ou i = i)) s := by
          show mt_cb _ s + (decide (mt_K (mt_f nx) ou s = s)).toNat = _
          rw [decide_eq_false z]
          rfl
        rw [e2] at g
        exact g
theorem my_kinds {post : Int32 → SY → Prop} (hok : mt_ok nx) (h : ∀ fp ps fr bw kn w, post (nI (mt_cb (fun i => decide (mt_K (mt_f nx) ou i = i)) 16)) (fp, nx, ou, ps, fr, bw, kn, w)) : wpY_kinds post (fp, nx, ou, ps, fr, bw, kn, w) :=
  ⟨17, my_ks4 hok h 17 0 _ _ _ _ _ _ (by omega) (by omega)⟩
theorem my_r111 {post : Int32 → SY → Prop} {y : Int32} (h : post (nI (mt_cb (bt y) 16)) (fp, nx, ou, ps, fr, bw, kn, w)) : ∀ n s, 16 < n + s → s ≤ 16 → wY_reachableKinds_111 post y fp nx ou ps fr bw kn w n (nI (mt_cb (bt y) s)) (nI s) := by
  intro n
  induction n with
  | zero => intro s q1 q2; omega
  | succ n ih =>
    intro s q1 q2
    rw [wY_reachableKinds_111]
    refine pk_le 16 s (fun e => ?_) (fun e => nm_r (e' := nI (mt_cb (bt y) (s + 1))) ?_ (nm_r (nI_1 s) (ih (s + 1) (by omega) (by omega))))
    · have es : s = 16 := by omega
      rw [es]
      exact h
    · rw [mk_tst y (by omega), nI_add]
      rfl
theorem my_r72 {post : Int32 → SY → Prop} {x : Int32} (hok : mt_ok nx) (h : ∀ fp ps fr bw kn w, post (nI (mt_cb (mt_ks (mt_f nx) ou (bt x) 16) 16)) (fp, nx, ou, ps, fr, bw, kn, w)) : ∀ n s y fp ps fr bw kn w, 16 < n + s → s ≤ 16 → (∀ i, i < 16 → bt y i = mt_ks (mt_f nx) ou (bt x) s i) → wY_reachableKinds_72 post x n y (nI s) fp nx ou ps fr bw kn w := by
  intro n
  induction n with
  | zero => intro s y fp ps fr bw kn w q1 q2; omega
  | succ n ih =>
    intro s y fp ps fr bw kn w q1 q2 hy
    rw [wY_reachableKinds_72]
    refine pk_le 16 s (fun e => ⟨17, ?_⟩) (fun e => ?_)
    · have es : s = 16 := by omega
      rw [es] at hy
      refine my_r111 ?_ 17 0 (by omega) (by omega)
      rw [mt_cb_eq 16 hy]
      exact h _ _ _ _ _ _
    · by_cases hb : bt x s = false
      · refine br_t ((mk_z x (by omega)).mpr hb) (nm_r (nI_1 s) (ih (s + 1) y _ _ _ _ _ _ (by omega) (by omega) (fun i hi => ?_)))
        rw [hy i hi]
        exact (mt_ks_n hb i).symm
      · have ht : bt x s = true := by
          cases q : bt x s with
          | true => rfl
          | false => exact absurd q hb
        have hk : mt_K (mt_f nx) ou s < 16 := by
          have := mt_K_le (mt_f nx) ou s
          omega
        refine br_f (fun z => hb ((mk_z x (by omega)).mp z)) (my_kind hok e (fun fp ps fr bw kn w => nm_e (nm_r (nI_1 s) (ih (s + 1) _ _ _ _ _ _ _ (by omega) (by omega) (fun i hi => ?_)))))
        rw [mk_or y (by omega) (by omega), hy i hi]
        exact (mt_ks_s ht i).symm
theorem my_r25 {post : Int32 → SY → Prop} {J16 : Int32 → Int32 → Prop} {x : Int32} {r : Nat} (hok : mt_ok nx) (h : ∀ y, mt_Rd (mt_f nx) (bt x) (bt y) → J16 y (nI (r + 1))) : ∀ n p y, 48 < n + p → p ≤ 48 → (∀ s, s < 16 → bt x s = true → bt y s = true) → (∀ q, q < p → bt x (q / 3) = true → bt y (mt_f nx q) = true) → (∀ C, mt_cl (mt_f nx) C → (∀ s, s < 16 → bt x s = true → C s = true) → ∀ s, s < 16 → bt y s = true → C s = true) → wY_reachableKinds_25 post J16 (nI r) fp nx ou ps fr bw kn w n y (nI p) := by
  intro n
  induction n with
  | zero => intro p y q1 q2; omega
  | succ n ih =>
    intro p y q1 q2 h1 h2 h3
    rw [wY_reachableKinds_25]
    refine pk_le 48 p (fun e => nm_r (nI_1 r) (h y ⟨h1, fun q hq => h2 q (by omega), h3⟩)) (fun e => ⟨by decide, ?_⟩)
    have ed : nI p / 3 = nI (p / 3) := pk_div (a := p) (d := 3) (by omega) (by omega) (by omega)
    rw [ed]
    by_cases hb : bt y (p / 3) = false
    · refine br_t ((mk_z y (by omega)).mpr hb) (nm_r (nI_1 p) (ih (p + 1) y (by omega) (by omega) h1 (fun q hq hx => ?_) h3))
      by_cases e2 : q = p
      · rw [e2] at hx
        have g := h1 (p / 3) (by omega) hx
        rw [hb] at g
        exact nomatch g
      · exact h2 q (by omega) hx
    · have ht : bt y (p / 3) = true := by
        cases q : bt y (p / 3) with
        | true => rfl
        | false => exact absurd q hb
      have hf := mt_ok_f hok p e
      have hor : ∀ i, i < 16 → bt (y ||| ((1 : Int32) <<< (nI (mt_f nx p) &&& 31))) i = (bt y i || decide (i = mt_f nx p)) := fun i hi => mk_or y (by omega) (by omega)
      refine br_f (fun z => hb ((mk_z y (by omega)).mp z)) ⟨vp_in_nI e (by omega), nm_r (e' := y ||| ((1 : Int32) <<< (nI (mt_f nx p) &&& 31))) ?_ (nm_r (nI_1 p) (ih (p + 1) _ (by omega) (by omega) (fun s hs hx => ?_) (fun q hq hx => ?_) (fun C hC hs s hs2 hx => ?_)))⟩
      · rw [nI_clamp (by omega), mt_ok_e hok e]
      · rw [hor s hs, h1 s hs hx, Bool.true_or]
      · by_cases e2 : q = p
        · rw [e2, hor _ hf, show decide (mt_f nx p = mt_f nx p) = true from decide_eq_true rfl, Bool.or_true]
        · rw [hor _ (mt_ok_f hok q (by omega)), h2 q (by omega) hx, Bool.true_or]
      · rw [hor s hs2] at hx
        by_cases e2 : s = mt_f nx p
        · rw [e2]
          exact hC p e (h3 C hC hs (p / 3) (by omega) ht)
        · rw [decide_eq_false e2, Bool.or_false] at hx
          exact h3 C hC hs s hs2 hx
theorem my_r16 {post : Int32 → SY → Prop} {st : Nat} (hok : mt_ok nx) (hst : st < 16) (h : ∀ y, mt_Rn (mt_f nx) st 16 (bt y) → ∀ fp ps fr bw kn w, post (nI (mt_cb (mt_ks (mt_f nx) ou (bt y) 16) 16)) (fp, nx, ou, ps, fr, bw, kn, w)) : ∀ n r y, 16 < n + r → r ≤ 16 → mt_Rn (mt_f nx) st r (bt y) → wY_reachableKinds_16 post fp nx ou ps fr bw kn w n y (nI r) := by
  intro n
  induction n with
  | zero => intro r y q1 q2; omega
  | succ n ih =>
    intro r y q1 q2 hR
    rw [wY_reachableKinds_16]
    refine pk_le 16 r (fun e => ⟨17, ?_⟩) (fun e => ⟨49, ?_⟩)
    · have er : r = 16 := by omega
      rw [er] at hR
      exact my_r72 hok (h y hR) 17 0 0 _ _ _ _ _ _ (by omega) (by omega) (fun i _ => (b_0 i).trans (mt_ks_0 _ _ _ i).symm)
    · exact my_r25 hok (fun z hz => ih (r + 1) z (by omega) (by omega) (mt_Rn_s (mt_ok_f hok) hst hR hz)) 49 0 y (by omega) (by omega) (fun s _ z => z) (fun q hq => absurd hq (Nat.not_lt_zero q)) (fun C _ hs => hs)
theorem my_de4 {post : Int32 → SY → Prop} (hok : mt_ok nx) (h : ∀ m, mt_mx (mt_f nx) ou m → ∀ fp ps fr bw kn w, post (nI m) (fp, nx, ou, ps, fr, bw, kn, w)) : ∀ n p m fp ps fr bw kn w, 256 < n + p → p ≤ 256 → m ≤ 15 → (∀ q, q < p → q / 16 < q % 16 → mt_D (mt_f nx) ou (q / 16) (q % 16) ≤ m) → (m = 0 ∨ ∃ a b, a < 16 ∧ b < 16 ∧ mt_D (mt_f nx) ou a b = m) → wY_depth_4 post n (nI m) (nI p) fp nx ou ps fr bw kn w := by
  intro n
  induction n with
  | zero => intro p m fp ps fr bw kn w q1 q2; omega
  | succ n ih =>
    intro p m fp ps fr bw kn w q1 q2 q3 h1 h2
    rw [wY_depth_4]
    have key : ∀ a b, a < b → b < 16 → 256 ≤ p → mt_D (mt_f nx) ou a b ≤ m := by
      intro a b hab hb hp
      have g := h1 (a * 16 + b) (by omega)
      rw [show (a * 16 + b) / 16 = a by omega, show (a * 16 + b) % 16 = b by omega] at g
      exact g hab
    refine pk_le 256 p (fun e => h m ⟨fun a b ha hb => ?_, h2⟩ _ _ _ _ _ _) (fun e => ⟨by decide, by decide, ?_⟩)
    · rcases Nat.lt_trichotomy a b with q | q | q
      · exact key a b q hb e
      · rw [q, mt_D_refl]
        omega
      · rw [mt_D_symm]
        exact key b a q ha e
    · have e1 : nI p / 16 = nI (p / 16) := pk_div (a := p) (d := 16) (by omega) (by omega) (by omega)
      have e2 : nI p - nI p / 16 * 16 = nI (p % 16) := pk_rem (a := p) (d := 16) (by omega) (by omega) (by omega)
      rw [e2, e1]
      refine pk_le (p % 16) (p / 16) (fun z => ?_) (fun z => ⟨by decide, by decide, my_search hok (by omega) (by omega) (fun d fp ps fr bw kn w hw => ?_)⟩)
      · unfold wY_depth_38
        refine pk_le 0 m (fun _ => nm_r (nI_1 p) (ih (p + 1) m _ _ _ _ _ _ (by omega) (by omega) q3 (fun q hq hl => ?_) h2)) (fun y => absurd y (by omega))
        by_cases e3 : q = p
        · rw [e3] at hl
          omega
        · exact h1 q (by omega) hl
      · have hd := my_wb hok (by omega) (by omega) hw
        show wY_depth_38 post (wY_depth_4 post n) (nI m) (nI p) (nI d) fp nx ou ps fr bw kn w
        unfold wY_depth_38
        refine pk_le d m (fun y => nm_r (nI_1 p) (ih (p + 1) m _ _ _ _ _ _ (by omega) (by omega) q3 (fun q hq hl => ?_) h2)) (fun y => nm_r (nI_1 p) (ih (p + 1) d _ _ _ _ _ _ (by omega) (by omega) hd (fun q hq hl => ?_) (Or.inr ⟨p / 16, p % 16, by omega, by omega, hw.1.symm⟩)))
        · by_cases e3 : q = p
          · rw [e3, ← hw.1]
            exact y
          · exact h1 q (by omega) hl
        · by_cases e3 : q = p
          · rw [e3, ← hw.1]
            exact Nat.le_refl _
          · have := h1 q (by omega) hl
            omega
theorem my_depth {post : Int32 → SY → Prop} (hok : mt_ok nx) (h : ∀ m, mt_mx (mt_f nx) ou m → ∀ fp ps fr bw kn w, post (nI m) (fp, nx, ou, ps, fr, bw, kn, w)) : wpY_depth post (fp, nx, ou, ps, fr, bw, kn, w) :=
  ⟨257, my_de4 hok h 257 0 0 _ _ _ _ _ _ (by omega) (by omega) (by omega) (fun q hq => absurd hq (Nat.not_lt_zero q)) (Or.inl rfl)⟩
/-! run, side by side -/
theorem mz_run {ap : Nat → Int32} {x : Int32} {N : Nat} (hok : mt_ok nx) (hN : N ≤ 10) : ∀ d t s, t + d = N → s < 16 → ∃ r : Int32, (∀ post : Int32 → Prop, post r → wX_run_28 post x (nI N) nx ou ap (d + 1) (nI s) (nI t)) ∧ (∀ post : Int32 → Prop, post r → wY_run_29 post x (nI N) fp nx ou ps fr bw kn w (d + 1) (nI s) (nI t)) := by
  intro d
  induction d with
  | zero =>
    intro t s ht hs
    refine ⟨nI s, fun post h => ?_, fun post h => ?_⟩
    · rw [wX_run_28]
      exact pk_le N t (fun _ => h) (fun e => absurd e (by omega))
    · rw [wY_run_29]
      exact pk_le N t (fun _ => h) (fun e => absurd e (by omega))
  | succ d ih =>
    intro t s ht hs
    obtain ⟨g, hg, eg⟩ := pk_andE (x >>> ((2 * nI t) &&& 31)) (m := 3) 2 (by decide)
    have hg4 : g < 4 := hg
    by_cases e3 : g = 3
    · have hf := mt_ok_f hok (s * 3 + 0) (by omega)
      obtain ⟨r, hX, hY⟩ := ih (t + 1) (mt_f nx (s * 3 + 0)) (by omega) hf
      have en : nx (nI (s * 3 + 0)).toNatClampNeg = nI (mt_f nx (s * 3 + 0)) := by
        rw [nI_clamp (by omega), mt_ok_e hok (by omega)]
      refine ⟨r, fun post h => ?_, fun post h => ?_⟩
      · rw [wX_run_28]
        refine pk_le N t (fun e => absurd e (by omega)) (fun _ => nm_r eg (pk_eq g 3 (fun _ => ?_) (fun z => absurd e3 z)))
        unfold wX_run_56
        exact mx_place (i := 0) ⟨vp_in_nI (by omega) (by omega), nm_r en (nm_r (nI_1 t) (hX post h))⟩
      · rw [wY_run_29]
        refine pk_le N t (fun e => absurd e (by omega)) (fun _ => nm_r eg (pk_eq g 3 (fun _ => ?_) (fun z => absurd e3 z)))
        have ei : nI s * 3 + 0 = nI (s * 3 + 0) := mx_ix3 s 0
        rw [ei]
        exact ⟨vp_in_nI (by omega) (by omega), nm_r en (nm_r (nI_1 t) (hY post h))⟩
    · have hf := mt_ok_f hok (s * 3 + g) (by omega)
      obtain ⟨r, hX, hY⟩ := ih (t + 1) (mt_f nx (s * 3 + g)) (by omega) hf
      have en : nx (nI (s * 3 + g)).toNatClampNeg = nI (mt_f nx (s * 3 + g)) := by
        rw [nI_clamp (by omega), mt_ok_e hok (by omega)]
      refine ⟨r, fun post h => ?_, fun post h => ?_⟩
      · rw [wX_run_28]
        refine pk_le N t (fun e => absurd e (by omega)) (fun _ => nm_r eg (pk_eq g 3 (fun z => absurd z e3) (fun _ => ?_)))
        unfold wX_run_56
        exact mx_place (i := g) ⟨vp_in_nI (by omega) (by omega), nm_r en (nm_r (nI_1 t) (hX post h))⟩
      · rw [wY_run_29]
        refine pk_le N t (fun e => absurd e (by omega)) (fun _ => nm_r eg (pk_eq g 3 (fun z => absurd z e3) (fun _ => ?_)))
        rw [mx_ix3]
        exact ⟨vp_in_nI (by omega) (by omega), nm_r en (nm_r (nI_1 t) (hY post h))⟩
end
end
section
/-! the relation: the same tables, every next state within, apart the distances; the reference's scratch is free -/
def i_Rel (_ : Nat) (u : SX) (v : SY) : Prop := ∃ nx ou ap fp ps fr bw kn w, u = (nx, ou, ap) ∧ v = (fp, nx, ou, ps, fr, bw, kn, w) ∧ mt_ok nx ∧ mt_Ad (mt_f nx) ou ap
theorem mt_rel {k : Nat} {nx ou ap : Nat → Int32} {fp : Int32} {ps fr bw kn w : Nat → Int32} (h : mt_ok nx) (g : mt_Ad (mt_f nx) ou ap) : i_Rel k (nx, ou, ap) (fp, nx, ou, ps, fr, bw, kn, w) := ⟨nx, ou, ap, fp, ps, fr, bw, kn, w, rfl, rfl, h, g⟩
theorem i_up {k : Nat} {u : SX} {v : SY} (h : i_Rel k u v) : i_Rel (k + 4) u v := h
theorem mt_cs (x : Int32) {n : Nat} (hn : n < 2 ^ 31) : (x < 0 ∨ nI n ≤ x) ∨ ∃ j : Nat, j < n ∧ x = nI j := by
  rcases pk_ix x hn with h | h | h
  · exact Or.inl (Or.inl h)
  · exact Or.inl (Or.inr h)
  · exact Or.inr h
/-! the new objects -/
def mt_n0 (i : Nat) : Nat → Int32 := fun j => if j < i then nI (j / 3) else 0
theorem mt_n0_0 : mt_n0 0 = fun _ => 0 := by
  funext j
  exact if_neg (Nat.not_lt_zero j)
theorem mt_n0_s (i : Nat) : upd (mt_n0 i) i (nI (i / 3)) = mt_n0 (i + 1) := by
  funext j
  by_cases e : j = i
  · rw [e, pk_us]
    exact (if_pos (Nat.lt_succ_self i)).symm
  · rw [pk_un e]
    by_cases h : j < i
    · exact (if_pos h).trans (if_pos (by omega : j < i + 1)).symm
    · exact (if_neg h).trans (if_neg (by omega : ¬ j < i + 1)).symm
theorem mt_n0_ok : mt_ok (mt_n0 48) := fun p hp => ⟨p / 3, by omega, if_pos hp⟩
theorem mt_T_c {f : Nat → Nat} : ∀ n a b, ¬ mt_T f (fun _ => 0) n a b := by
  intro n
  induction n with
  | zero => intro a b h; exact mt_T_z h
  | succ n ih =>
    intro a b h
    rcases mt_T_el h with ⟨_, i, hi, g⟩ | ⟨i, hi, g⟩
    · exact g rfl
    · exact ih _ _ g
theorem mt_n0_Ad : mt_Ad (mt_f (mt_n0 48)) (fun _ => 0) (fun _ => 0) := by
  intro x y _ _
  rw [mt_D_zi (fun n => mt_T_c n x y)]
  exact nI_0.symm
theorem mx_in39 {post : SX → Prop} {J31 : Int32 → (Nat → Int32) → (Nat → Int32) → (Nat → Int32) → Prop} {s : Nat} {ou ap : Nat → Int32} (hs : s < 16) (h : J31 (nI (s + 1)) (mt_n0 ((s + 1) * 3)) ou ap) : ∀ n i, 3 < n + i → i ≤ 3 → wX_init_39 post J31 (nI s) n (nI i) (mt_n0 (s * 3 + i)) ou ap := by
  intro n
  induction n with
  | zero => intro i q1 q2; omega
  | succ n ih =>
    intro i q1 q2
    rw [wX_init_39]
    refine pk_le 3 i (fun e => nm_r (nI_1 s) ?_) (fun e => mx_place ⟨vp_in_nI (by omega) (by omega), nm_r (e' := mt_n0 (s * 3 + (i + 1))) ?_ (nm_r (nI_1 i) (ih (i + 1) (by omega) (by omega)))⟩)
    · have e2 : s * 3 + i = (s + 1) * 3 := by omega
      rw [e2]
      exact h
    · have g := mt_n0_s (s * 3 + i)
      rw [show (s * 3 + i) / 3 = s by omega] at g
      rw [nI_clamp (by omega)]
      exact g
theorem mx_in31 {post : SX → Prop} {ou ap : Nat → Int32} (h : post (mt_n0 48, ou, ap)) : ∀ n s, 16 < n + s → s ≤ 16 → wX_init_31 post n (nI s) (mt_n0 (s * 3)) ou ap := by
  intro n
  induction n with
  | zero => intro s q1 q2; omega
  | succ n ih =>
    intro s q1 q2
    rw [wX_init_31]
    refine pk_le 16 s (fun e => ?_) (fun e => ⟨4, mx_in39 e (ih (s + 1) (by omega) (by omega)) 4 0 (by omega) (by omega)⟩)
    have es : s = 16 := by omega
    rw [es]
    exact h
theorem my_in67 {post : SY → Prop} {fp : Int32} {ou ps fr bw kn w : Nat → Int32} (h : post (fp, mt_n0 48, ou, ps, fr, bw, kn, w)) : ∀ n i, 48 < n + i → i ≤ 48 → wY_init_67 post fp n (nI i) (mt_n0 i) ou ps fr bw kn w := by
  intro n
  induction n with
  | zero => intro i q1 q2; omega
  | succ n ih =>
    intro i q1 q2
    rw [wY_init_67]
    refine pk_le 48 i (fun e => ?_) (fun e => ⟨by decide, vp_in_nI e (by omega), nm_r (e' := mt_n0 (i + 1)) ?_ (nm_r (nI_1 i) (ih (i + 1) (by omega) (by omega)))⟩)
    · have ei : i = 48 := by omega
      rw [ei]
      exact h
    · have ed : nI i / 3 = nI (i / 3) := pk_div (a := i) (d := 3) (by omega) (by omega) (by omega)
      rw [nI_clamp (by omega), ed]
      exact mt_n0_s i
theorem i_vc0 : wpX_init (fun u => wpY_init (fun v => i_Rel 0 u v)) := by
  refine ⟨17, ?_⟩
  rw [← mt_n0_0]
  refine mx_in31 ?_ 17 0 (by omega) (by omega)
  refine ⟨49, ?_⟩
  exact my_in67 (mt_rel mt_n0_ok mt_n0_Ad) 49 0 (by omega) (by omega)
/-! the least word that tells two states apart -/
theorem mt_ex_app : ∀ n z u i, i < 3 → mt_ex n z u → mt_ex (n + 1) z (3 * u + i + 1) := by
  intro n
  induction n with
  | zero =>
    intro z u i hi h
    have e := mt_ex_0 h
    rw [e]
    exact mt_ex_s i hi (mt_ex_00 _)
  | succ n ih =>
    intro z u i hi h
    obtain ⟨j, hj, h⟩ := mt_ex_e h
    exact mt_ex_s j hj (ih _ u i hi h)
theorem mt_ln (v : Nat) : ∃ n, mt_ex n 0 v := by
  induction v using Nat.strongRecOn with
  | ind v ih =>
    by_cases e : v = 0
    · rw [e]
      exact ⟨0, mt_ex_00 0⟩
    · obtain ⟨u, i, hi, ev⟩ := mt_wd v e
      obtain ⟨n, hn⟩ := ih u (by omega)
      rw [ev]
      exact ⟨n + 1, mt_ex_app n 0 u i hi hn⟩
theorem mt_ex_D {f : Nat → Nat} {o : Nat → Int32} {a b v : Nat} (h : mt_fst f o a b v) : mt_ex (mt_D f o a b) 0 v := by
  obtain ⟨n, hn⟩ := mt_ln v
  rw [mt_fst_D h hn]
  exact hn
theorem mt_fst_ex {f : Nat → Nat} {o : Nat → Int32} {a b : Nat} (h : 1 ≤ mt_D f o a b) : ∃ v, mt_fst f o a b v := by
  have t := mt_D_pos h
  have g : ∃ w, mt_tl f o a b w ∧ mt_ex (mt_D f o a b) 0 w := mt_ext _ 0 (by
    rw [mt_go_0, mt_go_0]
    exact t)
  obtain ⟨w, hw, _⟩ := g
  obtain ⟨v, h1, h2⟩ := pk_least (fun w => mt_tl f o a b w) ⟨w, hw⟩
  exact ⟨v, h1, h2⟩
theorem mt_fst_uq {f : Nat → Nat} {o : Nat → Int32} {a b v t : Nat} (h : mt_fst f o a b v) (g : mt_fst f o a b t) : v = t := by
  rcases Nat.lt_trichotomy v t with q | q | q
  · exact absurd h.1 (g.2 v q)
  · exact q
  · exact absurd g.1 (h.2 t q)
end
section
theorem i_vc_transition {k : Nat} {u : SX} {v : SY} (I : i_Rel k u v) (hk : k + 4 ≤ 2048) (v1 : Int32) (v2 : Int32) (v3 : Int32) : wpX_transition (fun r u' => wpY_transition (fun r' v' => r' = r ∧ i_Rel (k + 4) u' v') v v1 v2 v3) u v1 v2 v3 := by
  obtain ⟨nx, ou, ap, fp, ps, fr, bw, kn, w, rfl, rfl, hok, hA⟩ := I
  unfold wpX_transition
  dsimp only
  rcases mt_cs v1 (n := 16) (by omega) with hx | ⟨s, hs, rfl⟩
  · refine mx_st0 hx (br_t rfl ?_)
    unfold wpY_transition
    dsimp only
    exact my_st0 hx (br_t rfl ⟨rfl, mt_rel hok hA⟩)
  · rcases mt_cs v2 (n := 3) (by omega) with hx | ⟨i, hi, rfl⟩
    · refine mx_st hs (br_f (by decide) (mx_in0 hx (br_t rfl ?_)))
      unfold wpY_transition
      dsimp only
      exact my_st hs (br_f (by decide) (my_in0 hx (br_t rfl ⟨rfl, mt_rel hok hA⟩)))
    · have hp : vp_in (nI (s * 3 + i)) 48 := vp_in_nI (by omega) (by omega)
      have c : (nI (s * 3 + i)).toNatClampNeg = s * 3 + i := nI_clamp (by omega)
      obtain ⟨t, ht, et⟩ := pk_andE v3 (m := 15) 4 (by decide)
      have ht' : t < 16 := ht
      refine mx_st hs (br_f (by decide) (mx_in hi (br_f (by decide) (mx_place ?_))))
      rw [c, et]
      refine ⟨hp, hp, nm_e ⟨hp, nm_e ⟨hp, nm_e (mx_measure (mt_ok_u hok ht') (fun ap2 hA2 => ?_))⟩⟩⟩
      unfold wpY_transition
      dsimp only
      refine my_st hs (br_f (by decide) (my_in hi (br_f (by decide) (nm_r (mx_ix3 s i) ?_))))
      rw [c, et]
      exact ⟨hp, hp, nm_e ⟨hp, nm_e ⟨hp, nm_e ⟨rfl, mt_rel (mt_ok_u hok ht') hA2⟩⟩⟩⟩
theorem i_vc_exchange {k : Nat} {u : SX} {v : SY} (I : i_Rel k u v) (hk : k + 4 ≤ 2048) (v1 : Int32) (v2 : Int32) (v3 : Int32) : wpX_exchange (fun r u' => wpY_exchange (fun r' v' => r' = r ∧ i_Rel (k + 4) u' v') v v1 v2 v3) u v1 v2 v3 := by
  obtain ⟨nx, ou, ap, fp, ps, fr, bw, kn, w, rfl, rfl, hok, hA⟩ := I
  unfold wpX_exchange
  dsimp only
  rcases mt_cs v1 (n := 16) (by omega) with hx | ⟨a, ha, rfl⟩
  · refine mx_st0 hx (br_t rfl ?_)
    unfold wpY_exchange
    dsimp only
    exact my_st0 hx (br_t rfl ⟨rfl, mt_rel hok hA⟩)
  · rcases mt_cs v2 (n := 16) (by omega) with hx | ⟨b, hb, rfl⟩
    · refine mx_st ha (br_f (by decide) (mx_st0 hx (br_t rfl ?_)))
      unfold wpY_exchange
      dsimp only
      exact my_st ha (br_f (by decide) (my_st0 hx (br_t rfl ⟨rfl, mt_rel hok hA⟩)))
    · rcases mt_cs v3 (n := 3) (by omega) with hx | ⟨i, hi, rfl⟩
      · refine mx_st ha (br_f (by decide) (mx_st hb (br_f (by decide) (mx_in0 hx (br_t rfl ?_)))))
        unfold wpY_exchange
        dsimp only
        exact my_st ha (br_f (by decide) (my_st hb (br_f (by decide) (my_in0 hx (br_t rfl ⟨rfl, mt_rel hok hA⟩)))))
      · have hp : vp_in (nI (a * 3 + i)) 48 := vp_in_nI (by omega) (by omega)
        have hq : vp_in (nI (b * 3 + i)) 48 := vp_in_nI (by omega) (by omega)
        refine mx_st ha (br_f (by decide) (mx_st hb (br_f (by decide) (mx_in hi (br_f (by decide) (mx_place (mx_place ?_)))))))
        refine ⟨hp, nm_e ⟨hq, hp, nm_e ⟨hq, nm_e (mx_measure hok (fun ap2 hA2 => ?_))⟩⟩⟩
        unfold wpY_exchange
        dsimp only
        refine my_st ha (br_f (by decide) (my_st hb (br_f (by decide) (my_in hi (br_f (by decide) ?_)))))
        rw [mx_ix3, mx_ix3]
        exact ⟨hp, nm_e ⟨hq, hp, nm_e ⟨hq, nm_e ⟨rfl, mt_rel hok hA2⟩⟩⟩⟩
theorem mx_ap {nx ou ap : Nat → Int32} (hA : mt_Ad (mt_f nx) ou ap) {a b : Nat} (ha : a < 16) (hb : b < 16) : ap (nI (a * 16 + b)).toNatClampNeg = nI (mt_D (mt_f nx) ou a b) := by
  rw [nI_clamp (by omega)]
  exact hA a b ha hb
theorem i_vc_alike {k : Nat} {u : SX} {v : SY} (I : i_Rel k u v) (hk : k + 4 ≤ 2048) (v1 : Int32) (v2 : Int32) : wpX_alike (fun r => wpY_alike (fun r' v' => r' = r ∧ i_Rel (k + 4) u v') v v1 v2) u v1 v2 := by
  obtain ⟨nx, ou, ap, fp, ps, fr, bw, kn, w, rfl, rfl, hok, hA⟩ := I
  unfold wpX_alike
  dsimp only
  rcases mt_cs v1 (n := 16) (by omega) with hx | ⟨a, ha, rfl⟩
  · refine mx_st0 hx (br_t rfl ?_)
    unfold wpY_alike
    dsimp only
    exact my_st0 hx (br_t rfl ⟨rfl, mt_rel hok hA⟩)
  · rcases mt_cs v2 (n := 16) (by omega) with hx | ⟨b, hb, rfl⟩
    · refine mx_st ha (br_f (by decide) (mx_st0 hx (br_t rfl ?_)))
      unfold wpY_alike
      dsimp only
      exact my_st ha (br_f (by decide) (my_st0 hx (br_t rfl ⟨rfl, mt_rel hok hA⟩)))
    · have hm := mt_moore (o := ou) (mt_ok_f hok) ha hb
      refine mx_st ha (br_f (by decide) (mx_st hb (br_f (by decide) (mx_pair ⟨vp_in_nI (by omega) (by omega), ?_⟩))))
      refine pk_eq (mt_D (mt_f nx) ou a b) 0 (fun z => ?_) (fun z => ?_) (mx_ap hA ha hb)
      · exact my_alike hok ha hb (fun _ _ _ _ _ _ _ => ⟨rfl, mt_rel hok hA⟩) (fun q => absurd z q)
      · exact my_alike hok ha hb (fun q => absurd q z) (fun _ _ _ _ _ _ _ => ⟨rfl, mt_rel hok hA⟩)
theorem i_vc_distance {k : Nat} {u : SX} {v : SY} (I : i_Rel k u v) (hk : k + 4 ≤ 2048) (v1 : Int32) (v2 : Int32) : wpX_distance (fun r => wpY_distance (fun r' v' => r' = r ∧ i_Rel (k + 4) u v') v v1 v2) u v1 v2 := by
  obtain ⟨nx, ou, ap, fp, ps, fr, bw, kn, w, rfl, rfl, hok, hA⟩ := I
  unfold wpX_distance
  dsimp only
  rcases mt_cs v1 (n := 16) (by omega) with hx | ⟨a, ha, rfl⟩
  · refine mx_st0 hx (br_t rfl ?_)
    unfold wpY_distance
    dsimp only
    exact my_st0 hx (br_t rfl ⟨rfl, mt_rel hok hA⟩)
  · rcases mt_cs v2 (n := 16) (by omega) with hx | ⟨b, hb, rfl⟩
    · refine mx_st ha (br_f (by decide) (mx_st0 hx (br_t rfl ?_)))
      unfold wpY_distance
      dsimp only
      exact my_st ha (br_f (by decide) (my_st0 hx (br_t rfl ⟨rfl, mt_rel hok hA⟩)))
    · have hm := mt_moore (o := ou) (mt_ok_f hok) ha hb
      refine mx_st ha (br_f (by decide) (mx_st hb (br_f (by decide) (mx_pair ⟨vp_in_nI (by omega) (by omega), nm_r (mx_ap hA ha hb) ?_⟩))))
      refine pk_eq (mt_D (mt_f nx) ou a b) 0 (fun z => ?_) (fun z => ?_)
      · unfold wpY_distance
        dsimp only
        refine my_st ha (br_f (by decide) (my_st hb (br_f (by decide) (my_search hok ha hb (fun n fp ps fr bw kn w hw => ?_)))))
        have hn := my_wb hok ha hb hw
        exact pk_eq n 0 (fun _ => ⟨rfl, mt_rel hok hA⟩) (fun q => absurd (hw.1.trans z) q)
      · unfold wpY_distance
        dsimp only
        refine my_st ha (br_f (by decide) (my_st hb (br_f (by decide) (my_search hok ha hb (fun n fp ps fr bw kn w hw => ?_)))))
        have hn := my_wb hok ha hb hw
        exact pk_eq n 0 (fun q => absurd (hw.1.symm.trans q) z) (fun _ => ⟨congrArg nI hw.1, mt_rel hok hA⟩)
theorem i_vc_teller {k : Nat} {u : SX} {v : SY} (I : i_Rel k u v) (hk : k + 4 ≤ 2048) (v1 : Int32) (v2 : Int32) (v3 : Int32) : wpX_teller (fun r => wpY_teller (fun r' v' => r' = r ∧ i_Rel (k + 4) u v') v v1 v2 v3) u v1 v2 v3 := by
  obtain ⟨nx, ou, ap, fp, ps, fr, bw, kn, w, rfl, rfl, hok, hA⟩ := I
  unfold wpX_teller
  dsimp only
  rcases mt_cs v1 (n := 16) (by omega) with hx | ⟨a, ha, rfl⟩
  · refine mx_st0 hx (br_t rfl ?_)
    unfold wpY_teller
    dsimp only
    exact my_st0 hx (br_t rfl ⟨rfl, mt_rel hok hA⟩)
  · rcases mt_cs v2 (n := 16) (by omega) with hx | ⟨b, hb, rfl⟩
    · refine mx_st ha (br_f (by decide) (mx_st0 hx (br_t rfl ?_)))
      unfold wpY_teller
      dsimp only
      exact my_st ha (br_f (by decide) (my_st0 hx (br_t rfl ⟨rfl, mt_rel hok hA⟩)))
    · have hm := mt_moore (o := ou) (mt_ok_f hok) ha hb
      refine mx_st ha (br_f (by decide) (mx_st hb (br_f (by decide) (mx_pair ⟨vp_in_nI (by omega) (by omega), nm_r (mx_ap hA ha hb) ?_⟩))))
      by_cases h3 : v3 < 0
      · refine br_t h3 ?_
        unfold wpY_teller
        dsimp only
        exact my_st ha (br_f (by decide) (my_st hb (br_f (by decide) (my_search hok ha hb (fun n fp ps fr bw kn w hw => br_t h3 ⟨rfl, mt_rel hok hA⟩)))))
      · obtain ⟨i, hi, rfl⟩ := nI_of h3
        refine br_f h3 (pk_lt i (mt_D (mt_f nx) ou a b) (fun z => ?_) (fun z => ?_))
        · obtain ⟨t, ht⟩ := mt_fst_ex (f := mt_f nx) (o := ou) (a := a) (b := b) (by omega)
          have hn := mt_ex_D ht
          refine ⟨i + 1, ?_⟩
          have g := mx_te50 (post := fun r => wpY_teller (fun r' v' => r' = r ∧ i_Rel (k + 4) (nx, ou, ap) v') (fp, nx, ou, ps, fr, bw, kn, w) (nI a) (nI b) (nI i)) hok hA ht ha hb hm z ?_ (i + 1) 0 0 (by omega) (by omega) hn
          · rw [mt_go_0, mt_go_0] at g
            exact g
          · unfold wpY_teller
            dsimp only
            refine my_st ha (br_f (by decide) (my_st hb (br_f (by decide) (my_search hok ha hb (fun n fp ps fr bw kn w hw => ?_)))))
            have hb2 := my_wb hok ha hb hw
            refine br_f h3 (pk_le n i (fun q => absurd z (by rw [← hw.1]; omega)) (fun q => ?_))
            obtain ⟨v2, hv2, hx2, hw2⟩ := hw.2 (by omega)
            have ev : v2 = t := mt_fst_uq hv2 ht
            have e1 : nI n - 1 - nI i = nI (n - 1 - i) := by
              have e0 : nI n - 1 = nI (n - 1) := pk_sub (a := n) (b := 1) (by omega)
              rw [e0, pk_sub (by omega)]
            rw [e1]
            refine ⟨vp_in_nI (by omega) (by omega), ?_, mt_rel hok hA⟩
            rw [nI_clamp (by omega)]
            show w (n - 1 - i) = _
            rw [hw2 _ (by omega), ev, ← hw.1]
        · unfold wpY_teller
          dsimp only
          refine my_st ha (br_f (by decide) (my_st hb (br_f (by decide) (my_search hok ha hb (fun n fp ps fr bw kn w hw => ?_)))))
          have hb2 := my_wb hok ha hb hw
          exact br_f h3 (pk_le n i (fun q => ⟨rfl, mt_rel hok hA⟩) (fun q => absurd q (by rw [hw.1]; omega)))
end
section
theorem i_vc_kind {k : Nat} {u : SX} {v : SY} (I : i_Rel k u v) (hk : k + 4 ≤ 2048) (v1 : Int32) : wpX_kind (fun r => wpY_kind (fun r' v' => r' = r ∧ i_Rel (k + 4) u v') v v1) u v1 := by
  obtain ⟨nx, ou, ap, fp, ps, fr, bw, kn, w, rfl, rfl, hok, hA⟩ := I
  unfold wpX_kind
  dsimp only
  rcases mt_cs v1 (n := 16) (by omega) with hx | ⟨s, hs, rfl⟩
  · refine mx_st0 hx (br_t rfl ?_)
    unfold wpY_kind
    dsimp only
    exact my_st0 hx (br_t rfl ⟨rfl, mt_rel hok hA⟩)
  · exact mx_st hs (br_f (by decide) (mx_small hok hA hs (my_kind hok hs (fun _ _ _ _ _ _ => ⟨rfl, mt_rel hok hA⟩))))
theorem i_vc_kinds {k : Nat} {u : SX} {v : SY} (I : i_Rel k u v) (hk : k + 4 ≤ 2048) : wpX_kinds (fun r => wpY_kinds (fun r' v' => r' = r ∧ i_Rel (k + 4) u v') v) u := by
  obtain ⟨nx, ou, ap, fp, ps, fr, bw, kn, w, rfl, rfl, hok, hA⟩ := I
  unfold wpX_kinds
  dsimp only
  refine mx_count hok hA (my_kinds hok (fun _ _ _ _ _ _ => ⟨?_, mt_rel hok hA⟩))
  refine congrArg nI (mt_cb_eq 16 (fun i hi => ?_))
  exact (mt_ks_all (fun s hs => by rw [b_65535]; exact decide_eq_true hs) hi).symm
theorem i_vc_reachableKinds {k : Nat} {u : SX} {v : SY} (I : i_Rel k u v) (hk : k + 4 ≤ 2048) (v1 : Int32) : wpX_reachableKinds (fun r => wpY_reachableKinds (fun r' v' => r' = r ∧ i_Rel (k + 4) u v') v v1) u v1 := by
  obtain ⟨nx, ou, ap, fp, ps, fr, bw, kn, w, rfl, rfl, hok, hA⟩ := I
  unfold wpX_reachableKinds
  dsimp only
  rcases mt_cs v1 (n := 16) (by omega) with hx | ⟨s, hs, rfl⟩
  · refine mx_st0 hx (br_t rfl ?_)
    unfold wpY_reachableKinds
    dsimp only
    exact my_st0 hx (br_t rfl ⟨rfl, mt_rel hok hA⟩)
  · have h0 : mt_Rn (mt_f nx) s 0 (bt ((1 : Int32) <<< (nI s &&& 31))) := mt_Rn_0 hs (fun i hi => mk_shl s (by omega) i (by omega))
    refine mx_st hs (br_f (by decide) (nm_e ⟨16, mx_rk15 hok hs (fun y hy => mx_count hok hA ?_) 16 0 _ (by omega) (by omega) h0⟩))
    unfold wpY_reachableKinds
    dsimp only
    refine my_st hs (br_f (by decide) (nm_e ⟨17, my_r16 hok hs (fun y2 hy2 _ _ _ _ _ _ => ⟨?_, mt_rel hok hA⟩) 17 0 _ (by omega) (by omega) h0⟩))
    refine congrArg nI (mt_cb_eq 16 (fun i _ => ?_))
    exact mt_ks_eq (fun s2 hs2 => mt_Rn_eq (mt_ok_f hok) (by omega) (by omega) hy2 hy hs2) i
theorem i_vc_depth {k : Nat} {u : SX} {v : SY} (I : i_Rel k u v) (hk : k + 4 ≤ 2048) : wpX_depth (fun r => wpY_depth (fun r' v' => r' = r ∧ i_Rel (k + 4) u v') v) u := by
  obtain ⟨nx, ou, ap, fp, ps, fr, bw, kn, w, rfl, rfl, hok, hA⟩ := I
  exact mx_depth hok hA (fun m hm => my_depth hok (fun m2 hm2 _ _ _ _ _ _ => ⟨congrArg nI (mt_mx_uq hm2 hm), mt_rel hok hA⟩))
theorem i_vc_run {k : Nat} {u : SX} {v : SY} (I : i_Rel k u v) (hk : k + 4 ≤ 2048) (v1 : Int32) (v2 : Int32) (v3 : Int32) : wpX_run (fun r => wpY_run (fun r' => r' = r ∧ i_Rel (k + 4) u v) v v1 v2 v3) u v1 v2 v3 := by
  obtain ⟨nx, ou, ap, fp, ps, fr, bw, kn, w, rfl, rfl, hok, hA⟩ := I
  unfold wpX_run
  dsimp only
  rcases mt_cs v1 (n := 16) (by omega) with hx | ⟨s, hs, rfl⟩
  · refine mx_st0 hx (br_t rfl ?_)
    unfold wpY_run
    dsimp only
    exact my_st0 hx (br_t rfl ⟨rfl, mt_rel hok hA⟩)
  · by_cases h3 : v3 < 0
    · refine mx_st hs (br_f (by decide) (br_t h3 ?_))
      unfold wpY_run
      dsimp only
      exact my_st hs (br_f (by decide) (br_t h3 ⟨rfl, mt_rel hok hA⟩))
    · obtain ⟨n, hn, rfl⟩ := nI_of h3
      refine mx_st hs (br_f (by decide) (br_f h3 (pk_le n 10 (fun z => ?_) (fun z => ?_))))
      · obtain ⟨r, hX, hY⟩ := mz_run (ou := ou) (ps := ps) (fr := fr) (bw := bw) (kn := kn) (w := w) (fp := fp) (ap := ap) (x := v2) hok z n 0 s (by omega) hs
        refine ⟨n + 1, hX _ ?_⟩
        unfold wpY_run
        dsimp only
        exact my_st hs (br_f (by decide) (br_f h3 (pk_le n 10 (fun _ => ⟨n + 1, hY _ ⟨rfl, mt_rel hok hA⟩⟩) (fun q => absurd z (by omega)))))
      · unfold wpY_run
        dsimp only
        exact my_st hs (br_f (by decide) (br_f h3 (pk_le n 10 (fun q => absurd z (by omega)) (fun _ => ⟨rfl, mt_rel hok hA⟩))))
end
