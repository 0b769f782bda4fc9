section
theorem pk_us {f : Nat → Int32} {k : Nat} {x : Int32} : upd f k x k = x := if_pos rfl
theorem pk_un {f : Nat → Int32} {k j : Nat} {x : Int32} (h : j ≠ k) : upd f k x j = f j := if_neg h
theorem pk_uLs {f : Nat → Int64} {k : Nat} {x : Int64} : vp_updL f k x k = x := if_pos rfl
theorem pk_uLn {f : Nat → Int64} {k j : Nat} {x : Int64} (h : j ≠ k) : vp_updL f k x j = f j := if_neg h
theorem pk_sub {a b : Nat} (h : b ≤ a) : nI a - nI b = nI (a - b) := by
  obtain ⟨c, rfl⟩ : ∃ c, a = c + b := ⟨a - b, by omega⟩
  rw [← nI_add, Int32.add_sub_cancel, Nat.add_sub_cancel]
theorem pk_m1 (n : Nat) : nI (n + 1) + (-1) = nI n := by
  rw [← nI_1, Int32.add_assoc, show (1 : Int32) + (-1) = 0 from rfl, Int32.add_zero]
theorem pk_mul (a b : Nat) : nI a * nI b = nI (a * b) := (Int32.ofNat_mul a b).symm
theorem pk_div {a d : Nat} (ha : a < 2 ^ 31) (h0 : 0 < d) (hd : d < 2 ^ 31) : nI a / nI d = nI (a / d) := by
  apply Int32.toInt_inj.mp
  rw [lg_idiv_nonneg (by rw [nI_toInt ha]; omega) (by rw [nI_toInt hd]; omega), nI_toInt ha, nI_toInt hd, nI_toInt (Nat.lt_of_le_of_lt (Nat.div_le_self a d) ha)]
  first | rfl | exact (Int.natCast_ediv _ _).symm
theorem pk_rem {a d : Nat} (ha : a < 2 ^ 31) (h0 : 0 < d) (hd : d < 2 ^ 31) : nI a - nI a / nI d * nI d = nI (a % d) := by
  rw [pk_div ha h0 hd, pk_mul, pk_sub (Nat.div_mul_le_self a d)]
  exact congrArg nI (by have := Nat.div_add_mod' a d; omega)
theorem pk_sub_toInt {a b : Nat} (ha : a < 2 ^ 30) (hb : b < 2 ^ 30) : (nI a - nI b).toInt = (a : Int) - b := by
  rw [Int32.toInt_sub, nI_toInt (by omega), nI_toInt (by omega)]
  exact Int.bmod_eq_of_le (by omega) (by omega)
theorem pk_sneg {a b : Nat} (hb : b < 2 ^ 30) (h : a < b) : nI a - nI b < 0 := by
  rw [Int32.lt_iff_toInt_lt, pk_sub_toInt (by omega) hb, show (0 : Int32).toInt = 0 from by decide]
  omega
theorem pk_ix (x : Int32) {n : Nat} (hn : n < 2 ^ 31) : x < 0 ∨ nI n ≤ x ∨ ∃ j : Nat, j < n ∧ x = nI j := by
  by_cases h : x < 0
  · exact Or.inl h
  · obtain ⟨j, hj, rfl⟩ := nI_of h
    by_cases h2 : j < n
    · exact Or.inr (Or.inr ⟨j, h2, rfl⟩)
    · exact Or.inr (Or.inl (nI_le (by omega) hj))
theorem pk_le {x y : Int32} {A B : Prop} (a b : Nat) (f : a ≤ b → A) (g : b < a → B) (hx : x = nI a := by rfl) (hy : y = nI b := by rfl) (ha : a < 2 ^ 31 := by omega) (hb : b < 2 ^ 31 := by omega) : (x ≤ y → A) ∧ (¬ x ≤ y → B) := by
  subst hx hy
  rw [nI_leI ha hb]
  exact ⟨f, fun z => g (by omega)⟩
theorem pk_lt {x y : Int32} {A B : Prop} (a b : Nat) (f : a < b → A) (g : b ≤ a → B) (hx : x = nI a := by rfl) (hy : y = nI b := by rfl) (ha : a < 2 ^ 31 := by omega) (hb : b < 2 ^ 31 := by omega) : (x < y → A) ∧ (¬ x < y → B) := by
  subst hx hy
  rw [nI_ltI ha hb]
  exact ⟨f, fun z => g (by omega)⟩
theorem pk_eq {x y : Int32} {A B : Prop} (a b : Nat) (f : a = b → A) (g : a ≠ b → B) (hx : x = nI a := by rfl) (hy : y = nI b := by rfl) (ha : a < 2 ^ 31 := by omega) (hb : b < 2 ^ 31 := by omega) : (x = y → A) ∧ (¬ x = y → B) := by
  subst hx hy
  rw [nI_eq ha hb]
  exact ⟨f, g⟩
theorem pk_in {x : Int32} (n N : Nat) (h : n < N) (hx : x = nI n := by rfl) (hN : N < 2 ^ 31 := by omega) : vp_in x N := by
  subst hx
  exact vp_in_nI h hN
theorem pk_cl {x : Int32} (n : Nat) (hx : x = nI n := by rfl) (h : n < 2 ^ 31 := by omega) : x.toNatClampNeg = n := by
  subst hx
  exact nI_clamp h
theorem pk_tn {n : Nat} (h : n < 2 ^ 32) : (nI n).toBitVec.toNat = n := Nat.mod_eq_of_lt h
theorem pk_and (x : Int32) {m : Int32} (k : Nat) (hm : m.toBitVec.toNat = 2 ^ k - 1) : x &&& m = nI (x.toBitVec.toNat % 2 ^ k) := by
  apply Int32.toBitVec_inj.mp
  apply BitVec.eq_of_toNat_eq
  rw [Int32.toBitVec_and, BitVec.toNat_and, hm, Nat.and_two_pow_sub_one_eq_mod]
  show _ = (BitVec.ofNat 32 _).toNat
  rw [BitVec.toNat_ofNat]
  exact (Nat.mod_eq_of_lt (Nat.lt_of_le_of_lt (Nat.mod_le _ _) x.toBitVec.isLt)).symm
theorem pk_andN {n : Nat} (h : n < 2 ^ 32) {m : Int32} (k : Nat) (hm : m.toBitVec.toNat = 2 ^ k - 1) : nI n &&& m = nI (n % 2 ^ k) := by
  rw [pk_and _ k hm, pk_tn h]
theorem pk_andE (x : Int32) {m : Int32} (k : Nat) (hm : m.toBitVec.toNat = 2 ^ k - 1) : ∃ j : Nat, j < 2 ^ k ∧ x &&& m = nI j := ⟨_, Nat.mod_lt _ (Nat.two_pow_pos k), pk_and x k hm⟩
theorem pk_andIn (x : Int32) {m : Int32} (k : Nat) (hm : m.toBitVec.toNat = 2 ^ k - 1) (hk : k ≤ 30) : vp_in (x &&& m) (2 ^ k) := by
  obtain ⟨j, hj, e⟩ := pk_andE x k hm
  rw [e]
  exact vp_in_nI hj (Nat.lt_of_le_of_lt (Nat.pow_le_pow_right (by decide) hk) (by decide))
theorem pk_shl (a s : Int32) (k : Nat) (hs : (s.toBitVec.smod 32).toNat = k) : (a <<< s).toBitVec.toNat = a.toBitVec.toNat * 2 ^ k % 2 ^ 32 := by
  show (a.toBitVec <<< (s.toBitVec.smod 32).toNat).toNat = _
  rw [hs, BitVec.toNat_shiftLeft, Nat.shiftLeft_eq]
theorem pk_shlN {n : Nat} (s : Int32) (k : Nat) (hs : (s.toBitVec.smod 32).toNat = k) (h : n * 2 ^ k < 2 ^ 32) : nI n <<< s = nI (n * 2 ^ k) := by
  apply Int32.toBitVec_inj.mp
  apply BitVec.eq_of_toNat_eq
  have hn : n < 2 ^ 32 := Nat.lt_of_le_of_lt (Nat.le_mul_of_pos_right n (Nat.two_pow_pos k)) h
  rw [pk_shl _ _ k hs, pk_tn hn, pk_tn h, Nat.mod_eq_of_lt h]
theorem pk_shr (a s : Int32) (k : Nat) (hs : (s.toBitVec.smod 32).toNat = k) : (a >>> s).toInt = a.toInt >>> k := by
  show (a.toBitVec.sshiftRight (s.toBitVec.smod 32).toNat).toInt = _
  rw [hs, BitVec.toInt_sshiftRight]
  rfl
theorem pk_shrN {n : Nat} (h : n < 2 ^ 31) (s : Int32) (k : Nat) (hs : (s.toBitVec.smod 32).toNat = k) : nI n >>> s = nI (n / 2 ^ k) := by
  apply Int32.toInt_inj.mp
  have h2 : n / 2 ^ k ≤ n := Nat.div_le_self _ _
  rw [pk_shr _ _ k hs, nI_toInt h, nI_toInt (by omega), Int.shiftRight_eq_div_pow]
  rfl
theorem pk_ushr (x s : Int32) (k : Nat) (hs : ((s.toUInt32 &&& Int32.toUInt32 31).toBitVec % 32).toNat = k) : (x.toUInt32 >>> (s.toUInt32 &&& Int32.toUInt32 31)).toInt32.toBitVec.toNat = x.toBitVec.toNat / 2 ^ k := by
  have e : (x.toUInt32 >>> (s.toUInt32 &&& Int32.toUInt32 31)).toInt32.toBitVec = x.toBitVec >>> k := by
    rw [← hs]
    exact UInt32.toBitVec_shiftRight _ _
  rw [e, BitVec.toNat_ushiftRight, Nat.shiftRight_eq_div_pow]
theorem pk_ushrN {n : Nat} (hn : n < 2 ^ 32) (s : Int32) (k : Nat) (hs : ((s.toUInt32 &&& Int32.toUInt32 31).toBitVec % 32).toNat = k) : ((nI n).toUInt32 >>> (s.toUInt32 &&& Int32.toUInt32 31)).toInt32 = nI (n / 2 ^ k) := by
  apply Int32.toBitVec_inj.mp
  apply BitVec.eq_of_toNat_eq
  rw [pk_ushr _ s k hs, pk_tn hn, pk_tn (Nat.lt_of_le_of_lt (Nat.div_le_self _ _) hn)]
theorem pk_loop {σ : Type} (W : Nat → Nat → σ → Prop) (I : Nat → σ → Prop) (e i0 : Nat) (s : σ) (hi : i0 ≤ e) (h0 : I i0 s) (hx : ∀ n s, I e s → W (n + 1) e s)
    (hs : ∀ n i s, i < e → I i s → (∀ s', I (i + 1) s' → W n (i + 1) s') → W (n + 1) i s) : ∃ n, W n i0 s :=
  ⟨e + 1, loop_i W I e hx hs (e + 1) i0 s hi (by omega) h0⟩
theorem pk_loopD {σ : Type} (W : Nat → Nat → σ → Prop) (I : Nat → σ → Prop) (hx : ∀ n s, I 0 s → W (n + 1) 0 s)
    (hs : ∀ n i s, I (i + 1) s → (∀ s', I i s' → W n i s') → W (n + 1) (i + 1) s) : ∀ (e : Nat) (s : σ), I e s → W (e + 1) e s := by
  intro e
  induction e with
  | zero => exact fun s h => hx 0 s h
  | succ e ih => exact fun s h => hs (e + 1) e s h (fun s' h' => ih s' h')
theorem ek_if {c d A B : Prop} (e : c ↔ d) (f : d → A) (g : ¬ d → B) : (c → A) ∧ (¬ c → B) :=
  ⟨fun z => f (e.mp z), fun z => g (fun y => z (e.mpr y))⟩
theorem ek_v {α : Sort _} {P : α → Prop} {a b : α} (e : a = b) (h : P b) : P a := e ▸ h
/-! ===== Int32 by its bits: bt x i ===== -/
def bt (x : Int32) (i : Nat) : Bool := x.toBitVec.getLsbD i
theorem b_ext {x y : Int32} (h : ∀ i, i < 32 → bt x i = bt y i) : x = y := Int32.toBitVec_inj.mp (BitVec.eq_of_getLsbD_eq (fun i hi => h i hi))
theorem b_or (x y : Int32) (i : Nat) : bt (x ||| y) i = (bt x i || bt y i) := by unfold bt; rw [Int32.toBitVec_or, BitVec.getLsbD_or]
theorem b_and (x y : Int32) (i : Nat) : bt (x &&& y) i = (bt x i && bt y i) := by unfold bt; rw [Int32.toBitVec_and, BitVec.getLsbD_and]
theorem b_xor (x y : Int32) (i : Nat) : bt (x ^^^ y) i = (bt x i ^^ bt y i) := by unfold bt; rw [Int32.toBitVec_xor, BitVec.getLsbD_xor]
theorem b_big {x : Int32} {i : Nat} (h : 32 ≤ i) : bt x i = false := BitVec.getLsbD_of_ge _ _ h
theorem b_255 (i : Nat) : bt 255 i = decide (i < 8) := by
  rcases Nat.lt_or_ge i 32 with h | h
  · exact (by decide +kernel : ∀ i, i < 32 → bt 255 i = decide (i < 8)) i h
  · rw [b_big h, decide_eq_false (by omega)]
theorem b_65535 (i : Nat) : bt 65535 i = decide (i < 16) := by
  rcases Nat.lt_or_ge i 32 with h | h
  · exact (by decide +kernel : ∀ i, i < 32 → bt 65535 i = decide (i < 16)) i h
  · rw [b_big h, decide_eq_false (by omega)]
theorem b_m1 : ∀ i, i < 32 → bt (-1) i = true := by decide +kernel
theorem b_0 (i : Nat) : bt 0 i = false := BitVec.getLsbD_zero
theorem s_l : ∀ n, n < 32 → ((nI n &&& 31).toBitVec.smod 32).toNat = n := by decide +kernel
theorem s_u : ∀ n, n < 32 → (((nI n).toUInt32 &&& Int32.toUInt32 31).toBitVec % 32).toNat = n := by decide +kernel
theorem b_shl (n : Nat) (hn : n < 32) (x : Int32) {i : Nat} (hi : i < 32) : bt (x <<< (nI n &&& 31)) i = (decide (n ≤ i) && bt x (i - n)) := by
  unfold bt
  rw [Int32.toBitVec_shiftLeft]
  show (x.toBitVec <<< ((nI n &&& 31).toBitVec.smod 32).toNat).getLsbD i = _
  rw [s_l n hn, BitVec.getLsbD_shiftLeft]
  rcases Nat.lt_or_ge i n with h | h
  · simp [h, Nat.not_le.mpr h]
  · simp [hi, h, Nat.not_lt.mpr h]
theorem b_ushr (n : Nat) (hn : n < 32) (x : Int32) (i : Nat) : bt ((x.toUInt32 >>> ((nI n).toUInt32 &&& Int32.toUInt32 31)).toInt32) i = bt x (n + i) := by
  show (x.toUInt32 >>> ((nI n).toUInt32 &&& Int32.toUInt32 31)).toBitVec.getLsbD i = x.toUInt32.toBitVec.getLsbD (n + i)
  rw [UInt32.toBitVec_shiftRight]
  show (x.toUInt32.toBitVec >>> (((nI n).toUInt32 &&& Int32.toUInt32 31).toBitVec % 32).toNat).getLsbD i = _
  rw [s_u n hn, BitVec.getLsbD_ushiftRight]
theorem b_sshr (n : Nat) (hn : n < 32) (x : Int32) {i : Nat} (hi : i < 32) : bt (x >>> (nI n &&& 31)) i = if n + i < 32 then bt x (n + i) else bt x 31 := by
  unfold bt
  rw [Int32.toBitVec_shiftRight]
  show (x.toBitVec.sshiftRight ((nI n &&& 31).toBitVec.smod 32).toNat).getLsbD i = _
  rw [s_l n hn, BitVec.getLsbD_sshiftRight, BitVec.msb_eq_getLsbD_last]
  simp [hi]
/-! ===== nI under and, xor, >>>, one bit, 65535 ===== -/
theorem nx_and (a b : Nat) : nI a &&& nI b = nI (a &&& b) := by
  apply Int32.toBitVec_inj.1
  show BitVec.ofNat 32 a &&& BitVec.ofNat 32 b = BitVec.ofNat 32 (a &&& b)
  apply BitVec.eq_of_getLsbD_eq
  intro i hi
  simp [hi]
theorem nx_xor (a b : Nat) : nI a ^^^ nI b = nI (a ^^^ b) := by
  apply Int32.toBitVec_inj.1
  show BitVec.ofNat 32 a ^^^ BitVec.ofNat 32 b = BitVec.ofNat 32 (a ^^^ b)
  apply BitVec.eq_of_getLsbD_eq
  intro i hi
  simp [hi]
theorem wb_of32 (x : Int32) : ∃ n, n < 2 ^ 32 ∧ x = nI n := ⟨x.toBitVec.toNat, x.toBitVec.isLt, Int32.toBitVec_inj.mp (by show _ = BitVec.ofNat 32 _; simp)⟩
theorem ts_nf {x : Bool} (h : ¬ x = false) : x = true := by cases x <;> first | rfl | exact absurd rfl h
theorem ts_nt {x : Bool} (h : ¬ x = true) : x = false := by cases x <;> first | rfl | exact absurd rfl h
theorem ts_bit {w : Int64} {s : UInt64} {j : Nat} (hj : j < 64) (hs : s.toNat = j) : ((w.toUInt64 >>> s).toInt64 &&& 1) = 0 ↔ w.toBitVec.getLsbD j = false := by
  have e : (w.toUInt64 >>> s).toInt64.toBitVec = w.toBitVec >>> j := by
    apply BitVec.eq_of_toNat_eq
    show (w.toUInt64 >>> s).toNat = _
    rw [UInt64.toNat_shiftRight, hs, Nat.mod_eq_of_lt hj, BitVec.toNat_ushiftRight]
    rfl
  rw [← Int64.toBitVec_inj, Int64.toBitVec_and, e]
  show w.toBitVec >>> j &&& 1#64 = 0#64 ↔ _
  constructor
  · intro h
    have t := congrArg (fun x => x.getLsbD 0) h
    simpa using t
  · intro h
    apply BitVec.eq_of_getLsbD_eq
    intro i hi
    cases i with
    | zero => simp [h]
    | succ i => simp
theorem wb_inj {a b : Int64} (h : a.toBitVec = b.toBitVec) : a = b := Int64.toBitVec_inj.mp h
theorem wb_c : ∀ k, k < 64 → ((nI k).toInt64 &&& 63) = lN k := by decide +kernel
theorem wb_cu : ∀ k, k < 64 → ((nI k).toInt64.toUInt64 &&& Int64.toUInt64 63) = UInt64.ofNat k := by decide +kernel
end
section
/-! pure: numbers, bits, rules, the game -/
def qg_b (b : Bool) : Int32 := if b = true then 1 else 0
theorem qg_b_t : qg_b true = 1 := rfl
theorem qg_b_f : qg_b false = 0 := rfl
theorem qg_b_1 (b : Bool) : qg_b b = 1 ↔ b = true := by cases b <;> decide
theorem qg_b_0 (b : Bool) : qg_b b = 0 ↔ b = false := by cases b <;> decide
theorem qg_b_i (a b : Bool) : qg_b a = qg_b b ↔ a = b := by cases a <;> cases b <;> decide
def qg_pop (s : Nat) : Nat → Nat
  | 0 => 0
  | v + 1 => qg_pop s v + s / 2 ^ v % 2
theorem qg_bit (s v : Nat) : s / 2 ^ v % 2 = if s.testBit v = true then 1 else 0 := by
  rw [Nat.testBit_eq_decide_div_mod_eq]
  by_cases h : s / 2 ^ v % 2 = 1
  · rw [decide_eq_true h, if_pos rfl]; exact h
  · have h2 : s / 2 ^ v % 2 < 2 := Nat.mod_lt _ (by decide)
    rw [decide_eq_false h, if_neg (by decide)]
    generalize s / 2 ^ v % 2 = z at *
    omega
theorem qg_tb (s v : Nat) : s.testBit v = true ↔ s / 2 ^ v % 2 = 1 := by
  rw [Nat.testBit_eq_decide_div_mod_eq, decide_eq_true_eq]
theorem qg_pop_le (s : Nat) : ∀ v, qg_pop s v ≤ v
  | 0 => Nat.le_refl _
  | v + 1 => by
    have h := qg_pop_le s v
    have h2 : s / 2 ^ v % 2 < 2 := Nat.mod_lt _ (by decide)
    show qg_pop s v + s / 2 ^ v % 2 ≤ v + 1
    generalize s / 2 ^ v % 2 = z at *
    omega
theorem qg_pop_half : ∀ s, s < 256 → qg_pop s 8 = qg_pop (s / 2) 8 + s % 2 := by decide +kernel
theorem qg_pop_z : ∀ s, s < 256 → (qg_pop s 8 = 0 ↔ s = 0) := by decide +kernel
def qg_cb (s m v : Nat) : Nat := if (s.testBit v && m.testBit v) = true then 1 else 0
theorem qg_pop_s (s m v : Nat) : qg_pop (s &&& m) (v + 1) = qg_pop (s &&& m) v + qg_cb s m v := by
  show qg_pop (s &&& m) v + (s &&& m) / 2 ^ v % 2 = _
  rw [qg_bit, Nat.testBit_and]
  rfl
theorem qg_and_lt {a b : Nat} (h : a < 256) : a &&& b < 256 := Nat.lt_of_le_of_lt Nat.and_le_left h
theorem qg_pop_al (p m : Nat) : ∀ v, qg_pop (p &&& m) v ≤ qg_pop p v
  | 0 => Nat.le_refl _
  | v + 1 => by
    have h := qg_pop_al p m v
    rw [qg_pop_s]
    show _ ≤ qg_pop p v + p / 2 ^ v % 2
    rw [qg_bit]
    unfold qg_cb
    cases p.testBit v <;> cases m.testBit v <;> simp <;> omega
theorem qg_pop_ae (p m : Nat) : ∀ v, qg_pop p v ≤ qg_pop (p &&& m) v ↔ ∀ u, u < v → p.testBit u = true → m.testBit u = true
  | 0 => ⟨fun _ u hu => absurd hu (Nat.not_lt_zero u), fun _ => Nat.le_refl _⟩
  | v + 1 => by
    have ih := qg_pop_ae p m v
    have hl := qg_pop_al p m v
    have e2 : qg_pop p (v + 1) = qg_pop p v + (if p.testBit v = true then 1 else 0) := by
      show qg_pop p v + p / 2 ^ v % 2 = _
      rw [qg_bit]
    rw [qg_pop_s, e2]
    unfold qg_cb
    constructor
    · intro h u hu hp
      by_cases hz : p.testBit v = true ∧ m.testBit v = false
      · rw [hz.1, hz.2] at h
        simp at h
        omega
      · have h2 : qg_pop p v ≤ qg_pop (p &&& m) v := by
          revert h hz
          cases p.testBit v <;> cases m.testBit v <;> simp <;> omega
        rcases Nat.lt_or_ge u v with z | z
        · exact ih.mp h2 u z hp
        · have e : u = v := by omega
          subst e
          cases hm : m.testBit u with
          | true => rfl
          | false => exact absurd ⟨hp, hm⟩ hz
    · intro h
      have h2 := ih.mpr (fun u hu => h u (by omega))
      have h3 := h v (by omega)
      revert h3
      cases p.testBit v <;> cases m.testBit v <;> simp <;> omega
theorem qg_hi {x u : Nat} (h : x < 256) (hu : 8 ≤ u) : x.testBit u = false :=
  Nat.testBit_lt_two_pow (Nat.lt_of_lt_of_le h (Nat.pow_le_pow_right (n := 2) (by decide) hu))
theorem qg_sub {P m : Nat} (hP : P < 256) : (P &&& m = P) ↔ qg_pop P 8 ≤ qg_pop (P &&& m) 8 := by
  rw [qg_pop_ae]
  constructor
  · intro h u _ hp
    have e : (P &&& m).testBit u = true := by rw [h]; exact hp
    rw [Nat.testBit_and, hp] at e
    simpa using e
  · intro h
    apply Nat.eq_of_testBit_eq
    intro u
    rw [Nat.testBit_and]
    rcases Nat.lt_or_ge u 8 with z | z
    · have h2 := h u z
      revert h2
      cases P.testBit u <;> cases m.testBit u <;> simp
    · rw [qg_hi hP z]; rfl
theorem qg_bt (n : Nat) {i : Nat} (hi : i < 32) : bt (nI n) i = n.testBit i := by
  unfold bt
  show (BitVec.ofNat 32 n).getLsbD i = _
  rw [BitVec.getLsbD_ofNat]
  simp [hi]
theorem qg_com {Q m : Nat} (hQ : Q < 256) : ((nI m ^^^ (-1)) &&& nI Q = 0) ↔ qg_pop Q 8 ≤ qg_pop (Q &&& m) 8 := by
  rw [qg_pop_ae]
  constructor
  · intro h u hu hq
    have e : bt ((nI m ^^^ (-1)) &&& nI Q) u = false := by rw [h]; exact b_0 u
    rw [b_and, b_xor, qg_bt m (by omega), qg_bt Q (by omega), b_m1 u (by omega), hq] at e
    revert e
    cases m.testBit u <;> simp
  · intro h
    apply b_ext
    intro i hi
    rw [b_and, b_xor, qg_bt m hi, qg_bt Q hi, b_m1 i hi, b_0]
    rcases Nat.lt_or_ge i 8 with z | z
    · have h2 := h i z
      revert h2
      cases Q.testBit i <;> cases m.testBit i <;> simp
    · rw [qg_hi hQ z]; simp
theorem qg_nI0 {n : Nat} (h : n < 256) : nI n = 0 ↔ qg_pop n 8 = 0 := by
  rw [← nI_0, nI_eq (by omega) (by omega), qg_pop_z n h]
/-! one rule -/
def qg_rn (K P Q m : Nat) : Bool :=
  if K = 0 then (decide (¬ qg_pop (P &&& m) 8 = 0) || decide (¬ qg_pop Q 8 ≤ qg_pop (Q &&& m) 8))
  else if K = 1 then decide (qg_pop (P &&& m) 8 % 2 = Q)
  else if K = 2 then decide (qg_pop (P &&& m) 8 ≤ Q)
  else (decide (qg_pop (P &&& m) 8 = 0) || decide (qg_pop P 8 ≤ qg_pop (P &&& m) 8))
def qg_rh (kd p q : Int32) (m : Nat) : Bool := qg_rn kd.toBitVec.toNat p.toBitVec.toNat q.toBitVec.toNat m
def qg_ok (kd p q : Int32) : Prop := ∃ K P Q : Nat, kd = nI K ∧ p = nI P ∧ q = nI Q ∧ K < 4 ∧ P < 256 ∧ Q < 2 ^ 32 ∧ (K = 0 → Q < 256) ∧ (K = 1 → Q < 2) ∧ (K = 2 → Q < 5)
theorem qg_rh_n {K P Q m : Nat} (hK : K < 4) (hP : P < 256) (hQ : Q < 2 ^ 32) : qg_rh (nI K) (nI P) (nI Q) m = qg_rn K P Q m := by
  unfold qg_rh
  rw [pk_tn (by omega), pk_tn (by omega), pk_tn hQ]
/-! a set of rules -/
def qg_sel (mask : Int32) (i : Nat) : Bool := decide ((mask >>> (nI i &&& 31)) &&& 1 = 1)
theorem qg_a1 (x : Int32) : x &&& 1 = 1 ↔ bt x 0 = true := by
  have e : bt x 0 = decide (x.toBitVec.toNat % 2 = 1) := by
    unfold bt
    rw [BitVec.getLsbD, Nat.testBit_zero]
  rw [pk_and x 1 (by decide), e, decide_eq_true_eq]
  exact nI_eq (b := 1) (by omega) (by decide)
theorem qg_sel_bt (mask : Int32) {i : Nat} (hi : i < 32) : qg_sel mask i = bt mask i := by
  unfold qg_sel
  have e := b_sshr i hi mask (i := 0) (by decide)
  rw [if_pos (by omega), Nat.add_zero] at e
  rw [← e]
  cases h : bt (mask >>> (nI i &&& 31)) 0 with
  | true => exact decide_eq_true ((qg_a1 _).mpr h)
  | false => exact decide_eq_false (fun z => by rw [(qg_a1 _).mp z] at h; cases h)
def qg_H (kd p q : Nat → Int32) (c : Nat) (mask : Int32) (m : Nat) : Bool :=
  decide (∀ i, i < c → qg_sel mask i = true → qg_rh (kd i) (p i) (q i) m = true)
theorem qg_H_mono {kd p q : Nat → Int32} {c : Nat} {m1 m2 : Int32} {m : Nat} (h : ∀ i, i < c → qg_sel m2 i = true → qg_sel m1 i = true) (h1 : qg_H kd p q c m1 m = true) : qg_H kd p q c m2 m = true := by
  unfold qg_H at *
  rw [decide_eq_true_eq] at *
  exact fun i hi hs => h1 i hi (h i hi hs)
/-! the game -/
def qg_W (own : Nat → Int32) (H : Nat → Bool) : Nat → Nat → Bool
  | 0, x => H x
  | d + 1, x => if own (7 - d) = 0 then (qg_W own H d x || qg_W own H d (x + 2 ^ (7 - d))) else (qg_W own H d x && qg_W own H d (x + 2 ^ (7 - d)))
def qg_V (own : Nat → Int32) (H : Nat → Bool) (k x : Nat) : Bool := qg_W own H (8 - k) x
theorem qg_V8 (own : Nat → Int32) (H : Nat → Bool) (x : Nat) : qg_V own H 8 x = H x := rfl
theorem qg_Vk {own : Nat → Int32} {H : Nat → Bool} {k x : Nat} (hk : k < 8) : qg_V own H k x = if own k = 0 then (qg_V own H (k + 1) x || qg_V own H (k + 1) (x + 2 ^ k)) else (qg_V own H (k + 1) x && qg_V own H (k + 1) (x + 2 ^ k)) := by
  unfold qg_V
  have e : 8 - k = (8 - (k + 1)) + 1 := by omega
  have e2 : 7 - (8 - (k + 1)) = k := by omega
  rw [e, qg_W, e2]
/-! the search -/
def qg_rev (y : Nat) : Nat := y % 2 * 128 + y / 2 % 2 * 64 + y / 4 % 2 * 32 + y / 8 % 2 * 16 + y / 16 % 2 * 8 + y / 32 % 2 * 4 + y / 64 % 2 * 2 + y / 128 % 2
theorem qg_rev_lt (y : Nat) : qg_rev y < 256 := by
  unfold qg_rev
  omega
theorem qg_rev_up : ∀ v, v < 8 → ∀ y, y < 256 → y / 2 ^ v % 2 = 0 → qg_rev y < qg_rev (y % 2 ^ v + 2 ^ v) := by decide +kernel
theorem qg_md (y v : Nat) : y % 2 ^ (v + 1) = y % 2 ^ v + 2 ^ v * (y / 2 ^ v % 2) := Nat.mod_pow_succ
def qg_SI (own : Nat → Int32) (H : Nat → Bool) (k x y : Nat) : Prop :=
  y < 256 ∧ y % 2 ^ k = x ∧ ∀ v, k ≤ v → v < 8 → y / 2 ^ v % 2 = 1 → qg_V own H (v + 1) (y % 2 ^ v) = !decide (own v = 0)
theorem qg_S1 {own : Nat → Int32} {H : Nat → Bool} {v y : Nat} (hv : v < 8) (hb : y / 2 ^ v % 2 = 1) (h0 : qg_V own H (v + 1) (y % 2 ^ v) = !decide (own v = 0)) : qg_V own H (v + 1) (y % 2 ^ (v + 1)) = qg_V own H v (y % 2 ^ v) := by
  rw [qg_md, hb, Nat.mul_one, qg_Vk hv, h0]
  by_cases z : own v = 0
  · simp [z]
  · simp [z]
theorem qg_S0 {own : Nat → Int32} {H : Nat → Bool} {v y : Nat} (hv : v < 8) (hb : y / 2 ^ v % 2 = 0) (h0 : qg_V own H (v + 1) (y % 2 ^ (v + 1)) = decide (own v = 0)) : qg_V own H (v + 1) (y % 2 ^ (v + 1)) = qg_V own H v (y % 2 ^ v) := by
  have e : y % 2 ^ (v + 1) = y % 2 ^ v := by rw [qg_md, hb, Nat.mul_zero, Nat.add_zero]
  rw [e] at h0 ⊢
  rw [qg_Vk hv, h0]
  by_cases z : own v = 0
  · simp [z]
  · simp [z]
theorem qg_lm {u v : Nat} (y : Nat) (h : u ≤ v) : (y % 2 ^ v + 2 ^ v) % 2 ^ u = y % 2 ^ u := by
  obtain ⟨d, rfl⟩ : ∃ d, v = u + d := ⟨v - u, by omega⟩
  rw [Nat.pow_add, Nat.add_mul_mod_self_left, Nat.mod_mul_right_mod]
theorem qg_lb {u v : Nat} (y : Nat) (h : u < v) : (y % 2 ^ v + 2 ^ v) / 2 ^ u % 2 = y / 2 ^ u % 2 := by
  have a := qg_md (y % 2 ^ v + 2 ^ v) u
  have b := qg_md y u
  rw [qg_lm y (show u + 1 ≤ v from h), qg_lm y (Nat.le_of_lt h)] at a
  exact Nat.eq_of_mul_eq_mul_left (Nat.two_pow_pos u) (Nat.add_left_cancel (a.symm.trans b))
theorem qg_SN {own : Nat → Int32} {H : Nat → Bool} {k x v y : Nat} (hv : v < 8) (I : qg_SI own H k x y) (hk : k ≤ v) (hb : y / 2 ^ v % 2 = 0) (h0 : qg_V own H (v + 1) (y % 2 ^ (v + 1)) = !decide (own v = 0)) : qg_SI own H k x (y % 2 ^ v + 2 ^ v) := by
  obtain ⟨h1, h2, h3⟩ := I
  have hp : 2 ^ v ≤ 128 := Nat.pow_le_pow_right (n := 2) (by decide) (show v ≤ 7 by omega)
  have hm : y % 2 ^ v < 2 ^ v := Nat.mod_lt _ (Nat.two_pow_pos v)
  refine ⟨by omega, by rw [qg_lm y hk]; exact h2, ?_⟩
  intro u hu hu8 hbu
  rcases Nat.lt_trichotomy u v with z | z | z
  · rw [qg_lm y (Nat.le_of_lt z)]
    rw [qg_lb y z] at hbu
    exact h3 u hu hu8 hbu
  · subst z
    rw [qg_lm y (Nat.le_refl u)]
    have e : y % 2 ^ (u + 1) = y % 2 ^ u := by rw [qg_md, hb, Nat.mul_zero, Nat.add_zero]
    rw [e] at h0
    exact h0
  · have hle : 2 ^ (v + 1) ≤ 2 ^ u := Nat.pow_le_pow_right (n := 2) (by decide) z
    rw [Nat.pow_succ] at hle
    rw [Nat.div_eq_of_lt (by omega)] at hbu
    exact absurd hbu (by decide)
/-! counts and sets -/
def qg_cnt (f : Nat → Bool) : Nat → Nat
  | 0 => 0
  | n + 1 => qg_cnt f n + (if f n = true then 1 else 0)
theorem qg_cnt_n (f : Nat → Bool) : ∀ n, qg_cnt f n ≤ n
  | 0 => Nat.le_refl _
  | n + 1 => by
    have h := qg_cnt_n f n
    show qg_cnt f n + (if f n = true then 1 else 0) ≤ n + 1
    split <;> omega
theorem qg_cnt_le {f g : Nat → Bool} : ∀ n, (∀ x, x < n → f x = true → g x = true) → qg_cnt f n ≤ qg_cnt g n
  | 0, _ => Nat.le_refl _
  | n + 1, h => by
    have ih := qg_cnt_le n (fun x hx => h x (by omega))
    have h2 := h n (by omega)
    show qg_cnt f n + (if f n = true then 1 else 0) ≤ qg_cnt g n + (if g n = true then 1 else 0)
    revert h2
    cases f n <;> cases g n <;> simp <;> omega
theorem qg_cnt_eq {f g : Nat → Bool} : ∀ n, (∀ x, x < n → f x = true → g x = true) → (qg_cnt g n = qg_cnt f n ↔ ∀ x, x < n → g x = f x)
  | 0, _ => ⟨fun _ x hx => absurd hx (Nat.not_lt_zero x), fun _ => rfl⟩
  | n + 1, h => by
    have ih := qg_cnt_eq n (fun x hx => h x (by omega))
    have hl := qg_cnt_le n (fun x hx => h x (by omega))
    have h2 := h n (by omega)
    have eg : qg_cnt g (n + 1) = qg_cnt g n + (if g n = true then 1 else 0) := rfl
    have ef : qg_cnt f (n + 1) = qg_cnt f n + (if f n = true then 1 else 0) := rfl
    rw [eg, ef]
    constructor
    · intro e x hx
      have a : g n = f n ∧ qg_cnt g n = qg_cnt f n := by
        revert h2 e
        cases f n <;> cases g n <;> simp <;> omega
      rcases Nat.lt_or_ge x n with z | z
      · exact ih.mp a.2 x z
      · have e2 : x = n := by omega
        rw [e2]; exact a.1
    · intro e
      rw [e n (by omega), ih.mpr (fun x hx => e x (by omega))]
def qg_set (f : Nat → Bool) : Nat → Int32
  | 0 => 0
  | v + 1 => if f v = true then qg_set f v ||| ((1 : Int32) <<< (nI v &&& 31)) else qg_set f v
def qg_bm (wf : Int32 → Bool) (m0 : Int32) : Nat → Int32
  | 0 => m0
  | i + 1 => if wf (qg_bm wf m0 i &&& (((1 : Int32) <<< (nI i &&& 31)) ^^^ (-1))) = true then qg_bm wf m0 i else qg_bm wf m0 i &&& (((1 : Int32) <<< (nI i &&& 31)) ^^^ (-1))
def qg_ch (own : Nat → Int32) (V : Nat → Nat → Bool) (k x : Nat) : Int32 :=
  if V (k + 1) x = decide (own k = 0) then 0 else if V (k + 1) (x + 2 ^ k) = decide (own k = 0) then 1 else (-3)
def qg_dv (own : Nat → Int32) (V : Nat → Nat → Bool) : Nat → Nat
  | 0 => 0
  | k + 1 => if qg_ch own V k (qg_dv own V k) = 1 then qg_dv own V k + 2 ^ k else qg_dv own V k
theorem qg_dv_lt (own : Nat → Int32) (V : Nat → Nat → Bool) : ∀ k, qg_dv own V k < 2 ^ k
  | 0 => Nat.lt_succ_self 0
  | k + 1 => by
    have h := qg_dv_lt own V k
    show (if qg_ch own V k (qg_dv own V k) = 1 then qg_dv own V k + 2 ^ k else qg_dv own V k) < 2 ^ (k + 1)
    rw [Nat.pow_succ]
    split <;> omega
def qg_eqs (n : Nat) (f g : Nat → Bool) : Bool := decide (∀ x, x < n → f x = g x)
theorem qg_eqs_t {n : Nat} {f g : Nat → Bool} (h : ∀ x, x < n → f x = g x) : qg_eqs n f g = true := decide_eq_true h
theorem qg_eqs_f {n x : Nat} {f g : Nat → Bool} (hx : x < n) (h : ¬ f x = g x) : qg_eqs n f g = false := decide_eq_false (fun z => h (z x hx))
def qg_D (H : Nat → Bool) (k x : Nat) : Bool := qg_eqs (2 ^ (8 - k)) (fun r => H (x + r * 2 ^ k)) (fun _ => H x)
def qg_dr (D : Nat → Bool) : Nat → Nat
  | 0 => 8
  | d + 1 => if D (7 - d) = true then 7 - d else qg_dr D d
def qg_fr (own : Nat → Int32) : Nat → Nat
  | 0 => 8
  | d + 1 => if own (7 - d) = own 0 then qg_fr own d else 7 - d
theorem qg_fr_le (own : Nat → Int32) : ∀ d, qg_fr own d ≤ 8
  | 0 => Nat.le_refl _
  | d + 1 => by
    have h := qg_fr_le own d
    show (if own (7 - d) = own 0 then qg_fr own d else 7 - d) ≤ 8
    split <;> omega
theorem qg_fr_8 (own : Nat → Int32) : qg_fr own 8 = qg_fr own 7 := if_pos rfl
def qg_I (H : Nat → Bool) (v : Nat) : Bool := qg_eqs 256 H (fun x => H (x ^^^ 2 ^ v))
end
section
/-! long words as sets of lists -/
def qg_l (x : Int64) (i : Nat) : Bool := x.toBitVec.getLsbD i
theorem qg_l_or (x y : Int64) (i : Nat) : qg_l (x ||| y) i = (qg_l x i || qg_l y i) := by unfold qg_l; rw [Int64.toBitVec_or, BitVec.getLsbD_or]
theorem qg_l_and (x y : Int64) (i : Nat) : qg_l (x &&& y) i = (qg_l x i && qg_l y i) := by unfold qg_l; rw [Int64.toBitVec_and, BitVec.getLsbD_and]
theorem qg_l_xor (x y : Int64) (i : Nat) : qg_l (x ^^^ y) i = (qg_l x i ^^ qg_l y i) := by unfold qg_l; rw [Int64.toBitVec_xor, BitVec.getLsbD_xor]
theorem qg_l_m1 : ∀ i, i < 64 → qg_l (-1) i = true := by decide +kernel
theorem qg_l_0 (i : Nat) : qg_l 0 i = false := BitVec.getLsbD_zero
theorem qg_l_not (x : Int64) {i : Nat} (hi : i < 64) : qg_l (x ^^^ (-1)) i = !qg_l x i := by
  rw [qg_l_xor, qg_l_m1 i hi]
  cases qg_l x i <;> rfl
theorem qg_l_shl : ∀ n, n < 64 → ∀ i, i < 64 → qg_l ((1 : Int64) <<< ((nI n).toInt64 &&& 63)) i = decide (i = n) := by decide +kernel
theorem qg_l_shr {n : Nat} (hn : n < 64) (x : Int64) (i : Nat) : qg_l ((x.toUInt64 >>> ((nI n).toInt64.toUInt64 &&& Int64.toUInt64 63)).toInt64) i = qg_l x (n + i) := by
  rw [wb_cu n hn]
  unfold qg_l
  have e : (x.toUInt64 >>> UInt64.ofNat n).toInt64.toBitVec = x.toBitVec >>> n := by
    apply BitVec.eq_of_toNat_eq
    show (x.toUInt64 >>> UInt64.ofNat n).toNat = _
    rw [UInt64.toNat_shiftRight, show (UInt64.ofNat n).toNat = n from Nat.mod_eq_of_lt (by omega), Nat.mod_eq_of_lt hn, BitVec.toNat_ushiftRight]
    rfl
  rw [e, BitVec.getLsbD_ushiftRight]
theorem qg_l_1 (x : Int64) : x &&& 1 = 1 ↔ qg_l x 0 = true := by
  rw [← Int64.toBitVec_inj, Int64.toBitVec_and]
  show x.toBitVec &&& 1#64 = 1#64 ↔ x.toBitVec.getLsbD 0 = true
  rw [BitVec.and_one_eq_setWidth_ofBool_getLsbD]
  cases x.toBitVec.getLsbD 0 <;> decide
theorem qg_l_t {n : Nat} (hn : n < 64) (x : Int64) : ((x.toUInt64 >>> ((nI n).toInt64.toUInt64 &&& Int64.toUInt64 63)).toInt64) &&& 1 = 1 ↔ qg_l x n = true := by
  rw [qg_l_1, qg_l_shr hn, Nat.add_zero]
def qg_fb (f : Nat → Int64) (x : Nat) : Bool := qg_l (f (x / 64)) (x % 64)
/-! columns: bit b of word v*4+w is bit v of 64w+b -/
def qg_col (f : Nat → Int64) : Prop := ∀ v w b, v < 8 → w < 4 → b < 64 → qg_l (f (v * 4 + w)) b = (64 * w + b).testBit v
end
section
/-! closed facts of small numbers -/
theorem qg_1s : ∀ k, k < 31 → (1 : Int32) <<< (nI k &&& 31) = nI (2 ^ k) := by decide +kernel
theorem qg_or {k x : Nat} (hk : k < 8) (hx : x < 2 ^ k) : nI x ||| ((1 : Int32) <<< (nI k &&& 31)) = nI (x + 2 ^ k) := by
  rw [qg_1s k (by omega)]
  apply b_ext
  intro i hi
  rw [b_or, qg_bt x hi, qg_bt _ hi, qg_bt _ hi, ← Nat.testBit_or]
  have e := Nat.two_pow_add_eq_or_of_lt hx 1
  rw [Nat.mul_one] at e
  rw [Nat.or_comm, ← e, Nat.add_comm]
theorem qg_clr : ∀ v, v < 8 → ∀ z, z < 2 ^ (v + 1) → nI z &&& (((1 : Int32) <<< (nI v &&& 31)) ^^^ (-1)) = nI (z % 2 ^ v) := by decide +kernel
theorem qg_shr {s v : Nat} (hs : s < 2 ^ 31) (hv : v < 32) : nI s >>> (nI v &&& 31) = nI (s / 2 ^ v) := pk_shrN hs _ v (s_l v hv)
theorem qg_tst {s v : Nat} (hs : s < 2 ^ 31) (hv : v < 32) : (nI s >>> (nI v &&& 31)) &&& 1 = nI (s / 2 ^ v % 2) := by
  have h2 : s / 2 ^ v ≤ s := Nat.div_le_self _ _
  rw [qg_shr hs hv, pk_andN (by omega) 1 (by decide), Nat.pow_one]
theorem qg_t1 {s v : Nat} (hs : s < 2 ^ 31) (hv : v < 32) : (nI s >>> (nI v &&& 31)) &&& 1 = 1 ↔ s / 2 ^ v % 2 = 1 := by
  have h2 : s / 2 ^ v % 2 < 2 := Nat.mod_lt _ (by decide)
  rw [qg_tst hs hv]
  exact nI_eq (b := 1) (by omega) (by decide)
theorem qg_sh6 {x : Nat} (h : x < 2 ^ 31) : nI x >>> ((6 : Int32) &&& 31) = nI (x / 64) := pk_shrN h _ 6 (by decide)
theorem qg_a63 {x : Nat} (h : x < 2 ^ 31) : nI x &&& 63 = nI (x % 64) := pk_andN (by omega) 6 (by decide)
theorem qg_shl1 {v x : Nat} (hv : v < 8) (hx : x < 256) : nI x <<< (nI v &&& 31) = nI (x * 2 ^ v) := by
  apply pk_shlN _ v (s_l v (by omega))
  have hp : 2 ^ v ≤ 128 := Nat.pow_le_pow_right (n := 2) (by decide) (show v ≤ 7 by omega)
  have h3 : x * 2 ^ v ≤ x * 128 := Nat.mul_le_mul_left x hp
  omega
/-! steps of the words -/
theorem qg_al_step {c n : Nat} (hc : 1 ≤ c) (b : Bool) : (decide (c ≤ n) || (decide (c - 1 ≤ n) && b)) = decide (c ≤ n + (if b = true then 1 else 0)) := by
  cases b
  · simp
  · by_cases h : c - 1 ≤ n
    · have h2 : c ≤ n + 1 := by omega
      simp [h, h2]
    · have h1 : ¬ c ≤ n := by omega
      have h2 : ¬ c ≤ n + 1 := by omega
      simp [h, h1, h2]
theorem qg_odd_step (n : Nat) (b : Bool) : (decide (n % 2 = 1) ^^ b) = decide ((n + (if b = true then 1 else 0)) % 2 = 1) := by
  cases b
  · simp
  · by_cases h : n % 2 = 1
    · have h2 : ¬ (n + 1) % 2 = 1 := by omega
      simp [h, h2]
    · have h2 : (n + 1) % 2 = 1 := by omega
      simp [h, h2]
end
section
/-! the component: one rule, all asked rules, one by one -/
theorem qg_rn_0 (P Q m : Nat) : qg_rn 0 P Q m = (decide (¬ qg_pop (P &&& m) 8 = 0) || decide (¬ qg_pop Q 8 ≤ qg_pop (Q &&& m) 8)) := if_pos rfl
theorem qg_rn_1 (P Q m : Nat) : qg_rn 1 P Q m = decide (qg_pop (P &&& m) 8 % 2 = Q) := by
  unfold qg_rn
  rw [if_neg (by decide), if_pos rfl]
theorem qg_rn_2 (P Q m : Nat) : qg_rn 2 P Q m = decide (qg_pop (P &&& m) 8 ≤ Q) := by
  unfold qg_rn
  rw [if_neg (by decide), if_neg (by decide), if_pos rfl]
theorem qg_rn_3 (P Q m : Nat) : qg_rn 3 P Q m = (decide (qg_pop (P &&& m) 8 = 0) || decide (qg_pop P 8 ≤ qg_pop (P &&& m) 8)) := by
  unfold qg_rn
  rw [if_neg (by decide), if_neg (by decide), if_neg (by decide)]
theorem qg_four {K : Nat} (h : K < 4) : K = 0 ∨ K = 1 ∨ K = 2 ∨ K = 3 := by omega
theorem qg_selI (ak : Int32) (i : Nat) : ((ak >>> (nI i &&& 31)) &&& 1) = 1 ↔ qg_sel ak i = true := by
  unfold qg_sel
  rw [decide_eq_true_eq]
section
variable {rc cw ak : Int32} {ow kd fp sq sz wn : Nat → Int32} {co ho fo al : Nat → Int64}
theorem qg_X_ruleHolds {post : Int32 → Prop} {i m : Nat} (hi : i < 12) (hok : qg_ok (kd i) (fp i) (sq i)) (hsz : ∀ s, s < 256 → sz s = nI (qg_pop s 8)) (hp : post (qg_b (qg_rh (kd i) (fp i) (sq i) m))) : wpX_ruleHolds post (rc, cw, ak, ow, kd, fp, sq, sz, wn, co, ho, fo, al) (nI i) (nI m) := by
  obtain ⟨K, P, Q, eK, eP, eQ, hK, hP, hQ, h0, h1, h2⟩ := hok
  rw [eK, eP, eQ, qg_rh_n hK hP hQ] at hp
  have hin : vp_in (nI i) 12 := vp_in_nI hi (by decide)
  have ci : (nI i).toNatClampNeg = i := nI_clamp (by omega)
  have hlt : P &&& m < 256 := qg_and_lt hP
  have hpl := qg_pop_le (P &&& m) 8
  have hx : nI m &&& nI P = nI (P &&& m) := by rw [nx_and, Nat.and_comm]
  have t1 : qg_rn K P Q m = true → post 1 := fun e => by rw [e] at hp; exact hp
  have t0 : qg_rn K P Q m = false → post 0 := fun e => by rw [e] at hp; exact hp
  have cx : (nI (P &&& m)).toNatClampNeg = P &&& m := nI_clamp (by omega)
  have vx : vp_in (nI (P &&& m)) 256 := vp_in_nI hlt (by decide)
  unfold wpX_ruleHolds
  dsimp only
  rw [ci]
  refine ⟨hin, nm_r eP ⟨hin, nm_r eQ (nm_r hx ⟨hin, nm_r eK ?_⟩)⟩⟩
  rcases qg_four hK with rfl | rfl | rfl | rfl
  · refine br_f (by decide) (br_f (by decide) (br_t (by decide) ?_))
    exact ek_if (qg_nI0 hlt) (fun z => ek_if (qg_com (h0 rfl)) (fun z2 => t0 (by rw [qg_rn_0, decide_eq_false (not_not_intro z), decide_eq_false (not_not_intro z2)]; rfl)) (fun z2 => t1 (by rw [qg_rn_0, decide_eq_true z2, Bool.or_true]))) (fun z => t1 (by rw [qg_rn_0, decide_eq_true z, Bool.true_or]))
  · refine br_f (by decide) (br_f (by decide) (br_f (by decide) (br_t (by decide) ⟨vx, ?_⟩)))
    have hq := h1 rfl
    rw [cx, hsz _ hlt, pk_andN (by omega) 1 (by decide), Nat.pow_one]
    exact ek_if (nI_eq (by omega) (by omega)) (fun z => t1 (by rw [qg_rn_1]; exact decide_eq_true z)) (fun z => t0 (by rw [qg_rn_1]; exact decide_eq_false z))
  · refine br_f (by decide) (br_f (by decide) (br_f (by decide) (br_f (by decide) (br_t (by decide) ⟨vx, ?_⟩))))
    have hq := h2 rfl
    rw [cx, hsz _ hlt]
    exact ek_if (nI_ltI (by omega) (by omega)) (fun z => t0 (by rw [qg_rn_2]; exact decide_eq_false (by omega))) (fun z => t1 (by rw [qg_rn_2]; exact decide_eq_true (by omega)))
  · refine br_f (by decide) (br_t (by decide) ?_)
    exact ek_if (qg_nI0 hlt) (fun z => t1 (by rw [qg_rn_3, decide_eq_true z, Bool.true_or])) (fun z => ek_if (nI_eq (by omega) (by omega)) (fun z2 => t1 (by rw [qg_rn_3, decide_eq_true ((qg_sub hP).mp z2), Bool.or_true])) (fun z2 => t0 (by rw [qg_rn_3, decide_eq_false z, decide_eq_false (fun y => z2 ((qg_sub hP).mpr y))]; rfl)))
theorem qg_X_hobo {post : Int32 → Prop} {c m : Nat} (hc : c ≤ 12) (hok : ∀ i, i < c → qg_ok (kd i) (fp i) (sq i)) (hsz : ∀ s, s < 256 → sz s = nI (qg_pop s 8)) (hp : post (qg_b (qg_H kd fp sq c ak m))) : wpX_holdOneByOne post ((nI c), cw, ak, ow, kd, fp, sq, sz, wn, co, ho, fo, al) (nI m) := by
  have t1 : (∀ i, i < c → qg_sel ak i = true → qg_rh (kd i) (fp i) (sq i) m = true) → post 1 := fun e => by
    unfold qg_H at hp; rw [decide_eq_true e] at hp; exact hp
  have t0 : ¬ (∀ i, i < c → qg_sel ak i = true → qg_rh (kd i) (fp i) (sq i) m = true) → post 0 := fun e => by
    unfold qg_H at hp; rw [decide_eq_false e] at hp; exact hp
  unfold wpX_holdOneByOne
  dsimp only
  refine pk_loop (σ := Unit) (fun n i _ => wX_holdOneByOne_2 post (nI m) (nI c) cw ak ow kd fp sq sz wn co ho fo al n (nI i)) (fun i _ => ∀ j, j < i → qg_sel ak j = true → qg_rh (kd j) (fp j) (sq j) m = true) c 0 () (Nat.zero_le _) (fun j hj => absurd hj (Nat.not_lt_zero j)) ?_ ?_
  · intro n _ hI
    exact br_t (nI_le (Nat.le_refl c) (by omega)) (t1 hI)
  · intro n i _ hi hI hn
    refine br_f (nI_ge hi (by omega)) (ek_if (qg_selI ak i) (fun hs => ?_) (fun hs => ?_))
    · refine qg_X_ruleHolds (by omega) (hok i hi) hsz ?_
      cases hr : qg_rh (kd i) (fp i) (sq i) m with
      | false => exact br_t rfl (t0 (fun e => by rw [e i hi hs] at hr; cases hr))
      | true =>
        refine br_f (by decide) (nm_r (nI_1 i) (hn () (fun j hj hsj => ?_)))
        rcases Nat.lt_or_ge j i with z | z
        · exact hI j z hsj
        · have e : j = i := by omega
          rw [e]; exact hr
    · refine nm_r (nI_1 i) (hn () (fun j hj hsj => ?_))
      rcases Nat.lt_or_ge j i with z | z
      · exact hI j z hsj
      · have e : j = i := by omega
        rw [e] at hsj
        exact absurd hsj hs
/-! the table -/
theorem qg_nar (b : Bool) : vp_nar .boolean (qg_b b) = qg_b b := by cases b <;> rfl
theorem qg_narrow (b : Bool) : narrow .boolean (.int (qg_b b)) = .int (qg_b b) := by cases b <;> rfl
theorem qg_p2 {j : Nat} (h : j ≤ 8) : 1 ≤ 2 ^ j ∧ 2 ^ j ≤ 256 := ⟨Nat.two_pow_pos j, Nat.pow_le_pow_right (n := 2) (by decide) h⟩
def qg_T (ow : Nat → Int32) (H : Nat → Bool) (f : Nat → Int32) (j : Nat) : Prop := ∀ k x, j ≤ k → k ≤ 8 → x < 2 ^ k → f (2 ^ k + x) = qg_b (qg_V ow H k x)
theorem qg_T_step {ow : Nat → Int32} {H : Nat → Bool} {f : Nat → Int32} {j : Nat} (hT : qg_T ow H f (j + 1)) (h : ∀ x, x < 2 ^ j → f (2 ^ j + x) = qg_b (qg_V ow H j x)) : qg_T ow H f j := by
  intro k x hk hk8 hx
  rcases Nat.lt_or_ge j k with z | z
  · exact hT k x z hk8 hx
  · have e : k = j := by omega
    subst e
    exact h x hx
theorem qg_X_tab43 {post : SX → Prop} {J : Int32 → (Nat → Int32) → (Nat → Int32) → (Nat → Int32) → (Nat → Int32) → (Nat → Int32) → (Nat → Int32) → (Nat → Int64) → (Nat → Int64) → (Nat → Int64) → (Nat → Int64) → Prop} {H : Nat → Bool} {j : Nat} (hj : j < 8) (hT : qg_T ow H wn (j + 1)) (hp : ∀ wn', qg_T ow H wn' j → J (nI j + (-1)) ow kd fp sq sz wn' co ho fo al) : ∃ n, wX_fillTable_43 post J (nI j) (nI (2 ^ j)) rc cw ak n 0 ow kd fp sq sz wn co ho fo al := by
  have ha := qg_p2 (Nat.le_of_lt hj)
  have ha2 : 2 ^ j ≤ 128 := Nat.pow_le_pow_right (n := 2) (by decide) (show j ≤ 7 by omega)
  have es : 2 ^ (j + 1) = 2 * 2 ^ j := by rw [Nat.pow_succ, Nat.mul_comm]
  refine pk_loop (σ := Nat → Int32) (fun n i s => wX_fillTable_43 post J (nI j) (nI (2 ^ j)) rc cw ak n (nI i) ow kd fp sq sz s co ho fo al) (fun i s => qg_T ow H s (j + 1) ∧ ∀ x, x < i → s (2 ^ j + x) = qg_b (qg_V ow H j x)) (2 ^ j) 0 wn (Nat.zero_le _) ⟨hT, fun x hx => absurd hx (Nat.not_lt_zero x)⟩ ?_ ?_
  · intro n s hI
    exact br_t (nI_le (Nat.le_refl _) (by omega)) (nm_e (hp s (qg_T_step hI.1 hI.2)))
  · intro n i s hi hI hn
    have e1 : (2 * nI (2 ^ j)) + nI i = nI (2 * 2 ^ j + i) := by
      show (nI 2 * nI (2 ^ j)) + nI i = _
      rw [pk_mul, nI_add]
    have e2 : ((2 * nI (2 ^ j)) + nI (2 ^ j)) + nI i = nI (2 * 2 ^ j + 2 ^ j + i) := by
      show ((nI 2 * nI (2 ^ j)) + nI (2 ^ j)) + nI i = _
      rw [pk_mul, nI_add, nI_add]
    have e3 : nI (2 ^ j) + nI i = nI (2 ^ j + i) := nI_add _ _
    have r1 : s (2 * 2 ^ j + i) = qg_b (qg_V ow H (j + 1) i) := by
      have h := hI.1 (j + 1) i (Nat.le_refl _) (by omega) (by omega)
      rw [es] at h
      exact h
    have r2 : s (2 * 2 ^ j + 2 ^ j + i) = qg_b (qg_V ow H (j + 1) (i + 2 ^ j)) := by
      have h := hI.1 (j + 1) (i + 2 ^ j) (Nat.le_refl _) (by omega) (by omega)
      rw [es] at h
      rw [← h]
      congr 1
      omega
    have leaf : ∀ b : Bool, qg_V ow H j i = b → (vp_in (nI (2 ^ j + i)) 512 ∧ ∀ w', w' = upd s (2 ^ j + i) (vp_nar .boolean (qg_b b)) → ∀ y, y = nI i + 1 → wX_fillTable_43 post J (nI j) (nI (2 ^ j)) rc cw ak n y ow kd fp sq sz w' co ho fo al) := by
      intro b hb
      refine ⟨vp_in_nI (by omega) (by decide), nm_e (nm_r (nI_1 i) (hn _ ⟨?_, ?_⟩))⟩
      · intro k x hk hk8 hx
        have hle : 2 ^ (j + 1) ≤ 2 ^ k := Nat.pow_le_pow_right (n := 2) (by decide) hk
        rw [pk_un (by omega)]
        exact hI.1 k x hk hk8 hx
      · intro x hx
        by_cases z : x = i
        · rw [z, pk_us, qg_nar, hb]
        · rw [pk_un (by omega)]
          exact hI.2 x (by omega)
    have c1 : (nI (2 * 2 ^ j + i)).toNatClampNeg = 2 * 2 ^ j + i := nI_clamp (by omega)
    have c2 : (nI (2 * 2 ^ j + 2 ^ j + i)).toNatClampNeg = 2 * 2 ^ j + 2 ^ j + i := nI_clamp (by omega)
    have c3 : (nI (2 ^ j + i)).toNatClampNeg = 2 ^ j + i := nI_clamp (by omega)
    have c4 : (nI j).toNatClampNeg = j := nI_clamp (by omega)
    refine br_f (nI_ge hi (by omega)) ?_
    rw [e1, e2, e3, c1, c2, c3, c4]
    refine ⟨vp_in_nI (by omega) (by decide), nm_r r1 ⟨vp_in_nI (by omega) (by decide), nm_r r2 ⟨vp_in_nI hj (by decide), ?_⟩⟩⟩
    have hV := qg_Vk (own := ow) (H := H) (x := i) hj
    by_cases z : ow j = 0
    · rw [if_pos z] at hV
      refine br_t z ?_
      cases hA : qg_V ow H (j + 1) i with
      | true => exact br_f (by decide) (leaf true (by rw [hV, hA]; rfl))
      | false =>
        cases hB : qg_V ow H (j + 1) (i + 2 ^ j) with
        | true => exact br_t rfl (br_f (by decide) (leaf true (by rw [hV, hA, hB]; rfl)))
        | false => exact br_t rfl (br_t rfl (leaf false (by rw [hV, hA, hB]; rfl)))
    · rw [if_neg z] at hV
      refine br_f z ?_
      cases hA : qg_V ow H (j + 1) i with
      | false => exact br_t rfl (leaf false (by rw [hV, hA]; rfl))
      | true =>
        cases hB : qg_V ow H (j + 1) (i + 2 ^ j) with
        | true => exact br_f (by decide) (br_f (by decide) (leaf true (by rw [hV, hA, hB]; rfl)))
        | false => exact br_f (by decide) (br_t rfl (leaf false (by rw [hV, hA, hB]; rfl)))
theorem qg_X_tab33 {post : SX → Prop} {H : Nat → Bool} (hT : qg_T ow H wn 8) (hp : ∀ wn', qg_T ow H wn' 0 → post (rc, cw, ak, ow, kd, fp, sq, sz, wn', co, ho, fo, al)) : ∃ n, wX_fillTable_33 post rc cw ak n 7 ow kd fp sq sz wn co ho fo al := by
  refine ⟨9, pk_loopD (σ := Nat → Int32) (fun n j s => wX_fillTable_33 post rc cw ak n (nI j + (-1)) ow kd fp sq sz s co ho fo al) (fun j s => j ≤ 8 ∧ qg_T ow H s j) ?_ ?_ 8 wn ⟨Nat.le_refl 8, hT⟩⟩
  · intro n s hI
    exact br_t (by decide) (hp s hI.2)
  · intro n j s hI hn
    show wX_fillTable_33 post rc cw ak (n + 1) (nI (j + 1) + (-1)) ow kd fp sq sz s co ho fo al
    rw [pk_m1]
    exact br_f (nI_pos (by omega)) (nm_r (qg_1s j (by omega)) (qg_X_tab43 (by omega) hI.2 (fun wn' h => hn wn' ⟨by omega, h⟩)))
theorem qg_X_fillTable {post : SX → Prop} {c : Nat} (hc : c ≤ 12) (hok : ∀ i, i < c → qg_ok (kd i) (fp i) (sq i)) (hsz : ∀ s, s < 256 → sz s = nI (qg_pop s 8)) (hp : ∀ wn', qg_T ow (qg_H kd fp sq c ak) wn' 0 → post ((nI c), cw, ak, ow, kd, fp, sq, sz, wn', co, ho, fo, al)) : wpX_fillTable post ((nI c), cw, ak, ow, kd, fp, sq, sz, wn, co, ho, fo, al) := by
  unfold wpX_fillTable
  dsimp only
  refine pk_loop (σ := Nat → Int32) (fun n i s => wX_fillTable_2 post (nI c) cw ak n (nI i) ow kd fp sq sz s co ho fo al) (fun i s => ∀ x, x < i → s (256 + x) = qg_b (qg_H kd fp sq c ak x)) 256 0 wn (Nat.zero_le _) (fun x hx => absurd hx (Nat.not_lt_zero x)) ?_ ?_
  · intro n s hI
    refine br_t (by decide) (qg_X_tab33 (H := qg_H kd fp sq c ak) ?_ hp)
    intro k x hk hk8 hx
    have e : k = 8 := by omega
    subst e
    exact hI x hx
  · intro n i s hi hI hn
    refine br_f (nI_ge (b := 256) hi (by decide)) (qg_X_hobo hc hok hsz ?_)
    have e : 256 + nI i = nI (256 + i) := nI_add 256 i
    rw [e, nI_clamp (show 256 + i < 2 ^ 31 by omega)]
    refine ⟨vp_in_nI (by omega) (by decide), nm_e (nm_r (nI_1 i) (hn _ ?_))⟩
    intro x hx
    by_cases z : x = i
    · rw [z, pk_us, qg_nar]
    · rw [pk_un (by omega)]
      exact hI x (by omega)
end
end
section
/-! the component by words: sets of lists -/
section
variable {rc cw ak : Int32} {ow kd fp sq sz wn : Nat → Int32} {co ho fo al : Nat → Int64}
theorem qg_cb_1 {s m v : Nat} (h : s / 2 ^ v % 2 = 1) : qg_cb s m v = if m.testBit v = true then 1 else 0 := by
  unfold qg_cb
  rw [(qg_tb s v).mpr h, Bool.true_and]
theorem qg_cb_0 {s m v : Nat} (h : ¬ s / 2 ^ v % 2 = 1) : qg_cb s m v = 0 := by
  unfold qg_cb
  have e : s.testBit v = false := by
    cases z : s.testBit v with
    | false => rfl
    | true => exact absurd ((qg_tb s v).mp z) h
  rw [e, Bool.false_and]
  rfl
theorem qg_X_al57 {post : Int64 → SX → Prop} {J : Int32 → (Nat → Int32) → (Nat → Int32) → (Nat → Int32) → (Nat → Int32) → (Nat → Int32) → (Nat → Int32) → (Nat → Int64) → (Nat → Int64) → (Nat → Int64) → (Nat → Int64) → Prop} {x1 : Int32} {s w v : Nat} (hs : s / 2 ^ v % 2 = 1) (hw : w < 4) (hv : v < 8) (hco : qg_col co)
    (hI : ∀ c b, c ≤ 8 → b < 64 → qg_l (al c) b = decide (c ≤ qg_pop (s &&& (64 * w + b)) v))
    (hp : ∀ al', (∀ c b, c ≤ 8 → b < 64 → qg_l (al' c) b = decide (c ≤ qg_pop (s &&& (64 * w + b)) (v + 1))) → J (nI (v + 1)) ow kd fp sq sz wn co ho fo al') : ∃ n, wX_withAtLeast_57 post J x1 (nI s) (nI w) (nI v) rc cw ak n 8 ow kd fp sq sz wn co ho fo al := by
  refine ⟨9, pk_loopD (σ := Nat → Int64) (fun n j f => wX_withAtLeast_57 post J x1 (nI s) (nI w) (nI v) rc cw ak n (nI j) ow kd fp sq sz wn co ho fo f) (fun j f => j ≤ 8 ∧ ∀ c b, c ≤ 8 → b < 64 → qg_l (f c) b = decide (c ≤ (if j < c then qg_pop (s &&& (64 * w + b)) (v + 1) else qg_pop (s &&& (64 * w + b)) v))) ?_ ?_ 8 al ⟨Nat.le_refl 8, ?_⟩⟩
  · intro n f h
    refine br_t (by decide) (nm_r (nI_1 v) (hp f ?_))
    intro c b hc hb
    rw [h.2 c b hc hb]
    by_cases z : 0 < c
    · rw [if_pos z]
    · have e : c = 0 := by omega
      subst e
      rw [decide_eq_true (Nat.zero_le _), decide_eq_true (Nat.zero_le _)]
  · intro n j f h hn
    have hj := h.1
    show wX_withAtLeast_57 post J x1 (nI s) (nI w) (nI v) rc cw ak (n + 1) (nI (j + 1)) ow kd fp sq sz wn co ho fo f
    have e1 : nI (j + 1) - 1 = nI j := nI_pred j
    have e2 : (nI v * 4) + nI w = nI (v * 4 + w) := by
      show (nI v * nI 4) + nI w = _
      rw [pk_mul, nI_add]
    have k1 : (nI (j + 1)).toNatClampNeg = j + 1 := nI_clamp (by omega)
    have k2 : (nI j).toNatClampNeg = j := nI_clamp (by omega)
    have k3 : (nI (v * 4 + w)).toNatClampNeg = v * 4 + w := nI_clamp (by omega)
    refine br_f (nI_nlt (b := 1) (by omega) (by omega)) ?_
    rw [e1, e2, k1, k2, k3]
    refine ⟨vp_in_nI (by omega) (by decide), vp_in_nI (by omega) (by decide), vp_in_nI (by omega) (by decide), vp_in_nI (by omega) (by decide), nm_e (nm_r (pk_m1 j) (hn _ ⟨by omega, ?_⟩))⟩
    intro c b hc hb
    by_cases z : c = j + 1
    · subst z
      rw [pk_uLs, qg_l_or, qg_l_and, h.2 (j + 1) b hc hb, h.2 j b (by omega) hb, if_neg (Nat.lt_irrefl _), if_neg (by omega), if_pos (Nat.lt_succ_self j), hco v w b hv hw hb, qg_pop_s, qg_cb_1 hs]
      exact qg_al_step (c := j + 1) (by omega) _
    · rw [pk_uLn z, h.2 c b hc hb]
      by_cases y : j < c
      · rw [if_pos y, if_pos (by omega)]
      · rw [if_neg y, if_neg (by omega)]
  · intro c b hc hb
    rw [if_neg (by omega)]
    exact hI c b hc hb
theorem qg_X_al36 {post : Int64 → SX → Prop} {N s w : Nat} (hN : N ≤ 8) (hs : s < 256) (hw : w < 4) (hco : qg_col co)
    (h0 : ∀ c b, c ≤ 8 → b < 64 → qg_l (al c) b = decide (c ≤ 0))
    (hp : ∀ r al', (∀ b, b < 64 → qg_l r b = decide (N ≤ qg_pop (s &&& (64 * w + b)) 8)) → post r (rc, cw, ak, ow, kd, fp, sq, sz, wn, co, ho, fo, al')) : ∃ n, wX_withAtLeast_36 post (nI N) (nI s) (nI w) rc cw ak n 0 ow kd fp sq sz wn co ho fo al := by
  refine pk_loop (σ := Nat → Int64) (fun n v f => wX_withAtLeast_36 post (nI N) (nI s) (nI w) rc cw ak n (nI v) ow kd fp sq sz wn co ho fo f) (fun v f => ∀ c b, c ≤ 8 → b < 64 → qg_l (f c) b = decide (c ≤ qg_pop (s &&& (64 * w + b)) v)) 8 0 al (Nat.zero_le _) h0 ?_ ?_
  · intro n f hI
    refine br_t (by decide) ?_
    rw [nI_clamp (show N < 2 ^ 31 by omega)]
    exact ⟨vp_in_nI (by omega) (by decide), hp _ _ (fun b hb => hI N b hN hb)⟩
  · intro n v f hv hI hn
    refine br_f (nI_ge (b := 8) hv (by decide)) (ek_if (qg_t1 (by omega) (by omega)) (fun z => ?_) (fun z => ?_))
    · exact qg_X_al57 z hw hv hco hI (fun al' h => hn al' h)
    · refine nm_r (nI_1 v) (hn f ?_)
      intro c b hc hb
      rw [hI c b hc hb, qg_pop_s, qg_cb_0 z, Nat.add_zero]
theorem qg_X_al {post : Int64 → SX → Prop} {N s w : Nat} (hN : N ≤ 8) (hs : s < 256) (hw : w < 4) (hco : qg_col co)
    (hp : ∀ r al', (∀ b, b < 64 → qg_l r b = decide (N ≤ qg_pop (s &&& (64 * w + b)) 8)) → post r (rc, cw, ak, ow, kd, fp, sq, sz, wn, co, ho, fo, al')) : wpX_withAtLeast post (rc, cw, ak, ow, kd, fp, sq, sz, wn, co, ho, fo, al) (nI N) (nI s) (nI w) := by
  unfold wpX_withAtLeast
  dsimp only
  refine nm_e ?_
  refine pk_loop (σ := Nat → Int64) (fun n i f => wX_withAtLeast_12 post (nI N) (nI s) (nI w) rc cw ak n (nI i) ow kd fp sq sz wn co ho fo f) (fun i f => 1 ≤ i ∧ f 0 = -1 ∧ ∀ c, 1 ≤ c → c < i → f c = 0) 9 1 _ (by decide) ⟨Nat.le_refl 1, pk_uLs, fun c h1 h2 => by omega⟩ ?_ ?_
  · intro n f hI
    refine br_t (by decide) (qg_X_al36 hN hs hw hco ?_ hp)
    intro c b hc hb
    by_cases z : c = 0
    · subst z
      rw [hI.2.1, qg_l_m1 b hb]
      rfl
    · rw [hI.2.2 c (by omega) (by omega), qg_l_0, decide_eq_false (by omega)]
  · intro n i f hi hI hn
    have h1 := hI.1
    have k1 : (nI i).toNatClampNeg = i := nI_clamp (by omega)
    refine br_f (nI_nlt (a := 8) (by omega) (by omega)) ?_
    rw [k1]
    refine ⟨vp_in_nI hi (by decide), nm_e (nm_r (nI_1 i) (hn _ ⟨by omega, ?_, ?_⟩))⟩
    · rw [pk_uLn (by omega)]
      exact hI.2.1
    · intro c h1 h2
      by_cases y : c = i
      · rw [y, pk_uLs]
      · rw [pk_uLn y]
        exact hI.2.2 c h1 (by omega)
theorem qg_X_odd {post : Int64 → Prop} {s w : Nat} (hs : s < 256) (hw : w < 4) (hco : qg_col co)
    (hp : ∀ r, (∀ b, b < 64 → qg_l r b = decide (qg_pop (s &&& (64 * w + b)) 8 % 2 = 1)) → post r) : wpX_withOddNumber post (rc, cw, ak, ow, kd, fp, sq, sz, wn, co, ho, fo, al) (nI s) (nI w) := by
  unfold wpX_withOddNumber
  dsimp only
  refine pk_loop (σ := Int64) (fun n v l => wX_withOddNumber_5 post (nI s) (nI w) rc cw ak ow kd fp sq sz wn co ho fo al n l (nI v)) (fun v l => ∀ b, b < 64 → qg_l l b = decide (qg_pop (s &&& (64 * w + b)) v % 2 = 1)) 8 0 0 (Nat.zero_le _) (fun b _ => qg_l_0 b) ?_ ?_
  · intro n l hI
    exact br_t (by decide) (hp l hI)
  · intro n v l hv hI hn
    refine br_f (nI_ge (b := 8) hv (by decide)) (ek_if (qg_t1 (by omega) (by omega)) (fun z => ?_) (fun z => ?_))
    · have e2 : (nI v * 4) + nI w = nI (v * 4 + w) := by
        show (nI v * nI 4) + nI w = _
        rw [pk_mul, nI_add]
      rw [e2, nI_clamp (show v * 4 + w < 2 ^ 31 by omega)]
      refine ⟨vp_in_nI (by omega) (by decide), nm_e (nm_r (nI_1 v) (hn _ ?_))⟩
      intro b hb
      rw [qg_l_xor, hI b hb, hco v w b hv hw hb, qg_pop_s, qg_cb_1 z]
      exact qg_odd_step _ _
    · refine nm_r (nI_1 v) (hn l ?_)
      intro b hb
      rw [hI b hb, qg_pop_s, qg_cb_0 z, Nat.add_zero]
theorem qg_X_ruleWord {post : Int64 → SX → Prop} {i w : Nat} (hi : i < 12) (hw : w < 4) (hok : qg_ok (kd i) (fp i) (sq i)) (hsz : ∀ s, s < 256 → sz s = nI (qg_pop s 8)) (hco : qg_col co)
    (hp : ∀ r al', (∀ b, b < 64 → qg_l r b = qg_rh (kd i) (fp i) (sq i) (64 * w + b)) → post r (rc, cw, ak, ow, kd, fp, sq, sz, wn, co, ho, fo, al')) : wpX_ruleWord post (rc, cw, ak, ow, kd, fp, sq, sz, wn, co, ho, fo, al) (nI i) (nI w) := by
  obtain ⟨K, P, Q, eK, eP, eQ, hK, hP, hQ, h0, h1, h2⟩ := hok
  have hp2 : ∀ r al', (∀ b, b < 64 → qg_l r b = qg_rn K P Q (64 * w + b)) → post r (rc, cw, ak, ow, kd, fp, sq, sz, wn, co, ho, fo, al') := by
    intro r al' h
    refine hp r al' (fun b hb => ?_)
    rw [eK, eP, eQ, qg_rh_n hK hP hQ]
    exact h b hb
  have hin : vp_in (nI i) 12 := vp_in_nI hi (by decide)
  have ci : (nI i).toNatClampNeg = i := nI_clamp (by omega)
  have cP : (nI P).toNatClampNeg = P := nI_clamp (by omega)
  have vP : vp_in (nI P) 256 := vp_in_nI hP (by decide)
  have lP := qg_pop_le P 8
  unfold wpX_ruleWord
  dsimp only
  rw [ci]
  refine ⟨hin, nm_r eP ⟨hin, nm_r eQ ⟨hin, nm_r eK ?_⟩⟩⟩
  rcases qg_four hK with rfl | rfl | rfl | rfl
  · have hq := h0 rfl
    have lQ := qg_pop_le Q 8
    refine br_f (by decide) (br_f (by decide) (br_t (by decide) ?_))
    refine qg_X_al (N := 1) (by decide) hP hw hco (fun r1 al1 g1 => ?_)
    dsimp only
    rw [nI_clamp (show Q < 2 ^ 31 by omega), hsz Q hq]
    refine ⟨vp_in_nI hq (by decide), qg_X_al (by omega) hq hw hco (fun r2 al2 g2 => ?_)⟩
    refine hp2 _ _ (fun b hb => ?_)
    rw [qg_l_or, qg_l_not _ hb, g1 b hb, g2 b hb, qg_rn_0]
    by_cases z : qg_pop (P &&& (64 * w + b)) 8 = 0
    · rw [decide_eq_false (not_not_intro z), decide_eq_false (show ¬ 1 ≤ qg_pop (P &&& (64 * w + b)) 8 by omega), decide_not]
    · rw [decide_eq_true z, decide_eq_true (show 1 ≤ qg_pop (P &&& (64 * w + b)) 8 by omega), Bool.true_or, Bool.true_or]
  · have hq := h1 rfl
    refine br_f (by decide) (br_f (by decide) (br_f (by decide) (br_t (by decide) ?_)))
    refine ek_if (nI_eq (b := 1) (by omega) (by decide)) (fun z => ?_) (fun z => ?_)
    · refine qg_X_odd hP hw hco (fun r g => hp2 _ _ (fun b hb => ?_))
      rw [g b hb, qg_rn_1, z]
    · refine qg_X_odd hP hw hco (fun r g => hp2 _ _ (fun b hb => ?_))
      have e : Q = 0 := by omega
      rw [qg_l_not _ hb, g b hb, qg_rn_1, e]
      by_cases y : qg_pop (P &&& (64 * w + b)) 8 % 2 = 1
      · rw [decide_eq_true y, decide_eq_false (by omega)]; rfl
      · rw [decide_eq_false y, decide_eq_true (by omega)]; rfl
  · have hq := h2 rfl
    refine br_f (by decide) (br_f (by decide) (br_f (by decide) (br_f (by decide) (br_t (by decide) ?_))))
    rw [nI_1]
    refine qg_X_al (by omega) hP hw hco (fun r g => ?_)
    intro g
    refine hp2 _ _ (fun b hb => ?_)
    rw [qg_l_not _ hb, g b hb, qg_rn_2]
    by_cases y : Q + 1 ≤ qg_pop (P &&& (64 * w + b)) 8
    · rw [decide_eq_true y, decide_eq_false (by omega)]; rfl
    · rw [decide_eq_false y, decide_eq_true (by omega)]; rfl
  · refine br_f (by decide) (br_t (by decide) ?_)
    rw [cP, hsz P hP]
    refine ⟨vP, qg_X_al (by omega) hP hw hco (fun r1 al1 g1 => ?_)⟩
    refine qg_X_al (N := 1) (by decide) hP hw hco (fun r2 al2 g2 => ?_)
    refine hp2 _ _ (fun b hb => ?_)
    rw [qg_l_or, qg_l_not _ hb, g1 b hb, g2 b hb, qg_rn_3, Bool.or_comm]
    congr 1
    by_cases z : qg_pop (P &&& (64 * w + b)) 8 = 0
    · rw [decide_eq_true z, decide_eq_false (show ¬ 1 ≤ qg_pop (P &&& (64 * w + b)) 8 by omega)]; rfl
    · rw [decide_eq_false z, decide_eq_true (show 1 ≤ qg_pop (P &&& (64 * w + b)) 8 by omega)]; rfl
end
end
section
/-! the component: what is asked, and the answers of the two questions -/
theorem qg_H_s (kd p q : Nat → Int32) (i : Nat) (mask : Int32) (m : Nat) : qg_H kd p q (i + 1) mask m = (qg_H kd p q i mask m && (!qg_sel mask i || qg_rh (kd i) (p i) (q i) m)) := by
  unfold qg_H
  have e : (∀ j, j < i + 1 → qg_sel mask j = true → qg_rh (kd j) (p j) (q j) m = true) ↔ ((∀ j, j < i → qg_sel mask j = true → qg_rh (kd j) (p j) (q j) m = true) ∧ (qg_sel mask i = true → qg_rh (kd i) (p i) (q i) m = true)) :=
    ⟨fun h => ⟨fun j hj => h j (by omega), h i (by omega)⟩, fun h j hj => (Nat.lt_or_ge j i).elim (h.1 j) (fun z => by
      have e : j = i := by omega
      subst e
      exact h.2)⟩
  rw [decide_eq_decide.mpr e, Bool.decide_and]
  congr 1
  generalize qg_sel mask i = a
  generalize qg_rh (kd i) (p i) (q i) m = b
  cases a <;> cases b <;> rfl
def qg_Inv (c : Nat) (kd fp sq sz : Nat → Int32) (co : Nat → Int64) : Prop := c ≤ 12 ∧ (∀ i, i < c → qg_ok (kd i) (fp i) (sq i)) ∧ (∀ s, s < 256 → sz s = nI (qg_pop s 8)) ∧ qg_col co
def qg_Rd (cw : Int32) (wn : Nat → Int32) (ho : Nat → Int64) (ow : Nat → Int32) (H : Nat → Bool) : Prop := (cw = 1 → qg_T ow H wn 0) ∧ (cw = 2 → ∀ x, x < 256 → qg_fb ho x = H x)
def qg_cw (cw : Int32) : Prop := cw = 0 ∨ cw = 1 ∨ cw = 2
def qg_all (c : Nat) : Int32 := ((1 : Int32) <<< (nI c &&& 31)) - 1
section
variable {rc cw ak : Int32} {ow kd fp sq sz wn : Nat → Int32} {co ho fo al : Nat → Int64}
theorem qg_X_fh14 {post : SX → Prop} {J : Int32 → Int32 → Int32 → Int32 → (Nat → Int32) → (Nat → Int32) → (Nat → Int32) → (Nat → Int32) → (Nat → Int32) → (Nat → Int32) → (Nat → Int64) → (Nat → Int64) → (Nat → Int64) → (Nat → Int64) → Prop} {c w : Nat} (hI : qg_Inv c kd fp sq sz co) (hw : w < 4)
    (hp : ∀ r al', (∀ b, b < 64 → qg_l r b = qg_H kd fp sq c ak (64 * w + b)) → J (nI (w + 1)) (nI c) cw ak ow kd fp sq sz wn co (vp_updL ho w r) fo al') : ∃ n, wX_fillHolding_14 post J (nI w) n (-1) 0 (nI c) cw ak ow kd fp sq sz wn co ho fo al := by
  obtain ⟨hc, hok, hsz, hco⟩ := hI
  refine pk_loop (σ := Int64 × (Nat → Int64)) (fun n i s => wX_fillHolding_14 post J (nI w) n s.1 (nI i) (nI c) cw ak ow kd fp sq sz wn co ho fo s.2) (fun i s => ∀ b, b < 64 → qg_l s.1 b = qg_H kd fp sq i ak (64 * w + b)) c 0 (-1, al) (Nat.zero_le _) ?_ ?_ ?_
  · intro b hb
    rw [qg_l_m1 b hb]
    exact (decide_eq_true (fun j hj => absurd hj (Nat.not_lt_zero j))).symm
  · intro n s hs
    refine br_t (nI_le (Nat.le_refl c) (by omega)) ?_
    rw [nI_clamp (show w < 2 ^ 31 by omega)]
    exact ⟨vp_in_nI hw (by decide), nm_e (nm_r (nI_1 w) (hp _ _ hs))⟩
  · intro n i s hi hs hn
    refine br_f (nI_ge hi (by omega)) (ek_if (qg_selI ak i) (fun z => ?_) (fun z => ?_))
    · refine qg_X_ruleWord (by omega) hw (hok i hi) hsz hco (fun r al' g => ?_)
      refine nm_e (nm_r (nI_1 i) (hn (s.1 &&& r, al') ?_))
      intro b hb
      show qg_l (s.1 &&& r) b = _
      rw [qg_l_and, hs b hb, g b hb, qg_H_s, z]
      rfl
    · refine nm_r (nI_1 i) (hn s ?_)
      intro b hb
      rw [hs b hb, qg_H_s, ts_nt z]
      cases qg_H kd fp sq i ak (64 * w + b) <;> rfl
theorem qg_X_fillHolding {post : SX → Prop} {c : Nat} (hI : qg_Inv c kd fp sq sz co)
    (hp : ∀ ho' al', (∀ x, x < 256 → qg_fb ho' x = qg_H kd fp sq c ak x) → post ((nI c), cw, ak, ow, kd, fp, sq, sz, wn, co, ho', fo, al')) : wpX_fillHolding post ((nI c), cw, ak, ow, kd, fp, sq, sz, wn, co, ho, fo, al) := by
  unfold wpX_fillHolding
  dsimp only
  refine pk_loop (σ := (Nat → Int64) × (Nat → Int64)) (fun n w s => wX_fillHolding_2 post n (nI w) (nI c) cw ak ow kd fp sq sz wn co s.1 fo s.2) (fun w s => ∀ w' b, w' < w → b < 64 → qg_l (s.1 w') b = qg_H kd fp sq c ak (64 * w' + b)) 4 0 (ho, al) (Nat.zero_le _) (fun w' b h => absurd h (Nat.not_lt_zero w')) ?_ ?_
  · intro n s hs
    refine br_t (by decide) (hp _ _ (fun x hx => ?_))
    unfold qg_fb
    rw [hs (x / 64) (x % 64) (by omega) (by omega), Nat.div_add_mod]
  · intro n w s hw hs hn
    refine br_f (nI_ge (b := 4) hw (by decide)) (qg_X_fh14 hI hw (fun r al' g => hn (vp_updL s.1 w r, al') ?_))
    intro w' b hw' hb
    show qg_l (vp_updL s.1 w r w') b = _
    by_cases z : w' = w
    · rw [z, pk_uLs]
      exact g b hb
    · rw [pk_uLn z]
      exact hs w' b (by omega) hb
theorem qg_X_ask {post : SX → Prop} {c : Nat} (hI : qg_Inv c kd fp sq sz co) (hw : qg_cw cw) (mask : Int32)
    (hp : ∀ wn' ho' al', qg_Rd cw wn' ho' ow (qg_H kd fp sq c mask) → post ((nI c), cw, mask, ow, kd, fp, sq, sz, wn', co, ho', fo, al')) : wpX_ask post ((nI c), cw, ak, ow, kd, fp, sq, sz, wn, co, ho, fo, al) mask := by
  unfold wpX_ask
  dsimp only
  rcases hw with rfl | rfl | rfl
  · exact br_f (by decide) (br_f (by decide) (hp wn ho al ⟨fun z => absurd z (by decide), fun z => absurd z (by decide)⟩))
  · exact br_t rfl (qg_X_fillTable hI.1 hI.2.1 hI.2.2.1 (fun wn' h => hp wn' ho al ⟨fun _ => h, fun z => absurd z (by decide)⟩))
  · exact br_f (by decide) (br_t rfl (qg_X_fillHolding hI (fun ho' al' h => hp wn ho' al' ⟨fun z => absurd z (by decide), fun _ => h⟩)))
theorem qg_X_askAll {post : SX → Prop} {c : Nat} (hI : qg_Inv c kd fp sq sz co) (hw : qg_cw cw)
    (hp : ∀ wn' ho' al', qg_Rd cw wn' ho' ow (qg_H kd fp sq c (qg_all c)) → post ((nI c), cw, (qg_all c), ow, kd, fp, sq, sz, wn', co, ho', fo, al')) : wpX_askAll post ((nI c), cw, ak, ow, kd, fp, sq, sz, wn, co, ho, fo, al) := by
  unfold wpX_askAll wpX_allRules
  dsimp only
  exact qg_X_ask hI hw (qg_all c) hp
theorem qg_X_rh {post : Int32 → Prop} {c x : Nat} (hI : qg_Inv c kd fp sq sz co) (hw : qg_cw cw) (hR : qg_Rd cw wn ho ow (qg_H kd fp sq c ak)) (hx : x < 256) (hp : post (qg_b (qg_H kd fp sq c ak x))) : wpX_rulesHold post ((nI c), cw, ak, ow, kd, fp, sq, sz, wn, co, ho, fo, al) (nI x) := by
  unfold wpX_rulesHold
  dsimp only
  rcases hw with rfl | rfl | rfl
  · exact br_t rfl (qg_X_hobo hI.1 hI.2.1 hI.2.2.1 ⟨qg_narrow _, hp⟩)
  · refine br_f (by decide) (br_t rfl ?_)
    have h : wn (256 + x) = qg_b (qg_H kd fp sq c ak x) := hR.1 rfl 8 x (by omega) (Nat.le_refl 8) hx
    have e : 256 + nI x = nI (256 + x) := nI_add 256 x
    rw [e, nI_clamp (show 256 + x < 2 ^ 31 by omega), h]
    exact ⟨vp_in_nI (by omega) (by decide), qg_narrow _, hp⟩
  · refine br_f (by decide) (br_f (by decide) ?_)
    have h := hR.2 rfl x hx
    unfold qg_fb at h
    rw [qg_sh6 (show x < 2 ^ 31 by omega), qg_a63 (show x < 2 ^ 31 by omega), nI_clamp (show x / 64 < 2 ^ 31 by omega)]
    refine ⟨vp_in_nI (by omega) (by decide), ek_if (qg_l_t (show x % 64 < 64 by omega) _) (fun z => ?_) (fun z => ?_)⟩
    · rw [← h, z] at hp
      exact hp
    · rw [← h, ts_nt z] at hp
      exact hp
/-! by search -/
theorem qg_zb (y v : Nat) : y % 2 ^ (v + 1) / 2 ^ v % 2 = y / 2 ^ v % 2 := by
  rw [qg_md, Nat.add_mul_div_left _ _ (Nat.two_pow_pos v), Nat.div_eq_of_lt (Nat.mod_lt _ (Nat.two_pow_pos v)), Nat.zero_add, Nat.mod_mod]
theorem qg_zm (y v : Nat) : y % 2 ^ (v + 1) % 2 ^ v = y % 2 ^ v := by
  rw [Nat.pow_succ, Nat.mod_mul_right_mod]
theorem qg_dnlt {k : Nat} (hk : k ≤ 8) : nI k + (-1) < nI k := by
  cases k with
  | zero => decide
  | succ k =>
    rw [pk_m1]
    exact nI_lt (by omega) (by omega)
theorem qg_X_s27 {post : Int32 → Prop} {J : Int32 → Int32 → Int32 → Prop} {H : Nat → Bool} {k x y : Nat} {x5 : Int32} (hk : k ≤ 8) (hS : qg_SI ow H k x y) (hp : post (qg_b (qg_V ow H k x)))
    (hJ : ∀ y', qg_SI ow H k x y' → qg_rev y < qg_rev y' → J (nI y') (qg_b (H y)) (x5 + 1)) : ∃ n, wX_winBySearch_27 post J (nI k) (qg_b (H y)) x5 rc cw ak ow kd fp sq sz wn co ho fo al n (nI y) 7 := by
  have hy := hS.1
  have out : ∀ n, H y = qg_V ow H k (y % 2 ^ k) → wX_winBySearch_27 post J (nI k) (qg_b (H y)) x5 rc cw ak ow kd fp sq sz wn co ho fo al (n + 1) (nI (y % 2 ^ k)) (nI k + (-1)) := by
    intro n e
    have hd := qg_dnlt hk
    refine br_t hd (br_f (Int32.not_le.mpr hd) ⟨qg_narrow _, ?_⟩)
    rw [e, hS.2.1]
    exact hp
  have h : wX_winBySearch_27 post J (nI k) (qg_b (H y)) x5 rc cw ak ow kd fp sq sz wn co ho fo al 9 (nI (y % 2 ^ 8)) (nI 8 + (-1)) := by
    refine pk_loopD (σ := Unit) (fun n j _ => wX_winBySearch_27 post J (nI k) (qg_b (H y)) x5 rc cw ak ow kd fp sq sz wn co ho fo al n (nI (y % 2 ^ j)) (nI j + (-1))) (fun j _ => k ≤ j ∧ j ≤ 8 ∧ H y = qg_V ow H j (y % 2 ^ j)) ?_ ?_ 8 () ⟨hk, Nat.le_refl 8, ?_⟩
    · intro n _ hI
      have e : k = 0 := by omega
      subst e
      exact out n hI.2.2
    · intro n j _ hI hn
      by_cases z : k = j + 1
      · subst z
        exact out n hI.2.2
      · have hkj : k ≤ j := by omega
        have hj8 : j < 8 := by omega
        show wX_winBySearch_27 post J (nI k) (qg_b (H y)) x5 rc cw ak ow kd fp sq sz wn co ho fo al (n + 1) (nI (y % 2 ^ (j + 1))) (nI (j + 1) + (-1))
        rw [pk_m1]
        have hp2 := qg_p2 (show j + 1 ≤ 8 by omega)
        have hz : y % 2 ^ (j + 1) < 2 ^ (j + 1) := Nat.mod_lt _ (Nat.two_pow_pos _)
        have ht : ((nI (y % 2 ^ (j + 1)) >>> (nI j &&& 31)) &&& 1) = 1 ↔ y / 2 ^ j % 2 = 1 := by
          rw [← qg_zb]
          exact qg_t1 (by omega) (by omega)
        have go : H y = qg_V ow H j (y % 2 ^ j) → wX_winBySearch_63 post J (wX_winBySearch_27 post J (nI k) (qg_b (H y)) x5 rc cw ak ow kd fp sq sz wn co ho fo al n) (nI k) (nI (y % 2 ^ (j + 1))) (qg_b (H y)) x5 (nI j) rc cw ak ow kd fp sq sz wn co ho fo al := by
          intro e
          refine nm_r (qg_clr j hj8 _ hz) (nm_e ?_)
          rw [qg_zm]
          exact hn () ⟨hkj, by omega, e⟩
        refine br_f (nI_nlt hkj (by omega)) (ek_if ht (fun hb => ?_) (fun hb => ?_))
        · exact go (hI.2.2.trans (qg_S1 hj8 hb (hS.2.2 j hkj hj8 hb)))
        · have hb0 : y / 2 ^ j % 2 = 0 := by
            have h2 : y / 2 ^ j % 2 < 2 := Nat.mod_lt _ (by decide)
            generalize y / 2 ^ j % 2 = q at *
            omega
          have em : y % 2 ^ (j + 1) = y % 2 ^ j := by rw [qg_md, hb0, Nat.mul_zero, Nat.add_zero]
          have st : H y = !decide (ow j = 0) → wX_winBySearch_78 post J (nI k) (nI (y % 2 ^ (j + 1))) (qg_b (H y)) x5 (nI j) rc cw ak ow kd fp sq sz wn co ho fo al := by
            intro e
            have hlt : y % 2 ^ j < 2 ^ j := Nat.mod_lt _ (Nat.two_pow_pos j)
            refine br_t (nI_le hkj (by omega)) ?_
            rw [em]
            refine nm_r (qg_or hj8 hlt) (nm_e (hJ _ (qg_SN hj8 hS hkj hb0 (hI.2.2.symm.trans e)) (qg_rev_up j hj8 y hy hb0)))
          rw [nI_clamp (show j < 2 ^ 31 by omega)]
          refine ⟨vp_in_nI hj8 (by decide), ?_⟩
          by_cases w : ow j = 0
          · refine br_t w (ek_if (qg_b_1 (H y)) (fun e => go (hI.2.2.trans (qg_S0 hj8 hb0 ?_))) (fun e => st ?_))
            · rw [← hI.2.2, e, decide_eq_true w]
            · rw [ts_nt e, decide_eq_true w]; rfl
          · refine br_f w (ek_if (qg_b_0 (H y)) (fun e => go (hI.2.2.trans (qg_S0 hj8 hb0 ?_))) (fun e => st ?_))
            · rw [← hI.2.2, e, decide_eq_false w]
            · rw [ts_nf e, decide_eq_false w]; rfl
    · rw [Nat.mod_eq_of_lt (show y < 2 ^ 8 from hy)]
      rfl
  rw [Nat.mod_eq_of_lt (show y < 2 ^ 8 from hy)] at h
  exact ⟨9, h⟩
theorem qg_X_search {post : Int32 → Prop} {c k x : Nat} (hI : qg_Inv c kd fp sq sz co) (hk : k ≤ 8) (hx : x < 2 ^ k) (hp : post (qg_b (qg_V ow (qg_H kd fp sq c ak) k x))) : wpX_winBySearch post ((nI c), cw, ak, ow, kd, fp, sq, sz, wn, co, ho, fo, al) (nI k) (nI x) := by
  have hp2 := qg_p2 hk
  unfold wpX_winBySearch
  dsimp only
  refine pk_loop (σ := Nat × Int32) (fun n g s => wX_winBySearch_8 post (nI k) (nI c) cw ak ow kd fp sq sz wn co ho fo al n (nI s.1) s.2 (nI g)) (fun g s => qg_SI ow (qg_H kd fp sq c ak) k x s.1 ∧ g ≤ qg_rev s.1) 256 0 (x, 0) (Nat.zero_le _) ⟨⟨by omega, Nat.mod_eq_of_lt hx, ?_⟩, Nat.zero_le _⟩ ?_ ?_
  · intro v hv hv8 hb
    have hle : 2 ^ k ≤ 2 ^ v := Nat.pow_le_pow_right (n := 2) (by decide) hv
    rw [Nat.div_eq_of_lt (by omega)] at hb
    exact absurd hb (by decide)
  · intro n s hs
    have h2 := qg_rev_lt s.1
    have h3 := hs.2
    exact absurd h3 (by omega)
  · intro n g s hg hs hn
    refine br_f (nI_ge (b := 256) hg (by decide)) (qg_X_hobo hI.1 hI.2.1 hI.2.2.1 ?_)
    refine qg_X_s27 hk hs.1 hp (fun y' h1 h2 => ?_)
    rw [nI_1]
    have h3 := hs.2
    exact hn (y', _) ⟨h1, Nat.lt_of_le_of_lt h3 h2⟩
end
end
section
/-! the component: by words; the two questions; what stands upon them -/
section
variable {rc cw ak : Int32} {ow kd fp sq sz wn : Nat → Int32} {co ho fo al : Nat → Int64}
def qg_op (us a b : Bool) : Bool := if us = true then (a || b) else (a && b)
theorem qg_Vop {own : Nat → Int32} {H : Nat → Bool} {k x : Nat} (hk : k < 8) : qg_V own H k x = qg_op (decide (own k = 0)) (qg_V own H (k + 1) x) (qg_V own H (k + 1) (x + 2 ^ k)) := by
  rw [qg_Vk hk]
  unfold qg_op
  by_cases z : own k = 0
  · rw [if_pos z, decide_eq_true z, if_pos rfl]
  · rw [if_neg z, decide_eq_false z, if_neg (by decide)]
theorem qg_X_foldWords {post : SX → Prop} {h : Nat} (hh : h ≤ 2) (us : Bool)
    (hp : ∀ fo', (∀ w b, w < h → qg_l (fo' w) b = qg_op us (qg_l (fo w) b) (qg_l (fo (w + h)) b)) → post (rc, cw, ak, ow, kd, fp, sq, sz, wn, co, ho, fo', al)) : wpX_foldWords post (rc, cw, ak, ow, kd, fp, sq, sz, wn, co, ho, fo, al) (nI h) (qg_b us) := by
  unfold wpX_foldWords
  dsimp only
  refine pk_loop (σ := Nat → Int64) (fun n i f => wX_foldWords_2 post (nI h) (qg_b us) rc cw ak n (nI i) ow kd fp sq sz wn co ho f al) (fun i f => (∀ w b, w < i → qg_l (f w) b = qg_op us (qg_l (fo w) b) (qg_l (fo (w + h)) b)) ∧ ∀ w, i ≤ w → f w = fo w) h 0 fo (Nat.zero_le _) ⟨fun w b hw => absurd hw (Nat.not_lt_zero w), fun w _ => rfl⟩ ?_ ?_
  · intro n f hI
    exact br_t (nI_le (Nat.le_refl h) (by omega)) (hp f hI.1)
  · intro n i f hi hI hn
    have e : nI i + nI h = nI (i + h) := nI_add i h
    have k1 : (nI i).toNatClampNeg = i := nI_clamp (by omega)
    have k2 : (nI (i + h)).toNatClampNeg = i + h := nI_clamp (by omega)
    refine br_f (nI_ge hi (by omega)) ?_
    rw [e, k1, k2]
    refine ⟨vp_in_nI (by omega) (by decide), nm_e ?_⟩
    have vi : vp_in (nI i) 4 := vp_in_nI (by omega) (by decide)
    have ne : ∀ r : Int64, (∀ b, qg_l r b = qg_op us (qg_l (fo i) b) (qg_l (fo (i + h)) b)) → (∀ w b, w < i + 1 → qg_l (vp_updL f i r w) b = qg_op us (qg_l (fo w) b) (qg_l (fo (w + h)) b)) ∧ ∀ w, i + 1 ≤ w → vp_updL f i r w = fo w := by
      intro r hr
      refine ⟨fun w b hw => ?_, fun w hw => ?_⟩
      · by_cases z : w = i
        · rw [z, pk_uLs]
          exact hr b
        · rw [pk_uLn z]
          exact hI.1 w b (by omega)
      · rw [pk_uLn (by omega)]
        exact hI.2 w (by omega)
    cases us with
    | false =>
      refine br_t rfl ⟨vi, vi, nm_e (nm_r (nI_1 i) (hn _ (ne _ (fun b => ?_))))⟩
      rw [qg_l_and, hI.2 i (Nat.le_refl i), hI.2 (i + h) (by omega)]
      rfl
    | true =>
      refine br_f (by decide) ⟨vi, vi, nm_e (nm_r (nI_1 i) (hn _ (ne _ (fun b => ?_))))⟩
      rw [qg_l_or, hI.2 i (Nat.le_refl i), hI.2 (i + h) (by omega)]
      rfl
theorem qg_X_foldBits {post : SX → Prop} {h : Nat} (hh : h < 64) (us : Bool)
    (hp : ∀ fo', (∀ b, qg_l (fo' 0) b = qg_op us (qg_l (fo 0) b) (qg_l (fo 0) (h + b))) → post (rc, cw, ak, ow, kd, fp, sq, sz, wn, co, ho, fo', al)) : wpX_foldBits post (rc, cw, ak, ow, kd, fp, sq, sz, wn, co, ho, fo, al) (nI h) (qg_b us) := by
  unfold wpX_foldBits
  dsimp only
  refine nm_e ?_
  cases us with
  | false =>
    refine br_t rfl (nm_e (hp _ (fun b => ?_)))
    rw [pk_uLs, qg_l_and, qg_l_shr hh]
    rfl
  | true =>
    refine br_f (by decide) (nm_e (hp _ (fun b => ?_)))
    rw [pk_uLs, qg_l_or, qg_l_shr hh]
    rfl
theorem qg_X_w28 {post : Int32 → SX → Prop} {H : Nat → Bool} {k x : Nat} (hk : k ≤ 8) (hx : x < 2 ^ k) (hF : ∀ z, z < 256 → qg_fb fo z = H z)
    (hp : ∀ fo', post (qg_b (qg_V ow H k x)) (rc, cw, ak, ow, kd, fp, sq, sz, wn, co, ho, fo', al)) : ∃ n, wX_winByWords_28 post (nI k) (nI x) n 7 rc cw ak ow kd fp sq sz wn co ho fo al := by
  have hk2 := qg_p2 hk
  have out : ∀ n f, (∀ z, z < 2 ^ k → qg_fb f z = qg_V ow H k z) → wX_winByWords_28 post (nI k) (nI x) (n + 1) (nI k + (-1)) rc cw ak ow kd fp sq sz wn co ho f al := by
    intro n f hf
    refine br_t (qg_dnlt hk) ?_
    have h := hf x hx
    have hp' := hp f
    unfold qg_fb at h
    rw [qg_sh6 (show x < 2 ^ 31 by omega), qg_a63 (show x < 2 ^ 31 by omega), nI_clamp (show x / 64 < 2 ^ 31 by omega)]
    refine ⟨vp_in_nI (by omega) (by decide), ek_if (qg_l_t (show x % 64 < 64 by omega) _) (fun z => ?_) (fun z => ?_)⟩
    · rw [← h, z] at hp'
      exact hp'
    · rw [← h, ts_nt z] at hp'
      exact hp'
  refine ⟨9, pk_loopD (σ := Nat → Int64) (fun n j f => wX_winByWords_28 post (nI k) (nI x) n (nI j + (-1)) rc cw ak ow kd fp sq sz wn co ho f al) (fun j f => k ≤ j ∧ j ≤ 8 ∧ ∀ z, z < 2 ^ j → qg_fb f z = qg_V ow H j z) ?_ ?_ 8 fo ⟨hk, Nat.le_refl 8, fun z hz => hF z hz⟩⟩
  · intro n f hI
    have e : k = 0 := by omega
    subst e
    exact out n f hI.2.2
  · intro n j f hI hn
    by_cases z : k = j + 1
    · subst z
      exact out n f hI.2.2
    · have hkj : k ≤ j := by omega
      have hj8 : j < 8 := by omega
      have hj2 : 2 ^ (j + 1) = 2 * 2 ^ j := by rw [Nat.pow_succ, Nat.mul_comm]
      show wX_winByWords_28 post (nI k) (nI x) (n + 1) (nI (j + 1) + (-1)) rc cw ak ow kd fp sq sz wn co ho f al
      rw [pk_m1]
      refine br_f (nI_nlt hkj (by omega)) ?_
      rw [nI_clamp (show j < 2 ^ 31 by omega)]
      by_cases h6 : j < 6
      · refine br_t (nI_lt (b := 6) h6 (by decide)) ⟨vp_in_nI hj8 (by decide), ?_⟩
        have h32 : 2 ^ j ≤ 32 := Nat.pow_le_pow_right (n := 2) (by decide) (show j ≤ 5 by omega)
        rw [qg_1s j (by omega)]
        have fin : ∀ us : Bool, decide (ow j = 0) = us → wpX_foldBits (fun u => match u with | (rc1, cw1, ak1, ow1, kd1, fp1, sq1, sz1, wn1, co1, ho1, fo1, al1) => ∀ y, y = nI j + (-1) → wX_winByWords_28 post (nI k) (nI x) n y rc1 cw1 ak1 ow1 kd1 fp1 sq1 sz1 wn1 co1 ho1 fo1 al1) (rc, cw, ak, ow, kd, fp, sq, sz, wn, co, ho, f, al) (nI (2 ^ j)) (qg_b us) := by
          intro us hus
          refine qg_X_foldBits (by omega) us (fun fo' g => nm_e (hn fo' ⟨hkj, by omega, fun v hv => ?_⟩))
          rw [qg_Vop hj8, hus, ← hI.2.2 v (by omega), ← hI.2.2 (v + 2 ^ j) (by omega)]
          unfold qg_fb
          rw [Nat.div_eq_of_lt (show v < 64 by omega), Nat.mod_eq_of_lt (show v < 64 by omega), Nat.div_eq_of_lt (show v + 2 ^ j < 64 by omega), Nat.mod_eq_of_lt (show v + 2 ^ j < 64 by omega), g v, Nat.add_comm (2 ^ j) v]
        by_cases w : ow j = 0
        · exact br_t w (fin true (decide_eq_true w))
        · exact br_f w (fin false (decide_eq_false w))
      · refine br_f (nI_nlt (b := 6) (by omega) (by omega)) ⟨vp_in_nI hj8 (by decide), ?_⟩
        have e6 : nI j - 6 = nI (j - 6) := pk_sub (b := 6) (by omega)
        rw [e6, qg_1s (j - 6) (by omega)]
        have hjj : (j = 6 ∧ 2 ^ (j - 6) = 1 ∧ 2 ^ j = 64) ∨ (j = 7 ∧ 2 ^ (j - 6) = 2 ∧ 2 ^ j = 128) := by
          have hc : j = 6 ∨ j = 7 := by omega
          rcases hc with rfl | rfl
          · exact Or.inl ⟨rfl, rfl, rfl⟩
          · exact Or.inr ⟨rfl, rfl, rfl⟩
        have fin : ∀ us : Bool, decide (ow j = 0) = us → wpX_foldWords (fun u => match u with | (rc1, cw1, ak1, ow1, kd1, fp1, sq1, sz1, wn1, co1, ho1, fo1, al1) => ∀ y, y = nI j + (-1) → wX_winByWords_28 post (nI k) (nI x) n y rc1 cw1 ak1 ow1 kd1 fp1 sq1 sz1 wn1 co1 ho1 fo1 al1) (rc, cw, ak, ow, kd, fp, sq, sz, wn, co, ho, f, al) (nI (2 ^ (j - 6))) (qg_b us) := by
          intro us hus
          refine qg_X_foldWords (by omega) us (fun fo' g => nm_e (hn fo' ⟨hkj, by omega, fun v hv => ?_⟩))
          rw [qg_Vop hj8, hus, ← hI.2.2 v (by omega), ← hI.2.2 (v + 2 ^ j) (by omega)]
          unfold qg_fb
          have d1 : (v + 2 ^ j) / 64 = v / 64 + 2 ^ (j - 6) := by omega
          have d2 : (v + 2 ^ j) % 64 = v % 64 := by omega
          rw [d1, d2]
          exact g (v / 64) (v % 64) (by omega)
        by_cases w : ow j = 0
        · exact br_t w (fin true (decide_eq_true w))
        · exact br_f w (fin false (decide_eq_false w))
theorem qg_X_words {post : Int32 → SX → Prop} {H : Nat → Bool} {k x : Nat} (hk : k ≤ 8) (hx : x < 2 ^ k) (hF : ∀ z, z < 256 → qg_fb ho z = H z)
    (hp : ∀ fo', post (qg_b (qg_V ow H k x)) (rc, cw, ak, ow, kd, fp, sq, sz, wn, co, ho, fo', al)) : wpX_winByWords post (rc, cw, ak, ow, kd, fp, sq, sz, wn, co, ho, fo, al) (nI k) (nI x) := by
  unfold wpX_winByWords
  dsimp only
  refine pk_loop (σ := Nat → Int64) (fun n w f => wX_winByWords_2 post (nI k) (nI x) rc cw ak n (nI w) ow kd fp sq sz wn co ho f al) (fun w f => ∀ v, v < w → f v = ho v) 4 0 fo (Nat.zero_le _) (fun v h => absurd h (Nat.not_lt_zero v)) ?_ ?_
  · intro n f hI
    refine br_t (by decide) (qg_X_w28 hk hx (fun z hz => ?_) hp)
    rw [← hF z hz]
    unfold qg_fb
    rw [hI (z / 64) (by omega)]
  · intro n w f hw hI hn
    have k1 : (nI w).toNatClampNeg = w := nI_clamp (by omega)
    refine br_f (nI_ge (b := 4) hw (by decide)) ?_
    rw [k1]
    refine ⟨vp_in_nI hw (by decide), vp_in_nI hw (by decide), nm_e (nm_r (nI_1 w) (hn _ (fun v hv => ?_)))⟩
    by_cases z : v = w
    · rw [z, pk_uLs]
    · rw [pk_uLn z]
      exact hI v (by omega)
theorem qg_X_win {post : Int32 → SX → Prop} {c k x : Nat} (hI : qg_Inv c kd fp sq sz co) (hw : qg_cw cw) (hR : qg_Rd cw wn ho ow (qg_H kd fp sq c ak)) (hk : k ≤ 8) (hx : x < 2 ^ k)
    (hp : ∀ fo', post (qg_b (qg_V ow (qg_H kd fp sq c ak) k x)) ((nI c), cw, ak, ow, kd, fp, sq, sz, wn, co, ho, fo', al)) : wpX_weWin post ((nI c), cw, ak, ow, kd, fp, sq, sz, wn, co, ho, fo, al) (nI k) (nI x) := by
  have hk2 := qg_p2 hk
  unfold wpX_weWin
  dsimp only
  rcases hw with rfl | rfl | rfl
  · exact br_t rfl (qg_X_search hI hk hx ⟨qg_narrow _, hp fo⟩)
  · refine br_f (by decide) (br_t rfl ?_)
    have h := hR.1 rfl k x (Nat.zero_le k) hk hx
    rw [qg_1s k (by omega), nI_add, nI_clamp (show 2 ^ k + x < 2 ^ 31 by omega), h]
    exact ⟨vp_in_nI (by omega) (by decide), qg_narrow _, hp fo⟩
  · exact br_f (by decide) (br_f (by decide) (qg_X_words hk hx (hR.2 rfl) (fun fo' => ⟨qg_narrow _, hp fo'⟩)))
theorem qg_X_choice {post : Int32 → SX → Prop} {c k x : Nat} (hI : qg_Inv c kd fp sq sz co) (hw : qg_cw cw) (hR : qg_Rd cw wn ho ow (qg_H kd fp sq c ak)) (hk : k < 8) (hx : x < 2 ^ k)
    (hp : ∀ fo', post (qg_ch ow (qg_V ow (qg_H kd fp sq c ak)) k x) ((nI c), cw, ak, ow, kd, fp, sq, sz, wn, co, ho, fo', al)) : wpX_choice post ((nI c), cw, ak, ow, kd, fp, sq, sz, wn, co, ho, fo, al) (nI k) (nI x) := by
  have hk2 : 2 ^ (k + 1) = 2 * 2 ^ k := by rw [Nat.pow_succ, Nat.mul_comm]
  have key : ∀ us : Bool, decide (ow k = 0) = us → wX_choice_14 post (nI k) (nI x) (qg_b us) (nI c) cw ak ow kd fp sq sz wn co ho fo al := by
    intro us hus
    unfold wX_choice_14
    unfold qg_ch at hp
    rw [hus] at hp
    rw [nI_1, qg_or hk hx]
    refine qg_X_win hI hw hR (by omega) (by omega) (fun fo1 => ?_)
    refine ek_if (qg_b_i _ _) (fun z => ?_) (fun z => ?_)
    · rw [if_pos z] at hp
      exact hp fo1
    · rw [if_neg z] at hp
      refine qg_X_win hI hw hR (by omega) (by omega) (fun fo2 => ?_)
      refine ek_if (qg_b_i _ _) (fun y => ?_) (fun y => ?_)
      · rw [if_pos y] at hp
        exact hp fo2
      · rw [if_neg y] at hp
        exact hp fo2
  unfold wpX_choice
  dsimp only
  rw [nI_clamp (show k < 2 ^ 31 by omega)]
  refine ⟨vp_in_nI hk (by decide), ?_⟩
  by_cases z : ow k = 0
  · exact br_t z (key true (decide_eq_true z))
  · exact br_f z (key false (decide_eq_false z))
theorem qg_X_hl {post : Int32 → Prop} {c : Nat} (hI : qg_Inv c kd fp sq sz co) (hw : qg_cw cw) (hR : qg_Rd cw wn ho ow (qg_H kd fp sq c ak)) (hp : post (nI (qg_cnt (qg_H kd fp sq c ak) 256))) : wpX_holdingLists post ((nI c), cw, ak, ow, kd, fp, sq, sz, wn, co, ho, fo, al) := by
  unfold wpX_holdingLists
  dsimp only
  refine pk_loop (σ := Unit) (fun n i _ => wX_holdingLists_4 post (nI c) cw ak ow kd fp sq sz wn co ho fo al n (nI (qg_cnt (qg_H kd fp sq c ak) i)) (nI i)) (fun _ _ => True) 256 0 () (Nat.zero_le _) trivial ?_ ?_
  · intro n _ _
    exact br_t (by decide) hp
  · intro n i _ hi _ hn
    refine br_f (nI_ge (b := 256) hi (by decide)) (qg_X_rh hI hw hR hi ?_)
    have e : qg_cnt (qg_H kd fp sq c ak) (i + 1) = qg_cnt (qg_H kd fp sq c ak) i + (if qg_H kd fp sq c ak i = true then 1 else 0) := rfl
    have h := hn () trivial
    cases hz : qg_H kd fp sq c ak i with
    | false =>
      rw [e, hz, if_neg (by decide), Nat.add_zero] at h
      exact br_t rfl (nm_r (nI_1 i) h)
    | true =>
      rw [e, hz, if_pos rfl] at h
      exact br_f (by decide) (nm_r (nI_1 _) (nm_r (nI_1 i) h))
theorem qg_xl {x v : Nat} (hx : x < 256) (hv : v < 8) : x ^^^ 2 ^ v < 256 := Nat.xor_lt_two_pow (n := 8) hx (Nat.pow_lt_pow_right (by decide) hv)
theorem qg_X_isIdle {post : Int32 → Prop} {c v : Nat} (hI : qg_Inv c kd fp sq sz co) (hw : qg_cw cw) (hR : qg_Rd cw wn ho ow (qg_H kd fp sq c ak)) (hv : v < 8) (hp : post (qg_b (qg_I (qg_H kd fp sq c ak) v))) : wpX_isIdle post ((nI c), cw, ak, ow, kd, fp, sq, sz, wn, co, ho, fo, al) (nI v) := by
  unfold wpX_isIdle
  dsimp only
  refine pk_loop (σ := Unit) (fun n i _ => wX_isIdle_2 post (nI v) (nI c) cw ak ow kd fp sq sz wn co ho fo al n (nI i)) (fun i _ => ∀ x, x < i → qg_H kd fp sq c ak x = qg_H kd fp sq c ak (x ^^^ 2 ^ v)) 256 0 () (Nat.zero_le _) (fun x hx => absurd hx (Nat.not_lt_zero x)) ?_ ?_
  · intro n _ h
    unfold qg_I at hp
    rw [qg_eqs_t h] at hp
    exact br_t (by decide) hp
  · intro n i _ hi h hn
    refine br_f (nI_ge (b := 256) hi (by decide)) (qg_X_rh hI hw hR hi ?_)
    have e : nI i ^^^ ((1 : Int32) <<< (nI v &&& 31)) = nI (i ^^^ 2 ^ v) := by rw [qg_1s v (by omega), nx_xor]
    rw [e]
    refine qg_X_rh hI hw hR (qg_xl hi hv) (ek_if (qg_b_i _ _) (fun z => ?_) (fun z => ?_))
    · refine nm_r (nI_1 i) (hn () (fun x hx => ?_))
      by_cases y : x = i
      · rw [y]; exact z
      · exact h x (by omega)
    · unfold qg_I at hp
      rw [qg_eqs_f hi z] at hp
      exact hp
theorem qg_X_firstRun {post : Int32 → Prop} (hp : post (nI (qg_fr ow 7))) : wpX_firstRun post (rc, cw, ak, ow, kd, fp, sq, sz, wn, co, ho, fo, al) := by
  unfold wpX_firstRun
  dsimp only
  have key : ∀ d n, d ≤ 7 → d < n → post (nI (qg_fr ow d)) → wX_firstRun_2 post rc cw ak ow kd fp sq sz wn co ho fo al n (nI (8 - d)) := by
    intro d
    induction d with
    | zero =>
      intro n _ hn h
      obtain ⟨m, rfl⟩ : ∃ m, n = m + 1 := ⟨n - 1, by omega⟩
      exact br_t (by decide) h
    | succ d ih =>
      intro n hd hn h
      obtain ⟨m, rfl⟩ : ∃ m, n = m + 1 := ⟨n - 1, by omega⟩
      have e : 8 - (d + 1) = 7 - d := by omega
      have e2 : 7 - d + 1 = 8 - d := by omega
      rw [e]
      have h2 : post (nI (if ow (7 - d) = ow 0 then qg_fr ow d else 7 - d)) := h
      refine br_f (nI_ge (b := 8) (by omega) (by decide)) ?_
      rw [nI_clamp (show 7 - d < 2 ^ 31 by omega)]
      refine ⟨vp_in_nI (by omega) (by decide), br_c (fun z => ?_) (fun z => ?_)⟩
      · rw [if_pos z] at h2
        refine nm_r (nI_1 (7 - d)) ?_
        rw [e2]
        exact ih m (by omega) (by omega) h2
      · rw [if_neg z] at h2
        exact h2
  exact ⟨8, key 7 8 (by decide) (by decide) hp⟩
theorem qg_orr {k x r : Nat} (hk : k < 8) (hx : x < 2 ^ k) (hr : r < 256) : nI x ||| (nI r <<< (nI k &&& 31)) = nI (x + r * 2 ^ k) := by
  rw [qg_shl1 hk hr]
  apply b_ext
  intro i hi
  rw [b_or, qg_bt x hi, qg_bt _ hi, qg_bt _ hi, ← Nat.testBit_or]
  have e := Nat.two_pow_add_eq_or_of_lt hx r
  rw [Nat.mul_comm (2 ^ k) r] at e
  rw [Nat.or_comm, ← e, Nat.add_comm]
theorem qg_rest {k x r : Nat} (hk : k ≤ 8) (hx : x < 2 ^ k) (hr : r < 2 ^ (8 - k)) : x + r * 2 ^ k < 256 := by
  have e : 2 ^ (8 - k) * 2 ^ k = 256 := by
    rw [← Nat.pow_add, Nat.sub_add_cancel hk]
  have h : (r + 1) * 2 ^ k ≤ 2 ^ (8 - k) * 2 ^ k := Nat.mul_le_mul_right _ hr
  rw [Nat.add_mul, Nat.one_mul] at h
  omega
theorem qg_256s : ∀ k, k < 8 → (256 : Int32) >>> (nI k &&& 31) = nI (2 ^ (8 - k)) := by decide +kernel
theorem qg_X_isDecided {post : Int32 → Prop} {c k x : Nat} (hI : qg_Inv c kd fp sq sz co) (hw : qg_cw cw) (hR : qg_Rd cw wn ho ow (qg_H kd fp sq c ak)) (hk : k < 8) (hx : x < 2 ^ k) (hp : post (qg_b (qg_D (qg_H kd fp sq c ak) k x))) : wpX_isDecided post ((nI c), cw, ak, ow, kd, fp, sq, sz, wn, co, ho, fo, al) (nI k) (nI x) := by
  have hp8 := qg_p2 (show 8 - k ≤ 8 by omega)
  have hk8 := qg_p2 (show k ≤ 8 by omega)
  unfold wpX_isDecided
  dsimp only
  refine qg_X_rh hI hw hR (by omega) ?_
  refine pk_loop (σ := Unit) (fun n i _ => wX_isDecided_9 post (nI k) (nI x) (qg_b (qg_H kd fp sq c ak x)) (nI c) cw ak ow kd fp sq sz wn co ho fo al n (nI i)) (fun i _ => ∀ r, r < i → qg_H kd fp sq c ak (x + r * 2 ^ k) = qg_H kd fp sq c ak x) (2 ^ (8 - k)) 1 () hp8.1 ?_ ?_ ?_
  · intro r hr
    have e : r = 0 := by omega
    rw [e, Nat.zero_mul, Nat.add_zero]
  · intro n _ h
    unfold qg_D at hp
    rw [qg_eqs_t h] at hp
    refine br_t ?_ hp
    rw [qg_256s k hk]
    exact nI_le (Nat.le_refl _) (by omega)
  · intro n i _ hi h hn
    refine br_f ?_ ?_
    · rw [qg_256s k hk]
      exact nI_ge hi (by omega)
    · rw [qg_orr hk hx (by omega)]
      refine qg_X_rh hI hw hR (qg_rest (by omega) hx hi) (ek_if (qg_b_i _ _) (fun z => ?_) (fun z => ?_))
      · refine nm_r (nI_1 i) (hn () (fun r hr => ?_))
        by_cases y : r = i
        · rw [y]; exact z
        · exact h r (by omega)
      · unfold qg_D at hp
        rw [qg_eqs_f hi z] at hp
        exact hp
end
end
section
/-! the component: its public methods -/
theorem qg_dr_s {D : Nat → Bool} : ∀ k d, k + d = 8 → (∀ j, j < k → D j = false) → qg_dr D 8 = qg_dr D d
  | 0, d, h, _ => by
    have e : d = 8 := by omega
    rw [e]
  | k + 1, d, h, hf => by
    rw [qg_dr_s k (d + 1) (by omega) (fun j hj => hf j (by omega))]
    show (if D (7 - d) = true then 7 - d else qg_dr D d) = qg_dr D d
    have e : 7 - d = k := by omega
    rw [e, hf k (by omega), if_neg (by decide)]
theorem qg_dr_at {D : Nat → Bool} {k : Nat} (hk : k < 8) (h : ∀ j, j < k → D j = false) (hD : D k = true) : qg_dr D 8 = k := by
  obtain ⟨d, hd⟩ : ∃ d, k + (d + 1) = 8 := ⟨7 - k, by omega⟩
  rw [qg_dr_s k (d + 1) hd h]
  show (if D (7 - d) = true then 7 - d else qg_dr D d) = k
  have e : 7 - d = k := by omega
  rw [e, hD, if_pos rfl]
theorem qg_dr_8 {D : Nat → Bool} (h : ∀ j, j < 8 → D j = false) : qg_dr D 8 = 8 := qg_dr_s 8 0 rfl h
theorem qg_less {kd p q : Nat → Int32} {c i : Nat} (hc : c ≤ 12) (m1 m2 : Int32) {m : Nat} (h1 : qg_H kd p q c m1 m = true) : qg_H kd p q c (m1 &&& m2) m = true := by
  refine qg_H_mono (m1 := m1) (fun j hj hs => ?_) h1
  rw [qg_sel_bt _ (by omega), b_and] at hs
  rw [qg_sel_bt _ (by omega)]
  cases hz : bt m1 j with
  | true => rfl
  | false => rw [hz] at hs; cases hs
section
variable {rc cw ak : Int32} {ow kd fp sq sz wn : Nat → Int32} {co ho fo al : Nat → Int64}
theorem qg_X_fillSizes {post : SX → Prop} (hp : ∀ sz', (∀ s, s < 256 → sz' s = nI (qg_pop s 8)) → post (rc, cw, ak, ow, kd, fp, sq, sz', wn, co, ho, fo, al)) : wpX_fillSizes post (rc, cw, ak, ow, kd, fp, sq, sz, wn, co, ho, fo, al) := by
  unfold wpX_fillSizes
  dsimp only
  refine nm_e ?_
  refine pk_loop (σ := Nat → Int32) (fun n i f => wX_fillSizes_9 post rc cw ak n (nI i) ow kd fp sq f wn co ho fo al) (fun i f => 1 ≤ i ∧ ∀ s, s < i → f s = nI (qg_pop s 8)) 256 1 _ (by decide) ⟨Nat.le_refl 1, fun s hs => ?_⟩ ?_ ?_
  · have e : s = 0 := by omega
    rw [e, pk_us]
    rfl
  · intro n f h
    exact br_t (by decide) (hp f h.2)
  · intro n i f hi h hn
    have h1 := h.1
    have e1 : nI i >>> ((1 : Int32) &&& 31) = nI (i / 2) := pk_shrN (by omega) _ 1 (by decide)
    have e2 : nI i &&& 1 = nI (i % 2) := pk_andN (by omega) 1 (by decide)
    refine br_f (nI_ge (b := 256) hi (by decide)) ?_
    rw [e1, e2, nI_clamp (show i / 2 < 2 ^ 31 by omega), nI_clamp (show i < 2 ^ 31 by omega), h.2 (i / 2) (by omega), nI_add]
    refine ⟨vp_in_nI (by omega) (by decide), vp_in_nI hi (by decide), nm_e (nm_r (nI_1 i) (hn _ ⟨by omega, fun s hs => ?_⟩))⟩
    by_cases z : s = i
    · rw [z, pk_us, qg_pop_half i hi]
    · rw [pk_un z]
      exact h.2 s (by omega)
def qg_cI (v x : Nat) (f : Nat → Int64) : Prop := ∀ v' w b, v' < 8 → w < 4 → b < 64 → qg_l (f (v' * 4 + w)) b = ((64 * w + b).testBit v' && decide (v' < v ∨ (v' = v ∧ 64 * w + b < x)))
theorem qg_X_fillColumns {post : SX → Prop} (h0 : ∀ j, co j = 0) (hp : ∀ co', qg_col co' → post (rc, cw, ak, ow, kd, fp, sq, sz, wn, co', ho, fo, al)) : wpX_fillColumns post (rc, cw, ak, ow, kd, fp, sq, sz, wn, co, ho, fo, al) := by
  unfold wpX_fillColumns
  dsimp only
  refine pk_loop (σ := Nat → Int64) (fun n v f => wX_fillColumns_2 post rc cw ak n (nI v) ow kd fp sq sz wn f ho fo al) (fun v f => qg_cI v 0 f) 8 0 co (Nat.zero_le _) ?_ ?_ ?_
  · intro v' w b _ _ _
    rw [h0, qg_l_0, decide_eq_false (by omega), Bool.and_false]
  · intro n f h
    refine br_t (by decide) (hp f (fun v w b hv hw hb => ?_))
    rw [h v w b hv hw hb, decide_eq_true (Or.inl hv), Bool.and_true]
  · intro n v f hv h hn
    refine br_f (nI_ge (b := 8) hv (by decide)) ?_
    refine pk_loop (σ := Nat → Int64) (fun n2 x f => wX_fillColumns_10 post (wX_fillColumns_2 post rc cw ak n) (nI v) rc cw ak n2 (nI x) ow kd fp sq sz wn f ho fo al) (fun x f => qg_cI v x f) 256 0 f (Nat.zero_le _) h ?_ ?_
    · intro n2 f hf
      refine br_t (by decide) (nm_r (nI_1 v) (hn f (fun v' w b hv' hw hb => ?_)))
      rw [hf v' w b hv' hw hb]
      congr 1
      exact decide_eq_decide.mpr (by omega)
    · intro n2 x f hx hf hn2
      have e6 : nI x >>> ((6 : Int32) &&& 31) = nI (x / 64) := qg_sh6 (by omega)
      have e63 : nI x &&& 63 = nI (x % 64) := qg_a63 (by omega)
      have e4 : nI v * 4 + nI (x / 64) = nI (v * 4 + x / 64) := by
        show nI v * nI 4 + nI (x / 64) = _
        rw [pk_mul, nI_add]
      refine br_f (nI_ge (b := 256) hx (by decide)) (ek_if (qg_t1 (by omega) (by omega)) (fun z => ?_) (fun z => ?_))
      · rw [e6, e63, e4, nI_clamp (show v * 4 + x / 64 < 2 ^ 31 by omega)]
        refine ⟨vp_in_nI (by omega) (by decide), vp_in_nI (by omega) (by decide), nm_e (nm_r (nI_1 x) (hn2 _ (fun v' w b hv' hw hb => ?_)))⟩
        by_cases y : v' * 4 + w = v * 4 + x / 64
        · have ev : v' = v := by omega
          have ew : w = x / 64 := by omega
          subst ev
          rw [y, pk_uLs, qg_l_or, ← y, hf v' w b hv hw hb, qg_l_shl _ (show x % 64 < 64 by omega) b hb]
          by_cases q : b = x % 64
          · have ex : 64 * w + b = x := by omega
            rw [decide_eq_true q, Bool.or_true, ex, (qg_tb x v').mpr z, decide_eq_true (show v' < v' ∨ (v' = v' ∧ x < x + 1) by omega)]
            rfl
          · rw [decide_eq_false q, Bool.or_false]
            congr 1
            exact decide_eq_decide.mpr (by omega)
        · rw [pk_uLn y, hf v' w b hv' hw hb]
          congr 1
          exact decide_eq_decide.mpr (by omega)
      · refine nm_r (nI_1 x) (hn2 f (fun v' w b hv' hw hb => ?_))
        rw [hf v' w b hv' hw hb]
        by_cases y : v' = v ∧ 64 * w + b = x
        · have e : (64 * w + b).testBit v' = false := by
            cases q : (64 * w + b).testBit v' with
            | false => rfl
            | true =>
              rw [y.1, y.2] at q
              exact absurd ((qg_tb x v).mp q) z
          rw [e]
          rfl
        · congr 1
          exact decide_eq_decide.mpr (by omega)
theorem qg_upd0 (i : Nat) : upd (fun _ => 0) i 0 = fun _ => 0 := by
  funext j
  unfold upd
  split <;> rfl
theorem qg_X_init {post : SX → Prop} (hp : ∀ sz' co', (∀ s, s < 256 → sz' s = nI (qg_pop s 8)) → qg_col co' → post (0, 2, 0, (fun _ => 0), (fun _ => 0), (fun _ => 0), (fun _ => 0), sz', (fun _ => 0), co', (fun _ => 0), (fun _ => 0), (fun _ => 0))) : wpX_init post := by
  unfold wpX_init
  refine pk_loop (σ := Nat → Int32) (fun n i f => wX_init_101 post 0 2 0 n (nI i) f (fun _ => 0) (fun _ => 0) (fun _ => 0) (fun _ => 0) (fun _ => 0) (fun _ => 0) (fun _ => 0) (fun _ => 0) (fun _ => 0)) (fun i f => f = fun _ => 0) 8 0 _ (Nat.zero_le _) rfl ?_ ?_
  · intro n f h
    subst h
    exact br_t (by decide) (qg_X_fillSizes (fun sz' h1 => qg_X_fillColumns (fun _ => rfl) (fun co' h2 => hp sz' co' h1 h2)))
  · intro n i f hi h hn
    subst h
    refine br_f (nI_ge (b := 8) hi (by decide)) ?_
    rw [nI_clamp (show i < 2 ^ 31 by omega)]
    exact ⟨vp_in_nI hi (by decide), nm_e (nm_r (nI_1 i) (hn _ (qg_upd0 i)))⟩
theorem qg_X_count {post : Int32 → SX → Prop} {c : Nat} (hI : qg_Inv c kd fp sq sz co) (hw : qg_cw cw)
    (hp : ∀ ak' wn' ho' al', post (nI (qg_cnt (qg_H kd fp sq c (qg_all c)) 256)) ((nI c), cw, ak', ow, kd, fp, sq, sz, wn', co, ho', fo, al')) : wpX_count post ((nI c), cw, ak, ow, kd, fp, sq, sz, wn, co, ho, fo, al) := by
  unfold wpX_count
  dsimp only
  exact qg_X_askAll hI hw (fun wn' ho' al' hR => qg_X_hl hI hw hR (hp _ wn' ho' al'))
theorem qg_X_idle {post : Int32 → SX → Prop} {c : Nat} (hI : qg_Inv c kd fp sq sz co) (hw : qg_cw cw)
    (hp : ∀ ak' wn' ho' al', post (qg_set (qg_I (qg_H kd fp sq c (qg_all c))) 8) ((nI c), cw, ak', ow, kd, fp, sq, sz, wn', co, ho', fo, al')) : wpX_idle post ((nI c), cw, ak, ow, kd, fp, sq, sz, wn, co, ho, fo, al) := by
  unfold wpX_idle
  dsimp only
  refine qg_X_askAll hI hw (fun wn' ho' al' hR => ?_)
  refine pk_loop (σ := Unit) (fun n v _ => wX_idle_8 post (nI c) cw (qg_all c) ow kd fp sq sz wn' co ho' fo al' n (qg_set (qg_I (qg_H kd fp sq c (qg_all c))) v) (nI v)) (fun _ _ => True) 8 0 () (Nat.zero_le _) trivial ?_ ?_
  · intro n _ _
    exact br_t (by decide) (hp _ wn' ho' al')
  · intro n v _ hv _ hn
    refine br_f (nI_ge (b := 8) hv (by decide)) (qg_X_isIdle hI hw hR hv ?_)
    have e : qg_set (qg_I (qg_H kd fp sq c (qg_all c))) (v + 1) = if qg_I (qg_H kd fp sq c (qg_all c)) v = true then qg_set (qg_I (qg_H kd fp sq c (qg_all c))) v ||| ((1 : Int32) <<< (nI v &&& 31)) else qg_set (qg_I (qg_H kd fp sq c (qg_all c))) v := rfl
    have h := hn () trivial
    cases hz : qg_I (qg_H kd fp sq c (qg_all c)) v with
    | false =>
      rw [e, hz, if_neg (by decide)] at h
      exact br_t rfl (nm_r (nI_1 v) h)
    | true =>
      rw [e, hz, if_pos rfl] at h
      exact br_f (by decide) (nm_e (nm_r (nI_1 v) h))
theorem qg_X_openings {post : Int32 → SX → Prop} {c : Nat} (hI : qg_Inv c kd fp sq sz co) (hw : qg_cw cw)
    (hp : ∀ ak' wn' ho' fo' al', post (nI (qg_cnt (qg_V ow (qg_H kd fp sq c (qg_all c)) (qg_fr ow 7)) (2 ^ qg_fr ow 7))) ((nI c), cw, ak', ow, kd, fp, sq, sz, wn', co, ho', fo', al')) : wpX_openings post ((nI c), cw, ak, ow, kd, fp, sq, sz, wn, co, ho, fo, al) := by
  unfold wpX_openings
  dsimp only
  refine qg_X_askAll hI hw (fun wn' ho' al' hR => ?_)
  have hp' := hp (qg_all c) wn' ho'
  have hk := qg_fr_le ow 7
  refine qg_X_firstRun ?_
  revert hk hp'
  generalize qg_fr ow 7 = k
  intro hp' hk
  have hk2 := qg_p2 hk
  refine pk_loop (σ := Nat → Int64) (fun n i f => wX_openings_13 post (nI k) n (nI (qg_cnt (qg_V ow (qg_H kd fp sq c (qg_all c)) k) i)) (nI i) (nI c) cw (qg_all c) ow kd fp sq sz wn' co ho' f al') (fun _ _ => True) (2 ^ k) 0 fo (Nat.zero_le _) trivial ?_ ?_
  · intro n f _
    refine br_t ?_ (hp' f al')
    rw [qg_1s k (by omega)]
    exact nI_le (Nat.le_refl _) (by omega)
  · intro n i f hi _ hn
    refine br_f ?_ (qg_X_win hI hw hR hk hi (fun fo' => ?_))
    · rw [qg_1s k (by omega)]
      exact nI_ge hi (by omega)
    · have e : qg_cnt (qg_V ow (qg_H kd fp sq c (qg_all c)) k) (i + 1) = qg_cnt (qg_V ow (qg_H kd fp sq c (qg_all c)) k) i + (if qg_V ow (qg_H kd fp sq c (qg_all c)) k i = true then 1 else 0) := rfl
      have h := hn fo' trivial
      cases hz : qg_V ow (qg_H kd fp sq c (qg_all c)) k i with
      | false =>
        rw [e, hz, if_neg (by decide), Nat.add_zero] at h
        exact br_t rfl (nm_r (nI_1 i) h)
      | true =>
        rw [e, hz, if_pos rfl] at h
        exact br_f (by decide) (nm_r (nI_1 _) (nm_r (nI_1 i) h))
theorem qg_X_under {post : Int32 → SX → Prop} {c : Nat} (hI : qg_Inv c kd fp sq sz co) (hw : qg_cw cw) (mask : Int32)
    (hp : ∀ wn' ho' fo' al', post (qg_b (qg_V ow (qg_H kd fp sq c mask) 0 0)) ((nI c), cw, mask, ow, kd, fp, sq, sz, wn', co, ho', fo', al')) : wpX_weWinUnder post ((nI c), cw, ak, ow, kd, fp, sq, sz, wn, co, ho, fo, al) mask := by
  unfold wpX_weWinUnder
  dsimp only
  exact qg_X_ask hI hw mask (fun wn' ho' al' hR => qg_X_win (k := 0) (x := 0) hI hw hR (by decide) (by decide) (fun fo' => ⟨qg_narrow _, hp wn' ho' fo' al'⟩))
def qg_bl (ow kd fp sq : Nat → Int32) (c : Nat) : Int32 := if qg_V ow (qg_H kd fp sq c (qg_all c)) 0 0 = true then 0 else qg_bm (fun m => qg_V ow (qg_H kd fp sq c m) 0 0) (qg_all c) c
theorem qg_X_blame {post : Int32 → SX → Prop} {c : Nat} (hI : qg_Inv c kd fp sq sz co) (hw : qg_cw cw)
    (hp : ∀ ak' wn' ho' fo' al', post (qg_bl ow kd fp sq c) ((nI c), cw, ak', ow, kd, fp, sq, sz, wn', co, ho', fo', al')) : wpX_blame post ((nI c), cw, ak, ow, kd, fp, sq, sz, wn, co, ho, fo, al) := by
  have hc := hI.1
  unfold wpX_blame wpX_allRules
  dsimp only
  unfold qg_bl at hp
  refine qg_X_under hI hw (qg_all c) (fun wn' ho' fo' al' => ?_)
  cases hz : qg_V ow (qg_H kd fp sq c (qg_all c)) 0 0 with
  | true =>
    rw [hz, if_pos rfl] at hp
    exact br_f (by decide) (hp _ _ _ _ _)
  | false =>
    rw [hz, if_neg (by decide)] at hp
    refine br_t rfl ?_
    refine pk_loop (σ := Int32 × (Nat → Int32) × (Nat → Int64) × (Nat → Int64) × (Nat → Int64)) (fun n i s => wX_blame_17 post n (qg_bm (fun m => qg_V ow (qg_H kd fp sq c m) 0 0) (qg_all c) i) (nI i) (nI c) cw s.1 ow kd fp sq sz s.2.1 co s.2.2.1 s.2.2.2.1 s.2.2.2.2) (fun _ _ => True) c 0 (qg_all c, wn', ho', fo', al') (Nat.zero_le _) trivial ?_ ?_
    · intro n s _
      exact br_t (nI_le (Nat.le_refl c) (by omega)) (hp _ _ _ _ _)
    · intro n i s hi _ hn
      have e : qg_bm (fun m => qg_V ow (qg_H kd fp sq c m) 0 0) (qg_all c) (i + 1) = if qg_V ow (qg_H kd fp sq c (qg_bm (fun m => qg_V ow (qg_H kd fp sq c m) 0 0) (qg_all c) i &&& (((1 : Int32) <<< (nI i &&& 31)) ^^^ (-1)))) 0 0 = true then qg_bm (fun m => qg_V ow (qg_H kd fp sq c m) 0 0) (qg_all c) i else qg_bm (fun m => qg_V ow (qg_H kd fp sq c m) 0 0) (qg_all c) i &&& (((1 : Int32) <<< (nI i &&& 31)) ^^^ (-1)) := rfl
      refine br_f (nI_ge hi (by omega)) (nm_e (qg_X_under hI hw _ (fun wn2 ho2 fo2 al2 => ?_)))
      have h := hn (qg_bm (fun m => qg_V ow (qg_H kd fp sq c m) 0 0) (qg_all c) i &&& (((1 : Int32) <<< (nI i &&& 31)) ^^^ (-1)), wn2, ho2, fo2, al2) trivial
      cases hv : qg_V ow (qg_H kd fp sq c (qg_bm (fun m => qg_V ow (qg_H kd fp sq c m) 0 0) (qg_all c) i &&& (((1 : Int32) <<< (nI i &&& 31)) ^^^ (-1)))) 0 0 with
      | false =>
        rw [e, hv, if_neg (by decide)] at h
        exact br_t rfl (nm_r (nI_1 i) h)
      | true =>
        rw [e, hv, if_pos rfl] at h
        exact br_f (by decide) (nm_r (nI_1 i) h)
def qg_dd (ow kd fp sq : Nat → Int32) (c : Nat) (k : Nat) : Bool := qg_D (qg_H kd fp sq c (qg_all c)) k (qg_dv ow (qg_V ow (qg_H kd fp sq c (qg_all c))) k)
theorem qg_X_decided {post : Int32 → SX → Prop} {c : Nat} (hI : qg_Inv c kd fp sq sz co) (hw : qg_cw cw)
    (hp : ∀ ak' wn' ho' fo' al', post (nI (qg_dr (qg_dd ow kd fp sq c) 8)) ((nI c), cw, ak', ow, kd, fp, sq, sz, wn', co, ho', fo', al')) : wpX_decided post ((nI c), cw, ak, ow, kd, fp, sq, sz, wn, co, ho, fo, al) := by
  unfold wpX_decided
  dsimp only
  refine qg_X_askAll hI hw (fun wn' ho' al' hR => ?_)
  refine pk_loop (σ := Nat → Int64) (fun n k f => wX_decided_8 post n (nI (qg_dv ow (qg_V ow (qg_H kd fp sq c (qg_all c))) k)) (nI k) (nI c) cw (qg_all c) ow kd fp sq sz wn' co ho' f al') (fun k _ => ∀ j, j < k → qg_dd ow kd fp sq c j = false) 8 0 fo (Nat.zero_le _) (fun j hj => absurd hj (Nat.not_lt_zero j)) ?_ ?_
  · intro n f h
    have hp' := hp (qg_all c) wn' ho' f al'
    rw [qg_dr_8 h] at hp'
    exact br_t (by decide) hp'
  · intro n k f hk h hn
    have hlt := qg_dv_lt ow (qg_V ow (qg_H kd fp sq c (qg_all c))) k
    refine br_f (nI_ge (b := 8) hk (by decide)) (qg_X_isDecided hI hw hR hk hlt ?_)
    cases hz : qg_D (qg_H kd fp sq c (qg_all c)) k (qg_dv ow (qg_V ow (qg_H kd fp sq c (qg_all c))) k) with
    | true =>
      have hp' := hp (qg_all c) wn' ho' f al'
      rw [qg_dr_at hk h hz] at hp'
      exact br_f (by decide) hp'
    | false =>
      have hd : ∀ j, j < k + 1 → qg_dd ow kd fp sq c j = false := fun j hj => (Nat.lt_or_ge j k).elim (h j) (fun y => by
        have e : j = k := by omega
        rw [e]
        exact hz)
      refine br_t rfl (qg_X_choice hI hw hR hk hlt (fun fo' => ?_))
      have g := hn fo' hd
      have e : qg_dv ow (qg_V ow (qg_H kd fp sq c (qg_all c))) (k + 1) = if qg_ch ow (qg_V ow (qg_H kd fp sq c (qg_all c))) k (qg_dv ow (qg_V ow (qg_H kd fp sq c (qg_all c))) k) = 1 then qg_dv ow (qg_V ow (qg_H kd fp sq c (qg_all c))) k + 2 ^ k else qg_dv ow (qg_V ow (qg_H kd fp sq c (qg_all c))) k := rfl
      refine br_c (fun y => ?_) (fun y => ?_)
      · rw [e, if_pos y] at g
        exact nm_r (qg_or hk hlt) (nm_r (nI_1 k) g)
      · rw [e, if_neg y] at g
        exact nm_r (nI_1 k) g
def qg_nf (kd fp sq : Nat → Int32) (c : Nat) (i : Nat) : Bool := qg_eqs 256 (qg_H kd fp sq c (qg_all c &&& (((1 : Int32) <<< (nI i &&& 31)) ^^^ (-1)))) (qg_H kd fp sq c (qg_all c))
theorem qg_nf_c {kd fp sq : Nat → Int32} {c : Nat} (hc : c ≤ 12) (i : Nat) : nI (qg_cnt (qg_H kd fp sq c (qg_all c &&& (((1 : Int32) <<< (nI i &&& 31)) ^^^ (-1)))) 256) = nI (qg_cnt (qg_H kd fp sq c (qg_all c)) 256) ↔ qg_nf kd fp sq c i = true := by
  have h1 := qg_cnt_n (qg_H kd fp sq c (qg_all c &&& (((1 : Int32) <<< (nI i &&& 31)) ^^^ (-1)))) 256
  have h2 := qg_cnt_n (qg_H kd fp sq c (qg_all c)) 256
  rw [nI_eq (by omega) (by omega), qg_cnt_eq 256 (fun x _ h => qg_less (i := i) hc _ _ h)]
  unfold qg_nf qg_eqs
  rw [decide_eq_true_eq]
theorem qg_X_needless {post : Int32 → SX → Prop} {c : Nat} (hI : qg_Inv c kd fp sq sz co) (hw : qg_cw cw)
    (hp : ∀ ak' wn' ho' al', post (qg_set (qg_nf kd fp sq c) c) ((nI c), cw, ak', ow, kd, fp, sq, sz, wn', co, ho', fo, al')) : wpX_needless post ((nI c), cw, ak, ow, kd, fp, sq, sz, wn, co, ho, fo, al) := by
  have hc := hI.1
  unfold wpX_needless wpX_allRules
  dsimp only
  refine qg_X_askAll hI hw (fun wn' ho' al' hR => qg_X_hl hI hw hR ?_)
  refine pk_loop (σ := Int32 × (Nat → Int32) × (Nat → Int64) × (Nat → Int64)) (fun n i s => wX_needless_19 post (nI (qg_cnt (qg_H kd fp sq c (qg_all c)) 256)) (qg_all c) n (qg_set (qg_nf kd fp sq c) i) (nI i) (nI c) cw s.1 ow kd fp sq sz s.2.1 co s.2.2.1 fo s.2.2.2) (fun _ _ => True) c 0 (qg_all c, wn', ho', al') (Nat.zero_le _) trivial ?_ ?_
  · intro n s _
    exact br_t (nI_le (Nat.le_refl c) (by omega)) (hp _ _ _ _)
  · intro n i s hi _ hn
    refine br_f (nI_ge hi (by omega)) (qg_X_ask hI hw _ (fun wn2 ho2 al2 hR2 => qg_X_hl hI hw hR2 ?_))
    have h := hn (qg_all c &&& (((1 : Int32) <<< (nI i &&& 31)) ^^^ (-1)), wn2, ho2, al2) trivial
    have e : qg_set (qg_nf kd fp sq c) (i + 1) = if qg_nf kd fp sq c i = true then qg_set (qg_nf kd fp sq c) i ||| ((1 : Int32) <<< (nI i &&& 31)) else qg_set (qg_nf kd fp sq c) i := rfl
    refine ek_if (qg_nf_c hc i) (fun z => ?_) (fun z => ?_)
    · rw [e, if_pos z] at h
      exact nm_e (nm_r (nI_1 i) h)
    · rw [e, if_neg z] at h
      exact nm_r (nI_1 i) h
end
end
section
/-! the reference -/
theorem qg_eqs_s (j : Nat) (f g : Nat → Bool) : qg_eqs (j + 1) f g = if f j = g j then qg_eqs j f g else false := by
  by_cases z : f j = g j
  · rw [if_pos z]
    refine decide_eq_decide.mpr ⟨fun h x hx => h x (by omega), fun h x hx => ?_⟩
    rcases Nat.lt_or_ge x j with y | y
    · exact h x y
    · have e : x = j := by omega
      rw [e]; exact z
  · rw [if_neg z]
    exact qg_eqs_f (Nat.lt_succ_self j) z
theorem qg_Y_in {post : Int32 → Prop} {u : SY} {x lo hi : Int32} (h1 : ¬ x < lo → ¬ hi < x → post 1) (h0 : (x < lo ∨ hi < x) → post 0) : wpY_in post u x lo hi := by
  obtain ⟨a1, a2, a3, a4, a5, a6, a7⟩ := u
  exact br_c (fun z => h0 (Or.inl z)) (fun z => br_c (fun y => h0 (Or.inr y)) (fun y => h1 z y))
def qg_YT (ow : Nat → Int32) (H : Nat → Bool) (f : Nat → Int32) (j : Nat) : Prop := ∀ k x, j ≤ k → k ≤ 8 → x < 2 ^ k → f (256 * k + x) = qg_b (qg_V ow H k x)
theorem qg_YT_step {ow : Nat → Int32} {H : Nat → Bool} {f : Nat → Int32} {j : Nat} (hT : qg_YT ow H f (j + 1)) (h : ∀ x, x < 2 ^ j → f (256 * j + x) = qg_b (qg_V ow H j x)) : qg_YT ow H f j := by
  intro k x hk hk8 hx
  rcases Nat.lt_or_ge j k with z | z
  · exact hT k x z hk8 hx
  · have e : k = j := by omega
    subst e
    exact h x hx
section
variable {rc : Int32} {kd fp sq ow tr aa : Nat → Int32}
theorem qg_Y_size {post : Int32 → Prop} {s : Nat} (hs : s < 256) (hp : post (nI (qg_pop s 8))) : wpY_sizeOf post (rc, kd, fp, sq, ow, tr, aa) (nI s) := by
  unfold wpY_sizeOf
  dsimp only
  refine pk_loop (σ := Unit) (fun n v _ => wY_sizeOf_4 post (nI s) rc kd fp sq ow tr aa n (nI (qg_pop s v)) (nI v)) (fun _ _ => True) 8 0 () (Nat.zero_le _) trivial ?_ ?_
  · intro n _ _
    exact br_t (by decide) hp
  · intro n v _ hv _ hn
    refine br_f (nI_ge (b := 8) hv (by decide)) (nm_r ?_ (nm_r (nI_1 v) (hn () trivial)))
    rw [qg_tst (by omega) (by omega), nI_add]
    rfl
theorem qg_Y_isKept {post : Int32 → Prop} {i m : Nat} (hi : i < 12) (hok : qg_ok (kd i) (fp i) (sq i)) (hp : post (qg_b (qg_rh (kd i) (fp i) (sq i) m))) : wpY_isKept post (rc, kd, fp, sq, ow, tr, aa) (nI i) (nI m) := by
  obtain ⟨K, P, Q, eK, eP, eQ, hK, hP, hQ, h0, h1, h2⟩ := hok
  rw [eK, eP, eQ, qg_rh_n hK hP hQ] at hp
  have hin : vp_in (nI i) 12 := vp_in_nI hi (by decide)
  have ci : (nI i).toNatClampNeg = i := nI_clamp (by omega)
  have hlt : P &&& m < 256 := qg_and_lt hP
  have hpl := qg_pop_le (P &&& m) 8
  have t1 : qg_rn K P Q m = true → post 1 := fun e => by rw [e] at hp; exact hp
  have t0 : qg_rn K P Q m = false → post 0 := fun e => by rw [e] at hp; exact hp
  unfold wpY_isKept
  dsimp only
  rw [ci, eK, eP, eQ, nx_and]
  refine ⟨hin, nm_e ⟨hin, ?_⟩⟩
  rcases qg_four hK with rfl | rfl | rfl | rfl
  · refine br_t (by decide) ?_
    have hc : (nI Q &&& (nI m ^^^ (-1)) = 0) ↔ qg_pop Q 8 ≤ qg_pop (Q &&& m) 8 := by
      rw [Int32.and_comm]
      exact qg_com (h0 rfl)
    exact ek_if (qg_nI0 hlt) (fun z => ⟨hin, ek_if hc (fun z2 => t0 (by rw [qg_rn_0, decide_eq_false (not_not_intro z), decide_eq_false (not_not_intro z2)]; rfl)) (fun z2 => t1 (by rw [qg_rn_0, decide_eq_true z2, Bool.or_true]))⟩) (fun z => t1 (by rw [qg_rn_0, decide_eq_true z, Bool.true_or]))
  · have hq := h1 rfl
    refine br_f (by decide) ⟨hin, br_t (by decide) (qg_Y_size hlt ⟨by decide, hin, ?_⟩)⟩
    have er : nI (qg_pop (P &&& m) 8) - nI (qg_pop (P &&& m) 8) / 2 * 2 = nI (qg_pop (P &&& m) 8 % 2) := pk_rem (d := 2) (by omega) (by decide) (by decide)
    rw [er]
    exact ek_if (nI_eq (by omega) (by omega)) (fun z => t1 (by rw [qg_rn_1]; exact decide_eq_true z)) (fun z => t0 (by rw [qg_rn_1]; exact decide_eq_false z))
  · have hq := h2 rfl
    refine br_f (by decide) ⟨hin, br_f (by decide) ⟨hin, br_t (by decide) (qg_Y_size hlt ⟨hin, ?_⟩)⟩⟩
    exact ek_if (nI_ltI (by omega) (by omega)) (fun z => t0 (by rw [qg_rn_2]; exact decide_eq_false (by omega))) (fun z => t1 (by rw [qg_rn_2]; exact decide_eq_true (by omega)))
  · refine br_f (by decide) ⟨hin, br_f (by decide) ⟨hin, br_f (by decide) ?_⟩⟩
    exact ek_if (qg_nI0 hlt) (fun z => t1 (by rw [qg_rn_3, decide_eq_true z, Bool.true_or])) (fun z => ⟨hin, ek_if (nI_eq (by omega) (by omega)) (fun z2 => t1 (by rw [qg_rn_3, decide_eq_true ((qg_sub hP).mp z2), Bool.or_true])) (fun z2 => t0 (by rw [qg_rn_3, decide_eq_false z, decide_eq_false (fun y => z2 ((qg_sub hP).mpr y))]; rfl))⟩)
theorem qg_Y_areKept {post : Int32 → Prop} {c m : Nat} {mask : Int32} (hc : c ≤ 12) (hok : ∀ i, i < c → qg_ok (kd i) (fp i) (sq i)) (hp : post (qg_b (qg_H kd fp sq c mask m))) : wpY_areKept post ((nI c), kd, fp, sq, ow, tr, aa) mask (nI m) := by
  have t1 : (∀ i, i < c → qg_sel mask i = true → qg_rh (kd i) (fp i) (sq i) m = true) → post 1 := fun e => by
    unfold qg_H at hp; rw [decide_eq_true e] at hp; exact hp
  have t0 : ¬ (∀ i, i < c → qg_sel mask i = true → qg_rh (kd i) (fp i) (sq i) m = true) → post 0 := fun e => by
    unfold qg_H at hp; rw [decide_eq_false e] at hp; exact hp
  unfold wpY_areKept
  dsimp only
  refine pk_loop (σ := Unit) (fun n i _ => wY_areKept_2 post mask (nI m) (nI c) kd fp sq ow tr aa n (nI i)) (fun i _ => ∀ j, j < i → qg_sel mask j = true → qg_rh (kd j) (fp j) (sq j) m = true) c 0 () (Nat.zero_le _) (fun j hj => absurd hj (Nat.not_lt_zero j)) ?_ ?_
  · intro n _ hI
    exact br_t (nI_le (Nat.le_refl c) (by omega)) (t1 hI)
  · intro n i _ hi hI hn
    refine br_f (nI_ge hi (by omega)) (ek_if (qg_selI mask i) (fun hs => ?_) (fun hs => ?_))
    · refine qg_Y_isKept (by omega) (hok i hi) ?_
      cases hr : qg_rh (kd i) (fp i) (sq i) m with
      | false => exact br_t rfl (t0 (fun e => by rw [e i hi hs] at hr; cases hr))
      | true =>
        refine br_f (by decide) (nm_r (nI_1 i) (hn () (fun j hj hsj => ?_)))
        rcases Nat.lt_or_ge j i with z | z
        · exact hI j z hsj
        · have e : j = i := by omega
          rw [e]; exact hr
    · refine nm_r (nI_1 i) (hn () (fun j hj hsj => ?_))
      rcases Nat.lt_or_ge j i with z | z
      · exact hI j z hsj
      · have e : j = i := by omega
        rw [e] at hsj
        exact absurd hsj hs
theorem qg_Y_grow40 {post : SY → Prop} {J : Int32 → (Nat → Int32) → (Nat → Int32) → (Nat → Int32) → (Nat → Int32) → (Nat → Int32) → (Nat → Int32) → Prop} {H : Nat → Bool} {j : Nat} (hj : j < 8) (hT : qg_YT ow H tr (j + 1)) (hp : ∀ tr', qg_YT ow H tr' j → J (nI j + (-1)) kd fp sq ow tr' aa) : ∃ n, wY_grow_40 post J (nI j) rc n 0 kd fp sq ow tr aa := by
  have ha := qg_p2 (Nat.le_of_lt hj)
  have ha2 : 2 ^ j ≤ 128 := Nat.pow_le_pow_right (n := 2) (by decide) (show j ≤ 7 by omega)
  have es : 2 ^ (j + 1) = 2 * 2 ^ j := by rw [Nat.pow_succ, Nat.mul_comm]
  refine pk_loop (σ := Nat → Int32) (fun n i s => wY_grow_40 post J (nI j) rc n (nI i) kd fp sq ow s aa) (fun i s => qg_YT ow H s (j + 1) ∧ ∀ x, x < i → s (256 * j + x) = qg_b (qg_V ow H j x)) (2 ^ j) 0 tr (Nat.zero_le _) ⟨hT, fun x hx => absurd hx (Nat.not_lt_zero x)⟩ ?_ ?_
  · intro n s hI
    refine br_t ?_ (nm_e (hp s (qg_YT_step hI.1 hI.2)))
    rw [qg_1s j (by omega)]
    exact nI_le (Nat.le_refl _) (by omega)
  · intro n i s hi hI hn
    have e1 : (256 * (nI j + 1)) + nI i = nI (256 * (j + 1) + i) := by
      show (nI 256 * (nI j + 1)) + nI i = _
      rw [nI_1, pk_mul, nI_add]
    have e2 : (256 * (nI j + 1)) + nI (i + 2 ^ j) = nI (256 * (j + 1) + (i + 2 ^ j)) := by
      show (nI 256 * (nI j + 1)) + nI (i + 2 ^ j) = _
      rw [nI_1, pk_mul, nI_add]
    have e3 : (256 * nI j) + nI i = nI (256 * j + i) := by
      show (nI 256 * nI j) + nI i = _
      rw [pk_mul, nI_add]
    have r1 := hI.1 (j + 1) i (Nat.le_refl _) (by omega) (by omega)
    have r2 := hI.1 (j + 1) (i + 2 ^ j) (Nat.le_refl _) (by omega) (by omega)
    have leaf : ∀ b : Bool, qg_V ow H j i = b → (vp_in (nI (256 * j + i)) 2304 ∧ ∀ w', w' = upd s (256 * j + i) (vp_nar .boolean (qg_b b)) → ∀ y, y = nI i + 1 → wY_grow_40 post J (nI j) rc n y kd fp sq ow w' aa) := by
      intro b hb
      refine ⟨vp_in_nI (by omega) (by decide), nm_e (nm_r (nI_1 i) (hn _ ⟨?_, ?_⟩))⟩
      · intro k x hk hk8 hx
        rw [pk_un (by omega)]
        exact hI.1 k x hk hk8 hx
      · intro x hx
        by_cases z : x = i
        · rw [z, pk_us, qg_nar, hb]
        · rw [pk_un (by omega)]
          exact hI.2 x (by omega)
    have c1 : (nI (256 * (j + 1) + i)).toNatClampNeg = 256 * (j + 1) + i := nI_clamp (by omega)
    have c2 : (nI (256 * (j + 1) + (i + 2 ^ j))).toNatClampNeg = 256 * (j + 1) + (i + 2 ^ j) := nI_clamp (by omega)
    have c3 : (nI (256 * j + i)).toNatClampNeg = 256 * j + i := nI_clamp (by omega)
    have c4 : (nI j).toNatClampNeg = j := nI_clamp (by omega)
    refine br_f ?_ ?_
    · rw [qg_1s j (by omega)]
      exact nI_ge hi (by omega)
    rw [qg_or hj hi, e1, e2, e3, c1, c2, c3, c4]
    refine ⟨vp_in_nI (by omega) (by decide), nm_r r1 ⟨vp_in_nI (by omega) (by decide), nm_r r2 ⟨vp_in_nI hj (by decide), ?_⟩⟩⟩
    have hV := qg_Vk (own := ow) (H := H) (x := i) hj
    by_cases z : ow j = 0
    · rw [if_pos z] at hV
      refine br_t z ?_
      cases hA : qg_V ow H (j + 1) i with
      | true => exact br_f (by decide) (leaf true (by rw [hV, hA]; rfl))
      | false =>
        cases hB : qg_V ow H (j + 1) (i + 2 ^ j) with
        | true => exact br_t rfl (br_f (by decide) (leaf true (by rw [hV, hA, hB]; rfl)))
        | false => exact br_t rfl (br_t rfl (leaf false (by rw [hV, hA, hB]; rfl)))
    · rw [if_neg z] at hV
      refine br_f z ?_
      cases hA : qg_V ow H (j + 1) i with
      | false => exact br_t rfl (leaf false (by rw [hV, hA]; rfl))
      | true =>
        cases hB : qg_V ow H (j + 1) (i + 2 ^ j) with
        | true => exact br_f (by decide) (br_f (by decide) (leaf true (by rw [hV, hA, hB]; rfl)))
        | false => exact br_f (by decide) (br_t rfl (leaf false (by rw [hV, hA, hB]; rfl)))
theorem qg_Y_grow34 {post : SY → Prop} {H : Nat → Bool} (hT : qg_YT ow H tr 8) (hp : ∀ tr', qg_YT ow H tr' 0 → post (rc, kd, fp, sq, ow, tr', aa)) : ∃ n, wY_grow_34 post rc n 7 kd fp sq ow tr aa := by
  refine ⟨9, pk_loopD (σ := Nat → Int32) (fun n j s => wY_grow_34 post rc n (nI j + (-1)) kd fp sq ow s aa) (fun j s => j ≤ 8 ∧ qg_YT ow H s j) ?_ ?_ 8 tr ⟨Nat.le_refl 8, hT⟩⟩
  · intro n s hI
    exact br_t (by decide) (hp s hI.2)
  · intro n j s hI hn
    show wY_grow_34 post rc (n + 1) (nI (j + 1) + (-1)) kd fp sq ow s aa
    rw [pk_m1]
    have h8 : j + 1 ≤ 8 := hI.1
    exact br_f (nI_pos (by omega)) (qg_Y_grow40 h8 hI.2 (fun tr' h => hn tr' ⟨by omega, h⟩))
theorem qg_Y_grow {post : SY → Prop} {c : Nat} {mask : Int32} (hc : c ≤ 12) (hok : ∀ i, i < c → qg_ok (kd i) (fp i) (sq i)) (hp : ∀ tr', qg_YT ow (qg_H kd fp sq c mask) tr' 0 → post ((nI c), kd, fp, sq, ow, tr', aa)) : wpY_grow post ((nI c), kd, fp, sq, ow, tr, aa) mask := by
  unfold wpY_grow
  dsimp only
  refine pk_loop (σ := Nat → Int32) (fun n i s => wY_grow_2 post mask (nI c) n (nI i) kd fp sq ow s aa) (fun i s => ∀ x, x < i → s (2048 + x) = qg_b (qg_H kd fp sq c mask x)) 256 0 tr (Nat.zero_le _) (fun x hx => absurd hx (Nat.not_lt_zero x)) ?_ ?_
  · intro n s hI
    refine br_t (by decide) (qg_Y_grow34 (H := qg_H kd fp sq c mask) ?_ hp)
    intro k x hk hk8 hx
    have e : k = 8 := by omega
    subst e
    exact hI x hx
  · intro n i s hi hI hn
    refine br_f (nI_ge (b := 256) hi (by decide)) (qg_Y_areKept hc hok ?_)
    have e : 2048 + nI i = nI (2048 + i) := nI_add 2048 i
    rw [e, nI_clamp (show 2048 + i < 2 ^ 31 by omega)]
    refine ⟨vp_in_nI (by omega) (by decide), nm_e (nm_r (nI_1 i) (hn _ ?_))⟩
    intro x hx
    by_cases z : x = i
    · rw [z, pk_us, qg_nar]
    · rw [pk_un (by omega)]
      exact hI x (by omega)
theorem qg_Y_growAll {post : SY → Prop} {c : Nat} (hc : c ≤ 12) (hok : ∀ i, i < c → qg_ok (kd i) (fp i) (sq i)) (hp : ∀ tr', qg_YT ow (qg_H kd fp sq c (qg_all c)) tr' 0 → post ((nI c), kd, fp, sq, ow, tr', aa)) : wpY_growAll post ((nI c), kd, fp, sq, ow, tr, aa) := by
  unfold wpY_growAll wpY_everyRule
  dsimp only
  exact qg_Y_grow (mask := qg_all c) hc hok hp
theorem qg_Y_end {H : Nat → Bool} (hT : qg_YT ow H tr 0) {x : Nat} (hx : x < 256) : tr (2048 + x) = qg_b (H x) := hT 8 x (by omega) (Nat.le_refl 8) hx
theorem qg_Y_best {post : Int32 → Prop} {H : Nat → Bool} {k x : Nat} (hT : qg_YT ow H tr 0) (hk : k < 8) (hx : x < 2 ^ k) (hp : post (qg_ch ow (qg_V ow H) k x)) : wpY_best post (rc, kd, fp, sq, ow, tr, aa) (nI k) (nI x) := by
  have hk2 : 2 ^ (k + 1) = 2 * 2 ^ k := by rw [Nat.pow_succ, Nat.mul_comm]
  have hk3 := qg_p2 (show k + 1 ≤ 8 by omega)
  have e1 : (256 * (nI k + 1)) + nI x = nI (256 * (k + 1) + x) := by
    show (nI 256 * (nI k + 1)) + nI x = _
    rw [nI_1, pk_mul, nI_add]
  have e2 : (256 * (nI k + 1)) + nI (x + 2 ^ k) = nI (256 * (k + 1) + (x + 2 ^ k)) := by
    show (nI 256 * (nI k + 1)) + nI (x + 2 ^ k) = _
    rw [nI_1, pk_mul, nI_add]
  have key : ∀ us : Bool, decide (ow k = 0) = us → wY_best_14 post (nI k) (nI x) (qg_b us) rc kd fp sq ow tr aa := by
    intro us hus
    unfold wY_best_14
    unfold qg_ch at hp
    rw [hus] at hp
    rw [qg_or hk hx, e1, e2, nI_clamp (show 256 * (k + 1) + x < 2 ^ 31 by omega), nI_clamp (show 256 * (k + 1) + (x + 2 ^ k) < 2 ^ 31 by omega), hT (k + 1) x (Nat.zero_le _) (by omega) (by omega), hT (k + 1) (x + 2 ^ k) (Nat.zero_le _) (by omega) (by omega)]
    refine ⟨vp_in_nI (by omega) (by decide), ek_if (qg_b_i _ _) (fun z => ?_) (fun z => ⟨vp_in_nI (by omega) (by decide), ek_if (qg_b_i _ _) (fun y => ?_) (fun y => ?_)⟩)⟩
    · rw [if_pos z] at hp
      exact hp
    · rw [if_neg z, if_pos y] at hp
      exact hp
    · rw [if_neg z, if_neg y] at hp
      exact hp
  unfold wpY_best
  dsimp only
  rw [nI_clamp (show k < 2 ^ 31 by omega)]
  refine ⟨vp_in_nI hk (by decide), ?_⟩
  by_cases z : ow k = 0
  · exact br_t z (key true (decide_eq_true z))
  · exact br_f z (key false (decide_eq_false z))
theorem qg_Y_count {post : Int32 → SY → Prop} {c : Nat} (hc : c ≤ 12) (hok : ∀ i, i < c → qg_ok (kd i) (fp i) (sq i)) (hp : ∀ tr', post (nI (qg_cnt (qg_H kd fp sq c (qg_all c)) 256)) ((nI c), kd, fp, sq, ow, tr', aa)) : wpY_count post ((nI c), kd, fp, sq, ow, tr, aa) := by
  unfold wpY_count wpY_countEnds
  dsimp only
  refine qg_Y_growAll hc hok (fun tr' hT => ?_)
  refine pk_loop (σ := Unit) (fun n i _ => wY_countEnds_4 (fun r => post r ((nI c), kd, fp, sq, ow, tr', aa)) (nI c) kd fp sq ow tr' aa n (nI (qg_cnt (qg_H kd fp sq c (qg_all c)) i)) (nI i)) (fun _ _ => True) 256 0 () (Nat.zero_le _) trivial ?_ ?_
  · intro n _ _
    exact br_t (by decide) (hp tr')
  · intro n i _ hi _ hn
    refine br_f (nI_ge (b := 256) hi (by decide)) ?_
    have e0 : 2048 + nI i = nI (2048 + i) := nI_add 2048 i
    rw [e0, nI_clamp (show 2048 + i < 2 ^ 31 by omega), qg_Y_end hT hi]
    have e : qg_cnt (qg_H kd fp sq c (qg_all c)) (i + 1) = qg_cnt (qg_H kd fp sq c (qg_all c)) i + (if qg_H kd fp sq c (qg_all c) i = true then 1 else 0) := rfl
    have h := hn () trivial
    refine ⟨vp_in_nI (by omega) (by decide), ?_⟩
    cases hz : qg_H kd fp sq c (qg_all c) i with
    | false =>
      rw [e, hz, if_neg (by decide), Nat.add_zero] at h
      exact br_t rfl (nm_r (nI_1 i) h)
    | true =>
      rw [e, hz, if_pos rfl] at h
      exact br_f (by decide) (nm_r (nI_1 _) (nm_r (nI_1 i) h))
theorem qg_Y_idle {post : Int32 → SY → Prop} {c : Nat} (hc : c ≤ 12) (hok : ∀ i, i < c → qg_ok (kd i) (fp i) (sq i)) (hp : ∀ tr', post (qg_set (qg_I (qg_H kd fp sq c (qg_all c))) 8) ((nI c), kd, fp, sq, ow, tr', aa)) : wpY_idle post ((nI c), kd, fp, sq, ow, tr, aa) := by
  unfold wpY_idle
  dsimp only
  refine qg_Y_growAll hc hok (fun tr' hT => ?_)
  refine pk_loop (σ := Unit) (fun n v _ => wY_idle_8 post (nI c) kd fp sq ow tr' aa n (qg_set (qg_I (qg_H kd fp sq c (qg_all c))) v) (nI v)) (fun _ _ => True) 8 0 () (Nat.zero_le _) trivial ?_ ?_
  · intro n _ _
    exact br_t (by decide) (hp tr')
  · intro n v _ hv _ hn
    refine br_f (nI_ge (b := 8) hv (by decide)) ?_
    have h := hn () trivial
    have e : qg_set (qg_I (qg_H kd fp sq c (qg_all c))) (v + 1) = if qg_I (qg_H kd fp sq c (qg_all c)) v = true then qg_set (qg_I (qg_H kd fp sq c (qg_all c))) v ||| ((1 : Int32) <<< (nI v &&& 31)) else qg_set (qg_I (qg_H kd fp sq c (qg_all c))) v := rfl
    refine pk_loop (σ := Unit) (fun n2 j _ => wY_idle_19 post (wY_idle_8 post (nI c) kd fp sq ow tr' aa n) (qg_set (qg_I (qg_H kd fp sq c (qg_all c))) v) (nI v) (nI c) kd fp sq ow tr' aa n2 (qg_b (qg_eqs j (qg_H kd fp sq c (qg_all c)) (fun x => qg_H kd fp sq c (qg_all c) (x ^^^ 2 ^ v)))) (nI j)) (fun _ _ => True) 256 0 () (Nat.zero_le _) trivial ?_ ?_
    · intro n2 _ _
      refine br_t (by decide) ?_
      have eI : qg_eqs 256 (qg_H kd fp sq c (qg_all c)) (fun x => qg_H kd fp sq c (qg_all c) (x ^^^ 2 ^ v)) = qg_I (qg_H kd fp sq c (qg_all c)) v := rfl
      rw [eI]
      cases hz : qg_I (qg_H kd fp sq c (qg_all c)) v with
      | false =>
        rw [e, hz, if_neg (by decide)] at h
        exact br_t rfl (nm_r (nI_1 v) h)
      | true =>
        rw [e, hz, if_pos rfl] at h
        exact br_f (by decide) (nm_e (nm_r (nI_1 v) h))
    · intro n2 j _ hj _ hn2
      have g := hn2 () trivial
      rw [qg_eqs_s] at g
      refine br_f (nI_ge (b := 256) hj (by decide)) ?_
      have e0 : 2048 + nI j = nI (2048 + j) := nI_add 2048 j
      have e1 : nI j ^^^ ((1 : Int32) <<< (nI v &&& 31)) = nI (j ^^^ 2 ^ v) := by rw [qg_1s v (by omega), nx_xor]
      have hx := qg_xl hj hv
      have e2 : 2048 + nI (j ^^^ 2 ^ v) = nI (2048 + (j ^^^ 2 ^ v)) := nI_add 2048 _
      rw [e1, e0, e2, nI_clamp (show 2048 + j < 2 ^ 31 by omega), nI_clamp (show 2048 + (j ^^^ 2 ^ v) < 2 ^ 31 by omega), qg_Y_end hT hj, qg_Y_end hT hx]
      refine ⟨vp_in_nI (by omega) (by decide), vp_in_nI (by omega) (by decide), ek_if (qg_b_i _ _) (fun z => ?_) (fun z => ?_)⟩
      · rw [if_pos z] at g
        exact nm_r (nI_1 j) g
      · rw [if_neg z] at g
        exact nm_r (nI_1 j) g
end
end
section
/-! the reference: its other public methods -/
section
variable {rc : Int32} {kd fp sq ow tr aa : Nat → Int32}
theorem qg_Y_openings {post : Int32 → SY → Prop} {c : Nat} (hc : c ≤ 12) (hok : ∀ i, i < c → qg_ok (kd i) (fp i) (sq i)) (hp : ∀ tr', post (nI (qg_cnt (qg_V ow (qg_H kd fp sq c (qg_all c)) (qg_fr ow 7)) (2 ^ qg_fr ow 7))) ((nI c), kd, fp, sq, ow, tr', aa)) : wpY_openings post ((nI c), kd, fp, sq, ow, tr, aa) := by
  unfold wpY_openings
  dsimp only
  refine qg_Y_growAll hc hok (fun tr' hT => ?_)
  have hp' := hp tr'
  refine ⟨9, pk_loopD (σ := Unit) (fun n j _ => wY_openings_10 post (nI c) kd fp sq ow tr' aa n (nI (qg_fr ow (8 - j))) (nI j + (-1))) (fun j _ => j ≤ 8) ?_ ?_ 8 () (Nat.le_refl 8)⟩
  · intro n _ _
    refine br_t (by decide) ?_
    have e8 : qg_fr ow (8 - 0) = qg_fr ow 7 := qg_fr_8 ow
    rw [e8]
    have hk := qg_fr_le ow 7
    revert hk hp'
    generalize qg_fr ow 7 = k
    intro hp' hk
    have hk2 := qg_p2 hk
    refine pk_loop (σ := Unit) (fun n i _ => wY_openings_41 post (nI k) (nI c) kd fp sq ow tr' aa n (nI (qg_cnt (qg_V ow (qg_H kd fp sq c (qg_all c)) k) i)) (nI i)) (fun _ _ => True) (2 ^ k) 0 () (Nat.zero_le _) trivial ?_ ?_
    · intro n _ _
      refine br_t ?_ hp'
      rw [qg_1s k (by omega)]
      exact nI_le (Nat.le_refl _) (by omega)
    · intro n i _ hi _ hn
      refine br_f ?_ ?_
      · rw [qg_1s k (by omega)]
        exact nI_ge hi (by omega)
      have e0 : 256 * nI k + nI i = nI (256 * k + i) := by
        show nI 256 * nI k + nI i = _
        rw [pk_mul, nI_add]
      rw [e0, nI_clamp (show 256 * k + i < 2 ^ 31 by omega), hT k i (Nat.zero_le k) hk hi]
      refine ⟨vp_in_nI (by omega) (by decide), ?_⟩
      have e : qg_cnt (qg_V ow (qg_H kd fp sq c (qg_all c)) k) (i + 1) = qg_cnt (qg_V ow (qg_H kd fp sq c (qg_all c)) k) i + (if qg_V ow (qg_H kd fp sq c (qg_all c)) k i = true then 1 else 0) := rfl
      have h := hn () trivial
      cases hz : qg_V ow (qg_H kd fp sq c (qg_all c)) k i with
      | false =>
        rw [e, hz, if_neg (by decide), Nat.add_zero] at h
        exact br_t rfl (nm_r (nI_1 i) h)
      | true =>
        rw [e, hz, if_pos rfl] at h
        exact br_f (by decide) (nm_r (nI_1 _) (nm_r (nI_1 i) h))
  · intro n j _ hj hn
    have h := hn () (by omega)
    show wY_openings_10 post (nI c) kd fp sq ow tr' aa (n + 1) (nI (qg_fr ow (8 - (j + 1)))) (nI (j + 1) + (-1))
    rw [pk_m1]
    have e1 : 8 - j = (8 - (j + 1)) + 1 := by omega
    have e2 : 7 - (8 - (j + 1)) = j := by omega
    have e3 : qg_fr ow (8 - j) = if ow j = ow 0 then qg_fr ow (8 - (j + 1)) else j := by
      rw [e1]
      show (if ow (7 - (8 - (j + 1))) = ow 0 then qg_fr ow (8 - (j + 1)) else 7 - (8 - (j + 1))) = _
      rw [e2]
    refine br_f (nI_pos (by omega)) ?_
    rw [nI_clamp (show j < 2 ^ 31 by omega)]
    refine ⟨vp_in_nI (by omega) (by decide), br_c (fun z => ?_) (fun z => ?_)⟩
    · rw [e3, if_pos z] at h
      exact nm_e h
    · rw [e3, if_neg z] at h
      exact nm_e h
theorem qg_Y_wins {post : Int32 → SY → Prop} {c : Nat} (hc : c ≤ 12) (hok : ∀ i, i < c → qg_ok (kd i) (fp i) (sq i)) (mask : Int32) (hp : ∀ tr', post (qg_b (qg_V ow (qg_H kd fp sq c mask) 0 0)) ((nI c), kd, fp, sq, ow, tr', aa)) : wpY_wins post ((nI c), kd, fp, sq, ow, tr, aa) mask := by
  unfold wpY_wins
  dsimp only
  refine qg_Y_grow hc hok (fun tr' hT => ?_)
  have h : tr' 0 = qg_b (qg_V ow (qg_H kd fp sq c mask) 0 0) := hT 0 0 (Nat.le_refl 0) (by decide) (by decide)
  dsimp only
  rw [h]
  exact ⟨qg_narrow _, hp tr'⟩
theorem qg_Y_blame {post : Int32 → SY → Prop} {c : Nat} (hc : c ≤ 12) (hok : ∀ i, i < c → qg_ok (kd i) (fp i) (sq i)) (hp : ∀ tr', post (qg_bl ow kd fp sq c) ((nI c), kd, fp, sq, ow, tr', aa)) : wpY_blame post ((nI c), kd, fp, sq, ow, tr, aa) := by
  unfold wpY_blame wpY_everyRule
  dsimp only
  unfold qg_bl at hp
  refine qg_Y_wins hc hok (qg_all c) (fun tr' => ?_)
  cases hz : qg_V ow (qg_H kd fp sq c (qg_all c)) 0 0 with
  | true =>
    rw [hz, if_pos rfl] at hp
    exact br_f (by decide) (hp _)
  | false =>
    rw [hz, if_neg (by decide)] at hp
    refine br_t rfl ?_
    refine pk_loop (σ := Nat → Int32) (fun n i s => wY_blame_17 post n (qg_bm (fun m => qg_V ow (qg_H kd fp sq c m) 0 0) (qg_all c) i) (nI i) (nI c) kd fp sq ow s aa) (fun _ _ => True) c 0 tr' (Nat.zero_le _) trivial ?_ ?_
    · intro n s _
      exact br_t (nI_le (Nat.le_refl c) (by omega)) (hp _)
    · intro n i s hi _ hn
      have e : qg_bm (fun m => qg_V ow (qg_H kd fp sq c m) 0 0) (qg_all c) (i + 1) = if qg_V ow (qg_H kd fp sq c (qg_bm (fun m => qg_V ow (qg_H kd fp sq c m) 0 0) (qg_all c) i &&& (((1 : Int32) <<< (nI i &&& 31)) ^^^ (-1)))) 0 0 = true then qg_bm (fun m => qg_V ow (qg_H kd fp sq c m) 0 0) (qg_all c) i else qg_bm (fun m => qg_V ow (qg_H kd fp sq c m) 0 0) (qg_all c) i &&& (((1 : Int32) <<< (nI i &&& 31)) ^^^ (-1)) := rfl
      refine br_f (nI_ge hi (by omega)) (nm_e (qg_Y_wins hc hok _ (fun tr2 => ?_)))
      have h := hn tr2 trivial
      cases hv : qg_V ow (qg_H kd fp sq c (qg_bm (fun m => qg_V ow (qg_H kd fp sq c m) 0 0) (qg_all c) i &&& (((1 : Int32) <<< (nI i &&& 31)) ^^^ (-1)))) 0 0 with
      | false =>
        rw [e, hv, if_neg (by decide)] at h
        exact br_t rfl (nm_r (nI_1 i) h)
      | true =>
        rw [e, hv, if_pos rfl] at h
        exact br_f (by decide) (nm_r (nI_1 i) h)
theorem qg_Y_isDecided {post : Int32 → Prop} {H : Nat → Bool} {k x : Nat} (hT : qg_YT ow H tr 0) (hk : k < 8) (hx : x < 2 ^ k) (hp : post (qg_b (qg_D H k x))) : wpY_isDecided post (rc, kd, fp, sq, ow, tr, aa) (nI k) (nI x) := by
  have hk8 := qg_p2 (show k ≤ 8 by omega)
  have ek : 2 ^ k * 2 ^ (8 - k) = 256 := by
    rw [← Nat.pow_add, Nat.add_sub_cancel' (by omega)]
  unfold wpY_isDecided
  dsimp only
  refine pk_loop (σ := Unit) (fun n i _ => wY_isDecided_2 post (nI k) (nI x) rc kd fp sq ow tr aa n (nI i)) (fun i _ => ∀ m, m < i → H (x + m / 2 ^ k * 2 ^ k) = H x) 256 0 () (Nat.zero_le _) (fun m hm => absurd hm (Nat.not_lt_zero m)) ?_ ?_
  · intro n _ h
    unfold qg_D at hp
    have h2 : ∀ r, r < 2 ^ (8 - k) → H (x + r * 2 ^ k) = H x := by
      intro r hr
      have h3 := h (r * 2 ^ k) (by have h4 := qg_rest (show k ≤ 8 by omega) hx hr; omega)
      rw [Nat.mul_div_cancel _ (Nat.two_pow_pos k)] at h3
      exact h3
    rw [qg_eqs_t h2] at hp
    exact br_t (by decide) hp
  · intro n i _ hi h hn
    have hd : i / 2 ^ k < 2 ^ (8 - k) := Nat.div_lt_of_lt_mul (by omega)
    have hd2 : i / 2 ^ k ≤ i := Nat.div_le_self _ _
    have hr := qg_rest (show k ≤ 8 by omega) hx hd
    have e1 : (((nI i >>> (nI k &&& 31)) <<< (nI k &&& 31)) ||| nI x) &&& 255 = nI (x + i / 2 ^ k * 2 ^ k) := by
      rw [qg_shr (by omega) (by omega), Int32.or_comm, qg_orr hk hx (by omega), pk_andN (by omega) 8 (by decide), Nat.mod_eq_of_lt (show x + i / 2 ^ k * 2 ^ k < 2 ^ 8 from hr)]
    have e2 : 2048 + nI (x + i / 2 ^ k * 2 ^ k) = nI (2048 + (x + i / 2 ^ k * 2 ^ k)) := nI_add 2048 _
    have e3 : 2048 + nI x = nI (2048 + x) := nI_add 2048 x
    refine br_f (nI_ge (b := 256) hi (by decide)) (nm_r e1 ?_)
    rw [e2, e3, nI_clamp (show 2048 + (x + i / 2 ^ k * 2 ^ k) < 2 ^ 31 by omega), nI_clamp (show 2048 + x < 2 ^ 31 by omega), qg_Y_end hT hr, qg_Y_end hT (show x < 256 by omega)]
    refine ⟨vp_in_nI (by omega) (by decide), vp_in_nI (by omega) (by decide), ek_if (qg_b_i _ _) (fun z => ?_) (fun z => ?_)⟩
    · refine nm_r (nI_1 i) (hn () (fun m hm => ?_))
      by_cases y : m = i
      · rw [y]; exact z
      · exact h m (by omega)
    · unfold qg_D at hp
      rw [qg_eqs_f hd z] at hp
      exact hp
theorem qg_Y_decided {post : Int32 → SY → Prop} {c : Nat} (hc : c ≤ 12) (hok : ∀ i, i < c → qg_ok (kd i) (fp i) (sq i)) (hp : ∀ tr', post (nI (qg_dr (qg_dd ow kd fp sq c) 8)) ((nI c), kd, fp, sq, ow, tr', aa)) : wpY_decided post ((nI c), kd, fp, sq, ow, tr, aa) := by
  unfold wpY_decided
  dsimp only
  refine qg_Y_growAll hc hok (fun tr' hT => ?_)
  have hp' := hp tr'
  refine pk_loop (σ := Unit) (fun n k _ => wY_decided_8 post (nI c) kd fp sq ow tr' aa n (nI (qg_dv ow (qg_V ow (qg_H kd fp sq c (qg_all c))) k)) (nI k)) (fun k _ => ∀ j, j < k → qg_dd ow kd fp sq c j = false) 8 0 () (Nat.zero_le _) (fun j hj => absurd hj (Nat.not_lt_zero j)) ?_ ?_
  · intro n _ h
    rw [qg_dr_8 h] at hp'
    exact br_t (by decide) hp'
  · intro n k _ hk h hn
    have hlt := qg_dv_lt ow (qg_V ow (qg_H kd fp sq c (qg_all c))) k
    refine br_f (nI_ge (b := 8) hk (by decide)) (qg_Y_isDecided hT hk hlt ?_)
    cases hz : qg_D (qg_H kd fp sq c (qg_all c)) k (qg_dv ow (qg_V ow (qg_H kd fp sq c (qg_all c))) k) with
    | true =>
      rw [qg_dr_at hk h hz] at hp'
      exact br_f (by decide) hp'
    | false =>
      have hd : ∀ j, j < k + 1 → qg_dd ow kd fp sq c j = false := fun j hj => (Nat.lt_or_ge j k).elim (h j) (fun y => by
        have e : j = k := by omega
        rw [e]
        exact hz)
      refine br_t rfl (qg_Y_best hT hk hlt ?_)
      have g := hn () hd
      have e : qg_dv ow (qg_V ow (qg_H kd fp sq c (qg_all c))) (k + 1) = if qg_ch ow (qg_V ow (qg_H kd fp sq c (qg_all c))) k (qg_dv ow (qg_V ow (qg_H kd fp sq c (qg_all c))) k) = 1 then qg_dv ow (qg_V ow (qg_H kd fp sq c (qg_all c))) k + 2 ^ k else qg_dv ow (qg_V ow (qg_H kd fp sq c (qg_all c))) k := rfl
      refine br_c (fun y => ?_) (fun y => ?_)
      · rw [e, if_pos y] at g
        exact nm_r (qg_or hk hlt) (nm_r (nI_1 k) g)
      · rw [e, if_neg y] at g
        exact nm_r (nI_1 k) g
theorem qg_Y_need39 {post : Int32 → SY → Prop} {c : Nat} (hc : c ≤ 12) (hok : ∀ i, i < c → qg_ok (kd i) (fp i) (sq i)) (hA : ∀ x, x < 256 → aa x = qg_b (qg_H kd fp sq c (qg_all c) x)) (hp : post (qg_set (qg_nf kd fp sq c) c) ((nI c), kd, fp, sq, ow, tr, aa)) : ∃ n, wY_needless_39 post (nI c) kd fp sq ow tr aa n 0 0 := by
  refine pk_loop (σ := Unit) (fun n i _ => wY_needless_39 post (nI c) kd fp sq ow tr aa n (qg_set (qg_nf kd fp sq c) i) (nI i)) (fun _ _ => True) c 0 () (Nat.zero_le _) trivial ?_ ?_
  · intro n _ _
    exact br_t (nI_le (Nat.le_refl c) (by omega)) hp
  · intro n i _ hi _ hn
    have h := hn () trivial
    have e : qg_set (qg_nf kd fp sq c) (i + 1) = if qg_nf kd fp sq c i = true then qg_set (qg_nf kd fp sq c) i ||| ((1 : Int32) <<< (nI i &&& 31)) else qg_set (qg_nf kd fp sq c) i := rfl
    refine br_f (nI_ge hi (by omega)) ?_
    unfold wpY_everyRule
    dsimp only
    refine nm_e ?_
    refine pk_loop (σ := Unit) (fun n2 j _ => wY_needless_64 post (wY_needless_39 post (nI c) kd fp sq ow tr aa n) (qg_set (qg_nf kd fp sq c) i) (nI i) (qg_all c &&& (((1 : Int32) <<< (nI i &&& 31)) ^^^ (-1))) (nI c) kd fp sq ow tr aa n2 (qg_b (qg_eqs j (qg_H kd fp sq c (qg_all c &&& (((1 : Int32) <<< (nI i &&& 31)) ^^^ (-1)))) (qg_H kd fp sq c (qg_all c)))) (nI j)) (fun _ _ => True) 256 0 () (Nat.zero_le _) trivial ?_ ?_
    · intro n2 _ _
      refine br_t (by decide) ?_
      have eI : qg_eqs 256 (qg_H kd fp sq c (qg_all c &&& (((1 : Int32) <<< (nI i &&& 31)) ^^^ (-1)))) (qg_H kd fp sq c (qg_all c)) = qg_nf kd fp sq c i := rfl
      rw [eI]
      cases hz : qg_nf kd fp sq c i with
      | false =>
        rw [e, hz, if_neg (by decide)] at h
        exact br_t rfl (nm_r (nI_1 i) h)
      | true =>
        rw [e, hz, if_pos rfl] at h
        exact br_f (by decide) (nm_e (nm_r (nI_1 i) h))
    · intro n2 j _ hj _ hn2
      have g := hn2 () trivial
      rw [qg_eqs_s] at g
      refine br_f (nI_ge (b := 256) hj (by decide)) (qg_Y_areKept hc hok ?_)
      rw [nI_clamp (show j < 2 ^ 31 by omega), hA j hj]
      refine ⟨vp_in_nI (by omega) (by decide), ek_if (qg_b_i _ _) (fun z => ?_) (fun z => ?_)⟩
      · rw [if_pos z] at g
        exact nm_r (nI_1 j) g
      · rw [if_neg z] at g
        exact nm_r (nI_1 j) g
theorem qg_Y_needless {post : Int32 → SY → Prop} {c : Nat} (hc : c ≤ 12) (hok : ∀ i, i < c → qg_ok (kd i) (fp i) (sq i)) (hp : ∀ tr' aa', post (qg_set (qg_nf kd fp sq c) c) ((nI c), kd, fp, sq, ow, tr', aa')) : wpY_needless post ((nI c), kd, fp, sq, ow, tr, aa) := by
  unfold wpY_needless
  dsimp only
  refine qg_Y_growAll hc hok (fun tr' hT => ?_)
  refine pk_loop (σ := Nat → Int32) (fun n i s => wY_needless_6 post (nI c) n (nI i) kd fp sq ow tr' s) (fun i s => ∀ x, x < i → s x = qg_b (qg_H kd fp sq c (qg_all c) x)) 256 0 aa (Nat.zero_le _) (fun x hx => absurd hx (Nat.not_lt_zero x)) ?_ ?_
  · intro n s h
    exact br_t (by decide) (qg_Y_need39 hc hok h (hp tr' s))
  · intro n i s hi h hn
    have e0 : 2048 + nI i = nI (2048 + i) := nI_add 2048 i
    refine br_f (nI_ge (b := 256) hi (by decide)) ?_
    rw [e0, nI_clamp (show 2048 + i < 2 ^ 31 by omega), nI_clamp (show i < 2 ^ 31 by omega), qg_Y_end hT hi, qg_nar]
    refine ⟨vp_in_nI (by omega) (by decide), vp_in_nI hi (by decide), nm_e (nm_r (nI_1 i) (hn _ (fun x hx => ?_)))⟩
    by_cases z : x = i
    · rw [z, pk_us]
    · rw [pk_un z]
      exact h x (by omega)
/-! the arguments of won and move -/
def qg_st (v1 v2 : Int32) (K : Nat) : Prop := ∃ k x, v1 = nI k ∧ v2 = nI x ∧ k ≤ K ∧ x < 2 ^ k
theorem qg_X_isStart {post : Int32 → Prop} {v1 v2 : Int32} (h1 : qg_st v1 v2 8 → post 1) (h0 : ¬ qg_st v1 v2 8 → post 0) : wpX_isStart post v1 v2 := by
  unfold wpX_isStart
  by_cases hs : qg_st v1 v2 8
  · have p1 := h1 hs
    obtain ⟨k, x, rfl, rfl, hk, hx⟩ := hs
    have hk2 := qg_p2 hk
    refine br_f (nI_pos (by omega)) (br_f (nI_nlt (a := 8) hk (by decide)) (br_f (nI_pos (by omega)) (br_f ?_ p1)))
    rw [qg_1s k (by omega)]
    exact nI_ge hx (by omega)
  · have p0 := h0 hs
    refine br_c (fun _ => p0) (fun a => br_c (fun _ => p0) (fun b => br_c (fun _ => p0) (fun d => br_c (fun _ => p0) (fun e => ?_))))
    obtain ⟨k, hk, rfl⟩ := nI_of a
    obtain ⟨x, hx, rfl⟩ := nI_of d
    have hk8 : k ≤ 8 := by
      have h : ¬ nI 8 < nI k := b
      rw [nI_ltI (by decide) hk] at h
      omega
    have hk2 := qg_p2 hk8
    rw [qg_1s k (by omega), nI_leI (by omega) hx] at e
    exact absurd ⟨k, x, rfl, rfl, hk8, by omega⟩ hs
theorem qg_Y_won {post : Int32 → SY → Prop} {c : Nat} {v1 v2 : Int32} (hc : c ≤ 12) (hok : ∀ i, i < c → qg_ok (kd i) (fp i) (sq i)) (h1 : ∀ k x tr', v1 = nI k → v2 = nI x → k ≤ 8 → x < 2 ^ k → post (qg_b (qg_V ow (qg_H kd fp sq c (qg_all c)) k x)) ((nI c), kd, fp, sq, ow, tr', aa)) (h0 : ¬ qg_st v1 v2 8 → post (-1) ((nI c), kd, fp, sq, ow, tr, aa)) : wpY_won post ((nI c), kd, fp, sq, ow, tr, aa) v1 v2 := by
  unfold wpY_won
  dsimp only
  by_cases hs : qg_st v1 v2 8
  · obtain ⟨k, x, rfl, rfl, hk, hx⟩ := hs
    have hk2 := qg_p2 hk
    have e15 : nI k &&& 15 = nI k := by rw [pk_andN (by omega) 4 (by decide), Nat.mod_eq_of_lt (by omega)]
    refine qg_Y_in (fun _ _ => br_f (by decide) (br_f (nI_pos (by omega)) (br_t ?_ ?_))) (fun z => ?_)
    · rw [e15, qg_1s k (by omega)]
      exact nI_lt hx (by omega)
    · refine qg_Y_growAll hc hok (fun tr' hT => ?_)
      have e0 : 256 * nI k + nI x = nI (256 * k + x) := by
        show nI 256 * nI k + nI x = _
        rw [pk_mul, nI_add]
      dsimp only
      rw [e0, nI_clamp (show 256 * k + x < 2 ^ 31 by omega), hT k x (Nat.zero_le k) hk hx]
      refine ⟨vp_in_nI (by omega) (by decide), ?_⟩
      have h := h1 k x tr' rfl rfl hk hx
      cases hz : qg_V ow (qg_H kd fp sq c (qg_all c)) k x with
      | false => rw [hz] at h; exact br_t rfl h
      | true => rw [hz] at h; exact br_f (by decide) h
    · rcases z with z | z
      · exact absurd z (nI_pos (by omega))
      · exact absurd z (nI_nlt (a := 8) hk (by decide))
  · have p0 := h0 hs
    refine qg_Y_in (fun a b => br_f (by decide) (br_c (fun _ => p0) (fun d => br_c (fun e => ?_) (fun _ => p0)))) (fun _ => br_t rfl p0)
    obtain ⟨k, hk, rfl⟩ := nI_of a
    obtain ⟨x, hx, rfl⟩ := nI_of d
    have hk8 : k ≤ 8 := by
      have h : ¬ nI 8 < nI k := b
      rw [nI_ltI (by decide) hk] at h
      omega
    have hk2 := qg_p2 hk8
    have e15 : nI k &&& 15 = nI k := by rw [pk_andN (by omega) 4 (by decide), Nat.mod_eq_of_lt (by omega)]
    rw [e15, qg_1s k (by omega), nI_ltI hx (by omega)] at e
    exact absurd ⟨k, x, rfl, rfl, hk8, e⟩ hs
theorem qg_Y_move {post : Int32 → SY → Prop} {c : Nat} {v1 v2 : Int32} (hc : c ≤ 12) (hok : ∀ i, i < c → qg_ok (kd i) (fp i) (sq i)) (h1 : ∀ k x tr', v1 = nI k → v2 = nI x → k ≤ 7 → x < 2 ^ k → post (qg_ch ow (qg_V ow (qg_H kd fp sq c (qg_all c))) k x) ((nI c), kd, fp, sq, ow, tr', aa)) (h0 : ¬ qg_st v1 v2 7 → post (-1) ((nI c), kd, fp, sq, ow, tr, aa)) : wpY_move post ((nI c), kd, fp, sq, ow, tr, aa) v1 v2 := by
  unfold wpY_move
  dsimp only
  by_cases hs : qg_st v1 v2 7
  · obtain ⟨k, x, rfl, rfl, hk, hx⟩ := hs
    have hk2 := qg_p2 (show k ≤ 8 by omega)
    have e15 : nI k &&& 7 = nI k := by rw [pk_andN (by omega) 3 (by decide), Nat.mod_eq_of_lt (by omega)]
    refine qg_Y_in (fun _ _ => br_f (by decide) (br_f (nI_pos (by omega)) (br_t ?_ ?_))) (fun z => ?_)
    · rw [e15, qg_1s k (by omega)]
      exact nI_lt hx (by omega)
    · exact qg_Y_growAll hc hok (fun tr' hT => qg_Y_best hT (by omega) hx (h1 k x tr' rfl rfl hk hx))
    · rcases z with z | z
      · exact absurd z (nI_pos (by omega))
      · exact absurd z (nI_nlt (a := 7) hk (by decide))
  · have p0 := h0 hs
    refine qg_Y_in (fun a b => br_f (by decide) (br_c (fun _ => p0) (fun d => br_c (fun e => ?_) (fun _ => p0)))) (fun _ => br_t rfl p0)
    obtain ⟨k, hk, rfl⟩ := nI_of a
    obtain ⟨x, hx, rfl⟩ := nI_of d
    have hk8 : k ≤ 7 := by
      have h : ¬ nI 7 < nI k := b
      rw [nI_ltI (by decide) hk] at h
      omega
    have hk2 := qg_p2 (show k ≤ 8 by omega)
    have e15 : nI k &&& 7 = nI k := by rw [pk_andN (by omega) 3 (by decide), Nat.mod_eq_of_lt (by omega)]
    rw [e15, qg_1s k (by omega), nI_ltI hx (by omega)] at e
    exact absurd ⟨k, x, rfl, rfl, hk8, e⟩ hs
end
end
section
/-! rule and drop -/
theorem qg_rng {x : Int32} {M : Nat} (hM : M < 2 ^ 31) (a : ¬ x < 0) (b : ¬ nI M < x) : ∃ Q, x = nI Q ∧ Q < M + 1 := by
  obtain ⟨Q, hQ, rfl⟩ := nI_of a
  rw [nI_ltI hM hQ] at b
  exact ⟨Q, rfl, by omega⟩
theorem qg_rngN {x : Int32} {M : Nat} (hM : M < 2 ^ 31 - 1) (h : x < 0 ∨ nI M < x) : ¬ ∃ Q, x = nI Q ∧ Q < M + 1 := by
  rintro ⟨Q, rfl, hQ⟩
  rcases h with h | h
  · exact absurd h (nI_pos (by omega))
  · exact absurd h (nI_nlt (by omega) (by omega))
theorem qg_Y_rg {post : Int32 → Prop} {u : SY} {x : Int32} (M : Nat) (hM : M < 2 ^ 31 - 1) (h1 : ∀ Q, x = nI Q → Q < M + 1 → post 1) (h0 : (¬ ∃ Q, x = nI Q ∧ Q < M + 1) → post 0) : wpY_in post u x 0 (nI M) :=
  qg_Y_in (fun a b => by
    obtain ⟨Q, e, hQ⟩ := qg_rng (by omega) a b
    exact h1 Q e hQ) (fun z => h0 (qg_rngN hM z))
theorem qg_X_isSet {post : Int32 → Prop} {x : Int32} (h1 : ∀ n, x = nI n → n < 256 → post 1) (h0 : (¬ ∃ n, x = nI n ∧ n < 256) → post 0) : wpX_isSet post x := by
  unfold wpX_isSet
  refine br_c (fun a => h0 ?_) (fun a => br_c (fun b => h0 ?_) (fun b => ?_))
  · rintro ⟨n, rfl, hn⟩
    exact absurd a (nI_pos (by omega))
  · rintro ⟨n, rfl, hn⟩
    exact absurd b (nI_ge (b := 256) hn (by decide))
  · obtain ⟨n, hn, rfl⟩ := nI_of a
    have h : ¬ nI 256 ≤ nI n := b
    rw [nI_leI (by decide) hn] at h
    exact h1 n rfl (by omega)
def qg_gd (v1 v2 v3 : Int32) : Prop := ∃ K P, v1 = nI K ∧ v2 = nI P ∧ K < 4 ∧ P < 256 ∧ (K = 0 → ∃ Q, v3 = nI Q ∧ Q < 256) ∧ (K = 1 → (∃ Q, v3 = nI Q ∧ Q < 2) ∧ qg_pop P 8 ≤ 4) ∧ (K = 2 → (∃ Q, v3 = nI Q ∧ Q < 5) ∧ qg_pop P 8 ≤ 5)
theorem qg_gd_i {K P : Nat} {v3 : Int32} (hK : K < 4) (hP : P < 256) : qg_gd (nI K) (nI P) v3 ↔ ((K = 0 → ∃ Q, v3 = nI Q ∧ Q < 256) ∧ (K = 1 → (∃ Q, v3 = nI Q ∧ Q < 2) ∧ qg_pop P 8 ≤ 4) ∧ (K = 2 → (∃ Q, v3 = nI Q ∧ Q < 5) ∧ qg_pop P 8 ≤ 5)) := by
  constructor
  · rintro ⟨K', P', e1, e2, h1, h2, h⟩
    have a : K = K' := (nI_eq (by omega) (by omega)).mp e1
    have b : P = P' := (nI_eq (by omega) (by omega)).mp e2
    subst a b
    exact h
  · exact fun h => ⟨K, P, rfl, rfl, hK, hP, h⟩
theorem qg_gd_ok {v1 v2 v3 : Int32} (h : qg_gd v1 v2 v3) : qg_ok v1 v2 v3 := by
  obtain ⟨K, P, rfl, rfl, hK, hP, h0, h1, h2⟩ := h
  rcases qg_four hK with rfl | rfl | rfl | rfl
  · obtain ⟨Q, rfl, hQ⟩ := h0 rfl
    exact ⟨0, P, Q, rfl, rfl, rfl, hK, hP, by omega, fun _ => hQ, fun z => by omega, fun z => by omega⟩
  · obtain ⟨⟨Q, rfl, hQ⟩, _⟩ := h1 rfl
    exact ⟨1, P, Q, rfl, rfl, rfl, hK, hP, by omega, fun z => by omega, fun _ => hQ, fun z => by omega⟩
  · obtain ⟨⟨Q, rfl, hQ⟩, _⟩ := h2 rfl
    exact ⟨2, P, Q, rfl, rfl, rfl, hK, hP, by omega, fun z => by omega, fun z => by omega, fun _ => hQ⟩
  · obtain ⟨Q, hQ, rfl⟩ := wb_of32 v3
    exact ⟨3, P, Q, rfl, rfl, rfl, hK, hP, hQ, fun z => by omega, fun z => by omega, fun z => by omega⟩
section
variable {rc cw ak : Int32} {ow kd fp sq sz wn tr aa : Nat → Int32} {co ho fo al : Nat → Int64}
theorem qg_X_isRule {post : Int32 → Prop} {v1 v2 v3 : Int32} (hsz : ∀ s, s < 256 → sz s = nI (qg_pop s 8)) (h1 : qg_gd v1 v2 v3 → post 1) (h0 : ¬ qg_gd v1 v2 v3 → post 0) : wpX_isRule post (rc, cw, ak, ow, kd, fp, sq, sz, wn, co, ho, fo, al) v1 v2 v3 := by
  unfold wpX_isRule
  dsimp only
  refine qg_X_isSet (fun P eP hP => ?_) (fun z => br_t rfl (h0 ?_))
  · subst eP
    have hpl := qg_pop_le P 8
    have cP : (nI P).toNatClampNeg = P := nI_clamp (by omega)
    have vP : vp_in (nI P) 256 := vp_in_nI hP (by decide)
    refine br_f (by decide) (br_c (fun a => h0 ?_) (fun a => br_c (fun b => h0 ?_) (fun b => ?_)))
    · rintro ⟨K, P', rfl, _, hK, _⟩
      exact absurd a (nI_pos (by omega))
    · rintro ⟨K, P', rfl, _, hK, _⟩
      exact absurd b (nI_nlt (a := 3) (by omega) (by decide))
    · obtain ⟨K, rfl, hK⟩ := qg_rng (M := 3) (by decide) a b
      rw [qg_gd_i hK hP] at h1 h0
      rw [cP, hsz P hP]
      rcases qg_four hK with rfl | rfl | rfl | rfl
      · refine br_t rfl (qg_X_isSet (fun Q eQ hQ => ⟨qg_narrow true, h1 ⟨fun _ => ⟨Q, eQ, hQ⟩, fun z => by omega, fun z => by omega⟩⟩) (fun z => ⟨qg_narrow false, h0 (fun h => z (h.1 rfl))⟩))
      · refine br_f (by decide) (br_t (by decide) (br_c (fun d => h0 (fun h => qg_rngN (M := 1) (by decide) (Or.inl d) (h.2.1 rfl).1)) (fun d => br_c (fun e => h0 (fun h => qg_rngN (M := 1) (by decide) (Or.inr e) (h.2.1 rfl).1)) (fun e => ⟨vP, ?_⟩))))
        refine ek_if (nI_ltI (a := 4) (by decide) (by omega)) (fun y => h0 (fun h => ?_)) (fun y => h1 ⟨fun z => by omega, fun _ => ⟨qg_rng (M := 1) (by decide) d e, by omega⟩, fun z => by omega⟩)
        have h3 := (h.2.1 rfl).2
        omega
      · refine br_f (by decide) (br_f (by decide) (br_t (by decide) (br_c (fun d => h0 (fun h => qg_rngN (M := 4) (by decide) (Or.inl d) (h.2.2 rfl).1)) (fun d => br_c (fun e => h0 (fun h => qg_rngN (M := 4) (by decide) (Or.inr e) (h.2.2 rfl).1)) (fun e => ⟨vP, ?_⟩)))))
        refine ek_if (nI_ltI (a := 5) (by decide) (by omega)) (fun y => h0 (fun h => ?_)) (fun y => h1 ⟨fun z => by omega, fun z => by omega, fun _ => ⟨qg_rng (M := 4) (by decide) d e, by omega⟩⟩)
        have h3 := (h.2.2 rfl).2
        omega
      · exact br_f (by decide) (br_f (by decide) (br_f (by decide) (br_t (by decide) (h1 ⟨fun z => by omega, fun z => by omega, fun z => by omega⟩))))
  · rintro ⟨K, P, _, e, _, hP, _⟩
    exact z ⟨P, e, hP⟩
theorem qg_Y_r106 {post : Int32 → SY → Prop} {c : Nat} {v1 v2 v3 : Int32} (hc : c < 12) (h1 : post (nI (c + 1)) (nI (c + 1), upd kd c v1, upd fp c v2, upd sq c v3, ow, tr, aa)) : wY_rule_106 post v1 v2 v3 (nI c) kd fp sq ow tr aa := by
  unfold wY_rule_106
  have v : vp_in (nI c) 12 := vp_in_nI hc (by decide)
  rw [nI_clamp (show c < 2 ^ 31 by omega)]
  exact ⟨v, nm_e ⟨v, nm_e ⟨v, nm_e (nm_r (nI_1 c) h1)⟩⟩⟩
theorem qg_Y_rule {post : Int32 → SY → Prop} {c : Nat} {v1 v2 v3 : Int32} (hc : c < 12) (h1 : qg_gd v1 v2 v3 → post (nI (c + 1)) (nI (c + 1), upd kd c v1, upd fp c v2, upd sq c v3, ow, tr, aa)) (h0 : ¬ qg_gd v1 v2 v3 → post (-1) ((nI c), kd, fp, sq, ow, tr, aa)) : wpY_rule post ((nI c), kd, fp, sq, ow, tr, aa) v1 v2 v3 := by
  unfold wpY_rule
  dsimp only
  refine br_f (fun z => ?_) (qg_Y_rg 3 (by decide) (fun K eK hK => ?_) (fun z => br_t rfl (h0 ?_)))
  · have h : nI c = nI 12 := z
    rw [nI_eq (by omega) (by decide)] at h
    omega
  · refine br_f (by decide) (qg_Y_rg 255 (by decide) (fun P eP hP => ?_) (fun z => br_t rfl (h0 ?_)))
    · subst eK eP
      have hpl := qg_pop_le P 8
      rw [qg_gd_i hK hP] at h1 h0
      refine br_f (by decide) ?_
      rcases qg_four hK with rfl | rfl | rfl | rfl
      · refine br_t rfl (qg_Y_rg 255 (by decide) (fun Q eQ hQ => ?_) (fun z => br_t rfl (h0 (fun h => z (h.1 rfl)))))
        exact br_f (by decide) (br_f (by decide) (br_f (by decide) (qg_Y_r106 hc (h1 ⟨fun _ => ⟨Q, eQ, hQ⟩, fun z => by omega, fun z => by omega⟩))))
      · refine br_f (by decide) (br_t (by decide) (qg_Y_rg 1 (by decide) (fun Q eQ hQ => ?_) (fun z => br_t rfl (h0 (fun h => z (h.2.1 rfl).1)))))
        refine br_f (by decide) (qg_Y_size hP (ek_if (nI_leI (b := 4) (by omega) (by decide)) (fun y => ?_) (fun y => h0 (fun h => y (h.2.1 rfl).2))))
        exact br_f (by decide) (qg_Y_r106 hc (h1 ⟨fun z => by omega, fun _ => ⟨⟨Q, eQ, hQ⟩, y⟩, fun z => by omega⟩))
      · refine br_f (by decide) (br_f (by decide) (br_t (by decide) (qg_Y_rg 4 (by decide) (fun Q eQ hQ => ?_) (fun z => br_t rfl (h0 (fun h => z (h.2.2 rfl).1))))))
        refine br_f (by decide) (qg_Y_size hP (ek_if (nI_leI (b := 5) (by omega) (by decide)) (fun y => ?_) (fun y => h0 (fun h => y (h.2.2 rfl).2))))
        exact qg_Y_r106 hc (h1 ⟨fun z => by omega, fun z => by omega, fun _ => ⟨⟨Q, eQ, hQ⟩, y⟩⟩)
      · exact br_f (by decide) (br_f (by decide) (br_f (by decide) (qg_Y_r106 hc (h1 ⟨fun z => by omega, fun z => by omega, fun z => by omega⟩))))
    · rintro ⟨K, P, _, e, _, hP, _⟩
      exact z ⟨P, e, hP⟩
  · rintro ⟨K, P, e, _, hK, _⟩
    exact z ⟨K, e, hK⟩
/-! drop -/
def qg_sh (f : Nat → Int32) (i : Nat) : Nat → (Nat → Int32)
  | 0 => f
  | d + 1 => upd (qg_sh f i d) (i + d) (qg_sh f i d (i + d + 1))
theorem qg_sh_v (f : Nat → Int32) (i : Nat) : ∀ d j, qg_sh f i d j = if i ≤ j ∧ j < i + d then f (j + 1) else f j
  | 0, j => by rw [if_neg (by omega)]; rfl
  | d + 1, j => by
    show upd (qg_sh f i d) (i + d) (qg_sh f i d (i + d + 1)) j = _
    by_cases z : j = i + d
    · subst z
      rw [pk_us, qg_sh_v f i d (i + d + 1), if_neg (by omega), if_pos (by omega)]
    · rw [pk_un z, qg_sh_v f i d j]
      by_cases y : i ≤ j ∧ j < i + d
      · rw [if_pos y, if_pos (by omega)]
      · rw [if_neg y, if_neg (by omega)]
theorem qg_sh_ok {c i d : Nat} (hok : ∀ j, j < c → qg_ok (kd j) (fp j) (sq j)) {j : Nat} (hj : j + 1 < c) : qg_ok (qg_sh kd i d j) (qg_sh fp i d j) (qg_sh sq i d j) := by
  rw [qg_sh_v, qg_sh_v, qg_sh_v]
  by_cases y : i ≤ j ∧ j < i + d
  · rw [if_pos y, if_pos y, if_pos y]
    exact hok (j + 1) hj
  · rw [if_neg y, if_neg y, if_neg y]
    exact hok j (by omega)
theorem qg_X_drop {post : Int32 → SX → Prop} {c i : Nat} (hc : c ≤ 12) (hi : i < c) (hp : post (nI (c - 1)) (nI (c - 1), cw, ak, ow, qg_sh kd i (c - 1 - i), qg_sh fp i (c - 1 - i), qg_sh sq i (c - 1 - i), sz, wn, co, ho, fo, al)) : ∃ n, wX_drop_16 post (nI c) cw ak n (nI i) ow kd fp sq sz wn co ho fo al := by
  have ec : nI c - 1 = nI (c - 1) := pk_sub (b := 1) (by omega)
  refine pk_loop (σ := Unit) (fun n d _ => wX_drop_16 post (nI c) cw ak n (nI (i + d)) ow (qg_sh kd i d) (qg_sh fp i d) (qg_sh sq i d) sz wn co ho fo al) (fun _ _ => True) (c - 1 - i) 0 () (Nat.zero_le _) trivial ?_ ?_
  · intro n _ _
    have e : i + (c - 1 - i) = c - 1 := by omega
    refine br_t ?_ (nm_r ec hp)
    rw [ec, e]
    exact nI_le (Nat.le_refl _) (by omega)
  · intro n d _ hd _ hn
    have h := hn () trivial
    have e1 : nI (i + d) + 1 = nI (i + d + 1) := nI_1 _
    have v1 : vp_in (nI (i + d + 1)) 12 := vp_in_nI (by omega) (by decide)
    have v0 : vp_in (nI (i + d)) 12 := vp_in_nI (by omega) (by decide)
    refine br_f ?_ ?_
    · rw [ec]
      exact nI_ge (by omega) (by omega)
    · rw [e1, nI_clamp (show i + d + 1 < 2 ^ 31 by omega), nI_clamp (show i + d < 2 ^ 31 by omega)]
      exact ⟨v1, v0, nm_e ⟨v1, v0, nm_e ⟨v1, v0, nm_e (nm_e h)⟩⟩⟩
theorem qg_Y_drop {post : Int32 → SY → Prop} {c i : Nat} (hc : c ≤ 12) (hi : i < c) (hp : post (nI (c - 1)) (nI (c - 1), qg_sh kd i (c - 1 - i), qg_sh fp i (c - 1 - i), qg_sh sq i (c - 1 - i), ow, tr, aa)) : ∃ n, wY_drop_16 post (nI c) n (nI i) kd fp sq ow tr aa := by
  have ec : nI c - 1 = nI (c - 1) := pk_sub (b := 1) (by omega)
  refine pk_loop (σ := Unit) (fun n d _ => wY_drop_16 post (nI c) n (nI (i + d)) (qg_sh kd i d) (qg_sh fp i d) (qg_sh sq i d) ow tr aa) (fun _ _ => True) (c - 1 - i) 0 () (Nat.zero_le _) trivial ?_ ?_
  · intro n _ _
    have e : i + (c - 1 - i) = c - 1 := by omega
    refine br_t ?_ (nm_r ec hp)
    rw [ec, e]
    exact nI_le (Nat.le_refl _) (by omega)
  · intro n d _ hd _ hn
    have h := hn () trivial
    have e1 : nI (i + d) + 1 = nI (i + d + 1) := nI_1 _
    have v1 : vp_in (nI (i + d + 1)) 12 := vp_in_nI (by omega) (by decide)
    have v0 : vp_in (nI (i + d)) 12 := vp_in_nI (by omega) (by decide)
    refine br_f ?_ ?_
    · rw [ec]
      exact nI_ge (by omega) (by omega)
    · rw [e1, nI_clamp (show i + d + 1 < 2 ^ 31 by omega), nI_clamp (show i + d < 2 ^ 31 by omega)]
      exact ⟨v1, v0, nm_e ⟨v1, v0, nm_e ⟨v1, v0, nm_e (nm_e h)⟩⟩⟩
end
end
section
/-! what is owed -/
/-- the two states hold the same rules and owners; the rules are good ones; sizes and columns are what the constructor filled in; the way is one of three -/
def i_Rel (_ : Nat) (u : SX) (v : SY) : Prop := ∃ (c : Nat) (cw ak : Int32) (ow kd fp sq sz wn : Nat → Int32) (co ho fo al : Nat → Int64) (tr aa : Nat → Int32), qg_Inv c kd fp sq sz co ∧ qg_cw cw ∧ u = ((nI c), cw, ak, ow, kd, fp, sq, sz, wn, co, ho, fo, al) ∧ v = ((nI c), kd, fp, sq, ow, tr, aa)
theorem i_up {k : Nat} {u : SX} {v : SY} (h : i_Rel k u v) : i_Rel (k + 4) u v := h
theorem qg_rel {k c : Nat} {cw ak : Int32} {ow kd fp sq sz wn tr aa : Nat → Int32} {co ho fo al : Nat → Int64} (hI : qg_Inv c kd fp sq sz co) (hw : qg_cw cw) : i_Rel k ((nI c), cw, ak, ow, kd, fp, sq, sz, wn, co, ho, fo, al) ((nI c), kd, fp, sq, ow, tr, aa) := ⟨c, cw, ak, ow, kd, fp, sq, sz, wn, co, ho, fo, al, tr, aa, hI, hw, rfl, rfl⟩
theorem i_vc0 : wpX_init (fun u => wpY_init (fun v => i_Rel 0 u v)) :=
  qg_X_init (fun sz' co' h1 h2 => qg_rel (k := 0) (c := 0) (cw := 2) ⟨by decide, fun i hi => absurd hi (Nat.not_lt_zero i), h1, h2⟩ (Or.inr (Or.inr rfl)))
theorem i_vc_give {k : Nat} {u : SX} {v : SY} (I : i_Rel k u v) (hk : k + 4 ≤ 2048) (v1 : Int32) (v2 : Int32) : wpX_give (fun r u' => wpY_give (fun r' v' => r' = r ∧ i_Rel (k + 4) u' v') v v1 v2) u v1 v2 := by
  obtain ⟨c, cw, ak, ow, kd, fp, sq, sz, wn, co, ho, fo, al, tr, aa, hI, hw, rfl, rfl⟩ := I
  have no : (v1 < 0 ∨ nI 7 < v1) ∨ (v2 < 0 ∨ nI 1 < v2) → wpY_give (fun r' v' => r' = 0 ∧ i_Rel (k + 4) ((nI c), cw, ak, ow, kd, fp, sq, sz, wn, co, ho, fo, al) v') ((nI c), kd, fp, sq, ow, tr, aa) v1 v2 := by
    intro h
    unfold wpY_give
    dsimp only
    refine qg_Y_in (fun a b => br_f (by decide) (qg_Y_in (fun d e => ?_) (fun _ => br_t rfl ⟨rfl, qg_rel hI hw⟩))) (fun _ => br_t rfl ⟨rfl, qg_rel hI hw⟩)
    rcases h with (h | h) | (h | h)
    · exact absurd h a
    · exact absurd h b
    · exact absurd h d
    · exact absurd h e
  unfold wpX_give
  dsimp only
  refine br_c (fun a => no (Or.inl (Or.inl a))) (fun a => br_c (fun b => no (Or.inl (Or.inr ?_))) (fun b => br_c (fun d => no (Or.inr (Or.inl d))) (fun d => br_c (fun e => ?_) (fun e => no (Or.inr (Or.inr ?_))))))
  · obtain ⟨j, hj, rfl⟩ := nI_of a
    have h : nI 8 ≤ nI j := b
    rw [nI_leI (by decide) hj] at h
    exact nI_lt (by omega) hj
  · obtain ⟨j, hj, rfl⟩ := nI_of a
    obtain ⟨s, hs, rfl⟩ := nI_of d
    have h : ¬ nI 8 ≤ nI j := b
    have h2 : nI s ≤ nI 1 := e
    rw [nI_leI (by decide) hj] at h
    rw [nI_leI hs (by decide)] at h2
    have v8 : vp_in (nI j) 8 := vp_in_nI (by omega) (by decide)
    rw [nI_clamp hj]
    refine ⟨v8, nm_e ?_⟩
    unfold wpY_give
    dsimp only
    rw [nI_clamp hj]
    refine qg_Y_rg 7 (by decide) (fun _ _ _ => br_f (by decide) (qg_Y_rg 1 (by decide) (fun _ _ _ => br_f (by decide) ⟨v8, nm_e ⟨rfl, qg_rel hI hw⟩⟩) (fun z => ?_))) (fun z => ?_)
    · exact absurd ⟨s, rfl, by omega⟩ z
    · exact absurd ⟨j, rfl, by omega⟩ z
  · obtain ⟨s, hs, rfl⟩ := nI_of d
    have h2 : ¬ nI s ≤ nI 1 := e
    rw [nI_leI hs (by decide)] at h2
    exact nI_lt (by omega) hs
theorem i_vc_rule {k : Nat} {u : SX} {v : SY} (I : i_Rel k u v) (hk : k + 4 ≤ 2048) (v1 : Int32) (v2 : Int32) (v3 : Int32) : wpX_rule (fun r u' => wpY_rule (fun r' v' => r' = r ∧ i_Rel (k + 4) u' v') v v1 v2 v3) u v1 v2 v3 := by
  obtain ⟨c, cw, ak, ow, kd, fp, sq, sz, wn, co, ho, fo, al, tr, aa, hI, hw, rfl, rfl⟩ := I
  have hc := hI.1
  unfold wpX_rule
  dsimp only
  by_cases h12 : c < 12
  · refine br_t (nI_lt (b := 12) h12 (by decide)) (qg_X_isRule hI.2.2.1 (fun g => br_f (by decide) ?_) (fun g => br_t rfl ?_))
    · have v12 : vp_in (nI c) 12 := vp_in_nI h12 (by decide)
      rw [nI_clamp (show c < 2 ^ 31 by omega)]
      refine ⟨v12, nm_e ⟨v12, nm_e ⟨v12, nm_e (nm_r (nI_1 c) (qg_Y_rule h12 (fun _ => ⟨rfl, ?_⟩) (fun z => absurd g z)))⟩⟩⟩
      refine qg_rel (c := c + 1) ⟨h12, fun i hi => ?_, hI.2.2.1, hI.2.2.2⟩ hw
      by_cases z : i = c
      · subst z
        rw [pk_us, pk_us, pk_us]
        exact qg_gd_ok g
      · rw [pk_un z, pk_un z, pk_un z]
        exact hI.2.1 i (by omega)
    · exact qg_Y_rule h12 (fun z => absurd z g) (fun _ => ⟨rfl, qg_rel hI hw⟩)
  · have e : c = 12 := by omega
    subst e
    refine br_f (by decide) ?_
    unfold wpY_rule
    dsimp only
    exact br_t rfl ⟨rfl, qg_rel hI hw⟩
theorem i_vc_drop {k : Nat} {u : SX} {v : SY} (I : i_Rel k u v) (hk : k + 4 ≤ 2048) (v1 : Int32) : wpX_drop (fun r u' => wpY_drop (fun r' v' => r' = r ∧ i_Rel (k + 4) u' v') v v1) u v1 := by
  obtain ⟨c, cw, ak, ow, kd, fp, sq, sz, wn, co, ho, fo, al, tr, aa, hI, hw, rfl, rfl⟩ := I
  have hc := hI.1
  unfold wpX_drop
  dsimp only
  refine br_c (fun a => ?_) (fun a => br_c (fun b => ?_) (fun b => ?_))
  · unfold wpY_drop
    dsimp only
    exact br_t a ⟨rfl, qg_rel hI hw⟩
  · obtain ⟨i, hi, rfl⟩ := nI_of a
    have h := b
    rw [nI_ltI hi (by omega)] at h
    refine qg_X_drop hc h ?_
    unfold wpY_drop
    dsimp only
    refine br_f a (br_t b (qg_Y_drop hc h ⟨rfl, qg_rel (c := c - 1) ⟨by omega, fun j hj => qg_sh_ok hI.2.1 (by omega), hI.2.2.1, hI.2.2.2⟩ hw⟩))
  · unfold wpY_drop
    dsimp only
    exact br_f a (br_f b ⟨rfl, qg_rel hI hw⟩)
theorem i_vc_holds {k : Nat} {u : SX} {v : SY} (I : i_Rel k u v) (hk : k + 4 ≤ 2048) (v1 : Int32) : wpX_holds (fun r u' => wpY_holds (fun r' => r' = r ∧ i_Rel (k + 4) u' v) v v1) u v1 := by
  obtain ⟨c, cw, ak, ow, kd, fp, sq, sz, wn, co, ho, fo, al, tr, aa, hI, hw, rfl, rfl⟩ := I
  unfold wpX_holds
  dsimp only
  refine qg_X_isSet (fun n e hn => br_f (by decide) ?_) (fun z => br_t rfl ?_)
  · subst e
    refine qg_X_askAll hI hw (fun wn' ho' al' hR => qg_X_rh hI hw hR hn ⟨qg_narrow _, ?_⟩)
    unfold wpY_holds wpY_everyRule
    dsimp only
    refine qg_Y_rg 255 (by decide) (fun _ _ _ => br_f (by decide) ?_) (fun z => absurd ⟨n, rfl, hn⟩ z)
    exact qg_Y_areKept (mask := qg_all c) hI.1 hI.2.1 ⟨qg_narrow _, rfl, qg_rel hI hw⟩
  · unfold wpY_holds
    dsimp only
    exact qg_Y_rg 255 (by decide) (fun n e hn => absurd ⟨n, e, hn⟩ z) (fun _ => br_t rfl ⟨rfl, qg_rel hI hw⟩)
theorem i_vc_won {k : Nat} {u : SX} {v : SY} (I : i_Rel k u v) (hk : k + 4 ≤ 2048) (v1 : Int32) (v2 : Int32) : wpX_won (fun r u' => wpY_won (fun r' v' => r' = r ∧ i_Rel (k + 4) u' v') v v1 v2) u v1 v2 := by
  obtain ⟨c, cw, ak, ow, kd, fp, sq, sz, wn, co, ho, fo, al, tr, aa, hI, hw, rfl, rfl⟩ := I
  unfold wpX_won
  dsimp only
  refine qg_X_isStart (fun hs => br_f (by decide) ?_) (fun hs => br_t rfl ?_)
  · have hs' := hs
    obtain ⟨j, x, rfl, rfl, hj, hx⟩ := hs'
    have hj2 := qg_p2 hj
    refine qg_X_askAll hI hw (fun wn' ho' al' hR => qg_X_win hI hw hR hj hx (fun fo' => ?_))
    have key : ∀ b : Bool, qg_V ow (qg_H kd fp sq c (qg_all c)) j x = b → wpY_won (fun r' v' => r' = qg_b b ∧ i_Rel (k + 4) ((nI c), cw, (qg_all c), ow, kd, fp, sq, sz, wn', co, ho', fo', al') v') ((nI c), kd, fp, sq, ow, tr, aa) (nI j) (nI x) := by
      intro b hb
      refine qg_Y_won hI.1 hI.2.1 (fun j' x' tr' e1 e2 h1 h2 => ⟨?_, qg_rel hI hw⟩) (fun z => absurd hs z)
      have hj3 := qg_p2 h1
      have a1 : j = j' := (nI_eq (by omega) (by omega)).mp e1
      have a2 : x = x' := (nI_eq (by omega) (by omega)).mp e2
      subst a1 a2
      rw [hb]
    cases hz : qg_V ow (qg_H kd fp sq c (qg_all c)) j x with
    | false => exact br_t rfl (key false hz)
    | true => exact br_f (by decide) (key true hz)
  · exact qg_Y_won hI.1 hI.2.1 (fun j x tr' e1 e2 h1 h2 => absurd ⟨j, x, e1, e2, h1, h2⟩ hs) (fun _ => ⟨rfl, qg_rel hI hw⟩)
theorem i_vc_move {k : Nat} {u : SX} {v : SY} (I : i_Rel k u v) (hk : k + 4 ≤ 2048) (v1 : Int32) (v2 : Int32) : wpX_move (fun r u' => wpY_move (fun r' v' => r' = r ∧ i_Rel (k + 4) u' v') v v1 v2) u v1 v2 := by
  obtain ⟨c, cw, ak, ow, kd, fp, sq, sz, wn, co, ho, fo, al, tr, aa, hI, hw, rfl, rfl⟩ := I
  have no : ¬ qg_st v1 v2 7 → wpY_move (fun r' v' => r' = (-1) ∧ i_Rel (k + 4) ((nI c), cw, ak, ow, kd, fp, sq, sz, wn, co, ho, fo, al) v') ((nI c), kd, fp, sq, ow, tr, aa) v1 v2 := fun hs => qg_Y_move hI.1 hI.2.1 (fun j x tr' e1 e2 h1 h2 => absurd ⟨j, x, e1, e2, h1, h2⟩ hs) (fun _ => ⟨rfl, qg_rel hI hw⟩)
  unfold wpX_move
  dsimp only
  refine br_c (fun z => no ?_) (fun z => qg_X_isStart (fun hs => br_f (by decide) ?_) (fun hs => br_t rfl (no ?_)))
  · rintro ⟨j, x, rfl, _, hj, _⟩
    have h : nI j = nI 8 := z
    rw [nI_eq (by omega) (by decide)] at h
    omega
  · obtain ⟨j, x, rfl, rfl, hj, hx⟩ := hs
    have hj7 : j ≤ 7 := by
      have h : ¬ nI j = nI 8 := z
      rw [nI_eq (by omega) (by decide)] at h
      omega
    have hj2 := qg_p2 hj
    refine qg_X_askAll hI hw (fun wn' ho' al' hR => qg_X_choice hI hw hR (by omega) hx (fun fo' => ?_))
    refine qg_Y_move hI.1 hI.2.1 (fun j' x' tr' e1 e2 h1 h2 => ⟨?_, qg_rel hI hw⟩) (fun y => absurd ⟨j, x, rfl, rfl, hj7, hx⟩ y)
    have hj3 := qg_p2 (show j' ≤ 8 by omega)
    have a1 : j = j' := (nI_eq (by omega) (by omega)).mp e1
    have a2 : x = x' := (nI_eq (by omega) (by omega)).mp e2
    subst a1 a2
    rfl
  · rintro ⟨j, x, e1, e2, hj, hx⟩
    exact hs ⟨j, x, e1, e2, by omega, hx⟩
theorem i_vc_count {k : Nat} {u : SX} {v : SY} (I : i_Rel k u v) (hk : k + 4 ≤ 2048) : wpX_count (fun r u' => wpY_count (fun r' v' => r' = r ∧ i_Rel (k + 4) u' v') v) u := by
  obtain ⟨c, cw, ak, ow, kd, fp, sq, sz, wn, co, ho, fo, al, tr, aa, hI, hw, rfl, rfl⟩ := I
  exact qg_X_count hI hw (fun ak' wn' ho' al' => qg_Y_count hI.1 hI.2.1 (fun tr' => ⟨rfl, qg_rel hI hw⟩))
theorem i_vc_idle {k : Nat} {u : SX} {v : SY} (I : i_Rel k u v) (hk : k + 4 ≤ 2048) : wpX_idle (fun r u' => wpY_idle (fun r' v' => r' = r ∧ i_Rel (k + 4) u' v') v) u := by
  obtain ⟨c, cw, ak, ow, kd, fp, sq, sz, wn, co, ho, fo, al, tr, aa, hI, hw, rfl, rfl⟩ := I
  exact qg_X_idle hI hw (fun ak' wn' ho' al' => qg_Y_idle hI.1 hI.2.1 (fun tr' => ⟨rfl, qg_rel hI hw⟩))
theorem i_vc_openings {k : Nat} {u : SX} {v : SY} (I : i_Rel k u v) (hk : k + 4 ≤ 2048) : wpX_openings (fun r u' => wpY_openings (fun r' v' => r' = r ∧ i_Rel (k + 4) u' v') v) u := by
  obtain ⟨c, cw, ak, ow, kd, fp, sq, sz, wn, co, ho, fo, al, tr, aa, hI, hw, rfl, rfl⟩ := I
  exact qg_X_openings hI hw (fun ak' wn' ho' fo' al' => qg_Y_openings hI.1 hI.2.1 (fun tr' => ⟨rfl, qg_rel hI hw⟩))
theorem i_vc_blame {k : Nat} {u : SX} {v : SY} (I : i_Rel k u v) (hk : k + 4 ≤ 2048) : wpX_blame (fun r u' => wpY_blame (fun r' v' => r' = r ∧ i_Rel (k + 4) u' v') v) u := by
  obtain ⟨c, cw, ak, ow, kd, fp, sq, sz, wn, co, ho, fo, al, tr, aa, hI, hw, rfl, rfl⟩ := I
  exact qg_X_blame hI hw (fun ak' wn' ho' fo' al' => qg_Y_blame hI.1 hI.2.1 (fun tr' => ⟨rfl, qg_rel hI hw⟩))
theorem i_vc_decided {k : Nat} {u : SX} {v : SY} (I : i_Rel k u v) (hk : k + 4 ≤ 2048) : wpX_decided (fun r u' => wpY_decided (fun r' v' => r' = r ∧ i_Rel (k + 4) u' v') v) u := by
  obtain ⟨c, cw, ak, ow, kd, fp, sq, sz, wn, co, ho, fo, al, tr, aa, hI, hw, rfl, rfl⟩ := I
  exact qg_X_decided hI hw (fun ak' wn' ho' fo' al' => qg_Y_decided hI.1 hI.2.1 (fun tr' => ⟨rfl, qg_rel hI hw⟩))
theorem i_vc_needless {k : Nat} {u : SX} {v : SY} (I : i_Rel k u v) (hk : k + 4 ≤ 2048) : wpX_needless (fun r u' => wpY_needless (fun r' v' => r' = r ∧ i_Rel (k + 4) u' v') v) u := by
  obtain ⟨c, cw, ak, ow, kd, fp, sq, sz, wn, co, ho, fo, al, tr, aa, hI, hw, rfl, rfl⟩ := I
  exact qg_X_needless hI hw (fun ak' wn' ho' al' => qg_Y_needless hI.1 hI.2.1 (fun tr' aa' => ⟨rfl, qg_rel hI hw⟩))
theorem i_vc_way {k : Nat} {u : SX} {v : SY} (I : i_Rel k u v) (hk : k + 4 ≤ 2048) (v1 : Int32) : wpX_way (fun r u' => wpY_way (fun r' => r' = r ∧ i_Rel (k + 4) u' v) v v1) u v1 := by
  obtain ⟨c, cw, ak, ow, kd, fp, sq, sz, wn, co, ho, fo, al, tr, aa, hI, hw, rfl, rfl⟩ := I
  unfold wpX_way wpY_way
  dsimp only
  refine br_c (fun a => ?_) (fun a => br_c (fun b => ?_) (fun b => ?_))
  · exact qg_Y_in (fun z _ => absurd a z) (fun _ => ⟨qg_narrow false, rfl, qg_rel hI hw⟩)
  · obtain ⟨j, hj, rfl⟩ := nI_of a
    have h : nI j ≤ nI 2 := b
    rw [nI_leI hj (by decide)] at h
    refine qg_Y_rg 2 (by decide) (fun _ _ _ => ⟨qg_narrow true, rfl, qg_rel hI ?_⟩) (fun z => absurd ⟨j, rfl, by omega⟩ z)
    have h3 : j = 0 ∨ j = 1 ∨ j = 2 := by omega
    rcases h3 with rfl | rfl | rfl
    · exact Or.inl rfl
    · exact Or.inr (Or.inl rfl)
    · exact Or.inr (Or.inr rfl)
  · obtain ⟨j, hj, rfl⟩ := nI_of a
    have h : ¬ nI j ≤ nI 2 := b
    rw [nI_leI hj (by decide)] at h
    exact qg_Y_rg 2 (by decide) (fun Q e hQ => absurd ((nI_eq hj (by omega)).mp e) (by omega)) (fun _ => ⟨qg_narrow false, rfl, qg_rel hI hw⟩)
end
