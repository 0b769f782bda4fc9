section
theorem pk_us {f : Nat → Int32} {k : Nat} {x : Int32} : upd f k x k = x := if_pos rfl
theorem pk_un {f : Nat → Int32} {k j : Nat} {x : Int32} (h : j ≠ k) : upd f k x j = f j := if_neg h
theorem pk_uLs {f : Nat → Int64} {k : Nat} {x : Int64} : vp_updL f k x k = x := if_pos rfl
theorem pk_uLn {f : Nat → Int64} {k j : Nat} {x : Int64} (h : j ≠ k) : vp_updL f k x j = f j := if_neg h
theorem pk_sub {a b : Nat} (h : b ≤ a) : nI a - nI b = nI (a - b) := by
  obtain ⟨c, rfl⟩ : ∃ c, a = c + b := ⟨a - b, by omega⟩
  rw [← nI_add, Int32.add_sub_cancel, Nat.add_sub_cancel]
theorem pk_m1 (n : Nat) : nI (n + 1) + (-1) = nI n := by
  rw [← nI_1, Int32.add_assoc, show (1 : Int32) + (-1) = 0 from rfl, Int32.add_zero]
theorem pk_mul (a b : Nat) : nI a * nI b = nI (a * b) := (Int32.ofNat_mul a b).symm
theorem pk_div {a d : Nat} (ha : a < 2 ^ 31) (h0 : 0 < d) (hd : d < 2 ^ 31) : nI a / nI d = nI (a / d) := by
  apply Int32.toInt_inj.mp
  rw [lg_idiv_nonneg (by rw [nI_toInt ha]; omega) (by rw [nI_toInt hd]; omega), nI_toInt ha, nI_toInt hd, nI_toInt (Nat.lt_of_le_of_lt (Nat.div_le_self a d) ha)]
  first | rfl | exact (Int.natCast_ediv _ _).symm
theorem pk_rem {a d : Nat} (ha : a < 2 ^ 31) (h0 : 0 < d) (hd : d < 2 ^ 31) : nI a - nI a / nI d * nI d = nI (a % d) := by
  rw [pk_div ha h0 hd, pk_mul, pk_sub (Nat.div_mul_le_self a d)]
  exact congrArg nI (by have := Nat.div_add_mod' a d; omega)
theorem pk_sub_toInt {a b : Nat} (ha : a < 2 ^ 30) (hb : b < 2 ^ 30) : (nI a - nI b).toInt = (a : Int) - b := by
  rw [Int32.toInt_sub, nI_toInt (by omega), nI_toInt (by omega)]
  exact Int.bmod_eq_of_le (by omega) (by omega)
theorem pk_sneg {a b : Nat} (hb : b < 2 ^ 30) (h : a < b) : nI a - nI b < 0 := by
  rw [Int32.lt_iff_toInt_lt, pk_sub_toInt (by omega) hb, show (0 : Int32).toInt = 0 from by decide]
  omega
theorem pk_ix (x : Int32) {n : Nat} (hn : n < 2 ^ 31) : x < 0 ∨ nI n ≤ x ∨ ∃ j : Nat, j < n ∧ x = nI j := by
  by_cases h : x < 0
  · exact Or.inl h
  · obtain ⟨j, hj, rfl⟩ := nI_of h
    by_cases h2 : j < n
    · exact Or.inr (Or.inr ⟨j, h2, rfl⟩)
    · exact Or.inr (Or.inl (nI_le (by omega) hj))
theorem pk_le {x y : Int32} {A B : Prop} (a b : Nat) (f : a ≤ b → A) (g : b < a → B) (hx : x = nI a := by rfl) (hy : y = nI b := by rfl) (ha : a < 2 ^ 31 := by omega) (hb : b < 2 ^ 31 := by omega) : (x ≤ y → A) ∧ (¬ x ≤ y → B) := by
  subst hx hy
  rw [nI_leI ha hb]
  exact ⟨f, fun z => g (by omega)⟩
theorem pk_lt {x y : Int32} {A B : Prop} (a b : Nat) (f : a < b → A) (g : b ≤ a → B) (hx : x = nI a := by rfl) (hy : y = nI b := by rfl) (ha : a < 2 ^ 31 := by omega) (hb : b < 2 ^ 31 := by omega) : (x < y → A) ∧ (¬ x < y → B) := by
  subst hx hy
  rw [nI_ltI ha hb]
  exact ⟨f, fun z => g (by omega)⟩
theorem pk_eq {x y : Int32} {A B : Prop} (a b : Nat) (f : a = b → A) (g : a ≠ b → B) (hx : x = nI a := by rfl) (hy : y = nI b := by rfl) (ha : a < 2 ^ 31 := by omega) (hb : b < 2 ^ 31 := by omega) : (x = y → A) ∧ (¬ x = y → B) := by
  subst hx hy
  rw [nI_eq ha hb]
  exact ⟨f, g⟩
theorem pk_in {x : Int32} (n N : Nat) (h : n < N) (hx : x = nI n := by rfl) (hN : N < 2 ^ 31 := by omega) : vp_in x N := by
  subst hx
  exact vp_in_nI h hN
theorem pk_cl {x : Int32} (n : Nat) (hx : x = nI n := by rfl) (h : n < 2 ^ 31 := by omega) : x.toNatClampNeg = n := by
  subst hx
  exact nI_clamp h
theorem pk_tn {n : Nat} (h : n < 2 ^ 32) : (nI n).toBitVec.toNat = n := Nat.mod_eq_of_lt h
theorem pk_and (x : Int32) {m : Int32} (k : Nat) (hm : m.toBitVec.toNat = 2 ^ k - 1) : x &&& m = nI (x.toBitVec.toNat % 2 ^ k) := by
  apply Int32.toBitVec_inj.mp
  apply BitVec.eq_of_toNat_eq
  rw [Int32.toBitVec_and, BitVec.toNat_and, hm, Nat.and_two_pow_sub_one_eq_mod]
  show _ = (BitVec.ofNat 32 _).toNat
  rw [BitVec.toNat_ofNat]
  exact (Nat.mod_eq_of_lt (Nat.lt_of_le_of_lt (Nat.mod_le _ _) x.toBitVec.isLt)).symm
theorem pk_andN {n : Nat} (h : n < 2 ^ 32) {m : Int32} (k : Nat) (hm : m.toBitVec.toNat = 2 ^ k - 1) : nI n &&& m = nI (n % 2 ^ k) := by
  rw [pk_and _ k hm, pk_tn h]
theorem pk_andE (x : Int32) {m : Int32} (k : Nat) (hm : m.toBitVec.toNat = 2 ^ k - 1) : ∃ j : Nat, j < 2 ^ k ∧ x &&& m = nI j := ⟨_, Nat.mod_lt _ (Nat.two_pow_pos k), pk_and x k hm⟩
theorem pk_andIn (x : Int32) {m : Int32} (k : Nat) (hm : m.toBitVec.toNat = 2 ^ k - 1) (hk : k ≤ 30) : vp_in (x &&& m) (2 ^ k) := by
  obtain ⟨j, hj, e⟩ := pk_andE x k hm
  rw [e]
  exact vp_in_nI hj (Nat.lt_of_le_of_lt (Nat.pow_le_pow_right (by decide) hk) (by decide))
theorem pk_shl (a s : Int32) (k : Nat) (hs : (s.toBitVec.smod 32).toNat = k) : (a <<< s).toBitVec.toNat = a.toBitVec.toNat * 2 ^ k % 2 ^ 32 := by
  show (a.toBitVec <<< (s.toBitVec.smod 32).toNat).toNat = _
  rw [hs, BitVec.toNat_shiftLeft, Nat.shiftLeft_eq]
theorem pk_shlN {n : Nat} (s : Int32) (k : Nat) (hs : (s.toBitVec.smod 32).toNat = k) (h : n * 2 ^ k < 2 ^ 32) : nI n <<< s = nI (n * 2 ^ k) := by
  apply Int32.toBitVec_inj.mp
  apply BitVec.eq_of_toNat_eq
  have hn : n < 2 ^ 32 := Nat.lt_of_le_of_lt (Nat.le_mul_of_pos_right n (Nat.two_pow_pos k)) h
  rw [pk_shl _ _ k hs, pk_tn hn, pk_tn h, Nat.mod_eq_of_lt h]
theorem pk_shr (a s : Int32) (k : Nat) (hs : (s.toBitVec.smod 32).toNat = k) : (a >>> s).toInt = a.toInt >>> k := by
  show (a.toBitVec.sshiftRight (s.toBitVec.smod 32).toNat).toInt = _
  rw [hs, BitVec.toInt_sshiftRight]
  rfl
theorem pk_shrN {n : Nat} (h : n < 2 ^ 31) (s : Int32) (k : Nat) (hs : (s.toBitVec.smod 32).toNat = k) : nI n >>> s = nI (n / 2 ^ k) := by
  apply Int32.toInt_inj.mp
  have h2 : n / 2 ^ k ≤ n := Nat.div_le_self _ _
  rw [pk_shr _ _ k hs, nI_toInt h, nI_toInt (by omega), Int.shiftRight_eq_div_pow]
  rfl
theorem pk_ushr (x s : Int32) (k : Nat) (hs : ((s.toUInt32 &&& Int32.toUInt32 31).toBitVec % 32).toNat = k) : (x.toUInt32 >>> (s.toUInt32 &&& Int32.toUInt32 31)).toInt32.toBitVec.toNat = x.toBitVec.toNat / 2 ^ k := by
  have e : (x.toUInt32 >>> (s.toUInt32 &&& Int32.toUInt32 31)).toInt32.toBitVec = x.toBitVec >>> k := by
    rw [← hs]
    exact UInt32.toBitVec_shiftRight _ _
  rw [e, BitVec.toNat_ushiftRight, Nat.shiftRight_eq_div_pow]
theorem pk_ushrN {n : Nat} (hn : n < 2 ^ 32) (s : Int32) (k : Nat) (hs : ((s.toUInt32 &&& Int32.toUInt32 31).toBitVec % 32).toNat = k) : ((nI n).toUInt32 >>> (s.toUInt32 &&& Int32.toUInt32 31)).toInt32 = nI (n / 2 ^ k) := by
  apply Int32.toBitVec_inj.mp
  apply BitVec.eq_of_toNat_eq
  rw [pk_ushr _ s k hs, pk_tn hn, pk_tn (Nat.lt_of_le_of_lt (Nat.div_le_self _ _) hn)]
theorem pk_loop {σ : Type} (W : Nat → Nat → σ → Prop) (I : Nat → σ → Prop) (e i0 : Nat) (s : σ) (hi : i0 ≤ e) (h0 : I i0 s) (hx : ∀ n s, I e s → W (n + 1) e s)
    (hs : ∀ n i s, i < e → I i s → (∀ s', I (i + 1) s' → W n (i + 1) s') → W (n + 1) i s) : ∃ n, W n i0 s :=
  ⟨e + 1, loop_i W I e hx hs (e + 1) i0 s hi (by omega) h0⟩
theorem pk_loopD {σ : Type} (W : Nat → Nat → σ → Prop) (I : Nat → σ → Prop) (hx : ∀ n s, I 0 s → W (n + 1) 0 s)
    (hs : ∀ n i s, I (i + 1) s → (∀ s', I i s' → W n i s') → W (n + 1) (i + 1) s) : ∀ (e : Nat) (s : σ), I e s → W (e + 1) e s := by
  intro e
  induction e with
  | zero => exact fun s h => hx 0 s h
  | succ e ih => exact fun s h => hs (e + 1) e s h (fun s' h' => ih s' h')
theorem ek_if {c d A B : Prop} (e : c ↔ d) (f : d → A) (g : ¬ d → B) : (c → A) ∧ (¬ c → B) :=
  ⟨fun z => f (e.mp z), fun z => g (fun y => z (e.mpr y))⟩
theorem ek_v {α : Sort _} {P : α → Prop} {a b : α} (e : a = b) (h : P b) : P a := e ▸ h
/-! ===== Int32 by its bits: bt x i ===== -/
def bt (x : Int32) (i : Nat) : Bool := x.toBitVec.getLsbD i
theorem b_ext {x y : Int32} (h : ∀ i, i < 32 → bt x i = bt y i) : x = y := Int32.toBitVec_inj.mp (BitVec.eq_of_getLsbD_eq (fun i hi => h i hi))
theorem b_or (x y : Int32) (i : Nat) : bt (x ||| y) i = (bt x i || bt y i) := by unfold bt; rw [Int32.toBitVec_or, BitVec.getLsbD_or]
theorem b_and (x y : Int32) (i : Nat) : bt (x &&& y) i = (bt x i && bt y i) := by unfold bt; rw [Int32.toBitVec_and, BitVec.getLsbD_and]
theorem b_xor (x y : Int32) (i : Nat) : bt (x ^^^ y) i = (bt x i ^^ bt y i) := by unfold bt; rw [Int32.toBitVec_xor, BitVec.getLsbD_xor]
theorem b_big {x : Int32} {i : Nat} (h : 32 ≤ i) : bt x i = false := BitVec.getLsbD_of_ge _ _ h
theorem b_255 (i : Nat) : bt 255 i = decide (i < 8) := by
  rcases Nat.lt_or_ge i 32 with h | h
  · exact (by decide +kernel : ∀ i, i < 32 → bt 255 i = decide (i < 8)) i h
  · rw [b_big h, decide_eq_false (by omega)]
theorem b_65535 (i : Nat) : bt 65535 i = decide (i < 16) := by
  rcases Nat.lt_or_ge i 32 with h | h
  · exact (by decide +kernel : ∀ i, i < 32 → bt 65535 i = decide (i < 16)) i h
  · rw [b_big h, decide_eq_false (by omega)]
theorem b_m1 : ∀ i, i < 32 → bt (-1) i = true := by decide +kernel
theorem b_0 (i : Nat) : bt 0 i = false := BitVec.getLsbD_zero
theorem s_l : ∀ n, n < 32 → ((nI n &&& 31).toBitVec.smod 32).toNat = n := by decide +kernel
theorem s_u : ∀ n, n < 32 → (((nI n).toUInt32 &&& Int32.toUInt32 31).toBitVec % 32).toNat = n := by decide +kernel
theorem b_shl (n : Nat) (hn : n < 32) (x : Int32) {i : Nat} (hi : i < 32) : bt (x <<< (nI n &&& 31)) i = (decide (n ≤ i) && bt x (i - n)) := by
  unfold bt
  rw [Int32.toBitVec_shiftLeft]
  show (x.toBitVec <<< ((nI n &&& 31).toBitVec.smod 32).toNat).getLsbD i = _
  rw [s_l n hn, BitVec.getLsbD_shiftLeft]
  rcases Nat.lt_or_ge i n with h | h
  · simp [h, Nat.not_le.mpr h]
  · simp [hi, h, Nat.not_lt.mpr h]
theorem b_ushr (n : Nat) (hn : n < 32) (x : Int32) (i : Nat) : bt ((x.toUInt32 >>> ((nI n).toUInt32 &&& Int32.toUInt32 31)).toInt32) i = bt x (n + i) := by
  show (x.toUInt32 >>> ((nI n).toUInt32 &&& Int32.toUInt32 31)).toBitVec.getLsbD i = x.toUInt32.toBitVec.getLsbD (n + i)
  rw [UInt32.toBitVec_shiftRight]
  show (x.toUInt32.toBitVec >>> (((nI n).toUInt32 &&& Int32.toUInt32 31).toBitVec % 32).toNat).getLsbD i = _
  rw [s_u n hn, BitVec.getLsbD_ushiftRight]
theorem b_sshr (n : Nat) (hn : n < 32) (x : Int32) {i : Nat} (hi : i < 32) : bt (x >>> (nI n &&& 31)) i = if n + i < 32 then bt x (n + i) else bt x 31 := by
  unfold bt
  rw [Int32.toBitVec_shiftRight]
  show (x.toBitVec.sshiftRight ((nI n &&& 31).toBitVec.smod 32).toNat).getLsbD i = _
  rw [s_l n hn, BitVec.getLsbD_sshiftRight, BitVec.msb_eq_getLsbD_last]
  simp [hi]
/-! ===== nI under and, xor, >>>, one bit, 65535 ===== -/
theorem nx_and (a b : Nat) : nI a &&& nI b = nI (a &&& b) := by
  apply Int32.toBitVec_inj.1
  show BitVec.ofNat 32 a &&& BitVec.ofNat 32 b = BitVec.ofNat 32 (a &&& b)
  apply BitVec.eq_of_getLsbD_eq
  intro i hi
  simp [hi]
theorem nx_xor (a b : Nat) : nI a ^^^ nI b = nI (a ^^^ b) := by
  apply Int32.toBitVec_inj.1
  show BitVec.ofNat 32 a ^^^ BitVec.ofNat 32 b = BitVec.ofNat 32 (a ^^^ b)
  apply BitVec.eq_of_getLsbD_eq
  intro i hi
  simp [hi]
theorem wb_of32 (x : Int32) : ∃ n, n < 2 ^ 32 ∧ x = nI n := ⟨x.toBitVec.toNat, x.toBitVec.isLt, Int32.toBitVec_inj.mp (by show _ = BitVec.ofNat 32 _; simp)⟩
theorem ts_nf {x : Bool} (h : ¬ x = false) : x = true := by cases x <;> first | rfl | exact absurd rfl h
theorem ts_nt {x : Bool} (h : ¬ x = true) : x = false := by cases x <;> first | rfl | exact absurd rfl h
theorem ts_bit {w : Int64} {s : UInt64} {j : Nat} (hj : j < 64) (hs : s.toNat = j) : ((w.toUInt64 >>> s).toInt64 &&& 1) = 0 ↔ w.toBitVec.getLsbD j = false := by
  have e : (w.toUInt64 >>> s).toInt64.toBitVec = w.toBitVec >>> j := by
    apply BitVec.eq_of_toNat_eq
    show (w.toUInt64 >>> s).toNat = _
    rw [UInt64.toNat_shiftRight, hs, Nat.mod_eq_of_lt hj, BitVec.toNat_ushiftRight]
    rfl
  rw [← Int64.toBitVec_inj, Int64.toBitVec_and, e]
  show w.toBitVec >>> j &&& 1#64 = 0#64 ↔ _
  constructor
  · intro h
    have t := congrArg (fun x => x.getLsbD 0) h
    simpa using t
  · intro h
    apply BitVec.eq_of_getLsbD_eq
    intro i hi
    cases i with
    | zero => simp [h]
    | succ i => simp
theorem wb_inj {a b : Int64} (h : a.toBitVec = b.toBitVec) : a = b := Int64.toBitVec_inj.mp h
theorem wb_c : ∀ k, k < 64 → ((nI k).toInt64 &&& 63) = lN k := by decide +kernel
theorem wb_cu : ∀ k, k < 64 → ((nI k).toInt64.toUInt64 &&& Int64.toUInt64 63) = UInt64.ofNat k := by decide +kernel
end
section
/-! pure: numbers, bits, rules, the game -/
def qg_b (b : Bool) : Int32 := if b = true then 1 else 0
theorem qg_b_t : qg_b true = 1 := rfl
theorem qg_b_f : qg_b false = 0 := rfl
theorem qg_b_1 (b : Bool) : qg_b b = 1 ↔ b = true := by cases b <;> decide
theorem qg_b_0 (b : Bool) : qg_b b = 0 ↔ b = false := by cases b <;> decide
theorem qg_b_i (a b : Bool) : qg_b a = qg_b b ↔ a = b := by cases a <;> cases b <;> decide
def qg_pop (s : Nat) : Nat → Nat
  | 0 => 0
  | v + 1 => qg_pop s v + s / 2 ^ v % 2
theorem qg_bit (s v : Nat) : s / 2 ^ v % 2 = if s.testBit v = true then 1 else 0 := by
  rw [Nat.testBit_eq_decide_div_mod_eq]
  by_cases h : s / 2 ^ v % 2 = 1
  · rw [decide_eq_true h, if_pos rfl]; exact h
  · have h2 : s / 2 ^ v % 2 < 2 := Nat.mod_lt _ (by decide)
    rw [decide_eq_false h, if_neg (by decide)]
    generalize s / 2 ^ v % 2 = z at *
    omega
theorem qg_tb (s v : Nat) : s.testBit v = true ↔ s / 2 ^ v % 2 = 1 := by
  rw [Nat.testBit_eq_decide_div_mod_eq, decide_eq_true_eq]
theorem qg_pop_le (s : Nat) : ∀ v, qg_pop s v ≤ v
  | 0 => Nat.le_refl _
  | v + 1 => by
    have h := qg_pop_le s v
    have h2 : s / 2 ^ v % 2 < 2 := Nat.mod_lt _ (by decide)
    show qg_pop s v + s / 2 ^ v % 2 ≤ v + 1
    generalize s / 2 ^ v % 2 = z at *
    omega
theorem qg_pop_half : ∀ s, s < 256 → qg_pop s 8 = qg_pop (s / 2) 8 + s % 2 := by decide +kernel
theorem qg_pop_z : ∀ s, s < 256 → (qg_pop s 8 = 0 ↔ s = 0) := by decide +kernel
def qg_cb (s m v : Nat) : Nat := if (s.testBit v && m.testBit v) = true then 1 else 0
theorem qg_pop_s (s m v : Nat) : qg_pop (s &&& m) (v + 1) = qg_pop (s &&& m) v + qg_cb s m v := by
  show qg_pop (s &&& m) v + (s &&& m) / 2 ^ v % 2 = _
  rw [qg_bit, Nat.testBit_and]
  rfl
theorem qg_and_lt {a b : Nat} (h : a < 256) : a &&& b < 256 := Nat.lt_of_le_of_lt Nat.and_le_left h
theorem qg_pop_al (p m : Nat) : ∀ v, qg_pop (p &&& m) v ≤ qg_pop p v
  | 0 => Nat.le_refl _
  | v + 1 => by
    have h := qg_pop_al p m v
    rw [qg_pop_s]
    show _ ≤ qg_pop p v + p / 2 ^ v % 2
    rw [qg_bit]
    unfold qg_cb
    cases p.testBit v <;> cases m.testBit v <;> simp <;> omega
theorem qg_pop_ae (p m : Nat) : ∀ v, qg_pop p v ≤ qg_pop (p &&& m) v ↔ ∀ u, u < v → p.testBit u = true → m.testBit u = true
  | 0 => ⟨fun _ u hu => absurd hu (Nat.not_lt_zero u), fun _ => Nat.le_refl _⟩
  | v + 1 => by
    have ih := qg_pop_ae p m v
    have hl := qg_pop_al p m v
    have e2 : qg_pop p (v + 1) = qg_pop p v + (if p.testBit v = true then 1 else 0) := by
      show qg_pop p v + p / 2 ^ v % 2 = _
      rw [qg_bit]
    rw [qg_pop_s, e2]
    unfold qg_cb
    constructor
    · intro h u hu hp
      by_cases hz : p.testBit v = true ∧ m.testBit v = false
      · rw [hz.1, hz.2] at h
        simp at h
        omega
      · have h2 : qg_pop p v ≤ qg_pop (p &&& m) v := by
          revert h hz
          cases p.testBit v <;> cases m.testBit v <;> simp <;> omega
        rcases Nat.lt_or_ge u v with z | z
        · exact ih.mp h2 u z hp
        · have e : u = v := by omega
          subst e
          cases hm : m.testBit u with
          | true => rfl
          | false => exact absurd ⟨hp, hm⟩ hz
    · intro h
      have h2 := ih.mpr (fun u hu => h u (by omega))
      have h3 := h v (by omega)
      revert h3
      cases p.testBit v <;> cases m.testBit v <;> simp <;> omega
theorem qg_hi {x u : Nat} (h : x < 256) (hu : 8 ≤ u) : x.testBit u = false :=
  Nat.testBit_lt_two_pow (Nat.lt_of_lt_of_le h (Nat.pow_le_pow_right (n := 2) (by decide) hu))
theorem qg_sub {P m : Nat} (hP : P < 256) : (P &&& m = P) ↔ qg_pop P 8 ≤ qg_pop (P &&& m) 8 := by
  rw [qg_pop_ae]
  constructor
  · intro h u _ hp
    have e : (P &&& m).testBit u = true := by rw [h]; exact hp
    rw [Nat.testBit_and, hp] at e
    simpa using e
  · intro h
    apply Nat.eq_of_testBit_eq
    intro u
    rw [Nat.testBit_and]
    rcases Nat.lt_or_ge u 8 with z | z
    · have h2 := h u z
      revert h2
      cases P.testBit u <;> cases m.testBit u <;> simp
    · rw [qg_hi hP z]; rfl
theorem qg_bt (n : Nat) {i : Nat} (hi : i < 32) : bt (nI n) i = n.testBit i := by
  unfold bt
  show (BitVec.ofNat 32 n).getLsbD i = _
  rw [BitVec.getLsbD_ofNat]
  simp [hi]
theorem qg_com {Q m : Nat} (hQ : Q < 256) : ((nI m ^^^ (-1)) &&& nI Q = 0) ↔ qg_pop Q 8 ≤ qg_pop (Q &&& m) 8 := by
  rw [qg_pop_ae]
  constructor
  · intro h u hu hq
    have e : bt ((nI m ^^^ (-1)) &&& nI Q) u = false := by rw [h]; exact b_0 u
    rw [b_and, b_xor, qg_bt m (by omega), qg_bt Q (by omega), b_m1 u (by omega), hq] at e
    revert e
    cases m.testBit u <;> simp
  · intro h
    apply b_ext
    intro i hi
    rw [b_and, b_xor, qg_bt m hi, qg_bt Q hi, b_m1 i hi, b_0]
    rcases Nat.lt_or_ge i 8 with z | z
    · have h2 := h i z
      revert h2
      cases Q.testBit i <;> cases m.testBit i <;> simp
    · rw [qg_hi hQ z]; simp
theorem qg_nI0 {n : Nat} (h : n < 256) : nI n = 0 ↔ qg_pop n 8 = 0 := by
  rw [← nI_0, nI_eq (by omega) (by omega), qg_pop_z n h]
/-! one rule -/
def qg_rn (K P Q m : Nat) : Bool :=
  if K = 0 then (decide (¬ qg_pop (P &&& m) 8 = 0) || decide (¬ qg_pop Q 8 ≤ qg_pop (Q &&& m) 8))
  else if K = 1 then decide (qg_pop (P &&& m) 8 % 2 = Q)
  else if K = 2 then decide (qg_pop (P &&& m) 8 ≤ Q)
  else (decide (qg_pop (P &&& m) 8 = 0) || decide (qg_pop P 8 ≤ qg_pop (P &&& m) 8))
def qg_rh (kd p q : Int32) (m : Nat) : Bool := qg_rn kd.toBitVec.toNat p.toBitVec.toNat q.toBitVec.toNat m
def qg_ok (kd p q : Int32) : Prop := ∃ K P Q : Nat, kd = nI K ∧ p = nI P ∧ q = nI Q ∧ K < 4 ∧ P < 256 ∧ Q < 2 ^ 32 ∧ (K = 0 → Q < 256) ∧ (K = 1 → Q < 2) ∧ (K = 2 → Q < 5)
theorem qg_rh_n {K P Q m : Nat} (hK : K < 4) (hP : P < 256) (hQ : Q < 2 ^ 32) : qg_rh (nI K) (nI P) (nI Q) m = qg_rn K P Q m := by
  unfold qg_rh
  rw [pk_tn (by omega), pk_tn (by omega), pk_tn hQ]
/-! a set of rules -/
def qg_sel (mask : Int32) (i : Nat) : Bool := decide ((mask >>> (nI i &&& 31)) &&& 1 = 1)
theorem qg_a1 (x : Int32) : x &&& 1 = 1 ↔ bt x 0 = true := by
  have e : bt x 0 = decide (x.toBitVec.toNat % 2 = 1) := by
    unfold bt
    rw [BitVec.getLsbD, Nat.testBit_zero]
  rw [pk_and x 1 (by decide), e, decide_eq_true_eq]
  exact nI_eq (b := 1) (by omega) (by decide)
theorem qg_sel_bt (mask : Int32) {i : Nat} (hi : i < 32) : qg_sel mask i = bt mask i := by
  unfold qg_sel
  have e := b_sshr i hi mask (i := 0) (by decide)
  rw [if_pos (by omega), Nat.add_zero] at e
  rw [← e]
  cases h : bt (mask >>> (nI i &&& 31)) 0 with
  | true => exact decide_eq_true ((qg_a1 _).mpr h)
  | false => exact decide_eq_false (fun z => by rw [(qg_a1 _).mp z] at h; cases h)
def qg_H (kd p q : Nat → Int32) (c : Nat) (mask : Int32) (m : Nat) : Bool :=
  decide (∀ i, i < c → qg_sel mask i = true → qg_rh (kd i) (p i) (q i) m = true)
theorem qg_H_mono {kd p q : Nat → Int32} {c : Nat} {m1 m2 : Int32} {m : Nat} (h : ∀ i, i < c → qg_sel m2 i = true → qg_sel m1 i = true) (h1 : qg_H kd p q c m1 m = true) : qg_H kd p q c m2 m = true := by
  unfold qg_H at *
  rw [decide_eq_true_eq] at *
  exact fun i hi hs => h1 i hi (h i hi hs)
/-! the game -/
def qg_W (own : Nat → Int32) (H : Nat → Bool) : Nat → Nat → Bool
  | 0, x => H x
  | d + 1, x => if own (7 - d) = 0 then (qg_W own H d x || qg_W own H d (x + 2 ^ (7 - d))) else (qg_W own H d x && qg_W own H d (x + 2 ^ (7 - d)))
def qg_V (own : Nat → Int32) (H : Nat → Bool) (k x : Nat) : Bool := qg_W own H (8 - k) x
theorem qg_V8 (own : Nat → Int32) (H : Nat → Bool) (x : Nat) : qg_V own H 8 x = H x := rfl
theorem qg_Vk {own : Nat → Int32} {H : Nat → Bool} {k x : Nat} (hk : k < 8) : qg_V own H k x = if own k = 0 then (qg_V own H (k + 1) x || qg_V own H (k + 1) (x + 2 ^ k)) else (qg_V own H (k + 1) x && qg_V own H (k + 1) (x + 2 ^ k)) := by
  unfold qg_V
  have e : 8 - k = (8 - (k + 1)) + 1 := by omega
  have e2 : 7 - (8 - (k + 1)) = k := by omega
  rw [e, qg_W, e2]
/-! the search -/
def qg_rev (y : Nat) : Nat := y % 2 * 128 + y / 2 % 2 * 64 + y / 4 % 2 * 32 + y / 8 % 2 * 16 + y / 16 % 2 * 8 + y / 32 % 2 * 4 + y / 64 % 2 * 2 + y / 128 % 2
theorem qg_rev_lt (y : Nat) : qg_rev y < 256 := by
  unfold qg_rev
  omega
theorem qg_rev_up : ∀ v, v < 8 → ∀ y, y < 256 → y / 2 ^ v % 2 = 0 → qg_rev y < qg_rev (y % 2 ^ v + 2 ^ v) := by decide +kernel
theorem qg_md (y v : Nat) : y % 2 ^ (v + 1) = y % 2 ^ v + 2 ^ v * (y / 2 ^ v % 2) := Nat.mod_pow_succ
def qg_SI (own : Nat → Int32) (H : Nat → Bool) (k x y : Nat) : Prop :=
  y < 256 ∧ y % 2 ^ k = x ∧ ∀ v, k ≤ v → v < 8 → y / 2 ^ v % 2 = 1 → qg_V own H (v + 1) (y % 2 ^ v) = !decide (own v = 0)
theorem qg_S1 {own : Nat → Int32} {H : Nat → Bool} {v y : Nat} (hv : v < 8) (hb : y / 2 ^ v % 2 = 1) (h0 : qg_V own H (v + 1) (y % 2 ^ v) = !decide (own v = 0)) : qg_V own H (v + 1) (y % 2 ^ (v + 1)) = qg_V own H v (y % 2 ^ v) := by
  rw [qg_md, hb, Nat.mul_one, qg_Vk hv, h0]
  by_cases z : own v = 0
  · simp [z]
  · simp [z]
theorem qg_S0 {own : Nat → Int32} {H : Nat → Bool} {v y : Nat} (hv : v < 8) (hb : y / 2 ^ v % 2 = 0) (h0 : qg_V own H (v + 1) (y % 2 ^ (v + 1)) = decide (own v = 0)) : qg_V own H (v + 1) (y % 2 ^ (v + 1)) = qg_V own H v (y % 2 ^ v) := by
  have e : y % 2 ^ (v + 1) = y % 2 ^ v := by rw [qg_md, hb, Nat.mul_zero, Nat.add_zero]
  rw [e] at h0 ⊢
  rw [qg_Vk hv, h0]
  by_cases z : own v = 0
  · simp [z]
  · simp [z]
theorem qg_lm {u v : Nat} (y : Nat) (h : u ≤ v) : (y % 2 ^ v + 2 ^ v) % 2 ^ u = y % 2 ^ u := by
  obtain ⟨d, rfl⟩ : ∃ d, v = u + d := ⟨v - u, by omega⟩
  rw [Nat.pow_add, Nat.add_mul_mod_self_left, Nat.mod_mul_right_mod]
theorem qg_lb {u v : Nat} (y : Nat) (h : u < v) : (y % 2 ^ v + 2 ^ v) / 2 ^ u % 2 = y / 2 ^ u % 2 := by
  have a := qg_md (y % 2 ^ v + 2 ^ v) u
  have b := qg_md y u
  rw [qg_lm y (show u + 1 ≤ v from h), qg_lm y (Nat.le_of_lt h)] at a
  exact Nat.eq_of_mul_eq_mul_left (Nat.two_pow_pos u) (Nat.add_left_cancel (a.symm.trans b))
theorem qg_SN {own : Nat → Int32} {H : Nat → Bool} {k x v y : Nat} (hv : v < 8) (I : qg_SI own H k x y) (hk : k ≤ v) (hb : y / 2 ^ v % 2 = 0) (h0 : qg_V own H (v + 1) (y % 2 ^ (v + 1)) = !decide (own v = 0)) : qg_SI own H k x (y % 2 ^ v + 2 ^ v) := by
  obtain ⟨h1, h2, h3⟩ := I
  have hp : 2 ^ v ≤ 128 := Nat.pow_le_pow_right (n := 2) (by decide) (show v ≤ 7 by omega)
  have hm : y % 2 ^ v < 2 ^ v := Nat.mod_lt _ (Nat.two_pow_pos v)
  refine ⟨by omega, by rw [qg_lm y hk]; exact h2, ?_⟩
  intro u hu hu8 hbu
  rcases Nat.lt_trichotomy u v with z | z | z
  · rw [qg_lm y (Nat.le_of_lt z)]
    rw [qg_lb y z] at hbu
    exact h3 u hu hu8 hbu
  · subst z
    rw [qg_lm y (Nat.le_refl u)]
    have e : y % 2 ^ (u + 1) = y % 2 ^ u := by rw [qg_md, hb, Nat.mul_zero, Nat.add_zero]
    rw [e] at h0
    exact h0
  · have hle : 2 ^ (v + 1) ≤ 2 ^ u := Nat.pow_le_pow_right (n := 2) (by decide) z
    rw [Nat.pow_succ] at hle
    rw [Nat.div_eq_of_lt (by omega)] at hbu
    exact absurd hbu (by decide)
/-! counts and sets -/
def qg_cnt (f : Nat → Bool) : Nat → Nat
  | 0 => 0
  | n + 1 => qg_cnt f n + (if f n = true then 1 else 0)
theorem qg_cnt_n (f : Nat → Bool) : ∀ n, qg_cnt f n ≤ n
  | 0 => Nat.le_refl _
  | n + 1 => by
    have h := qg_cnt_n f n
    show qg_cnt f n + (if f n = true then 1 else 0) ≤ n + 1
    split <;> omega
theorem qg_cnt_le {f g : Nat → Bool} : ∀ n, (∀ x, x < n → f x = true → g x = true) → qg_cnt f n ≤ qg_cnt g n
  | 0, _ => Nat.le_refl _
  | n + 1, h => by
    have ih := qg_cnt_le n (fun x hx => h x (by omega))
    have h2 := h n (by omega)
    show qg_cnt f n + (if f n = true then 1 else 0) ≤ qg_cnt g n + (if g n = true then 1 else 0)
    revert h2
    cases f n <;> cases g n <;> simp <;> omega
theorem qg_cnt_eq {f g : Nat → Bool} : ∀ n, (∀ x, x < n → f x = true → g x = true) → (qg_cnt g n = qg_cnt f n ↔ ∀ x, x < n → g x = f x)
  | 0, _ => ⟨fun _ x hx => absurd hx (Nat.not_lt_zero x), fun _ => rfl⟩
  | n + 1, h => by
    have ih := qg_cnt_eq n (fun x hx => h x (by omega))
    have hl := qg_cnt_le n (fun x hx => h x (by omega))
    have h2 := h n (by omega)
    have eg : qg_cnt g (n + 1) = qg_cnt g n + (if g n = true then 1 else 0) := rfl
    have ef : qg_cnt f (n + 1) = qg_cnt f n + (if f n = true then 1 else 0) := rfl
    rw [eg, ef]
    constructor
    · intro e x hx
      have a : g n = f n ∧ qg_cnt g n = qg_cnt f n := by
        revert h2 e
        cases f n <;> cases g n <;> simp <;> omega
      rcases Nat.lt_or_ge x n with z | z
      · exact ih.mp a.2 x z
      · have e2 : x = n := by omega
        rw [e2]; exact a.1
    · intro e
      rw [e n (by omega), ih.mpr (fun x hx => e x (by omega))]
def qg_set (f : Nat → Bool) : Nat → Int32
  | 0 => 0
  | v + 1 => if f v = true then qg_set f v ||| ((1 : Int32) <<< (nI v &&& 31)) else qg_set f v
def qg_bm (wf : Int32 → Bool) (m0 : Int32) : Nat → Int32
  | 0 => m0
  | i + 1 => if wf (qg_bm wf m0 i &&& (((1 : Int32) <<< (nI i &&& 31)) ^^^ (-1))) = true then qg_bm wf m0 i else qg_bm wf m0 i &&& (((1 : Int32) <<< (nI i &&& 31)) ^^^ (-1))
def qg_ch (own : Nat → Int32) (V : Nat → Nat → Bool) (k x : Nat) : Int32 :=
  if V (k + 1) x = decide (own k = 0) then 0 else if V (k + 1) (x + 2 ^ k) = decide (own k = 0) then 1 else (-3)
def qg_dv (own : Nat → Int32) (V : Nat → Nat → Bool) : Nat → Nat
  | 0 => 0
  | k + 1 => if qg_ch own V k (qg_dv own V k) = 1 then qg_dv own V k + 2 ^ k else qg_dv own V k
theorem qg_dv_lt (own : Nat → Int32) (V : Nat → Nat → Bool) : ∀ k, qg_dv own V k < 2 ^ k
  | 0 => Nat.lt_succ_self 0
  | k + 1 => by
    have h := qg_dv_lt own V k
    show (if qg_ch own V k (qg_dv own V k) = 1 then qg_dv own V k + 2 ^ k else qg_dv own V k) < 2 ^ (k + 1)
    rw [Nat.pow_succ]
    split <;> omega
def qg_eqs (n : Nat) (f g : Nat → Bool) : Bool := decide (∀ x, x < n → f x = g x)
theorem qg_eqs_t {n : Nat} {f g : Nat → Bool} (h : ∀ x, x < n → f x = g x) : qg_eqs n f g = true := decide_eq_true h
theorem qg_eqs_f {n x : Nat} {f g : Nat → Bool} (hx : x < n) (h : ¬ f x = g x) : qg_eqs n f g = false := decide_eq_false (fun z => h (z x hx))
def qg_D (H : Nat → Bool) (k x : Nat) : Bool := qg_eqs (2 ^ (8 - k)) (fun r => H (x + r * 2 ^ k)) (fun _ => H x)
def qg_dr (D : Nat → Bool) : Nat → Nat
  | 0 => 8
  | d + 1 => if D (7 - d) = true then 7 - d else qg_dr D d
def qg_fr (own : Nat → Int32) : Nat → Nat
  | 0 => 8
  | d + 1 => if own (7 - d) = own 0 then qg_fr own d else 7 - d
theorem qg_fr_le (own : Nat → Int32) : ∀ d, qg_fr own d ≤ 8
  | 0 => Nat.le_refl _
  | d + 1 => by
    have h := qg_fr_le own d
    show (if own (7 - d) = own 0 then qg_fr own d else 7 - d) ≤ 8
    split <;> omega
theorem qg_fr_8 (own : Nat → Int32) : qg_fr own 8 = qg_fr own 7 := if_pos rfl
def qg_I (H : Nat → Bool) (v : Nat) : Bool := qg_eqs 256 H (fun x => H (x ^^^ 2 ^ v))
end
section
/-! long words as sets of lists -/
def qg_l (x : Int64) (i : Nat) : Bool := x.toBitVec.getLsbD i
theorem qg_l_or (x y : Int64) (i : Nat) : qg_l (x ||| y) i = (qg_l x i || qg_l y i) := by unfold qg_l; rw [Int64.toBitVec_or, BitVec.getLsbD_or]
theorem qg_l_and (x y : Int64) (i : Nat) : qg_l (x &&& y) i = (qg_l x i && qg_l y i) := by unfold qg_l; rw [Int64.toBitVec_and, BitVec.getLsbD_and]
theorem qg_l_xor (x y : Int64) (i : Nat) : qg_l (x ^^^ y) i = (qg_l x i ^^ qg_l y i) := by unfold qg_l; rw [Int64.toBitVec_xor, BitVec.getLsbD_xor]
theorem qg_l_m1 : ∀ i, i < 64 → qg_l (-1) i = true := by decide +kernel
theorem qg_l_0 (i : Nat) : qg_l 0 i = false := BitVec.getLsbD_zero
theorem qg_l_not (x : Int64) {i : Nat} (hi : i < 64) : qg_l (x ^^^ (-1)) i = !qg_l x i := by
  rw [qg_l_xor, qg_l_m1 i hi]
  cases qg_l x i <;> rfl
theorem qg_l_shl : ∀ n, n < 64 → ∀ i, i < 64 → qg_l ((1 : Int64) <<< ((nI n).toInt64 &&& 63)) i = decide (i = n) := by decide +kernel
theorem qg_l_shr {n : Nat} (hn : n < 64) (x : Int64) (i : Nat) : qg_l ((x.toUInt64 >>> ((nI n).toInt64.toUInt64 &&& Int64.toUInt64 63)).toInt64) i = qg_l x (n + i) := by
  rw [wb_cu n hn]
  unfold qg_l
  have e : (x.toUInt64 >>> UInt64.ofNat n).toInt64.toBitVec = x.toBitVec >>> n := by
    apply BitVec.eq_of_toNat_eq
    show (x.toUInt64 >>> UInt64.ofNat n).toNat = _
    rw [UInt64.toNat_shiftRight, show (UInt64.ofNat n).toNat = n from Nat.mod_eq_of_lt (by omega), Nat.mod_eq_of_lt hn, BitVec.toNat_ushiftRight]
    rfl
  rw [e, BitVec.getLsbD_ushiftRight]
theorem qg_l_1 (x : Int64) : x &&& 1 = 1 ↔ qg_l x 0 = true := by
  rw [← Int64.toBitVec_inj, Int64.toBitVec_and]
  show x.toBitVec &&& 1#64 = 1#64 ↔ x.toBitVec.getLsbD 0 = true
  rw [BitVec.and_one_eq_setWidth_ofBool_getLsbD]
  cases x.toBitVec.getLsbD 0 <;> decide
theorem qg_l_t {n : Nat} (hn : n < 64) (x : Int64) : ((x.toUInt64 >>> ((nI n).toInt64.toUInt64 &&& Int64.toUInt64 63)).toInt64) &&& 1 = 1 ↔ qg_l x n = true := by
  rw [qg_l_1, qg_l_shr hn, Nat.add_zero]
def qg_fb (f : Nat → Int64) (x : Nat) : Bool := qg_l (f (x / 64)) (x % 64)
/-! columns: bit b of word v*4+w is bit v of 64w+b -/
def qg_col (f : Nat → Int64) : Prop := ∀ v w b, v < 8 → w < 4 → b < 64 → qg_l (f (v * 4 + w)) b = (64 * w + b).testBit v
end
section
/-! closed facts of small numbers -/
theorem qg_1s : ∀ k, k < 31 → (1 : Int32) <<< (nI k &&& 31) = nI (2 ^ k) := by decide +kernel
theorem qg_or {k x : Nat} (hk : k < 8) (hx : x < 2 ^ k) : nI x ||| ((1 : Int32) <<< (nI k &&& 31)) = nI (x + 2 ^ k) := by
  rw [qg_1s k (by omega)]
  apply b_ext
  intro i hi
  rw [b_or, qg_bt x hi, qg_bt _ hi, qg_bt _ hi, ← Nat.testBit_or]
  have e := Nat.two_pow_add_eq_or_of_lt hx 1
  rw [Nat.mul_one] at e
  rw [Nat.or_comm, ← e, Nat.add_comm]
theorem qg_clr : ∀ v, v < 8 → ∀ z, z < 2 ^ (v + 1) → nI z &&& (((1 : Int32) <<< (nI v &&& 31)) ^^^ (-1)) = nI (z % 2 ^ v) := by decide +kernel
theorem qg_shr {s v : Nat} (hs : s < 2 ^ 31) (hv : v < 32) : nI s >>> (nI v &&& 31) = nI (s / 2 ^ v) := pk_shrN hs _ v (s_l v hv)
theorem qg_tst {s v : Nat} (hs : s < 2 ^ 31) (hv : v < 32) : (nI s >>> (nI v &&& 31)) &&& 1 = nI (s / 2 ^ v % 2) := by
  have h2 : s / 2 ^ v ≤ s := Nat.div_le_self _ _
  rw [qg_shr hs hv, pk_andN (by omega) 1 (by decide), Nat.pow_one]
theorem qg_t1 {s v : Nat} (hs : s < 2 ^ 31) (hv : v < 32) : (nI s >>> (nI v &&& 31)) &&& 1 = 1 ↔ s / 2 ^ v % 2 = 1 := by
  have h2 : s / 2 ^ v % 2 < 2 := Nat.mod_lt _ (by decide)
  rw [qg_tst hs hv]
  exact nI_eq (b := 1) (by omega) (by decide)
theorem qg_sh6 {x : Nat} (h : x < 2 ^ 31) : nI x >>> ((6 : Int32) &&& 31) = nI (x / 64) := pk_shrN h _ 6 (by decide)
theorem qg_a63 {x : Nat} (h : x < 2 ^ 31) : nI x &&& 63 = nI (x % 64) := pk_andN (by omega) 6 (by decide)
theorem qg_shl1 {v x : Nat} (hv : v < 8) (hx : x < 256) : nI x <<< (nI v &&& 31) = nI (x * 2 ^ v) := by
  apply pk_shlN _ v (s_l v (by omega))
  have hp : 2 ^ v ≤ 128 := Nat.pow_le_pow_right (n := 2) (by decide) (show v ≤ 7 by omega)
  have h3 : x * 2 ^ v ≤ x * 128 := Nat.mul_le_mul_left x hp
  omega
/-! steps of the words -/
theorem qg_al_step {c n : Nat} (hc : 1 ≤ c) (b : Bool) : (decide (c ≤ n) || (decide (c - 1 ≤ n) && b)) = decide (c ≤ n + (if b = true then 1 else 0)) := by
  cases b
  · simp
  · by_cases h : c - 1 ≤ n
    · have h2 : c ≤ n + 1 := by omega
      simp [h, h2]
    · have h1 : ¬ c ≤ n := by omega
      have h2 : ¬ c ≤ n + 1 := by omega
      simp [h, h1, h2]
theorem qg_odd_step (n : Nat) (b : Bool) : (decide (n % 2 = 1) ^^ b) = decide ((n + (if b = true then 1 else 0)) % 2 = 1) := by
  cases b
  · simp
  · by_cases h : n % 2 = 1
    · have h2 : ¬ (n + 1) % 2 = 1 := by omega
      simp [h, h2]
    · have h2 : (n + 1) % 2 = 1 := by omega
      simp [h, h2]
end
section
/-! the component: one rule, all asked rules, one by one -/
theorem qg_rn_0 (P Q m : Nat) : qg_rn 0 P Q m = (decide (¬ qg_pop (P &&& m) 8 = 0) || decide (¬ qg_pop Q 8 ≤ qg_pop (Q &&& m) 8)) := if_pos rfl
theorem qg_rn_1 (P Q m : Nat) : qg_rn 1 P Q m = decide (qg_pop (P &&& m) 8 % 2 = Q) := by
  unfold qg_rn
  rw [if_neg (by decide), if_pos rfl]
theorem qg_rn_2 (P Q m : Nat) : qg_rn 2 P Q m = decide (qg_pop (P &&& m) 8 ≤ Q) := by
  unfold qg_rn
  rw [if_neg (by decide), if_neg (by decide), if_pos rfl]
theorem qg_rn_3 (P Q m : Nat) : qg_rn 3 P Q m = (decide (qg_pop (P &&& m) 8 = 0) || decide (qg_pop P 8 ≤ qg_pop (P &&& m) 8)) := by
  unfold qg_rn
  rw [if_neg (by decide), if_neg (by decide), if_neg (by decide)]
theorem qg_four {K : Nat} (h : K < 4) : K = 0 ∨ K = 1 ∨ K = 2 ∨ K = 3 := by omega
theorem qg_selI (ak : Int32) (i : Nat) : ((ak >>> (nI i &&& 31)) &&& 1) = 1 ↔ qg_sel ak i = true := by
  unfold qg_sel
  rw [decide_eq_true_eq]
section
variable {rc cw ak : Int32} {ow kd fp sq sz wn : Nat → Int32} {co ho fo al : Nat → Int64}
theorem qg_X_ruleHolds {post : Int32 → Prop} {i m : Nat} (hi : i < 12) (hok : qg_ok (kd i) (fp i) (sq i)) (hsz : ∀ s, s < 256 → sz s = nI (qg_pop s 8)) (hp : post (qg_b (qg_rh (kd i) (fp i) (sq i) m))) : wpX_ruleHolds post (rc, cw, ak, ow, kd, fp, sq, sz, wn, co, ho, fo, al) (nI i) (nI m) := by
  obtain ⟨K, P, Q, eK, eP, eQ, hK, hP, hQ, h0, h1, h2⟩ := hok
  rw [eK, eP, eQ, qg_rh_n hK hP hQ] at hp
  have hin : vp_in (nI i) 12 := vp_in_nI hi (by decide)
  have ci : (nI i).toNatClampNeg = i := nI_clamp (by omega)
  have hlt : P &&& m < 256 := qg_and_lt hP
  have hpl := qg_pop_le (P &&& m) 8
  have hx : nI m &&& nI P = nI (P &&& m) := by rw [nx_and, Nat.and_comm]
  have t1 : qg_rn K P Q m = true → post 1 := fun e => by rw [e] at hp; exact hp
  have t0 : qg_rn K P Q m = false → post 0 := fun e => by rw [e] at hp; exact hp
  have cx : (nI (P &&& m)).toNatClampNeg = P &&& m := nI_clamp (by omega)
  have vx : vp_in (nI (P &&& m)) 256 := vp_in_nI hlt (by decide)
  unfold wpX_ruleHolds
  dsimp only
  rw [ci]
  refine ⟨hin, nm_r eP ⟨hin, nm_r eQ (nm_r hx ⟨hin, nm_r eK ?_⟩)⟩⟩
  rcases qg_four hK with rfl | rfl | rfl | rfl
  · refine br_f (by decide) (br_f (by decide) (br_t (by decide) ?_))
    exact ek_if (qg_nI0 hlt) (fun z => ek_if (qg_com (h0 rfl)) (fun z2 => t0 (by rw [qg_rn_0, decide_eq_false (not_not_intro z), decide_eq_false (not_not_intro z2)]; rfl)) (fun z2 => t1 (by rw [qg_rn_0, decide_eq_true z2, Bool.or_true]))) (fun z => t1 (by rw [qg_rn_0, decide_eq_true z, Bool.true_or]))
  · refine br_f (by decide) (br_f (by decide) (br_f (by decide) (br_t (by decide) ⟨vx, ?_⟩)))
    have hq := h1 rfl
    rw [cx, hsz _ hlt, pk_andN (by omega) 1 (by decide), Nat.pow_one]
    exact ek_if (nI_eq (by omega) (by omega)) (fun z => t1 (by rw [qg_rn_1]; exact decide_eq_true z)) (fun z => t0 (by rw [qg_rn_1]; exact decide_eq_false z))
  · refine br_f (by decide) (br_f (by decide) (br_f (by decide) (br_f (by decide) (br_t (by decide) ⟨vx, ?_⟩))))
    have hq := h2 rfl
    rw [cx, hsz _ hlt]
    exact ek_if (nI_ltI (by omega) (by omega)) (fun z => t0 (by rw [qg_rn_2]; exact decide_eq_false (by omega))) (fun z => t1 (by rw [qg_rn_2]; exact decide_eq_true (by omega)))
  · refine br_f (by decide) (br_t (by decide) ?_)
    exact ek_if (qg_nI0 hlt) (fun z => t1 (by rw [qg_rn_3, decide_eq_true z, Bool.true_or])) (fun z => ek_if (nI_eq (by omega) (by omega)) (fun z2 => t1 (by rw [qg_rn_3, decide_eq_true ((qg_sub hP).mp z2), Bool.or_true])) (fun z2 => t0 (by rw [qg_rn_3, decide_eq_false z, decide_eq_false (fun y => z2 ((qg_sub hP).mpr y))]; rfl)))
theorem qg_X_hobo {post : Int32 → Prop} {c m : Nat} (hc : c ≤ 12) (hok : ∀ i, i < c → qg_ok (kd i) (fp i) (sq i)) (hsz : ∀ s, s < 256 → sz s = nI (qg_pop s 8)) (hp : post (qg_b (qg_H kd fp sq c ak m))) : wpX_holdOneByOne post ((nI c), cw, ak, ow, kd, fp, sq, sz, wn, co, ho, fo, al) (nI m) := by
  have t1 : (∀ i, i < c → qg_sel ak i = true → qg_rh (kd i) (fp i) (sq i) m = true) → post 1 := fun e => by
    unfold qg_H at hp; rw [decide_eq_true e] at hp; exact hp
  have t0 : ¬ (∀ i, i < c → qg_sel ak i = true → qg_rh (kd i) (fp i) (sq i) m = true) → post 0 := fun e => by
    unfold qg_H at hp; rw [decide_eq_false e] at hp; exact hp
  unfold wpX_holdOneByOne
  dsimp only
  refine pk_loop (σ := Unit) (fun n i _ => wX_holdOneByOne_2 post (nI m) (nI c) cw ak ow kd fp sq sz wn co ho fo al n (nI i)) (fun i _ => ∀ j, j < i → qg_sel ak j = true → qg_rh (kd j) (fp j) (sq j) m = true) c 0 () (Nat.zero_le _) (fun j hj => absurd hj (Nat.not_lt_zero j)) ?_ ?_
  · intro n _ hI
    exact br_t (nI_le (Nat.le_refl c) (by omega)) (t1 hI)
  · intro n i _ hi hI hn
    refine br_f (nI_ge hi (by omega)) (ek_if (qg_selI ak i) (fun hs => ?_) (fun hs => ?_))
    · refine qg_X_ruleHolds (by omega) (hok i hi) hsz ?_
      cases hr : qg_rh (kd i) (fp i) (sq i) m with
      | false => exact br_t rfl (t0 (fun e => by rw [e i hi hs] at hr; cases hr))
      | true =>
        refine br_f (by decide) (nm_r (nI_1 i) (hn () (fun j hj hsj => ?_)))
        rcases Nat.lt_or_ge j i with z | z
        · exact hI j z hsj
        · have e : j = i := by omega
          rw [e]; exact hr
    · refine nm_r (nI_1 i) (hn () (fun j hj hsj => ?_))
      rcases Nat.lt_or_ge j i with z | z
      · exact hI j z hsj
      · have e : j = i := by omega
        rw [e] at hsj
        exact absurd hsj hs
/-! the table -/
theorem qg_nar (b : Bool) : vp_nar .boolean (qg_b b) = qg_b b := by cases b <;> rfl
theorem qg_narrow (b : Bool) : narrow .boolean (.int (qg_b b)) = .int (qg_b b) := by cases b <;> rfl
theorem qg_p2 {j : Nat} (h : j ≤ 8) : 1 ≤ 2 ^ j ∧ 2 ^ j ≤ 256 := ⟨Nat.two_pow_pos j, Nat.pow_le_pow_right (n := 2) (by decide) h⟩
def qg_T (ow : Nat → Int32) (H : Nat → Bool) (f : Nat → Int32) (j : Nat) : Prop := ∀ k x, j ≤ k → k ≤ 8 → x < 2 ^ k → f (2 ^ k + x) = qg_b (qg_V ow H k x)
theorem qg_T_step {ow : Nat → Int32} {H : Nat → Bool} {f : Nat → Int32} {j : Nat} (hT : qg_T ow H f (j + 1)) (h : ∀ x, x < 2 ^ j → f (2 ^ j + x) = qg_b (qg_V ow H j x)) : qg_T ow H f j := by
  intro k x hk hk8 hx
  rcases Nat.lt_or_ge j k with z | z
  · exact hT k x z hk8 hx
  · have e : k = j := by omega
    subst e
    exact h x hx
theorem qg_X_tab43 {post : SX → Prop} {J : Int32 → (Nat → Int32) → (Nat → Int32) → (Nat → Int32) → (Nat → Int32) → (Nat → Int32) → (Nat → Int32) → (Nat → Int64) → (Nat → Int64) → (Nat → Int64) → (Nat → Int64) → Prop} {H : Nat → Bool} {j : Nat} (hj : j < 8) (hT : qg_T ow H wn (j + 1)) (hp : ∀ wn', qg_T ow H wn' j → J (nI j + (-1)) ow kd fp sq sz wn' co ho fo al) : ∃ n, wX_fillTable_43 post J (nI j) (nI (2 ^ j)) rc cw ak n 0 ow kd fp sq sz wn co ho fo al := by
  have ha := qg_p2 (Nat.le_of_lt hj)
  have ha2 : 2 ^ j ≤ 128 := Nat.pow_le_pow_right (n := 2) (by decide) (show j ≤ 7 by omega)
  have es : 2 ^ (j + 1) = 2 * 2 ^ j := by rw [Nat.pow_succ, Nat.mul_comm]
  refine pk_loop (σ := Nat → Int32) (fun n i s => wX_fillTable_43 post J (nI j) (nI (2 ^ j)) rc cw ak n (nI i) ow kd fp sq sz s co ho fo al) (fun i s => qg_T ow H s (j + 1) ∧ ∀ x, x < i → s (2 ^ j + x) = qg_b (qg_V ow H j x)) (2 ^ j) 0 wn (Nat.zero_le _) ⟨hT, fun x hx => absurd hx (Nat.not_lt_zero x)⟩ ?_ ?_
  · intro n s hI
    exact br_t (nI_le (Nat.le_refl _) (by omega)) (nm_e (hp s (qg_T_step hI.1 hI.2)))
  · intro n i s hi hI hn
    have e1 : (2 * nI (2 ^ j)) + nI i = nI (2 * 2 ^ j + i) := by
      show (nI 2 * nI (2 ^ j)) + nI i = _
      rw [pk_mul, nI_add]
    have e2 : ((2 * nI (2 ^ j)) + nI (2 ^ j)) + nI i = nI (2 * 2 ^ j + 2 ^ j + i) := by
      show ((nI 2 * nI (2 ^ j)) + nI (2 ^ j)) + nI i = _
      rw [pk_mul, nI_add, nI_add]
    have e3 : nI (2 ^ j) + nI i = nI (2 ^ j + i) := nI_add _ _
    have r1 : s (2 * 2 ^ j + i) = qg_b (qg_V ow H (j + 1) i) := by
      have h := hI.1 (j + 1) i (Nat.le_refl _) (by omega) (by omega)
      rw [es] at h
      exact h
    have r2 : s (2 * 2 ^ j + 2 ^ j + i) = qg_b (qg_V ow H (j + 1) (i + 2 ^ j)) := by
      have h := hI.1 (j + 1) (i + 2 ^ j) (Nat.le_refl _) (by omega) (by omega)
      rw [es] at h
      rw [← h]
      congr 1
      omega
    have leaf : ∀ b : Bool, qg_V ow H j i = b → (vp_in (nI (2 ^ j + i)) 512 ∧ ∀ w', w' = upd s (2 ^ j + i) (vp_nar .boolean (qg_b b)) → ∀ y, y = nI i + 1 → wX_fillTable_43 post J (nI j) (nI (2 ^ j)) rc cw ak n y ow kd fp sq sz w' co ho fo al) := by
      intro b hb
      refine ⟨vp_in_nI (by omega) (by decide), nm_e (nm_r (nI_1 i) (hn _ ⟨?_, ?_⟩))⟩
      · intro k x hk hk8 hx
        have hle : 2 ^ (j + 1) ≤ 2 ^ k := Nat.pow_le_pow_right (n := 2) (by decide) hk
        rw [pk_un (by omega)]
        exact hI.1 k x hk hk8 hx
      · intro x hx
        by_cases z : x = i
        · rw [z, pk_us, qg_nar, hb]
        · rw [pk_un (by omega)]
          exact hI.2 x (by omega)
    have c1 : (nI (2 * 2 ^ j + i)).toNatClampNeg = 2 * 2 ^ j + i := nI_clamp (by omega)
    have c2 : (nI (2 * 2 ^ j + 2 ^ j + i)).toNatClampNeg = 2 * 2 ^ j + 2 ^ j + i := nI_clamp (by omega)
    have c3 : (nI (2 ^ j + i)).toNatClampNeg = 2 ^ j + i := nI_clamp (by omega)
    have c4 : (nI j).toNatClampNeg = j := nI_clamp (by omega)
    refine br_f (nI_ge hi (by omega)) ?_
    rw [e1, e2, e3, c1, c2, c3, c4]
    refine ⟨vp_in_nI (by omega) (by decide), nm_r r1 ⟨vp_in_nI (by omega) (by decide), nm_r r2 ⟨vp_in_nI hj (by decide), ?_⟩⟩⟩
    have hV := qg_Vk (own := ow) (H := H) (x := i) hj
    by_cases z : ow j = 0
    · rw [if_pos z] at hV
      refine br_t z ?_
      cases hA : qg_V ow H (j + 1) i with
      | true => exact br_f (by decide) (leaf true (by rw [hV, hA]; rfl))
      | false =>
        cases hB : qg_V ow H (j + 1) (i + 2 ^ j) with
        | true => exact br_t rfl (br_f (by decide) (leaf true (by rw [hV, hA, hB]; rfl)))
        | false => exact br_t rfl (br_t rfl (leaf false (by rw [hV, hA, hB]; rfl)))
    · rw [if_neg z] at hV
      refine br_f z ?_
      cases hA : qg_V ow H (j + 1) i with
      | false => exact br_t rfl (leaf false (by rw [hV, hA]; rfl))
      | true =>
        cases hB : qg_V ow H (j + 1) (i + 2 ^ j) with
        | true => exact br_f (by decide) (br_f (by decide) (leaf true (by rw [hV, hA, hB]; rfl)))
        | false => exact br_f (by decide) (br_t rfl (leaf false (by rw [hV, hA, hB]; rfl)))
theorem qg_X_tab33 {post : SX → Prop} {H : Nat → Bool} (hT : qg_T ow H wn 8) (hp : ∀ wn', qg_T ow H wn' 0 → post (rc, cw, ak, ow, kd, fp, sq, sz, wn', co, ho, fo, al)) : ∃ n, wX_fillTable_33 post rc cw ak n 7 ow kd fp sq sz wn co ho fo al := by
  refine ⟨9, pk_loopD (σ := Nat → Int32) (fun n j s => wX_fillTable_33 post rc cw ak n (nI j + (-1)) ow kd fp sq sz s co ho fo al) (fun j s => j ≤ 8 ∧ qg_T ow H s j) ?_ ?_ 8 wn ⟨Nat.le_refl 8, hT⟩⟩
  · intro n s hI
    exact br_t (by decide) (hp s hI.2)
  · intro n j s hI hn
    show wX_fillTable_33 post rc cw ak (n + 1) (nI (j + 1) + (-1)) ow kd fp sq sz s co ho fo al
    rw [pk_m1]
    exact br_f (nI_pos (by omega)) (nm_r (qg_1s j (by omega)) (qg_X_tab43 (by omega) hI.2 (fun wn' h => hn wn' ⟨by omega, h⟩)))
theorem qg_X_fillTable {post : SX → Prop} {c : Nat} (hc : c ≤ 12) (hok : ∀ i, i < c → qg_ok (kd i) (fp i) (sq i)) (hsz : ∀ s, s < 256 → sz s = nI (qg_pop s 8)) (hp : ∀ wn', qg_T ow (qg_H kd fp sq c ak) wn' 0 → post ((nI c), cw, ak, ow, kd, fp, sq, sz, wn', co, ho, fo, al)) : wpX_fillTable post ((nI c), cw, ak, ow, kd, fp, sq, sz, wn, co, ho, fo, al) := by
  unfold wpX_fillTable
  dsimp only
  refine pk_loop (σ := Nat → Int32) (fun n i s => wX_fillTable_2 post (nI c) cw ak n (nI i) ow kd fp sq sz s co ho fo al) (fun i s => ∀ x, x < i → s (256 + x) = qg_b (qg_H kd fp sq c ak x)) 256 0 wn (Nat.zero_le _) (fun x hx => absurd hx (Nat.not_lt_zero x)) ?_ ?_
  · intro n s hI
    refine br_t (by decide) (qg_X_tab33 (H := qg_H kd fp sq c ak) ?_ hp)
    intro k x hk hk8 hx
    have e : k = 8 := by omega
    subst e
    exact hI x hx
  · intro n i s hi hI hn
    refine br_f (nI_ge (b := 256) hi (by decide)) (qg_X_hobo hc hok hsz ?_)
    have e : 256 + nI i = nI (256 + i) := nI_add 256 i
    rw [e, nI_clamp (show 256 + i < 2 ^ 31 by omega)]
    refine ⟨vp_in_nI (by omega) (by decide), nm_e (nm_r (nI_1 i) (hn _ ?_))⟩
    intro x hx
    by_cases z : x = i
    · rw [z, pk_us, qg_nar]
    · rw [pk_un (by omega)]
      exact hI x (by omega)
end
end
section
/-! the component by words: sets of lists -/
section
variable {rc cw ak : Int32} {ow kd fp sq sz wn : Nat → Int32} {co ho fo al : Nat → Int64}
theorem qg_cb_1 {s m v : Nat} (h : s / 2 ^ v % 2 = 1) : qg_cb s m v = if m.testBit v = true then 1 else 0 := by
  unfold qg_cb
  rw [(qg_tb s v).mpr h, Bool.true_and]
theorem qg_cb_0 {s m v : Nat} (h : ¬ s / 2 ^ v % 2 = 1) : qg_cb s m v = 0 := by
  unfold qg_cb
  have e : s.testBit v = false := by
    cases z : s.testBit v with
    | false => rfl
    | true => exact absurd ((qg_tb s v).mp z) h
  rw [e, Bool.false_and]
  rfl
theorem qg_X_al57 {post : Int64 → SX → Prop} {J : Int32 → (Nat → Int32) → (Nat → Int32) → (Nat → Int32) → (Nat → Int32) → (Nat → Int32) → (Nat → Int32) → (Nat → Int64) → (Nat → Int64) → (Nat → Int64) → (Nat → Int64) → Prop} {x1 : Int32} {s w v : Nat} (hs : s / 2 ^ v % 2 = 1) (hw : w < 4) (hv : v < 8) (hco : qg_col co)
    (hI : ∀ c b, c ≤ 8 → b < 64 → qg_l (al c) b = decide (c ≤ qg_pop (s &&& (64 * w + b)) v))
    (hp : ∀ al', (∀ c b, c ≤ 8 → b < 64 → qg_l (al' c) b = decide (c ≤ qg_pop (s &&& (64 * w + b)) (v + 1))) → J (nI (v + 1)) ow kd fp sq sz wn co ho fo al') : ∃ n, wX_withAtLeast_57 post J x1 (nI s) (nI w) (nI v) rc cw ak n 8 ow kd fp sq sz wn co ho fo al := by
  refine ⟨9, pk_loopD (σ := Nat → Int64) (fun n j f => wX_withAtLeast_57 post J x1 (nI s) (nI w) (nI v) rc cw ak n (nI j) ow kd fp sq sz wn co ho fo f) (fun j f => j ≤ 8 ∧ ∀ c b, c ≤ 8 → b < 64 → qg_l (f c) b = decide (c ≤ (if j < c then qg_pop (s &&& (64 * w + b)) (v + 1) else qg_pop (s &&& (64 * w + b)) v))) ?_ ?_ 8 al ⟨Nat.le_refl 8, ?_⟩⟩
  · intro n f h
    refine br_t (by decide) (nm_r (nI_1 v) (hp f ?_))
    intro c b hc hb
    rw [h.2 c b hc hb]
    by_cases z : 0 < c
    · rw [if_pos z]
    · have e : c = 0 := by omega
      subst e
      rw [decide_eq_true (Nat.zero_le _), decide_eq_true (Nat.zero_le _)]
  · intro n j f h hn
    have hj := h.1
    show wX_withAtLeast_57 post J x1 (nI s) (nI w) (nI v) rc cw ak (n + 1) (nI (j + 1)) ow kd fp sq sz wn co ho fo f
    have e1 : nI (j + 1) - 1 = nI j := nI_pred j
    have e2 : (nI v * 4) + nI w = nI (v * 4 + w) := by
      show (nI v * nI 4) + nI w = _
      rw [pk_mul, nI_add]
    have k1 : (nI (j + 1)).toNatClampNeg = j + 1 := nI_clamp (by omega)
    have k2 : (nI j).toNatClampNeg = j := nI_clamp (by omega)
    have k3 : (nI (v * 4 + w)).toNatClampNeg = v * 4 + w := nI_clamp (by omega)
    refine br_f (nI_nlt (b := 1) (by omega) (by omega)) ?_
    rw [e1, e2, k1, k2, k3]
    refine ⟨vp_in_nI (by omega) (by decide), vp_in_nI (by omega) (by decide), vp_in_nI (by omega) (by decide), vp_in_nI (by omega) (by decide), nm_e (nm_r (pk_m1 j) (hn _ ⟨by omega, ?_⟩))⟩
    intro c b hc hb
    by_cases z : c = j + 1
    · subst z
      rw [pk_uLs, qg_l_or, qg_l_and, h.2 (j + 1) b hc hb, h.2 j b (by omega) hb, if_neg (Nat.lt_irrefl _), if_neg (by omega), if_pos (Nat.lt_succ_self j), hco v w b hv hw hb, qg_pop_s, qg_cb_1 hs]
      exact qg_al_step (c := j + 1) (by omega) _
    · rw [pk_uLn z, h.2 c b hc hb]
      by_cases y : j < c
      · rw [if_pos y, if_pos (by omega)]
      · rw [if_neg y, if_neg (by omega)]
  · intro c b hc hb
    rw [if_neg (by omega)]
    exact hI c b hc hb
theorem qg_X_al36 {post : Int64 → SX → Prop} {N s w : Nat} (hN : N ≤ 8) (hs : s < 256) (hw : w < 4) (hco : qg_col co)
    (h0 : ∀ c b, c ≤ 8 → b < 64 → qg_l (al c) b = decide (c ≤ 0))
    (hp : ∀ r al', (∀ b, b < 64 → qg_l r b = decide (N ≤ qg_pop (s &&& (64 * w + b)) 8)) → post r (rc, cw, ak, ow, kd, fp, sq, sz, wn, co, ho, fo, al')) : ∃ n, wX_withAtLeast_36 post (nI N) (nI s) (nI w) rc cw ak n 0 ow kd fp sq sz wn co ho fo al := by
  refine pk_loop (σ := Nat → Int64) (fun n v f => wX_withAtLeast_36 post (nI N) (nI s) (nI w) rc cw ak n (nI v) ow kd fp sq sz wn co ho fo f) (fun v f => ∀ c b, c ≤ 8 → b < 64 → qg_l (f c) b = decide (c ≤ qg_pop (s &&& (64 * w + b)) v)) 8 0 al (Nat.zero_le _) h0 ?_ ?_
  · intro n f hI
    refine br_t (by decide) ?_
    rw [nI_clamp (show N < 2 ^ 31 by omega)]
    exact ⟨vp_in_nI (by omega) (by decide), hp _ _ (fun b hb => hI N b hN hb)⟩
  · intro n v f hv hI hn
    refine br_f (nI_ge (b := 8) hv (by decide)) (ek_if (qg_t1 (by omega) (by omega)) (fun z => ?_) (fun z => ?_))
    · exact qg_X_al57 z hw hv hco hI (fun al' h => hn al' h)
    · refine nm_r (nI_1 v) (hn f ?_)
      intro c b hc hb
      rw [hI c b hc hb, qg_pop_s, qg_cb_0 z, Nat.add_zero]
theorem qg_X_al {post : Int64 → SX → Prop} {N s w : Nat} (hN : N ≤ 8) (hs : s < 256) (hw : w < 4) (hco : qg_col co)
    (hp : ∀ r al', (∀ b, b < 64 → qg_l r b = decide (N ≤ qg_pop (s &&& (64 * w + b)) 8)) → post r (rc, cw, ak, ow, kd, fp, sq, sz, wn, co, ho, fo, al')) : wpX_withAtLeast post (rc, cw, ak, ow, kd, fp, sq, sz, wn, co, ho, fo, al) (nI N) (nI s) (nI w) := by
  unfold wpX_withAtLeast
  dsimp only
  refine nm_e ?_
  refine pk_loop (σ := Nat → Int64) (fun n i f => wX_withAtLeast_12 post (nI N) (nI s) (nI w) rc cw ak n (nI i) ow kd fp sq sz wn co ho fo f) (fun i f => 1 ≤ i ∧ f 0 = -1 ∧ ∀ c, 1 ≤ c → c < i → f c = 0) 9 1 _ (by decide) ⟨Nat.le_refl 1, pk_uLs, fun c h1 h2 => by omega⟩ ?_ ?_
  · intro n f hI
    refine br_t (by decide) (qg_X_al36 hN hs hw hco ?_ hp)
    intro c b hc hb
    by_cases z : c = 0
    · subst z
      rw [hI.2.1, qg_l_m1 b hb]
      rfl
    · rw [hI.2.2 c (by omega) (by omega), qg_l_0, decide_eq_false (by omega)]
  · intro n i f hi hI hn
    have h1 := hI.1
    have k1 : (nI i).toNatClampNeg = i := nI_clamp (by omega)
    refine br_f (nI_nlt (a := 8) (by omega) (by omega)) ?_
    rw [k1]
    refine ⟨vp_in_nI hi (by decide), nm_e (nm_r (nI_1 i) (hn _ ⟨by omega, ?_, ?_⟩))⟩
    · rw [pk_uLn (by omega)]
      exact hI.2.1
    · intro c h1 h2
      by_cases y : c = i
      · rw [y, pk_uLs]
      · rw [pk_uLn y]
        exact hI.2.2 c h1 (by omega)
theorem qg_X_odd {post : Int64 → Prop} {s w : Nat} (hs : s < 256) (hw : w < 4) (hco : qg_col co)
    (hp : ∀ r, (∀ b, b < 64 → qg_l r b = decide (qg_pop (s &&& (64 * w + b)) 8 % 2 = 1)) → post r) : wpX_withOddNumber post (rc, cw, ak, ow, kd, fp, sq, sz, wn, co, ho, fo, al) (nI s) (nI w) := by
  unfold wpX_withOddNumber
  dsimp only
  refine pk_loop (σ := Int64) (fun n v l => wX_withOddNumber_5 post (nI s) (nI w) rc cw ak ow kd fp sq sz wn co ho fo al n l (nI v)) (fun v l => ∀ b, b < 64 → qg_l l b = decide (qg_pop (s &&& (64 * w + b)) v % 2 = 1)) 8 0 0 (Nat.zero_le _) (fun b _ => qg_l_0 b) ?_ ?_
  · intro n l hI
    exact br_t (by decide) (hp l hI)
  · intro n v l hv hI hn
    refine br_f (nI_ge (b := 8) hv (by decide)) (ek_if (qg_t1 (by omega) (by omega)) (fun z => ?_) (fun z => ?_))
    · have e2 : (nI v * 4) + nI w = nI (v * 4 + w) := by
        show (nI v * nI 4) + nI w = _
        rw [pk_mul, nI_add]
      rw [e2, nI_clamp (show v * 4 + w < 2 ^ 31 by omega)]
      refine ⟨vp_in_nI (by omega) (by decide), nm_e (nm_r (nI_1 v) (hn _ ?_))⟩
      intro b hb
      rw [qg_l_xor, hI b hb, hco v w b hv hw hb, qg_pop_s, qg_cb_1 z]
      exact qg_odd_step _ _
    · refine nm_r (nI_1 v) (hn l ?_)
      intro b hb
      rw [hI b hb, qg_pop_s, qg_cb_0 z, Nat.add_zero]
theorem qg_X_ruleWord {post : Int64 → SX → Prop} {i w : Nat} (hi : i < 12) (hw : w < 4) (hok : qg_ok (kd i) (fp i) (sq i)) (hsz : ∀ s, s < 256 → sz s = nI (qg_pop s 8)) (hco : qg_col co)
    (hp : ∀ r al', (∀ b, b < 64 → qg_l r b = qg_rh (kd i) (fp i) (sq i) (64 * w + b)) → post r (rc, cw, ak, ow, kd, fp, sq, sz, wn, co, ho, fo, al')) : wpX_ruleWord post (rc, cw, ak, ow, kd, fp, sq, sz, wn, co, ho, fo, al) (nI i) (nI w) := by
  obtain ⟨K, P, Q, eK, eP, eQ, hK, hP, hQ, h0, h1, h2⟩ := hok
  have hp2 : ∀ r al', (∀ b, b < 64 → qg_l r b = qg_rn K P Q (64 * w + b)) → post r (rc, cw, ak, ow, kd, fp, sq, sz, wn, co, ho, fo, al') := by
    intro r al' h
    refine hp r al' (fun b hb => ?_)
    rw [eK, eP, eQ, qg_rh_n hK hP hQ]
    exact h b hb
  have hin : vp_in (nI i) 12 := vp_in_nI hi (by decide)
  have ci : (nI i).toNatClampNeg = i := nI_clamp (by omega)
  have cP : (nI P).toNatClampNeg = P := nI_clamp (by omega)
  have vP : vp_in (nI P) 256 := vp_in_nI hP (by decide)
  have lP := qg_pop_le P 8
  unfold wpX_ruleWord
  dsimp only
  rw [ci]
  refine ⟨hin, nm_r eP ⟨hin, nm_r eQ ⟨hin, nm_r eK ?_⟩⟩⟩
  rcases qg_four hK with rfl | rfl | rfl | rfl
  · have hq := h0 rfl
    have lQ := qg_pop_le Q 8
    refine br_f (by decide) (br_f (by decide) (br_t (by decide) ?_))
    refine qg_X_al (N := 1) (by decide) hP hw hco (fun r1 al1 g1 => ?_)
    dsimp only
    rw [nI_clamp (show Q < 2 ^ 31 by omega), hsz Q hq]
    refine ⟨vp_in_nI hq (by decide), qg_X_al (by omega) hq hw hco (fun r2 al2 g2 => ?_)⟩
    refine hp2 _ _ (fun b hb => ?_)
    rw [qg_l_or, qg_l_not _ hb, g1 b hb, g2 b hb, qg_rn_0]
    by_cases z : qg_pop (P &&& (64 * w + b)) 8 = 0
    · rw [decide_eq_false (not_not_intro z), decide_eq_false (show ¬ 1 ≤ qg_pop (P &&& (64 * w + b)) 8 by omega), decide_not]
    · rw [decide_eq_true z, decide_eq_true (show 1 ≤ qg_pop (P &&& (64 * w + b)) 8 by omega), Bool.true_or, Bool.true_or]
  · have hq := h1 rfl
    refine br_f (by decide) (br_f (by decide) (br_f (by decide) (br_t (by decide) ?_)))
    refine ek_if (nI_eq (b := 1) (by omega) (by decide)) (fun z => ?_) (fun z => ?_)
    · refine qg_X_odd hP hw hco (fun r g => hp2 _ _ (fun b hb => ?_))
      rw [g b hb, qg_rn_1, z]
    · refine qg_X_odd hP hw hco (fun r g => hp2 _ _ (fun b hb => ?_))
      have e : Q = 0 := by omega
      rw [qg_l_not _ hb, g b hb, qg_rn_1, e]
      by_cases y : qg_pop (P &&& (64 * w + b)) 8 % 2 = 1
      · rw [decide_eq_true y, decide_eq_false (by omega)]; rfl
      · rw [decide_eq_false y, decide_eq_true (by omega)]; rfl
  · have hq := h2 rfl
    refine br_f (by decide) (br_f (by decide) (br_f (by decide) (br_f (by decide) (br_t (by decide) ?_))))
    rw [nI_1]
    refine qg_X_al (by omega) hP hw hco (fun r g => ?_)
    intro g
    refine hp2 _ _ (fun b hb => ?_)
    rw [qg_l_not _ hb, g b hb, qg_rn_2]
    by_cases y : Q + 1 ≤ qg_pop (P &&& (64 * w + b)) 8
    · rw [decide_eq_true y, decide_eq_false (by omega)]; rfl
    · rw [decide_eq_false y, decide_eq_true (by omega)]; rfl
  · refine br_f (by decide) (br_t (by decide) ?_)
    rw [cP, hsz P hP]
    refine ⟨vP, qg_X_al (by omega) hP hw hco (fun r1 al1 g1 => ?_)⟩
    refine qg_X_al (N := 1) (by decide) hP hw hco (fun r2 al2 g2 => ?_)
    refine hp2 _ _ (fun b hb => ?_)
    rw [qg_l_or, qg_l_not _ hb, g1 b hb, g2 b hb, qg_rn_3, Bool.or_comm]
    congr 1
    by_cases z : qg_pop (P &&& (64 * w + b)) 8 = 0
    · rw [decide_eq_true z, decide_eq_false (show ¬ 1 ≤ qg_pop (P &&& (64 * w + b)) 8 by omega)]; rfl
    · rw [decide_eq_false z, decide_eq_true (show 1 ≤ qg_pop (P &&& (64 * w + b)) 8 by omega)]; rfl
end
end
