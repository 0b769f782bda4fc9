/-! the component: by words; the two questions; what stands upon them -/
section
variable {rc cw ak : Int32} {ow kd fp sq sz wn : Nat → Int32} {co ho fo al : Nat → Int64}
def qg_op (us a b : Bool) : Bool := if us = true then (a || b) else (a && b)
theorem qg_Vop {own : Nat → Int32} {H : Nat → Bool} {k x : Nat} (hk : k < 8) : qg_V own H k x = qg_op (decide (own k = 0)) (qg_V own H (k + 1) x) (qg_V own H (k + 1) (x + 2 ^ k)) := by
  rw [qg_Vk hk]
  unfold qg_op
  by_cases z : own k = 0
  · rw [if_pos z, decide_eq_true z, if_pos rfl]
  · rw [if_neg z, decide_eq_false z, if_neg (by decide)]
theorem qg_X_foldWords {post : SX → Prop} {h : Nat} (hh : h ≤ 2) (us : Bool)
    (hp : ∀ fo', (∀ w b, w < h → qg_l (fo' w) b = qg_op us (qg_l (fo w) b) (qg_l (fo (w + h)) b)) → post (rc, cw, ak, ow, kd, fp, sq, sz, wn, co, ho, fo', al)) : wpX_foldWords post (rc, cw, ak, ow, kd, fp, sq, sz, wn, co, ho, fo, al) (nI h) (qg_b us) := by
  unfold wpX_foldWords
  dsimp only
  refine pk_loop (σ := Nat → Int64) (fun n i f => wX_foldWords_2 post (nI h) (qg_b us) rc cw ak n (nI i) ow kd fp sq sz wn co ho f al) (fun i f => (∀ w b, w < i → qg_l (f w) b = qg_op us (qg_l (fo w) b) (qg_l (fo (w + h)) b)) ∧ ∀ w, i ≤ w → f w = fo w) h 0 fo (Nat.zero_le _) ⟨fun w b hw => absurd hw (Nat.not_lt_zero w), fun w _ => rfl⟩ ?_ ?_
  · intro n f hI
    exact br_t (nI_le (Nat.le_refl h) (by omega)) (hp f hI.1)
  · intro n i f hi hI hn
    have e : nI i + nI h = nI (i + h) := nI_add i h
    have k1 : (nI i).toNatClampNeg = i := nI_clamp (by omega)
    have k2 : (nI (i + h)).toNatClampNeg = i + h := nI_clamp (by omega)
    refine br_f (nI_ge hi (by omega)) ?_
    rw [e, k1, k2]
    refine ⟨vp_in_nI (by omega) (by decide), nm_e ?_⟩
    have vi : vp_in (nI i) 4 := vp_in_nI (by omega) (by decide)
    have ne : ∀ r : Int64, (∀ b, qg_l r b = qg_op us (qg_l (fo i) b) (qg_l (fo (i + h)) b)) → (∀ w b, w < i + 1 → qg_l (vp_updL f i r w) b = qg_op us (qg_l (fo w) b) (qg_l (fo (w + h)) b)) ∧ ∀ w, i + 1 ≤ w → vp_updL f i r w = fo w := by
      intro r hr
      refine ⟨fun w b hw => ?_, fun w hw => ?_⟩
      · by_cases z : w = i
        · rw [z, pk_uLs]
          exact hr b
        · rw [pk_uLn z]
          exact hI.1 w b (by omega)
      · rw [pk_uLn (by omega)]
        exact hI.2 w (by omega)
    cases us with
    | false =>
      refine br_t rfl ⟨vi, vi, nm_e (nm_r (nI_1 i) (hn _ (ne _ (fun b => ?_))))⟩
      rw [qg_l_and, hI.2 i (Nat.le_refl i), hI.2 (i + h) (by omega)]
      rfl
    | true =>
      refine br_f (by decide) ⟨vi, vi, nm_e (nm_r (nI_1 i) (hn _ (ne _ (fun b => ?_))))⟩
      rw [qg_l_or, hI.2 i (Nat.le_refl i), hI.2 (i + h) (by omega)]
      rfl
theorem qg_X_foldBits {post : SX → Prop} {h : Nat} (hh : h < 64) (us : Bool)
    (hp : ∀ fo', (∀ b, qg_l (fo' 0) b = qg_op us (qg_l (fo 0) b) (qg_l (fo 0) (h + b))) → post (rc, cw, ak, ow, kd, fp, sq, sz, wn, co, ho, fo', al)) : wpX_foldBits post (rc, cw, ak, ow, kd, fp, sq, sz, wn, co, ho, fo, al) (nI h) (qg_b us) := by
  unfold wpX_foldBits
  dsimp only
  refine nm_e ?_
  cases us with
  | false =>
    refine br_t rfl (nm_e (hp _ (fun b => ?_)))
    rw [pk_uLs, qg_l_and, qg_l_shr hh]
    rfl
  | true =>
    refine br_f (by decide) (nm_e (hp _ (fun b => ?_)))
    rw [pk_uLs, qg_l_or, qg_l_shr hh]
    rfl
theorem qg_X_w28 {post : Int32 → SX → Prop} {H : Nat → Bool} {k x : Nat} (hk : k ≤ 8) (hx : x < 2 ^ k) (hF : ∀ z, z < 256 → qg_fb fo z = H z)
    (hp : ∀ fo', post (qg_b (qg_V ow H k x)) (rc, cw, ak, ow, kd, fp, sq, sz, wn, co, ho, fo', al)) : ∃ n, wX_winByWords_28 post (nI k) (nI x) n 7 rc cw ak ow kd fp sq sz wn co ho fo al := by
  have hk2 := qg_p2 hk
  have out : ∀ n f, (∀ z, z < 2 ^ k → qg_fb f z = qg_V ow H k z) → wX_winByWords_28 post (nI k) (nI x) (n + 1) (nI k + (-1)) rc cw ak ow kd fp sq sz wn co ho f al := by
    intro n f hf
    refine br_t (qg_dnlt hk) ?_
    have h := hf x hx
    have hp' := hp f
    unfold qg_fb at h
    rw [qg_sh6 (show x < 2 ^ 31 by omega), qg_a63 (show x < 2 ^ 31 by omega), nI_clamp (show x / 64 < 2 ^ 31 by omega)]
    refine ⟨vp_in_nI (by omega) (by decide), ek_if (qg_l_t (show x % 64 < 64 by omega) _) (fun z => ?_) (fun z => ?_)⟩
    · rw [← h, z] at hp'
      exact hp'
    · rw [← h, ts_nt z] at hp'
      exact hp'
  refine ⟨9, pk_loopD (σ := Nat → Int64) (fun n j f => wX_winByWords_28 post (nI k) (nI x) n (nI j + (-1)) rc cw ak ow kd fp sq sz wn co ho f al) (fun j f => k ≤ j ∧ j ≤ 8 ∧ ∀ z, z < 2 ^ j → qg_fb f z = qg_V ow H j z) ?_ ?_ 8 fo ⟨hk, Nat.le_refl 8, fun z hz => hF z hz⟩⟩
  · intro n f hI
    have e : k = 0 := by omega
    subst e
    exact out n f hI.2.2
  · intro n j f hI hn
    by_cases z : k = j + 1
    · subst z
      exact out n f hI.2.2
    · have hkj : k ≤ j := by omega
      have hj8 : j < 8 := by omega
      have hj2 : 2 ^ (j + 1) = 2 * 2 ^ j := by rw [Nat.pow_succ, Nat.mul_comm]
      show wX_winByWords_28 post (nI k) (nI x) (n + 1) (nI (j + 1) + (-1)) rc cw ak ow kd fp sq sz wn co ho f al
      rw [pk_m1]
      refine br_f (nI_nlt hkj (by omega)) ?_
      rw [nI_clamp (show j < 2 ^ 31 by omega)]
      by_cases h6 : j < 6
      · refine br_t (nI_lt (b := 6) h6 (by decide)) ⟨vp_in_nI hj8 (by decide), ?_⟩
        have h32 : 2 ^ j ≤ 32 := Nat.pow_le_pow_right (n := 2) (by decide) (show j ≤ 5 by omega)
        rw [qg_1s j (by omega)]
        have fin : ∀ us : Bool, decide (ow j = 0) = us → wpX_foldBits (fun u => match u with | (rc1, cw1, ak1, ow1, kd1, fp1, sq1, sz1, wn1, co1, ho1, fo1, al1) => ∀ y, y = nI j + (-1) → wX_winByWords_28 post (nI k) (nI x) n y rc1 cw1 ak1 ow1 kd1 fp1 sq1 sz1 wn1 co1 ho1 fo1 al1) (rc, cw, ak, ow, kd, fp, sq, sz, wn, co, ho, f, al) (nI (2 ^ j)) (qg_b us) := by
          intro us hus
          refine qg_X_foldBits (by omega) us (fun fo' g => nm_e (hn fo' ⟨hkj, by omega, fun v hv => ?_⟩))
          rw [qg_Vop hj8, hus, ← hI.2.2 v (by omega), ← hI.2.2 (v + 2 ^ j) (by omega)]
          unfold qg_fb
          rw [Nat.div_eq_of_lt (show v < 64 by omega), Nat.mod_eq_of_lt (show v < 64 by omega), Nat.div_eq_of_lt (show v + 2 ^ j < 64 by omega), Nat.mod_eq_of_lt (show v + 2 ^ j < 64 by omega), g v, Nat.add_comm (2 ^ j) v]
        by_cases w : ow j = 0
        · exact br_t w (fin true (decide_eq_true w))
        · exact br_f w (fin false (decide_eq_false w))
      · refine br_f (nI_nlt (b := 6) (by omega) (by omega)) ⟨vp_in_nI hj8 (by decide), ?_⟩
        have e6 : nI j - 6 = nI (j - 6) := pk_sub (b := 6) (by omega)
        rw [e6, qg_1s (j - 6) (by omega)]
        have hjj : (j = 6 ∧ 2 ^ (j - 6) = 1 ∧ 2 ^ j = 64) ∨ (j = 7 ∧ 2 ^ (j - 6) = 2 ∧ 2 ^ j = 128) := by
          have hc : j = 6 ∨ j = 7 := by omega
          rcases hc with rfl | rfl
          · exact Or.inl ⟨rfl, rfl, rfl⟩
          · exact Or.inr ⟨rfl, rfl, rfl⟩
        have fin : ∀ us : Bool, decide (ow j = 0) = us → wpX_foldWords (fun u => match u with | (rc1, cw1, ak1, ow1, kd1, fp1, sq1, sz1, wn1, co1, ho1, fo1, al1) => ∀ y, y = nI j + (-1) → wX_winByWords_28 post (nI k) (nI x) n y rc1 cw1 ak1 ow1 kd1 fp1 sq1 sz1 wn1 co1 ho1 fo1 al1) (rc, cw, ak, ow, kd, fp, sq, sz, wn, co, ho, f, al) (nI (2 ^ (j - 6))) (qg_b us) := by
          intro us hus
          refine qg_X_foldWords (by omega) us (fun fo' g => nm_e (hn fo' ⟨hkj, by omega, fun v hv => ?_⟩))
          rw [qg_Vop hj8, hus, ← hI.2.2 v (by omega), ← hI.2.2 (v + 2 ^ j) (by omega)]
          unfold qg_fb
          have d1 : (v + 2 ^ j) / 64 = v / 64 + 2 ^ (j - 6) := by omega
          have d2 : (v + 2 ^ j) % 64 = v % 64 := by omega
          rw [d1, d2]
          exact g (v / 64) (v % 64) (by omega)
        by_cases w : ow j = 0
        · exact br_t w (fin true (decide_eq_true w))
        · exact br_f w (fin false (decide_eq_false w))
theorem qg_X_words {post : Int32 → SX → Prop} {H : Nat → Bool} {k x : Nat} (hk : k ≤ 8) (hx : x < 2 ^ k) (hF : ∀ z, z < 256 → qg_fb ho z = H z)
    (hp : ∀ fo', post (qg_b (qg_V ow H k x)) (rc, cw, ak, ow, kd, fp, sq, sz, wn, co, ho, fo', al)) : wpX_winByWords post (rc, cw, ak, ow, kd, fp, sq, sz, wn, co, ho, fo, al) (nI k) (nI x) := by
  unfold wpX_winByWords
  dsimp only
  refine pk_loop (σ := Nat → Int64) (fun n w f => wX_winByWords_2 post (nI k) (nI x) rc cw ak n (nI w) ow kd fp sq sz wn co ho f al) (fun w f => ∀ v, v < w → f v = ho v) 4 0 fo (Nat.zero_le _) (fun v h => absurd h (Nat.not_lt_zero v)) ?_ ?_
  · intro n f hI
    refine br_t (by decide) (qg_X_w28 hk hx (fun z hz => ?_) hp)
    rw [← hF z hz]
    unfold qg_fb
    rw [hI (z / 64) (by omega)]
  · intro n w f hw hI hn
    have k1 : (nI w).toNatClampNeg = w := nI_clamp (by omega)
    refine br_f (nI_ge (b := 4) hw (by decide)) ?_
    rw [k1]
    refine ⟨vp_in_nI hw (by decide), vp_in_nI hw (by decide), nm_e (nm_r (nI_1 w) (hn _ (fun v hv => ?_)))⟩
    by_cases z : v = w
    · rw [z, pk_uLs]
    · rw [pk_uLn z]
      exact hI v (by omega)
theorem qg_X_win {post : Int32 → SX → Prop} {c k x : Nat} (hI : qg_Inv c kd fp sq sz co) (hw : qg_cw cw) (hR : qg_Rd cw wn ho ow (qg_H kd fp sq c ak)) (hk : k ≤ 8) (hx : x < 2 ^ k)
    (hp : ∀ fo', post (qg_b (qg_V ow (qg_H kd fp sq c ak) k x)) ((nI c), cw, ak, ow, kd, fp, sq, sz, wn, co, ho, fo', al)) : wpX_weWin post ((nI c), cw, ak, ow, kd, fp, sq, sz, wn, co, ho, fo, al) (nI k) (nI x) := by
  have hk2 := qg_p2 hk
  unfold wpX_weWin
  dsimp only
  rcases hw with rfl | rfl | rfl
  · exact br_t rfl (qg_X_search hI hk hx ⟨qg_narrow _, hp fo⟩)
  · refine br_f (by decide) (br_t rfl ?_)
    have h := hR.1 rfl k x (Nat.zero_le k) hk hx
    rw [qg_1s k (by omega), nI_add, nI_clamp (show 2 ^ k + x < 2 ^ 31 by omega), h]
    exact ⟨vp_in_nI (by omega) (by decide), qg_narrow _, hp fo⟩
  · exact br_f (by decide) (br_f (by decide) (qg_X_words hk hx (hR.2 rfl) (fun fo' => ⟨qg_narrow _, hp fo'⟩)))
theorem qg_X_choice {post : Int32 → SX → Prop} {c k x : Nat} (hI : qg_Inv c kd fp sq sz co) (hw : qg_cw cw) (hR : qg_Rd cw wn ho ow (qg_H kd fp sq c ak)) (hk : k < 8) (hx : x < 2 ^ k)
    (hp : ∀ fo', post (qg_ch ow (qg_V ow (qg_H kd fp sq c ak)) k x) ((nI c), cw, ak, ow, kd, fp, sq, sz, wn, co, ho, fo', al)) : wpX_choice post ((nI c), cw, ak, ow, kd, fp, sq, sz, wn, co, ho, fo, al) (nI k) (nI x) := by
  have hk2 : 2 ^ (k + 1) = 2 * 2 ^ k := by rw [Nat.pow_succ, Nat.mul_comm]
  have key : ∀ us : Bool, decide (ow k = 0) = us → wX_choice_14 post (nI k) (nI x) (qg_b us) (nI c) cw ak ow kd fp sq sz wn co ho fo al := by
    intro us hus
    unfold wX_choice_14
    unfold qg_ch at hp
    rw [hus] at hp
    rw [nI_1, qg_or hk hx]
    refine qg_X_win hI hw hR (by omega) (by omega) (fun fo1 => ?_)
    refine ek_if (qg_b_i _ _) (fun z => ?_) (fun z => ?_)
    · rw [if_pos z] at hp
      exact hp fo1
    · rw [if_neg z] at hp
      refine qg_X_win hI hw hR (by omega) (by omega) (fun fo2 => ?_)
      refine ek_if (qg_b_i _ _) (fun y => ?_) (fun y => ?_)
      · rw [if_pos y] at hp
        exact hp fo2
      · rw [if_neg y] at hp
        exact hp fo2
  unfold wpX_choice
  dsimp only
  rw [nI_clamp (show k < 2 ^ 31 by omega)]
  refine ⟨vp_in_nI hk (by decide), ?_⟩
  by_cases z : ow k = 0
  · exact br_t z (key true (decide_eq_true z))
  · exact br_f z (key false (decide_eq_false z))
theorem qg_X_hl {post : Int32 → Prop} {c : Nat} (hI : qg_Inv c kd fp sq sz co) (hw : qg_cw cw) (hR : qg_Rd cw wn ho ow (qg_H kd fp sq c ak)) (hp : post (nI (qg_cnt (qg_H kd fp sq c ak) 256))) : wpX_holdingLists post ((nI c), cw, ak, ow, kd, fp, sq, sz, wn, co, ho, fo, al) := by
  unfold wpX_holdingLists
  dsimp only
  refine pk_loop (σ := Unit) (fun n i _ => wX_holdingLists_4 post (nI c) cw ak ow kd fp sq sz wn co ho fo al n (nI (qg_cnt (qg_H kd fp sq c ak) i)) (nI i)) (fun _ _ => True) 256 0 () (Nat.zero_le _) trivial ?_ ?_
  · intro n _ _
    exact br_t (by decide) hp
  · intro n i _ hi _ hn
    refine br_f (nI_ge (b := 256) hi (by decide)) (qg_X_rh hI hw hR hi ?_)
    have e : qg_cnt (qg_H kd fp sq c ak) (i + 1) = qg_cnt (qg_H kd fp sq c ak) i + (if qg_H kd fp sq c ak i = true then 1 else 0) := rfl
    have h := hn () trivial
    cases hz : qg_H kd fp sq c ak i with
    | false =>
      rw [e, hz, if_neg (by decide), Nat.add_zero] at h
      exact br_t rfl (nm_r (nI_1 i) h)
    | true =>
      rw [e, hz, if_pos rfl] at h
      exact br_f (by decide) (nm_r (nI_1 _) (nm_r (nI_1 i) h))
theorem qg_xl {x v : Nat} (hx : x < 256) (hv : v < 8) : x ^^^ 2 ^ v < 256 := Nat.xor_lt_two_pow (n := 8) hx (Nat.pow_lt_pow_right (by decide) hv)
theorem qg_X_isIdle {post : Int32 → Prop} {c v : Nat} (hI : qg_Inv c kd fp sq sz co) (hw : qg_cw cw) (hR : qg_Rd cw wn ho ow (qg_H kd fp sq c ak)) (hv : v < 8) (hp : post (qg_b (qg_I (qg_H kd fp sq c ak) v))) : wpX_isIdle post ((nI c), cw, ak, ow, kd, fp, sq, sz, wn, co, ho, fo, al) (nI v) := by
  unfold wpX_isIdle
  dsimp only
  refine pk_loop (σ := Unit) (fun n i _ => wX_isIdle_2 post (nI v) (nI c) cw ak ow kd fp sq sz wn co ho fo al n (nI i)) (fun i _ => ∀ x, x < i → qg_H kd fp sq c ak x = qg_H kd fp sq c ak (x ^^^ 2 ^ v)) 256 0 () (Nat.zero_le _) (fun x hx => absurd hx (Nat.not_lt_zero x)) ?_ ?_
  · intro n _ h
    unfold qg_I at hp
    rw [qg_eqs_t h] at hp
    exact br_t (by decide) hp
  · intro n i _ hi h hn
    refine br_f (nI_ge (b := 256) hi (by decide)) (qg_X_rh hI hw hR hi ?_)
    have e : nI i ^^^ ((1 : Int32) <<< (nI v &&& 31)) = nI (i ^^^ 2 ^ v) := by rw [qg_1s v (by omega), nx_xor]
    rw [e]
    refine qg_X_rh hI hw hR (qg_xl hi hv) (ek_if (qg_b_i _ _) (fun z => ?_) (fun z => ?_))
    · refine nm_r (nI_1 i) (hn () (fun x hx => ?_))
      by_cases y : x = i
      · rw [y]; exact z
      · exact h x (by omega)
    · unfold qg_I at hp
      rw [qg_eqs_f hi z] at hp
      exact hp
theorem qg_X_firstRun {post : Int32 → Prop} (hp : post (nI (qg_fr ow 7))) : wpX_firstRun post (rc, cw, ak, ow, kd, fp, sq, sz, wn, co, ho, fo, al) := by
  unfold wpX_firstRun
  dsimp only
  have key : ∀ d n, d ≤ 7 → d < n → post (nI (qg_fr ow d)) → wX_firstRun_2 post rc cw ak ow kd fp sq sz wn co ho fo al n (nI (8 - d)) := by
    intro d
    induction d with
    | zero =>
      intro n _ hn h
      obtain ⟨m, rfl⟩ : ∃ m, n = m + 1 := ⟨n - 1, by omega⟩
      exact br_t (by decide) h
    | succ d ih =>
      intro n hd hn h
      obtain ⟨m, rfl⟩ : ∃ m, n = m + 1 := ⟨n - 1, by omega⟩
      have e : 8 - (d + 1) = 7 - d := by omega
      have e2 : 7 - d + 1 = 8 - d := by omega
      rw [e]
      have h2 : post (nI (if ow (7 - d) = ow 0 then qg_fr ow d else 7 - d)) := h
      refine br_f (nI_ge (b := 8) (by omega) (by decide)) ?_
      rw [nI_clamp (show 7 - d < 2 ^ 31 by omega)]
      refine ⟨vp_in_nI (by omega) (by decide), br_c (fun z => ?_) (fun z => ?_)⟩
      · rw [if_pos z] at h2
        refine nm_r (nI_1 (7 - d)) ?_
        rw [e2]
        exact ih m (by omega) (by omega) h2
      · rw [if_neg z] at h2
        exact h2
  exact ⟨8, key 7 8 (by decide) (by decide) hp⟩
theorem qg_orr {k x r : Nat} (hk : k < 8) (hx : x < 2 ^ k) (hr : r < 256) : nI x ||| (nI r <<< (nI k &&& 31)) = nI (x + r * 2 ^ k) := by
  rw [qg_shl1 hk hr]
  apply b_ext
  intro i hi
  rw [b_or, qg_bt x hi, qg_bt _ hi, qg_bt _ hi, ← Nat.testBit_or]
  have e := Nat.two_pow_add_eq_or_of_lt hx r
  rw [Nat.mul_comm (2 ^ k) r] at e
  rw [Nat.or_comm, ← e, Nat.add_comm]
theorem qg_rest {k x r : Nat} (hk : k ≤ 8) (hx : x < 2 ^ k) (hr : r < 2 ^ (8 - k)) : x + r * 2 ^ k < 256 := by
  have e : 2 ^ (8 - k) * 2 ^ k = 256 := by
    rw [← Nat.pow_add, Nat.sub_add_cancel hk]
  have h : (r + 1) * 2 ^ k ≤ 2 ^ (8 - k) * 2 ^ k := Nat.mul_le_mul_right _ hr
  rw [Nat.add_mul, Nat.one_mul] at h
  omega
theorem qg_256s : ∀ k, k < 8 → (256 : Int32) >>> (nI k &&& 31) = nI (2 ^ (8 - k)) := by decide +kernel
theorem qg_X_isDecided {post : Int32 → Prop} {c k x : Nat} (hI : qg_Inv c kd fp sq sz co) (hw : qg_cw cw) (hR : qg_Rd cw wn ho ow (qg_H kd fp sq c ak)) (hk : k < 8) (hx : x < 2 ^ k) (hp : post (qg_b (qg_D (qg_H kd fp sq c ak) k x))) : wpX_isDecided post ((nI c), cw, ak, ow, kd, fp, sq, sz, wn, co, ho, fo, al) (nI k) (nI x) := by
  have hp8 := qg_p2 (show 8 - k ≤ 8 by omega)
  have hk8 := qg_p2 (show k ≤ 8 by omega)
  unfold wpX_isDecided
  dsimp only
  refine qg_X_rh hI hw hR (by omega) ?_
  refine pk_loop (σ := Unit) (fun n i _ => wX_isDecided_9 post (nI k) (nI x) (qg_b (qg_H kd fp sq c ak x)) (nI c) cw ak ow kd fp sq sz wn co ho fo al n (nI i)) (fun i _ => ∀ r, r < i → qg_H kd fp sq c ak (x + r * 2 ^ k) = qg_H kd fp sq c ak x) (2 ^ (8 - k)) 1 () hp8.1 ?_ ?_ ?_
  · intro r hr
    have e : r = 0 := by omega
    rw [e, Nat.zero_mul, Nat.add_zero]
  · intro n _ h
    unfold qg_D at hp
    rw [qg_eqs_t h] at hp
    refine br_t ?_ hp
    rw [qg_256s k hk]
    exact nI_le (Nat.le_refl _) (by omega)
  · intro n i _ hi h hn
    refine br_f ?_ ?_
    · rw [qg_256s k hk]
      exact nI_ge hi (by omega)
    · rw [qg_orr hk hx (by omega)]
      refine qg_X_rh hI hw hR (qg_rest (by omega) hx hi) (ek_if (qg_b_i _ _) (fun z => ?_) (fun z => ?_))
      · refine nm_r (nI_1 i) (hn () (fun r hr => ?_))
        by_cases y : r = i
        · rw [y]; exact z
        · exact h r (by omega)
      · unfold qg_D at hp
        rw [qg_eqs_f hi z] at hp
        exact hp
end
