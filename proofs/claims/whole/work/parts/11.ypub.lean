/-! the reference: its other public methods -/
section
variable {rc : Int32} {kd fp sq ow tr aa : Nat → Int32}
theorem qg_Y_openings {post : Int32 → SY → Prop} {c : Nat} (hc : c ≤ 12) (hok : ∀ i, i < c → qg_ok (kd i) (fp i) (sq i)) (hp : ∀ tr', post (nI (qg_cnt (qg_V ow (qg_H kd fp sq c (qg_all c)) (qg_fr ow 7)) (2 ^ qg_fr ow 7))) ((nI c), kd, fp, sq, ow, tr', aa)) : wpY_openings post ((nI c), kd, fp, sq, ow, tr, aa) := by
  unfold wpY_openings
  dsimp only
  refine qg_Y_growAll hc hok (fun tr' hT => ?_)
  have hp' := hp tr'
  refine ⟨9, pk_loopD (σ := Unit) (fun n j _ => wY_openings_10 post (nI c) kd fp sq ow tr' aa n (nI (qg_fr ow (8 - j))) (nI j + (-1))) (fun j _ => j ≤ 8) ?_ ?_ 8 () (Nat.le_refl 8)⟩
  · intro n _ _
    refine br_t (by decide) ?_
    have e8 : qg_fr ow (8 - 0) = qg_fr ow 7 := qg_fr_8 ow
    rw [e8]
    have hk := qg_fr_le ow 7
    revert hk hp'
    generalize qg_fr ow 7 = k
    intro hp' hk
    have hk2 := qg_p2 hk
    refine pk_loop (σ := Unit) (fun n i _ => wY_openings_41 post (nI k) (nI c) kd fp sq ow tr' aa n (nI (qg_cnt (qg_V ow (qg_H kd fp sq c (qg_all c)) k) i)) (nI i)) (fun _ _ => True) (2 ^ k) 0 () (Nat.zero_le _) trivial ?_ ?_
    · intro n _ _
      refine br_t ?_ hp'
      rw [qg_1s k (by omega)]
      exact nI_le (Nat.le_refl _) (by omega)
    · intro n i _ hi _ hn
      refine br_f ?_ ?_
      · rw [qg_1s k (by omega)]
        exact nI_ge hi (by omega)
      have e0 : 256 * nI k + nI i = nI (256 * k + i) := by
        show nI 256 * nI k + nI i = _
        rw [pk_mul, nI_add]
      rw [e0, nI_clamp (show 256 * k + i < 2 ^ 31 by omega), hT k i (Nat.zero_le k) hk hi]
      refine ⟨vp_in_nI (by omega) (by decide), ?_⟩
      have e : qg_cnt (qg_V ow (qg_H kd fp sq c (qg_all c)) k) (i + 1) = qg_cnt (qg_V ow (qg_H kd fp sq c (qg_all c)) k) i + (if qg_V ow (qg_H kd fp sq c (qg_all c)) k i = true then 1 else 0) := rfl
      have h := hn () trivial
      cases hz : qg_V ow (qg_H kd fp sq c (qg_all c)) k i with
      | false =>
        rw [e, hz, if_neg (by decide), Nat.add_zero] at h
        exact br_t rfl (nm_r (nI_1 i) h)
      | true =>
        rw [e, hz, if_pos rfl] at h
        exact br_f (by decide) (nm_r (nI_1 _) (nm_r (nI_1 i) h))
  · intro n j _ hj hn
    have h := hn () (by omega)
    show wY_openings_10 post (nI c) kd fp sq ow tr' aa (n + 1) (nI (qg_fr ow (8 - (j + 1)))) (nI (j + 1) + (-1))
    rw [pk_m1]
    have e1 : 8 - j = (8 - (j + 1)) + 1 := by omega
    have e2 : 7 - (8 - (j + 1)) = j := by omega
    have e3 : qg_fr ow (8 - j) = if ow j = ow 0 then qg_fr ow (8 - (j + 1)) else j := by
      rw [e1]
      show (if ow (7 - (8 - (j + 1))) = ow 0 then qg_fr ow (8 - (j + 1)) else 7 - (8 - (j + 1))) = _
      rw [e2]
    refine br_f (nI_pos (by omega)) ?_
    rw [nI_clamp (show j < 2 ^ 31 by omega)]
    refine ⟨vp_in_nI (by omega) (by decide), br_c (fun z => ?_) (fun z => ?_)⟩
    · rw [e3, if_pos z] at h
      exact nm_e h
    · rw [e3, if_neg z] at h
      exact nm_e h
theorem qg_Y_wins {post : Int32 → SY → Prop} {c : Nat} (hc : c ≤ 12) (hok : ∀ i, i < c → qg_ok (kd i) (fp i) (sq i)) (mask : Int32) (hp : ∀ tr', post (qg_b (qg_V ow (qg_H kd fp sq c mask) 0 0)) ((nI c), kd, fp, sq, ow, tr', aa)) : wpY_wins post ((nI c), kd, fp, sq, ow, tr, aa) mask := by
  unfold wpY_wins
  dsimp only
  refine qg_Y_grow hc hok (fun tr' hT => ?_)
  have h : tr' 0 = qg_b (qg_V ow (qg_H kd fp sq c mask) 0 0) := hT 0 0 (Nat.le_refl 0) (by decide) (by decide)
  dsimp only
  rw [h]
  exact ⟨qg_narrow _, hp tr'⟩
theorem qg_Y_blame {post : Int32 → SY → Prop} {c : Nat} (hc : c ≤ 12) (hok : ∀ i, i < c → qg_ok (kd i) (fp i) (sq i)) (hp : ∀ tr', post (qg_bl ow kd fp sq c) ((nI c), kd, fp, sq, ow, tr', aa)) : wpY_blame post ((nI c), kd, fp, sq, ow, tr, aa) := by
  unfold wpY_blame wpY_everyRule
  dsimp only
  unfold qg_bl at hp
  refine qg_Y_wins hc hok (qg_all c) (fun tr' => ?_)
  cases hz : qg_V ow (qg_H kd fp sq c (qg_all c)) 0 0 with
  | true =>
    rw [hz, if_pos rfl] at hp
    exact br_f (by decide) (hp _)
  | false =>
    rw [hz, if_neg (by decide)] at hp
    refine br_t rfl ?_
    refine pk_loop (σ := Nat → Int32) (fun n i s => wY_blame_17 post n (qg_bm (fun m => qg_V ow (qg_H kd fp sq c m) 0 0) (qg_all c) i) (nI i) (nI c) kd fp sq ow s aa) (fun _ _ => True) c 0 tr' (Nat.zero_le _) trivial ?_ ?_
    · intro n s _
      exact br_t (nI_le (Nat.le_refl c) (by omega)) (hp _)
    · intro n i s hi _ hn
      have e : qg_bm (fun m => qg_V ow (qg_H kd fp sq c m) 0 0) (qg_all c) (i + 1) = if qg_V ow (qg_H kd fp sq c (qg_bm (fun m => qg_V ow (qg_H kd fp sq c m) 0 0) (qg_all c) i &&& (((1 : Int32) <<< (nI i &&& 31)) ^^^ (-1)))) 0 0 = true then qg_bm (fun m => qg_V ow (qg_H kd fp sq c m) 0 0) (qg_all c) i else qg_bm (fun m => qg_V ow (qg_H kd fp sq c m) 0 0) (qg_all c) i &&& (((1 : Int32) <<< (nI i &&& 31)) ^^^ (-1)) := rfl
      refine br_f (nI_ge hi (by omega)) (nm_e (qg_Y_wins hc hok _ (fun tr2 => ?_)))
      have h := hn tr2 trivial
      cases hv : qg_V ow (qg_H kd fp sq c (qg_bm (fun m => qg_V ow (qg_H kd fp sq c m) 0 0) (qg_all c) i &&& (((1 : Int32) <<< (nI i &&& 31)) ^^^ (-1)))) 0 0 with
      | false =>
        rw [e, hv, if_neg (by decide)] at h
        exact br_t rfl (nm_r (nI_1 i) h)
      | true =>
        rw [e, hv, if_pos rfl] at h
        exact br_f (by decide) (nm_r (nI_1 i) h)
theorem qg_Y_isDecided {post : Int32 → Prop} {H : Nat → Bool} {k x : Nat} (hT : qg_YT ow H tr 0) (hk : k < 8) (hx : x < 2 ^ k) (hp : post (qg_b (qg_D H k x))) : wpY_isDecided post (rc, kd, fp, sq, ow, tr, aa) (nI k) (nI x) := by
  have hk8 := qg_p2 (show k ≤ 8 by omega)
  have ek : 2 ^ k * 2 ^ (8 - k) = 256 := by
    rw [← Nat.pow_add, Nat.add_sub_cancel' (by omega)]
  unfold wpY_isDecided
  dsimp only
  refine pk_loop (σ := Unit) (fun n i _ => wY_isDecided_2 post (nI k) (nI x) rc kd fp sq ow tr aa n (nI i)) (fun i _ => ∀ m, m < i → H (x + m / 2 ^ k * 2 ^ k) = H x) 256 0 () (Nat.zero_le _) (fun m hm => absurd hm (Nat.not_lt_zero m)) ?_ ?_
  · intro n _ h
    unfold qg_D at hp
    have h2 : ∀ r, r < 2 ^ (8 - k) → H (x + r * 2 ^ k) = H x := by
      intro r hr
      have h3 := h (r * 2 ^ k) (by have h4 := qg_rest (show k ≤ 8 by omega) hx hr; omega)
      rw [Nat.mul_div_cancel _ (Nat.two_pow_pos k)] at h3
      exact h3
    rw [qg_eqs_t h2] at hp
    exact br_t (by decide) hp
  · intro n i _ hi h hn
    have hd : i / 2 ^ k < 2 ^ (8 - k) := Nat.div_lt_of_lt_mul (by omega)
    have hd2 : i / 2 ^ k ≤ i := Nat.div_le_self _ _
    have hr := qg_rest (show k ≤ 8 by omega) hx hd
    have e1 : (((nI i >>> (nI k &&& 31)) <<< (nI k &&& 31)) ||| nI x) &&& 255 = nI (x + i / 2 ^ k * 2 ^ k) := by
      rw [qg_shr (by omega) (by omega), Int32.or_comm, qg_orr hk hx (by omega), pk_andN (by omega) 8 (by decide), Nat.mod_eq_of_lt (show x + i / 2 ^ k * 2 ^ k < 2 ^ 8 from hr)]
    have e2 : 2048 + nI (x + i / 2 ^ k * 2 ^ k) = nI (2048 + (x + i / 2 ^ k * 2 ^ k)) := nI_add 2048 _
    have e3 : 2048 + nI x = nI (2048 + x) := nI_add 2048 x
    refine br_f (nI_ge (b := 256) hi (by decide)) (nm_r e1 ?_)
    rw [e2, e3, nI_clamp (show 2048 + (x + i / 2 ^ k * 2 ^ k) < 2 ^ 31 by omega), nI_clamp (show 2048 + x < 2 ^ 31 by omega), qg_Y_end hT hr, qg_Y_end hT (show x < 256 by omega)]
    refine ⟨vp_in_nI (by omega) (by decide), vp_in_nI (by omega) (by decide), ek_if (qg_b_i _ _) (fun z => ?_) (fun z => ?_)⟩
    · refine nm_r (nI_1 i) (hn () (fun m hm => ?_))
      by_cases y : m = i
      · rw [y]; exact z
      · exact h m (by omega)
    · unfold qg_D at hp
      rw [qg_eqs_f hd z] at hp
      exact hp
theorem qg_Y_decided {post : Int32 → SY → Prop} {c : Nat} (hc : c ≤ 12) (hok : ∀ i, i < c → qg_ok (kd i) (fp i) (sq i)) (hp : ∀ tr', post (nI (qg_dr (qg_dd ow kd fp sq c) 8)) ((nI c), kd, fp, sq, ow, tr', aa)) : wpY_decided post ((nI c), kd, fp, sq, ow, tr, aa) := by
  unfold wpY_decided
  dsimp only
  refine qg_Y_growAll hc hok (fun tr' hT => ?_)
  have hp' := hp tr'
  refine pk_loop (σ := Unit) (fun n k _ => wY_decided_8 post (nI c) kd fp sq ow tr' aa n (nI (qg_dv ow (qg_V ow (qg_H kd fp sq c (qg_all c))) k)) (nI k)) (fun k _ => ∀ j, j < k → qg_dd ow kd fp sq c j = false) 8 0 () (Nat.zero_le _) (fun j hj => absurd hj (Nat.not_lt_zero j)) ?_ ?_
  · intro n _ h
    rw [qg_dr_8 h] at hp'
    exact br_t (by decide) hp'
  · intro n k _ hk h hn
    have hlt := qg_dv_lt ow (qg_V ow (qg_H kd fp sq c (qg_all c))) k
    refine br_f (nI_ge (b := 8) hk (by decide)) (qg_Y_isDecided hT hk hlt ?_)
    cases hz : qg_D (qg_H kd fp sq c (qg_all c)) k (qg_dv ow (qg_V ow (qg_H kd fp sq c (qg_all c))) k) with
    | true =>
      rw [qg_dr_at hk h hz] at hp'
      exact br_f (by decide) hp'
    | false =>
      have hd : ∀ j, j < k + 1 → qg_dd ow kd fp sq c j = false := fun j hj => (Nat.lt_or_ge j k).elim (h j) (fun y => by
        have e : j = k := by omega
        rw [e]
        exact hz)
      refine br_t rfl (qg_Y_best hT hk hlt ?_)
      have g := hn () hd
      have e : qg_dv ow (qg_V ow (qg_H kd fp sq c (qg_all c))) (k + 1) = if qg_ch ow (qg_V ow (qg_H kd fp sq c (qg_all c))) k (qg_dv ow (qg_V ow (qg_H kd fp sq c (qg_all c))) k) = 1 then qg_dv ow (qg_V ow (qg_H kd fp sq c (qg_all c))) k + 2 ^ k else qg_dv ow (qg_V ow (qg_H kd fp sq c (qg_all c))) k := rfl
      refine br_c (fun y => ?_) (fun y => ?_)
      · rw [e, if_pos y] at g
        exact nm_r (qg_or hk hlt) (nm_r (nI_1 k) g)
      · rw [e, if_neg y] at g
        exact nm_r (nI_1 k) g
theorem qg_Y_need39 {post : Int32 → SY → Prop} {c : Nat} (hc : c ≤ 12) (hok : ∀ i, i < c → qg_ok (kd i) (fp i) (sq i)) (hA : ∀ x, x < 256 → aa x = qg_b (qg_H kd fp sq c (qg_all c) x)) (hp : post (qg_set (qg_nf kd fp sq c) c) ((nI c), kd, fp, sq, ow, tr, aa)) : ∃ n, wY_needless_39 post (nI c) kd fp sq ow tr aa n 0 0 := by
  refine pk_loop (σ := Unit) (fun n i _ => wY_needless_39 post (nI c) kd fp sq ow tr aa n (qg_set (qg_nf kd fp sq c) i) (nI i)) (fun _ _ => True) c 0 () (Nat.zero_le _) trivial ?_ ?_
  · intro n _ _
    exact br_t (nI_le (Nat.le_refl c) (by omega)) hp
  · intro n i _ hi _ hn
    have h := hn () trivial
    have e : qg_set (qg_nf kd fp sq c) (i + 1) = if qg_nf kd fp sq c i = true then qg_set (qg_nf kd fp sq c) i ||| ((1 : Int32) <<< (nI i &&& 31)) else qg_set (qg_nf kd fp sq c) i := rfl
    refine br_f (nI_ge hi (by omega)) ?_
    unfold wpY_everyRule
    dsimp only
    refine nm_e ?_
    refine pk_loop (σ := Unit) (fun n2 j _ => wY_needless_64 post (wY_needless_39 post (nI c) kd fp sq ow tr aa n) (qg_set (qg_nf kd fp sq c) i) (nI i) (qg_all c &&& (((1 : Int32) <<< (nI i &&& 31)) ^^^ (-1))) (nI c) kd fp sq ow tr aa n2 (qg_b (qg_eqs j (qg_H kd fp sq c (qg_all c &&& (((1 : Int32) <<< (nI i &&& 31)) ^^^ (-1)))) (qg_H kd fp sq c (qg_all c)))) (nI j)) (fun _ _ => True) 256 0 () (Nat.zero_le _) trivial ?_ ?_
    · intro n2 _ _
      refine br_t (by decide) ?_
      have eI : qg_eqs 256 (qg_H kd fp sq c (qg_all c &&& (((1 : Int32) <<< (nI i &&& 31)) ^^^ (-1)))) (qg_H kd fp sq c (qg_all c)) = qg_nf kd fp sq c i := rfl
      rw [eI]
      cases hz : qg_nf kd fp sq c i with
      | false =>
        rw [e, hz, if_neg (by decide)] at h
        exact br_t rfl (nm_r (nI_1 i) h)
      | true =>
        rw [e, hz, if_pos rfl] at h
        exact br_f (by decide) (nm_e (nm_r (nI_1 i) h))
    · intro n2 j _ hj _ hn2
      have g := hn2 () trivial
      rw [qg_eqs_s] at g
      refine br_f (nI_ge (b := 256) hj (by decide)) (qg_Y_areKept hc hok ?_)
      rw [nI_clamp (show j < 2 ^ 31 by omega), hA j hj]
      refine ⟨vp_in_nI (by omega) (by decide), ek_if (qg_b_i _ _) (fun z => ?_) (fun z => ?_)⟩
      · rw [if_pos z] at g
        exact nm_r (nI_1 j) g
      · rw [if_neg z] at g
        exact nm_r (nI_1 j) g
theorem qg_Y_needless {post : Int32 → SY → Prop} {c : Nat} (hc : c ≤ 12) (hok : ∀ i, i < c → qg_ok (kd i) (fp i) (sq i)) (hp : ∀ tr' aa', post (qg_set (qg_nf kd fp sq c) c) ((nI c), kd, fp, sq, ow, tr', aa')) : wpY_needless post ((nI c), kd, fp, sq, ow, tr, aa) := by
  unfold wpY_needless
  dsimp only
  refine qg_Y_growAll hc hok (fun tr' hT => ?_)
  refine pk_loop (σ := Nat → Int32) (fun n i s => wY_needless_6 post (nI c) n (nI i) kd fp sq ow tr' s) (fun i s => ∀ x, x < i → s x = qg_b (qg_H kd fp sq c (qg_all c) x)) 256 0 aa (Nat.zero_le _) (fun x hx => absurd hx (Nat.not_lt_zero x)) ?_ ?_
  · intro n s h
    exact br_t (by decide) (qg_Y_need39 hc hok h (hp tr' s))
  · intro n i s hi h hn
    have e0 : 2048 + nI i = nI (2048 + i) := nI_add 2048 i
    refine br_f (nI_ge (b := 256) hi (by decide)) ?_
    rw [e0, nI_clamp (show 2048 + i < 2 ^ 31 by omega), nI_clamp (show i < 2 ^ 31 by omega), qg_Y_end hT hi, qg_nar]
    refine ⟨vp_in_nI (by omega) (by decide), vp_in_nI hi (by decide), nm_e (nm_r (nI_1 i) (hn _ (fun x hx => ?_)))⟩
    by_cases z : x = i
    · rw [z, pk_us]
    · rw [pk_un z]
      exact h x (by omega)
/-! the arguments of won and move -/
def qg_st (v1 v2 : Int32) (K : Nat) : Prop := ∃ k x, v1 = nI k ∧ v2 = nI x ∧ k ≤ K ∧ x < 2 ^ k
theorem qg_X_isStart {post : Int32 → Prop} {v1 v2 : Int32} (h1 : qg_st v1 v2 8 → post 1) (h0 : ¬ qg_st v1 v2 8 → post 0) : wpX_isStart post v1 v2 := by
  unfold wpX_isStart
  by_cases hs : qg_st v1 v2 8
  · have p1 := h1 hs
    obtain ⟨k, x, rfl, rfl, hk, hx⟩ := hs
    have hk2 := qg_p2 hk
    refine br_f (nI_pos (by omega)) (br_f (nI_nlt (a := 8) hk (by decide)) (br_f (nI_pos (by omega)) (br_f ?_ p1)))
    rw [qg_1s k (by omega)]
    exact nI_ge hx (by omega)
  · have p0 := h0 hs
    refine br_c (fun _ => p0) (fun a => br_c (fun _ => p0) (fun b => br_c (fun _ => p0) (fun d => br_c (fun _ => p0) (fun e => ?_))))
    obtain ⟨k, hk, rfl⟩ := nI_of a
    obtain ⟨x, hx, rfl⟩ := nI_of d
    have hk8 : k ≤ 8 := by
      have h : ¬ nI 8 < nI k := b
      rw [nI_ltI (by decide) hk] at h
      omega
    have hk2 := qg_p2 hk8
    rw [qg_1s k (by omega), nI_leI (by omega) hx] at e
    exact absurd ⟨k, x, rfl, rfl, hk8, by omega⟩ hs
theorem qg_Y_won {post : Int32 → SY → Prop} {c : Nat} {v1 v2 : Int32} (hc : c ≤ 12) (hok : ∀ i, i < c → qg_ok (kd i) (fp i) (sq i)) (h1 : ∀ k x tr', v1 = nI k → v2 = nI x → k ≤ 8 → x < 2 ^ k → post (qg_b (qg_V ow (qg_H kd fp sq c (qg_all c)) k x)) ((nI c), kd, fp, sq, ow, tr', aa)) (h0 : ¬ qg_st v1 v2 8 → post (-1) ((nI c), kd, fp, sq, ow, tr, aa)) : wpY_won post ((nI c), kd, fp, sq, ow, tr, aa) v1 v2 := by
  unfold wpY_won
  dsimp only
  by_cases hs : qg_st v1 v2 8
  · obtain ⟨k, x, rfl, rfl, hk, hx⟩ := hs
    have hk2 := qg_p2 hk
    have e15 : nI k &&& 15 = nI k := by rw [pk_andN (by omega) 4 (by decide), Nat.mod_eq_of_lt (by omega)]
    refine qg_Y_in (fun _ _ => br_f (by decide) (br_f (nI_pos (by omega)) (br_t ?_ ?_))) (fun z => ?_)
    · rw [e15, qg_1s k (by omega)]
      exact nI_lt hx (by omega)
    · refine qg_Y_growAll hc hok (fun tr' hT => ?_)
      have e0 : 256 * nI k + nI x = nI (256 * k + x) := by
        show nI 256 * nI k + nI x = _
        rw [pk_mul, nI_add]
      dsimp only
      rw [e0, nI_clamp (show 256 * k + x < 2 ^ 31 by omega), hT k x (Nat.zero_le k) hk hx]
      refine ⟨vp_in_nI (by omega) (by decide), ?_⟩
      have h := h1 k x tr' rfl rfl hk hx
      cases hz : qg_V ow (qg_H kd fp sq c (qg_all c)) k x with
      | false => rw [hz] at h; exact br_t rfl h
      | true => rw [hz] at h; exact br_f (by decide) h
    · rcases z with z | z
      · exact absurd z (nI_pos (by omega))
      · exact absurd z (nI_nlt (a := 8) hk (by decide))
  · have p0 := h0 hs
    refine qg_Y_in (fun a b => br_f (by decide) (br_c (fun _ => p0) (fun d => br_c (fun e => ?_) (fun _ => p0)))) (fun _ => br_t rfl p0)
    obtain ⟨k, hk, rfl⟩ := nI_of a
    obtain ⟨x, hx, rfl⟩ := nI_of d
    have hk8 : k ≤ 8 := by
      have h : ¬ nI 8 < nI k := b
      rw [nI_ltI (by decide) hk] at h
      omega
    have hk2 := qg_p2 hk8
    have e15 : nI k &&& 15 = nI k := by rw [pk_andN (by omega) 4 (by decide), Nat.mod_eq_of_lt (by omega)]
    rw [e15, qg_1s k (by omega), nI_ltI hx (by omega)] at e
    exact absurd ⟨k, x, rfl, rfl, hk8, e⟩ hs
theorem qg_Y_move {post : Int32 → SY → Prop} {c : Nat} {v1 v2 : Int32} (hc : c ≤ 12) (hok : ∀ i, i < c → qg_ok (kd i) (fp i) (sq i)) (h1 : ∀ k x tr', v1 = nI k → v2 = nI x → k ≤ 7 → x < 2 ^ k → post (qg_ch ow (qg_V ow (qg_H kd fp sq c (qg_all c))) k x) ((nI c), kd, fp, sq, ow, tr', aa)) (h0 : ¬ qg_st v1 v2 7 → post (-1) ((nI c), kd, fp, sq, ow, tr, aa)) : wpY_move post ((nI c), kd, fp, sq, ow, tr, aa) v1 v2 := by
  unfold wpY_move
  dsimp only
  by_cases hs : qg_st v1 v2 7
  · obtain ⟨k, x, rfl, rfl, hk, hx⟩ := hs
    have hk2 := qg_p2 (show k ≤ 8 by omega)
    have e15 : nI k &&& 7 = nI k := by rw [pk_andN (by omega) 3 (by decide), Nat.mod_eq_of_lt (by omega)]
    refine qg_Y_in (fun _ _ => br_f (by decide) (br_f (nI_pos (by omega)) (br_t ?_ ?_))) (fun z => ?_)
    · rw [e15, qg_1s k (by omega)]
      exact nI_lt hx (by omega)
    · exact qg_Y_growAll hc hok (fun tr' hT => qg_Y_best hT (by omega) hx (h1 k x tr' rfl rfl hk hx))
    · rcases z with z | z
      · exact absurd z (nI_pos (by omega))
      · exact absurd z (nI_nlt (a := 7) hk (by decide))
  · have p0 := h0 hs
    refine qg_Y_in (fun a b => br_f (by decide) (br_c (fun _ => p0) (fun d => br_c (fun e => ?_) (fun _ => p0)))) (fun _ => br_t rfl p0)
    obtain ⟨k, hk, rfl⟩ := nI_of a
    obtain ⟨x, hx, rfl⟩ := nI_of d
    have hk8 : k ≤ 7 := by
      have h : ¬ nI 7 < nI k := b
      rw [nI_ltI (by decide) hk] at h
      omega
    have hk2 := qg_p2 (show k ≤ 8 by omega)
    have e15 : nI k &&& 7 = nI k := by rw [pk_andN (by omega) 3 (by decide), Nat.mod_eq_of_lt (by omega)]
    rw [e15, qg_1s k (by omega), nI_ltI hx (by omega)] at e
    exact absurd ⟨k, x, rfl, rfl, hk8, e⟩ hs
end
