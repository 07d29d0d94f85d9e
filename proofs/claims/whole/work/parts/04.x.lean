/-! 04: X's walks, one lemma a private method, with a general post -/
theorem mw_10 : ¬ (1 : Int32) = 0 := by decide
theorem mw_uc {f : Nat → Int32} {n : Nat} {x : Int32} (h : n < 64) : upd f (nI n).toNatClampNeg x = upd f n x := by rw [nI_clamp (by omega)]
theorem mw_ucb0 {f : Nat → Int32} {n : Nat} (h : n < 64) : upd f (nI n).toNatClampNeg (vp_nar .boolean 0) = upd f n 0 := by rw [nI_clamp (by omega), mw_b0]
theorem mw_ucb1 {f : Nat → Int32} {n : Nat} (h : n < 64) : upd f (nI n).toNatClampNeg (vp_nar .boolean 1) = upd f n 1 := by rw [nI_clamp (by omega), mw_b1]
theorem mw_row_s0 (f g : Nat → Int32) (n : Nat) : upd (mw_row f g 0 n) n (g n) = mw_row f g 0 (n + 1) := by
  have h := mw_row_s f g 0 n
  rwa [Nat.zero_add] at h
theorem xa_en {post : Int32 → Prop} {t a : Nat} (h : post (nI (t * 16 + a))) : wpX_entry post (nI t) (nI a) := by
  unfold wpX_entry
  rw [mw_ix]
  exact h
theorem xa_clamp0 (x : Int32) (hi : Nat) (hh : hi ≤ 64) : ∃ n, n ≤ hi ∧ (∀ post : Int32 → Prop, post (nI n) → wpX_clamp post x 0 (nI hi)) ∧ (∀ i, i < n → ¬ x ≤ nI i) ∧ (x ≤ nI n ∨ n = hi) := by
  by_cases h0 : x < 0
  · exact ⟨0, Nat.zero_le _, fun post h => br_f (Int32.not_le.mpr h0) h, fun i hi => absurd hi (Nat.not_lt_zero i), Or.inl (Int32.le_of_lt h0)⟩
  · obtain ⟨j, hj, rfl⟩ := nI_of h0
    by_cases h1 : j ≤ hi
    · exact ⟨j, h1, fun post h => br_t (nI_pos' hj) (br_t (nI_le h1 (by omega)) h), fun i hi => nI_ge hi hj, Or.inl (nI_le (Nat.le_refl j) hj)⟩
    · exact ⟨hi, Nat.le_refl hi, fun post h => br_t (nI_pos' hj) (br_f (nI_ge (by omega) hj) h), fun i hi => nI_ge (by omega) hj, Or.inr rfl⟩
theorem xa_clampT (x : Int32) (lo hi : Nat) (hl : lo ≤ hi) (hh : hi ≤ 64) : ∃ n, lo ≤ n ∧ n ≤ hi ∧ (∀ post : Int32 → Prop, post (nI n) → wpX_clamp post x (nI lo) (nI hi)) ∧ (∀ (post : Int32 → Prop) (v : SY), post (nI n) → wpY_clamp post v x (nI lo) (nI hi)) := by
  by_cases h1 : nI lo ≤ x
  · obtain ⟨j, hj, rfl⟩ := nI_of (Int32.not_lt.mpr (Int32.le_trans (nI_pos' (n := lo) (by omega)) h1))
    have h2 : lo ≤ j := (nI_leI (by omega) hj).mp h1
    by_cases h3 : j ≤ hi
    · refine ⟨j, h2, h3, fun post h => br_t h1 (br_t (nI_le h3 (by omega)) h), fun post v h => ?_⟩
      obtain ⟨v1, v2, v3, v4, v5, v6, v7, v8, v9, v10, v11, v12, v13, v14, v15, v16, v17, v18, v19, v20⟩ := v
      exact br_t h1 (br_t (nI_le h3 (by omega)) h)
    · refine ⟨hi, hl, Nat.le_refl hi, fun post h => br_t h1 (br_f (nI_ge (by omega) hj) h), fun post v h => ?_⟩
      obtain ⟨v1, v2, v3, v4, v5, v6, v7, v8, v9, v10, v11, v12, v13, v14, v15, v16, v17, v18, v19, v20⟩ := v
      exact br_t h1 (br_f (nI_ge (by omega) hj) h)
  · refine ⟨lo, Nat.le_refl lo, hl, fun post h => br_f h1 h, fun post v h => ?_⟩
    obtain ⟨v1, v2, v3, v4, v5, v6, v7, v8, v9, v10, v11, v12, v13, v14, v15, v16, v17, v18, v19, v20⟩ := v
    exact br_f h1 h
section
variable {T W S K : Nat} {wv wh ds xd yd de dd ph ra sh lh se le sd ld hs ak ao ap al yo yp lo lg : Nat → Int32} {sr as : Nat → Int64}
theorem xa_bt0 {t : Nat} {post : Int32 → Prop} (ht : t < T) (hT : T ≤ 4) (h : post 0) : wpX_badThread post (nI T, nI W, nI S, wv, wh, ds, xd, de, dd, ph, ra, sh, se, sd, ak, ao, ap, al, lo, lg) (nI t) :=
  br_f (nI_pos (by omega)) (br_t (nI_lt ht (by omega)) h)
theorem xa_bt1 {x : Int32} {post : Int32 → Prop} (hx : x < 0 ∨ nI T ≤ x) (h : post 1) : wpX_badThread post (nI T, nI W, nI S, wv, wh, ds, xd, de, dd, ph, ra, sh, se, sd, ak, ao, ap, al, lo, lg) x := by
  by_cases h0 : x < 0
  · exact br_t h0 h
  · exact br_f h0 (br_f (Int32.not_lt.mpr (hx.resolve_left h0)) h)
theorem xa_ba0 {a : Nat} {post : Int32 → Prop} (ha : a < W) (hW : W ≤ 16) (h : post 0) : wpX_badAddress post (nI T, nI W, nI S, wv, wh, ds, xd, de, dd, ph, ra, sh, se, sd, ak, ao, ap, al, lo, lg) (nI a) :=
  br_f (nI_pos (by omega)) (br_t (nI_lt ha (by omega)) h)
theorem xa_ba1 {x : Int32} {post : Int32 → Prop} (hx : x < 0 ∨ nI W ≤ x) (h : post 1) : wpX_badAddress post (nI T, nI W, nI S, wv, wh, ds, xd, de, dd, ph, ra, sh, se, sd, ak, ao, ap, al, lo, lg) x := by
  by_cases h0 : x < 0
  · exact br_t h0 h
  · exact br_f h0 (br_f (Int32.not_lt.mpr (hx.resolve_left h0)) h)
theorem xa_sa {t : Nat} {kind o p : Int32} {post : SX → Prop} (ht : t < 4) (h : post (nI T, nI W, nI S, wv, wh, ds, xd, de, dd, ph, ra, sh, se, sd, upd ak t kind, upd ao t o, upd ap t p, upd al t 0, lo, lg)) : wpX_setAim post (nI T, nI W, nI S, wv, wh, ds, xd, de, dd, ph, ra, sh, se, sd, ak, ao, ap, al, lo, lg) (nI t) kind o p :=
  ⟨vp_in_nI ht (by decide), nm_r (mw_uc (by omega)) ⟨vp_in_nI ht (by decide), nm_r (mw_uc (by omega)) ⟨vp_in_nI ht (by decide), nm_r (mw_uc (by omega)) ⟨vp_in_nI ht (by decide), nm_r (mw_ucb0 (by omega)) h⟩⟩⟩⟩
theorem xa_fi {t : Nat} {how : Int32} {post : SX → Prop} (ht : t < 4) (h : post (nI T, nI W, nI S, wv, wh, ds, xd, de, dd, upd ph t 5, ra, sh, se, sd, upd ak t 14, upd ao t (-1), upd ap t (-1), upd al t 0, upd lo t how, lg)) : wpX_finish post (nI T, nI W, nI S, wv, wh, ds, xd, de, dd, ph, ra, sh, se, sd, ak, ao, ap, al, lo, lg) (nI t) how :=
  ⟨vp_in_nI ht (by decide), nm_r (mw_uc (by omega)) ⟨vp_in_nI ht (by decide), nm_r (mw_uc (by omega)) (xa_sa ht h)⟩⟩
theorem xl_ed {t : Nat} {post : SX → Prop} (ht : t < 4) (hW : W ≤ 16) (h : post (nI T, nI W, nI S, wv, wh, upd ds t 0, mw_row xd (fun _ => 0) (t * 16) W, de, dd, ph, ra, sh, se, sd, ak, ao, ap, al, lo, lg)) : ∀ d i, i + d = W → wX_emptyDraft_2 post (nI t) (nI T) (nI W) (nI S) (d + 1) (nI i) wv wh ds (mw_row xd (fun _ => 0) (t * 16) i) de dd ph ra sh se sd ak ao ap al lo lg := by
  intro d
  induction d with
  | zero =>
    intro i hi
    have e : i = W := by omega
    subst e
    exact br_t (nI_le (Nat.le_refl _) (by omega)) ⟨vp_in_nI ht (by decide), nm_r (mw_uc (by omega)) h⟩
  | succ d ih =>
    intro i hi
    exact br_f (nI_ge (by omega) (by omega)) (xa_en ⟨vp_in_nI (by omega) (by decide), nm_r (e' := mw_row xd (fun _ => 0) (t * 16) (i + 1)) (by rw [mw_ucb0 (by omega)]; exact mw_row_s xd (fun _ => 0) (t * 16) i) (nm_r (nI_1 i) (ih (i + 1) (by omega)))⟩)
theorem xa_ed {t : Nat} {post : SX → Prop} (ht : t < 4) (hW : W ≤ 16) (h : post (nI T, nI W, nI S, wv, wh, upd ds t 0, mw_row xd (fun _ => 0) (t * 16) W, de, dd, ph, ra, sh, se, sd, ak, ao, ap, al, lo, lg)) : wpX_emptyDraft post (nI T, nI W, nI S, wv, wh, ds, xd, de, dd, ph, ra, sh, se, sd, ak, ao, ap, al, lo, lg) (nI t) := by
  have q := xl_ed ht hW h W 0 (by omega)
  rw [mw_row_0] at q
  exact ⟨W + 1, q⟩
theorem xl_cp {t : Nat} {post : SX → Prop} (ht : t < 4) (hW : W ≤ 16) (h : post (nI T, nI W, nI S, wv, wh, ds, xd, de, dd, ph, ra, mw_row sh (fun j => vp_nar .boolean (xd j)) (t * 16) W, mw_row se de (t * 16) W, mw_row sd dd (t * 16) W, ak, ao, ap, al, lo, lg)) : ∀ d i, i + d = W → wX_copyDraftToSwap_2 post (nI t) (nI T) (nI W) (nI S) (d + 1) (nI i) wv wh ds xd de dd ph ra (mw_row sh (fun j => vp_nar .boolean (xd j)) (t * 16) i) (mw_row se de (t * 16) i) (mw_row sd dd (t * 16) i) ak ao ap al lo lg := by
  intro d
  induction d with
  | zero =>
    intro i hi
    have e : i = W := by omega
    subst e
    exact br_t (nI_le (Nat.le_refl _) (by omega)) h
  | succ d ih =>
    intro i hi
    have c : (nI (t * 16 + i)).toNatClampNeg = t * 16 + i := nI_clamp (by omega)
    have v : vp_in (nI (t * 16 + i)) 64 := vp_in_nI (by omega) (by decide)
    exact br_f (nI_ge (by omega) (by omega)) (xa_en ⟨v, v, nm_r (e' := mw_row sh (fun j => vp_nar .boolean (xd j)) (t * 16) (i + 1)) (by rw [c]; exact mw_row_s sh (fun j => vp_nar .boolean (xd j)) (t * 16) i) ⟨v, v, nm_r (e' := mw_row se de (t * 16) (i + 1)) (by rw [c]; exact mw_row_s se de (t * 16) i) ⟨v, v, nm_r (e' := mw_row sd dd (t * 16) (i + 1)) (by rw [c]; exact mw_row_s sd dd (t * 16) i) (nm_r (nI_1 i) (ih (i + 1) (by omega)))⟩⟩⟩)
theorem xa_cp {t : Nat} {post : SX → Prop} (ht : t < 4) (hW : W ≤ 16) (h : post (nI T, nI W, nI S, wv, wh, ds, xd, de, dd, ph, ra, mw_row sh (fun j => vp_nar .boolean (xd j)) (t * 16) W, mw_row se de (t * 16) W, mw_row sd dd (t * 16) W, ak, ao, ap, al, lo, lg)) : wpX_copyDraftToSwap post (nI T, nI W, nI S, wv, wh, ds, xd, de, dd, ph, ra, sh, se, sd, ak, ao, ap, al, lo, lg) (nI t) := by
  have q := xl_cp ht hW h W 0 (by omega)
  rw [mw_row_0, mw_row_0, mw_row_0] at q
  exact ⟨W + 1, q⟩
theorem xa_cl_y {s p : Nat} {post : SX → Prop} (hs : s < 4) (hp : p < 16) (h1 : wh p = -1) (h2 : wv p = se (s * 16 + p)) (h : post (nI T, nI W, nI S, wv, upd wh p (nI s), ds, xd, de, dd, ph, ra, sh, se, sd, ak, ao, ap, al, lo, lg)) : wpX_claim post (nI T, nI W, nI S, wv, wh, ds, xd, de, dd, ph, ra, sh, se, sd, ak, ao, ap, al, lo, lg) (nI s) (nI p) :=
  ⟨vp_in_nI hp (by decide), br_t (by rw [nI_clamp (by omega)]; exact h1) ⟨vp_in_nI hp (by decide), xa_en ⟨vp_in_nI (by omega) (by decide), br_t (by rw [nI_clamp (by omega), nI_clamp (by omega)]; exact h2) ⟨vp_in_nI hp (by decide), nm_r (mw_uc (by omega)) h⟩⟩⟩⟩
theorem xa_cl_n {s p : Nat} {post : SX → Prop} (hs : s < 4) (hp : p < 16) (h1 : ¬ (wh p = -1 ∧ wv p = se (s * 16 + p))) (h : post (nI T, nI W, nI S, wv, wh, ds, xd, de, dd, ph, ra, sh, se, sd, ak, ao, ap, al, lo, lg)) : wpX_claim post (nI T, nI W, nI S, wv, wh, ds, xd, de, dd, ph, ra, sh, se, sd, ak, ao, ap, al, lo, lg) (nI s) (nI p) := by
  by_cases z : wh p = -1
  · have z2 : ¬ wv p = se (s * 16 + p) := fun q => h1 ⟨z, q⟩
    exact ⟨vp_in_nI hp (by decide), br_t (by rw [nI_clamp (by omega)]; exact z) ⟨vp_in_nI hp (by decide), xa_en ⟨vp_in_nI (by omega) (by decide), br_f (by rw [nI_clamp (by omega), nI_clamp (by omega)]; exact z2) h⟩⟩⟩
  · exact ⟨vp_in_nI hp (by decide), br_f (by rw [nI_clamp (by omega)]; exact z) h⟩
theorem xl_sd {s : Nat} {post : SX → Prop} (hs : s < 4) (hW : W ≤ 16) (h : post (nI T, nI W, nI S, mw_st wv sh sd (s * 16) W, wh, ds, xd, de, dd, ph, ra, sh, se, sd, ak, ao, ap, al, lo, lg)) : ∀ d i, i + d = W → wX_storeDesired_2 post (nI s) (nI T) (nI W) (nI S) (d + 1) (nI i) (mw_st wv sh sd (s * 16) i) wh ds xd de dd ph ra sh se sd ak ao ap al lo lg := by
  intro d
  induction d with
  | zero =>
    intro i hi
    have e : i = W := by omega
    subst e
    exact br_t (nI_le (Nat.le_refl _) (by omega)) h
  | succ d ih =>
    intro i hi
    have c : (nI (s * 16 + i)).toNatClampNeg = s * 16 + i := nI_clamp (by omega)
    have v : vp_in (nI (s * 16 + i)) 64 := vp_in_nI (by omega) (by decide)
    have q := ih (i + 1) (by omega)
    by_cases z : sh (s * 16 + i) = 0
    · rw [← mw_st_n z] at q
      exact br_f (nI_ge (by omega) (by omega)) (xa_en ⟨v, br_t (by rw [c]; exact z) (nm_r (nI_1 i) q)⟩)
    · exact br_f (nI_ge (by omega) (by omega)) (xa_en ⟨v, br_f (by rw [c]; exact z) ⟨v, vp_in_nI (by omega) (by decide), nm_r (e' := mw_st wv sh sd (s * 16) (i + 1)) (by rw [c, nI_clamp (by omega)]; exact mw_st_y z) (nm_r (nI_1 i) q)⟩⟩)
theorem xa_sd {s : Nat} {post : SX → Prop} (hs : s < 4) (hW : W ≤ 16) (h : post (nI T, nI W, nI S, mw_st wv sh sd (s * 16) W, wh, ds, xd, de, dd, ph, ra, sh, se, sd, ak, ao, ap, al, lo, lg)) : wpX_storeDesired post (nI T, nI W, nI S, wv, wh, ds, xd, de, dd, ph, ra, sh, se, sd, ak, ao, ap, al, lo, lg) (nI s) := by
  have q := xl_sd hs hW h W 0 (by omega)
  rw [mw_st_0] at q
  exact ⟨W + 1, q⟩
theorem xl_de2 {s : Nat} {post : SX → Prop} (hT : T ≤ 4) (h : post (nI T, nI W, nI S, wv, wh, ds, xd, de, dd, ph, ra, sh, se, sd, ak, ao, ap, mw_mrk al ao s T, lo, lg)) : ∀ d i, i + d = T → wX_decide_42 post (nI s) (nI T) (nI W) (nI S) (d + 1) (nI i) wv wh ds xd de dd ph ra sh se sd ak ao ap (mw_mrk al ao s i) lo lg := by
  intro d
  induction d with
  | zero =>
    intro i hi
    have e : i = T := by omega
    subst e
    exact br_t (nI_le (Nat.le_refl _) (by omega)) h
  | succ d ih =>
    intro i hi
    have c : (nI i).toNatClampNeg = i := nI_clamp (by omega)
    have v : vp_in (nI i) 4 := vp_in_nI (by omega) (by decide)
    have q := ih (i + 1) (by omega)
    by_cases z : ao i = nI s
    · exact br_f (nI_ge (by omega) (by omega)) ⟨v, br_t (by rw [c]; exact z) ⟨v, nm_r (e' := mw_mrk al ao s (i + 1)) (by rw [c, mw_b1]; exact mw_mrk_y z) (nm_r (nI_1 i) q)⟩⟩
    · rw [← mw_mrk_n z] at q
      exact br_f (nI_ge (by omega) (by omega)) ⟨v, br_f (by rw [c]; exact z) (nm_r (nI_1 i) q)⟩
theorem xl_de {s : Nat} {post : SX → Prop} (hT : T ≤ 4) (hW : W ≤ 16) (h : post (nI T, nI W, nI S, wv, mw_rel wh s W, ds, xd, de, dd, ph, ra, sh, se, sd, ak, ao, ap, mw_mrk al ao s T, lo, lg)) : ∀ d i, i + d = W → wX_decide_9 post (nI s) (nI T) (nI W) (nI S) (d + 1) (nI i) wv (mw_rel wh s i) ds xd de dd ph ra sh se sd ak ao ap al lo lg := by
  intro d
  induction d with
  | zero =>
    intro i hi
    have e : i = W := by omega
    subst e
    have q := xl_de2 hT h T 0 (by omega)
    rw [mw_mrk_0] at q
    exact br_t (nI_le (Nat.le_refl _) (by omega)) ⟨T + 1, q⟩
  | succ d ih =>
    intro i hi
    have c : (nI i).toNatClampNeg = i := nI_clamp (by omega)
    have v : vp_in (nI i) 16 := vp_in_nI (by omega) (by decide)
    have q := ih (i + 1) (by omega)
    by_cases z : wh i = nI s
    · exact br_f (nI_ge (by omega) (by omega)) ⟨v, br_t (by rw [c, mw_rel_a]; exact z) ⟨v, nm_r (e' := mw_rel wh s (i + 1)) (by rw [c]; exact mw_rel_y z) (nm_r (nI_1 i) q)⟩⟩
    · rw [← mw_rel_n z] at q
      exact br_f (nI_ge (by omega) (by omega)) ⟨v, br_f (by rw [c, mw_rel_a]; exact z) (nm_r (nI_1 i) q)⟩
theorem xa_de {s : Nat} {x : Int32} {post : SX → Prop} (hs : s < 4) (hT : T ≤ 4) (hW : W ≤ 16) (h : post (nI T, nI W, nI S, wv, mw_rel wh s W, ds, xd, de, dd, upd ph s x, ra, sh, se, sd, ak, ao, ap, mw_mrk al ao s T, lo, lg)) : wpX_decide post (nI T, nI W, nI S, wv, wh, ds, xd, de, dd, ph, ra, sh, se, sd, ak, ao, ap, al, lo, lg) (nI s) x := by
  have q := xl_de hT hW h W 0 (by omega)
  rw [mw_rel_0] at q
  exact ⟨vp_in_nI hs (by decide), nm_r (mw_uc (by omega)) ⟨W + 1, q⟩⟩
theorem xl_lo {s m : Nat} {post : Int32 → Prop} (hs : s < 4) (hW : W ≤ 16) (h1 : m ≤ W) (h2 : ∀ b, b < m → sh (s * 16 + b) ≠ 0 → wh b = nI s) (h3 : m < W → sh (s * 16 + m) ≠ 0 ∧ wh m ≠ nI s) (h : post (if m < W then nI m else -1)) : ∀ d i, i + d = W → i ≤ m → wX_lowestNotHeld_2 post (nI s) (nI T) (nI W) (nI S) wv wh ds xd de dd ph ra sh se sd ak ao ap al lo lg (d + 1) (nI i) := by
  intro d
  induction d with
  | zero =>
    intro i hi hm
    have e : i = W := by omega
    subst e
    rw [if_neg (by omega)] at h
    exact br_t (nI_le (Nat.le_refl _) (by omega)) h
  | succ d ih =>
    intro i hi hm
    have c : (nI (s * 16 + i)).toNatClampNeg = s * 16 + i := nI_clamp (by omega)
    have c2 : (nI i).toNatClampNeg = i := nI_clamp (by omega)
    have v : vp_in (nI (s * 16 + i)) 64 := vp_in_nI (by omega) (by decide)
    have v2 : vp_in (nI i) 16 := vp_in_nI (by omega) (by decide)
    by_cases e : i = m
    · subst e
      have q := h3 (by omega)
      rw [if_pos (by omega)] at h
      exact br_f (nI_ge (by omega) (by omega)) (xa_en ⟨v, br_f (by rw [c]; exact q.1) ⟨v2, br_f (by rw [c2]; exact q.2) h⟩⟩)
    · have q := ih (i + 1) (by omega) (by omega)
      by_cases z : sh (s * 16 + i) = 0
      · exact br_f (nI_ge (by omega) (by omega)) (xa_en ⟨v, br_t (by rw [c]; exact z) (nm_r (nI_1 i) q)⟩)
      · exact br_f (nI_ge (by omega) (by omega)) (xa_en ⟨v, br_f (by rw [c]; exact z) ⟨v2, br_t (by rw [c2]; exact h2 i (by omega) z) (nm_r (nI_1 i) q)⟩⟩)
theorem xa_lo_y {s : Nat} {post : Int32 → Prop} (hs : s < 4) (hW : W ≤ 16) (hm : mw_low sh wh W s < W) (h : post (nI (mw_low sh wh W s))) : wpX_lowestNotHeld post (nI T, nI W, nI S, wv, wh, ds, xd, de, dd, ph, ra, sh, se, sd, ak, ao, ap, al, lo, lg) (nI s) := by
  obtain ⟨l1, l2, l3⟩ := mw_low_s sh wh W s
  exact ⟨W + 1, xl_lo hs hW l1 l2 l3 (by rw [if_pos hm]; exact h) W 0 (by omega) (by omega)⟩
theorem xa_lo_n {s : Nat} {post : Int32 → Prop} (hs : s < 4) (hW : W ≤ 16) (hm : ¬ mw_low sh wh W s < W) (h : post (-1)) : wpX_lowestNotHeld post (nI T, nI W, nI S, wv, wh, ds, xd, de, dd, ph, ra, sh, se, sd, ak, ao, ap, al, lo, lg) (nI s) := by
  obtain ⟨l1, l2, l3⟩ := mw_low_s sh wh W s
  exact ⟨W + 1, xl_lo hs hW l1 l2 l3 (by rw [if_neg hm]; exact h) W 0 (by omega) (by omega)⟩
end
