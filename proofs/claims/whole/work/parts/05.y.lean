/-! 05: Y's walks, one lemma a private method, with a general post -/
theorem mw_in {t a : Nat} (ht : t < 4) (ha : a < 16) : vp_in (nI t * 16 + nI a) 64 := by
  rw [mw_ix]
  exact vp_in_nI (by omega) (by decide)
theorem mw_cl {t a : Nat} (ht : t < 4) (ha : a < 16) : (nI t * 16 + nI a).toNatClampNeg = t * 16 + a := by
  rw [mw_ix]
  exact nI_clamp (by omega)
theorem mw_ux {f : Nat → Int32} {t a : Nat} {x : Int32} (ht : t < 4) (ha : a < 16) : upd f (nI t * 16 + nI a).toNatClampNeg x = upd f (t * 16 + a) x := by rw [mw_cl ht ha]
theorem mw_ub0 {f : Nat → Int32} {t a : Nat} (ht : t < 4) (ha : a < 16) : upd f (nI t * 16 + nI a).toNatClampNeg (vp_nar .boolean 0) = upd f (t * 16 + a) 0 := by rw [mw_cl ht ha, mw_b0]
theorem mw_ub1 {f : Nat → Int32} {t a : Nat} (ht : t < 4) (ha : a < 16) : upd f (nI t * 16 + nI a).toNatClampNeg (vp_nar .boolean 1) = upd f (t * 16 + a) 1 := by rw [mw_cl ht ha, mw_b1]
theorem mw_uL {f : Nat → Int64} {n : Nat} {x : Int64} (h : n < 64) : vp_updL f (nI n).toNatClampNeg x = vp_updL f n x := by rw [nI_clamp (by omega)]
section
variable {T W S K : Nat} {wv wh ds xd yd de dd ph ra sh lh se le sd ld hs ak ao ap al yo yp lo lg : Nat → Int32} {sr as : Nat → Int64}
theorem ya_bt0 {t : Nat} {post : Int32 → Prop} (ht : t < T) (hT : T ≤ 4) (h : post 0) : wpY_badThread post (nI T, nI W, nI S, lN K, wv, yd, de, dd, lh, le, ld, hs, ph, lo, lg, sr, ak, yo, as, yp) (nI t) :=
  br_f (nI_pos (by omega)) (br_t (nI_lt ht (by omega)) h)
theorem ya_bt1 {x : Int32} {post : Int32 → Prop} (hx : x < 0 ∨ nI T ≤ x) (h : post 1) : wpY_badThread post (nI T, nI W, nI S, lN K, wv, yd, de, dd, lh, le, ld, hs, ph, lo, lg, sr, ak, yo, as, yp) x := by
  by_cases h0 : x < 0
  · exact br_t h0 h
  · exact br_f h0 (br_f (Int32.not_lt.mpr (hx.resolve_left h0)) h)
theorem ya_bw0 {a : Nat} {post : Int32 → Prop} (ha : a < W) (hW : W ≤ 16) (h : post 0) : wpY_badWord post (nI T, nI W, nI S, lN K, wv, yd, de, dd, lh, le, ld, hs, ph, lo, lg, sr, ak, yo, as, yp) (nI a) :=
  br_f (nI_pos (by omega)) (br_t (nI_lt ha (by omega)) h)
theorem ya_bw1 {x : Int32} {post : Int32 → Prop} (hx : x < 0 ∨ nI W ≤ x) (h : post 1) : wpY_badWord post (nI T, nI W, nI S, lN K, wv, yd, de, dd, lh, le, ld, hs, ph, lo, lg, sr, ak, yo, as, yp) x := by
  by_cases h0 : x < 0
  · exact br_t h0 h
  · exact br_f h0 (br_f (Int32.not_lt.mpr (hx.resolve_left h0)) h)
theorem yl_ds {t : Nat} {post : Int32 → Prop} (ht : t < 4) (hW : W ≤ 16) (h : post (nI (mw_cnt yd (t * 16) W))) : ∀ d i, i + d = W → wY_draftSize_4 post (nI t) (nI T) (nI W) (nI S) (lN K) wv yd de dd lh le ld hs ph lo lg sr ak yo as yp (d + 1) (nI (mw_cnt yd (t * 16) i)) (nI i) := by
  intro d
  induction d with
  | zero =>
    intro i hi
    have e : i = W := by omega
    subst e
    exact br_t (nI_le (Nat.le_refl _) (by omega)) h
  | succ d ih =>
    intro i hi
    have hi2 : i < 16 := by omega
    have q := ih (i + 1) (by omega)
    by_cases z : yd (t * 16 + i) = 0
    · have e : mw_cnt yd (t * 16) (i + 1) = mw_cnt yd (t * 16) i := by
        show mw_cnt yd (t * 16) i + (if yd (t * 16 + i) = 0 then 0 else 1) = _
        rw [if_pos z, Nat.add_zero]
      rw [e] at q
      exact br_f (nI_ge (by omega) (by omega)) ⟨mw_in ht hi2, br_t (by rw [mw_cl ht hi2]; exact z) (nm_r (nI_1 i) q)⟩
    · have e : mw_cnt yd (t * 16) (i + 1) = mw_cnt yd (t * 16) i + 1 := by
        show mw_cnt yd (t * 16) i + (if yd (t * 16 + i) = 0 then 0 else 1) = _
        rw [if_neg z]
      rw [e] at q
      exact br_f (nI_ge (by omega) (by omega)) ⟨mw_in ht hi2, br_f (by rw [mw_cl ht hi2]; exact z) (nm_r (nI_1 _) (nm_r (nI_1 i) q))⟩
theorem ya_ds {t : Nat} {post : Int32 → Prop} (ht : t < 4) (hW : W ≤ 16) (h : post (nI (mw_cnt yd (t * 16) W))) : wpY_draftSize post (nI T, nI W, nI S, lN K, wv, yd, de, dd, lh, le, ld, hs, ph, lo, lg, sr, ak, yo, as, yp) (nI t) :=
  ⟨W + 1, yl_ds ht hW h W 0 (by omega)⟩
theorem ya_pu {t a : Nat} {x y : Int32} {post : Int32 → SY → Prop} (ht : t < 4) (ha : a < 16) (h : post 1 (nI T, nI W, nI S, lN K, wv, upd yd (t * 16 + a) 1, upd de (t * 16 + a) x, upd dd (t * 16 + a) y, lh, le, ld, hs, ph, lo, lg, sr, ak, yo, as, yp)) : wY_put_46 post (nI t) (nI a) x y (nI T) (nI W) (nI S) (lN K) wv yd de dd lh le ld hs ph lo lg sr ak yo as yp :=
  ⟨mw_in ht ha, nm_r (mw_ub1 ht ha) ⟨mw_in ht ha, nm_r (mw_ux ht ha) ⟨mw_in ht ha, nm_r (mw_ux ht ha) h⟩⟩⟩
theorem yl_dr {t : Nat} {ln : Int64} {post : Int32 → SY → Prop} (ht : t < 4) (h : post 1 (nI T, nI W, nI S, ln, wv, mw_row yd (fun _ => 0) (t * 16) 16, de, dd, lh, le, ld, hs, ph, lo, lg, sr, ak, yo, as, yp)) : ∀ d i, i + d = 16 → wY_drop_12 post (nI t) (nI T) (nI W) (nI S) ln (d + 1) (nI i) wv (mw_row yd (fun _ => 0) (t * 16) i) de dd lh le ld hs ph lo lg sr ak yo as yp := by
  intro d
  induction d with
  | zero =>
    intro i hi
    have e : i = 16 := by omega
    subst e
    exact br_t (nI_le (a := 16) (b := 16) (Nat.le_refl _) (by decide)) h
  | succ d ih =>
    intro i hi
    have hi2 : i < 16 := by omega
    exact br_f (nI_ge (b := 16) hi2 (by decide)) ⟨mw_in ht hi2, nm_r (e' := mw_row yd (fun _ => 0) (t * 16) (i + 1)) (by rw [mw_ub0 ht hi2]; exact mw_row_s yd (fun _ => 0) (t * 16) i) (nm_r (nI_1 i) (ih (i + 1) (by omega)))⟩
theorem ya_dr {t : Nat} {ln : Int64} {post : Int32 → SY → Prop} (ht : t < T) (hT : T ≤ 4) (h : post 1 (nI T, nI W, nI S, ln, wv, mw_row yd (fun _ => 0) (t * 16) 16, de, dd, lh, le, ld, hs, ph, lo, lg, sr, ak, yo, as, yp)) : wpY_drop post (nI T, nI W, nI S, ln, wv, yd, de, dd, lh, le, ld, hs, ph, lo, lg, sr, ak, yo, as, yp) (nI t) := by
  have q := yl_dr (t := t) (by omega) h 16 0 (by omega)
  rw [mw_row_0] at q
  have b : ∀ p : Int32 → Prop, p 0 → wpY_badThread p (nI T, nI W, nI S, ln, wv, yd, de, dd, lh, le, ld, hs, ph, lo, lg, sr, ak, yo, as, yp) (nI t) := fun p hp => br_f (nI_pos (by omega)) (br_t (nI_lt ht (by omega)) hp)
  unfold wpY_drop
  dsimp only
  exact b _ (br_t rfl ⟨17, q⟩)
theorem yl_la {t : Nat} {post : Int32 → SY → Prop} (ht : t < T) (hT : T ≤ 4) (h : post 1 (nI T, nI W, nI S, lN (K + 1), wv, mw_row yd (fun _ => 0) (t * 16) 16, de, dd, mw_row lh (fun j => vp_nar .boolean (yd j)) (t * 16) 16, mw_row le de (t * 16) 16, mw_row ld dd (t * 16) 16, hs, upd ph t 9, lo, lg, vp_updL sr t (lN (K + 1)), ak, yo, as, yp)) : ∀ d i, i + d = 16 → wY_launch_37 post (nI t) (nI T) (nI W) (nI S) (lN K) (d + 1) (nI (t * 16 + i)) wv yd de dd (mw_row lh (fun j => vp_nar .boolean (yd j)) (t * 16) i) (mw_row le de (t * 16) i) (mw_row ld dd (t * 16) i) hs ph lo lg sr ak yo as yp := by
  intro d
  have e16 : nI t * 16 + 16 = nI (t * 16 + 16) := mw_ix t 16
  induction d with
  | zero =>
    intro i hi
    have e : i = 16 := by omega
    subst e
    exact br_t (by rw [e16]; exact nI_le (Nat.le_refl _) (by omega)) (nm_r (lN_1 K) ⟨vp_in_nI (by omega) (by decide), nm_r (mw_uL (by omega)) ⟨vp_in_nI (by omega) (by decide), nm_r (mw_uc (by omega)) (ya_dr ht hT h)⟩⟩)
  | succ d ih =>
    intro i hi
    have c : (nI (t * 16 + i)).toNatClampNeg = t * 16 + i := nI_clamp (by omega)
    have v : vp_in (nI (t * 16 + i)) 64 := vp_in_nI (by omega) (by decide)
    exact br_f (by rw [e16]; exact nI_ge (by omega) (by omega)) ⟨v, v, nm_r (e' := mw_row lh (fun j => vp_nar .boolean (yd j)) (t * 16) (i + 1)) (by rw [c]; exact mw_row_s lh (fun j => vp_nar .boolean (yd j)) (t * 16) i) ⟨v, v, nm_r (e' := mw_row le de (t * 16) (i + 1)) (by rw [c]; exact mw_row_s le de (t * 16) i) ⟨v, v, nm_r (e' := mw_row ld dd (t * 16) (i + 1)) (by rw [c]; exact mw_row_s ld dd (t * 16) i) (nm_r (nI_1 (t * 16 + i)) (ih (i + 1) (by omega)))⟩⟩⟩
theorem yl_rd {t r : Nat} {post : Int32 → SY → Prop} (ht : t < 4) (hr : r < 16) (h : post 1 (nI T, nI W, nI S, lN K, wv, yd, de, dd, mw_row lh (fun j => if j = t * 16 + r then 1 else 0) (t * 16) 16, le, ld, hs, upd ph t 8, lo, lg, sr, ak, yo, as, yp)) : ∀ d i, i + d = 16 → wY_read_32 post (nI t) (nI r) (nI T) (nI W) (nI S) (lN K) (d + 1) (nI i) wv yd de dd (mw_row lh (fun j => if j = t * 16 + r then 1 else 0) (t * 16) i) le ld hs ph lo lg sr ak yo as yp := by
  intro d
  induction d with
  | zero =>
    intro i hi
    have e : i = 16 := by omega
    subst e
    exact br_t (nI_le (a := 16) (b := 16) (Nat.le_refl _) (by decide)) ⟨vp_in_nI ht (by decide), nm_r (mw_uc (by omega)) h⟩
  | succ d ih =>
    intro i hi
    have hi2 : i < 16 := by omega
    have q := ih (i + 1) (by omega)
    have k := mw_row_s lh (fun j => if j = t * 16 + r then 1 else 0) (t * 16) i
    by_cases e : i = r
    · have k2 : upd (mw_row lh (fun j => if j = t * 16 + r then 1 else 0) (t * 16) i) (t * 16 + i) 1 = mw_row lh (fun j => if j = t * 16 + r then 1 else 0) (t * 16) (i + 1) := by
        rw [← k]
        rw [if_pos (by omega)]
      exact br_f (nI_ge (b := 16) hi2 (by decide)) (br_t (by rw [e]) ⟨mw_in ht hi2, nm_r ((mw_ub1 ht hi2).trans k2) (nm_r (nI_1 i) q)⟩)
    · have k2 : upd (mw_row lh (fun j => if j = t * 16 + r then 1 else 0) (t * 16) i) (t * 16 + i) 0 = mw_row lh (fun j => if j = t * 16 + r then 1 else 0) (t * 16) (i + 1) := by
        rw [← k]
        rw [if_neg (by omega)]
      exact br_f (nI_ge (b := 16) hi2 (by decide)) (br_f (mw_ne (by omega) (by omega) e) ⟨mw_in ht hi2, nm_r ((mw_ub0 ht hi2).trans k2) (nm_r (nI_1 i) q)⟩)
theorem ya_lt14 {t : Nat} {post : Int32 → Prop} (ht : t < T) (hT : T ≤ 4) (h14 : ak t = 14) (h : post 0) : wpY_late post (nI T, nI W, nI S, lN K, wv, yd, de, dd, lh, le, ld, hs, ph, lo, lg, sr, ak, yo, as, yp) (nI t) := by
  unfold wpY_late
  dsimp only
  exact ya_bt0 ht hT (br_t rfl ⟨vp_in_nI (by omega) (by decide), br_t (by rw [nI_clamp (by omega)]; exact h14) h⟩)
theorem ya_lt0 {t s : Nat} {post : Int32 → Prop} (ht : t < T) (hT : T ≤ 4) (hk : ak t ≠ 14) (hs' : s < T) (ho : yo t = nI s) (h9 : ph s = 9) (he : sr s = as t) (h : post 0) : wpY_late post (nI T, nI W, nI S, lN K, wv, yd, de, dd, lh, le, ld, hs, ph, lo, lg, sr, ak, yo, as, yp) (nI t) := by
  have c : (nI t).toNatClampNeg = t := nI_clamp (by omega)
  have c2 : (nI s).toNatClampNeg = s := nI_clamp (by omega)
  have v : vp_in (nI t) 4 := vp_in_nI (by omega) (by decide)
  have v2 : vp_in (yo (nI t).toNatClampNeg) 4 := by rw [c, ho]; exact vp_in_nI (by omega) (by decide)
  unfold wpY_late
  dsimp only
  exact ya_bt0 ht hT (br_t rfl ⟨v, br_f (by rw [c]; exact hk) ⟨v, v2, br_t (by rw [c, ho, c2]; exact h9) ⟨v, v2, v, br_t (by rw [c, ho, c2]; exact he) h⟩⟩⟩)
theorem ya_lt1 {t s : Nat} {post : Int32 → Prop} (ht : t < T) (hT : T ≤ 4) (hk : ak t ≠ 14) (hs' : s < T) (ho : yo t = nI s) (hh : ph s ≠ 9 ∨ sr s ≠ as t) (h : post 1) : wpY_late post (nI T, nI W, nI S, lN K, wv, yd, de, dd, lh, le, ld, hs, ph, lo, lg, sr, ak, yo, as, yp) (nI t) := by
  have c : (nI t).toNatClampNeg = t := nI_clamp (by omega)
  have c2 : (nI s).toNatClampNeg = s := nI_clamp (by omega)
  have v : vp_in (nI t) 4 := vp_in_nI (by omega) (by decide)
  have v2 : vp_in (yo (nI t).toNatClampNeg) 4 := by rw [c, ho]; exact vp_in_nI (by omega) (by decide)
  unfold wpY_late
  dsimp only
  by_cases z : ph s = 9
  · exact ya_bt0 ht hT (br_t rfl ⟨v, br_f (by rw [c]; exact hk) ⟨v, v2, br_t (by rw [c, ho, c2]; exact z) ⟨v, v2, v, br_f (by rw [c, ho, c2]; exact hh.resolve_left (fun q => q z)) h⟩⟩⟩)
  · exact ya_bt0 ht hT (br_t rfl ⟨v, br_f (by rw [c]; exact hk) ⟨v, v2, br_f (by rw [c, ho, c2]; exact z) h⟩⟩)
theorem yl_ho {a : Nat} {r : Int32} {post : Int32 → Prop} (hT : T ≤ 4) (ha : a < W) (hW : W ≤ 16) (H : mw_H T W wh hs ph) (hr : wh a = r) (h : post r) : ∀ d i, i + d = T → (∀ t, t < i → wh a ≠ nI t) → wY_holder_12 post (nI a) (nI T) (nI W) (nI S) (lN K) wv yd de dd lh le ld hs ph lo lg sr ak yo as yp (d + 1) (nI i) := by
  intro d
  induction d with
  | zero =>
    intro i hi hn
    have e : i = T := by omega
    subst e
    have z : wh a = -1 := by
      rcases (H a ha).1 with z | ⟨s, h1, h2, _⟩
      · exact z
      · exact absurd h2 (hn s h1)
    rw [hr] at z
    rw [z] at h
    exact br_t (nI_le (Nat.le_refl _) (by omega)) h
  | succ d ih =>
    intro i hi hn
    have hi4 : i < 4 := by omega
    have ha2 : a < 16 := by omega
    have e := (H a ha).2 i (by omega)
    by_cases z : wh a = nI i
    · rw [if_pos z] at e
      rw [hr] at z
      rw [z] at h
      exact br_f (nI_ge (by omega) (by omega)) ⟨mw_in hi4 ha2, br_f (by rw [mw_cl hi4 ha2, e]; exact mw_10) h⟩
    · rw [if_neg z] at e
      exact br_f (nI_ge (by omega) (by omega)) ⟨mw_in hi4 ha2, br_t (by rw [mw_cl hi4 ha2]; exact e) (nm_r (nI_1 i) (ih (i + 1) (by omega) (fun t ht => if q : t = i then q ▸ z else hn t (by omega))))⟩
theorem ya_ho {a : Nat} {r : Int32} {post : Int32 → Prop} (hT : T ≤ 4) (ha : a < W) (hW : W ≤ 16) (H : mw_H T W wh hs ph) (hr : wh a = r) (h : post r) : wpY_holder post (nI T, nI W, nI S, lN K, wv, yd, de, dd, lh, le, ld, hs, ph, lo, lg, sr, ak, yo, as, yp) (nI a) := by
  unfold wpY_holder
  dsimp only
  exact ya_bw0 ha hW (br_t rfl ⟨T + 1, yl_ho hT ha hW H hr h T 0 (by omega) (fun t ht => absurd ht (Nat.not_lt_zero t))⟩)
theorem yl_lm {s m : Nat} {post : Int32 → Prop} (hs' : s < 4) (hW : W ≤ 16) (h1 : m ≤ W) (h2 : ∀ b, b < m → lh (s * 16 + b) ≠ 0 → hs (s * 16 + b) ≠ 0) (h3 : m < W → lh (s * 16 + m) ≠ 0 ∧ hs (s * 16 + m) = 0) (h : post (if m < W then nI m else -1)) : ∀ d i, i + d = W → i ≤ m → wY_lowestMissing_2 post (nI s) (nI T) (nI W) (nI S) (lN K) wv yd de dd lh le ld hs ph lo lg sr ak yo as yp (d + 1) (nI i) := by
  intro d
  induction d with
  | zero =>
    intro i hi hm
    have e : i = W := by omega
    subst e
    rw [if_neg (by omega)] at h
    exact br_t (nI_le (Nat.le_refl _) (by omega)) h
  | succ d ih =>
    intro i hi hm
    have hi2 : i < 16 := by omega
    have c := mw_cl hs' hi2
    have v := mw_in hs' hi2
    by_cases e : i = m
    · subst e
      have q := h3 (by omega)
      rw [if_pos (by omega)] at h
      exact br_f (nI_ge (by omega) (by omega)) ⟨v, br_f (by rw [c]; exact q.1) ⟨v, br_t (by rw [c]; exact q.2) h⟩⟩
    · have q := ih (i + 1) (by omega) (by omega)
      by_cases z : lh (s * 16 + i) = 0
      · exact br_f (nI_ge (by omega) (by omega)) ⟨v, br_t (by rw [c]; exact z) (nm_r (nI_1 i) q)⟩
      · exact br_f (nI_ge (by omega) (by omega)) ⟨v, br_f (by rw [c]; exact z) ⟨v, br_f (by rw [c]; exact h2 i (by omega) z) (nm_r (nI_1 i) q)⟩⟩
theorem ya_lm {s m : Nat} {post : Int32 → Prop} (hs' : s < 4) (hW : W ≤ 16) (h1 : m ≤ W) (h2 : ∀ b, b < m → lh (s * 16 + b) ≠ 0 → hs (s * 16 + b) ≠ 0) (h3 : m < W → lh (s * 16 + m) ≠ 0 ∧ hs (s * 16 + m) = 0) (h : post (if m < W then nI m else -1)) : wpY_lowestMissing post (nI T, nI W, nI S, lN K, wv, yd, de, dd, lh, le, ld, hs, ph, lo, lg, sr, ak, yo, as, yp) (nI s) :=
  ⟨W + 1, yl_lm hs' hW h1 h2 h3 h W 0 (by omega) (by omega)⟩
/-- the same, for a swap: its lowest entry that is not held -/
theorem ya_lmw {s : Nat} {post : Int32 → Prop} (hT : T ≤ 4) (hs' : s < T) (hW : W ≤ 16) (L : mw_L T W ph ra sh lh se le sd ld) (H : mw_H T W wh hs ph) (h9 : ph s = 9) (h : post (if mw_low sh wh W s < W then nI (mw_low sh wh W s) else -1)) : wpY_lowestMissing post (nI T, nI W, nI S, lN K, wv, yd, de, dd, lh, le, ld, hs, ph, lo, lg, sr, ak, yo, as, yp) (nI s) := by
  obtain ⟨l1, l2, l3⟩ := mw_low_s sh wh W s
  have q := mw_L_9 L hs' h9
  refine ya_lm (by omega) hW l1 (fun b hb hn => ?_) (fun hm => ?_) h
  · rw [(q b (by omega)).1] at hn
    rw [(H b (by omega)).2 s hs', if_pos (l2 b hb hn)]
    exact mw_10
  · rw [(q _ hm).1, (H _ hm).2 s hs', if_neg (l3 hm).2]
    exact ⟨(l3 hm).1, rfl⟩
theorem ya_va {a : Nat} {post : Int32 → Prop} (ha : a < W) (hW : W ≤ 16) (h : post (wv a)) : wpY_value post (nI T, nI W, nI S, lN K, wv, yd, de, dd, lh, le, ld, hs, ph, lo, lg, sr, ak, yo, as, yp) (nI a) := by
  unfold wpY_value
  dsimp only
  exact ya_bw0 ha hW (br_t rfl ⟨vp_in_nI (by omega) (by decide), by rw [nI_clamp (by omega)]; exact h⟩)
theorem ya_sa {t o : Nat} {kind p : Int32} {post : Int32 → SY → Prop} (ht : t < 4) (ho : o < 4) (h : post 0 (nI T, nI W, nI S, lN K, wv, yd, de, dd, lh, le, ld, hs, ph, lo, lg, sr, upd ak t kind, upd yo t (nI o), vp_updL as t (sr o), upd yp t p)) : wpY_setAim post (nI T, nI W, nI S, lN K, wv, yd, de, dd, lh, le, ld, hs, ph, lo, lg, sr, ak, yo, as, yp) (nI t) kind (nI o) p :=
  ⟨vp_in_nI ht (by decide), nm_r (mw_uc (by omega)) ⟨vp_in_nI ht (by decide), nm_r (mw_uc (by omega)) ⟨vp_in_nI ho (by decide), vp_in_nI ht (by decide), nm_r (e' := vp_updL as t (sr o)) (by rw [nI_clamp (by omega), nI_clamp (by omega)]) ⟨vp_in_nI ht (by decide), nm_r (mw_uc (by omega)) h⟩⟩⟩⟩
theorem ya_fi {t : Nat} {how : Int32} {post : Int32 → SY → Prop} (ht : t < 4) (h : post 1 (nI T, nI W, nI S, lN K, wv, yd, de, dd, lh, le, ld, hs, upd ph t 5, upd lo t how, lg, sr, upd ak t 14, yo, as, yp)) : wpY_finish post (nI T, nI W, nI S, lN K, wv, yd, de, dd, lh, le, ld, hs, ph, lo, lg, sr, ak, yo, as, yp) (nI t) how :=
  ⟨vp_in_nI ht (by decide), nm_r (mw_uc (by omega)) ⟨vp_in_nI ht (by decide), nm_r (mw_uc (by omega)) ⟨vp_in_nI ht (by decide), nm_r (mw_uc (by omega)) h⟩⟩⟩
theorem yl_ac1 {s : Nat} {post : SY → Prop} (hs' : s < 4) (hW : W ≤ 16) (h10 : ph s = 10) (h : post (nI T, nI W, nI S, lN K, mw_st wv lh ld (s * 16) W, yd, de, dd, lh, le, ld, mw_row hs (fun _ => 0) (s * 16) W, ph, lo, lg, sr, ak, yo, as, yp)) : ∀ d i, i + d = W → wY_act_113 post (nI s) (nI T) (nI W) (nI S) (lN K) (d + 1) (nI i) (mw_st wv lh ld (s * 16) i) yd de dd lh le ld (mw_row hs (fun _ => 0) (s * 16) i) ph lo lg sr ak yo as yp := by
  intro d
  induction d with
  | zero =>
    intro i hi
    have e : i = W := by omega
    subst e
    exact br_t (nI_le (Nat.le_refl _) (by omega)) h
  | succ d ih =>
    intro i hi
    have hi2 : i < 16 := by omega
    have c := mw_cl hs' hi2
    have v := mw_in hs' hi2
    have q := ih (i + 1) (by omega)
    have k := mw_row_s hs (fun _ => 0) (s * 16) i
    by_cases z : lh (s * 16 + i) = 0
    · rw [← mw_st_n z] at q
      exact br_f (nI_ge (by omega) (by omega)) ⟨vp_in_nI hs' (by decide), br_t (by rw [nI_clamp (by omega)]; exact h10) ⟨v, br_t (by rw [c]; exact z) ⟨v, nm_r ((mw_ub0 hs' hi2).trans k) (nm_r (nI_1 i) q)⟩⟩⟩
    · exact br_f (nI_ge (by omega) (by omega)) ⟨vp_in_nI hs' (by decide), br_t (by rw [nI_clamp (by omega)]; exact h10) ⟨v, br_f (by rw [c]; exact z) ⟨v, vp_in_nI hi2 (by decide), nm_r (e' := mw_st wv lh ld (s * 16) (i + 1)) (by rw [c, nI_clamp (by omega)]; exact mw_st_y z) ⟨v, nm_r ((mw_ub0 hs' hi2).trans k) (nm_r (nI_1 i) q)⟩⟩⟩⟩
theorem yl_ac2 {s : Nat} {post : SY → Prop} (hs' : s < 4) (hW : W ≤ 16) (h10 : ph s ≠ 10) (h : post (nI T, nI W, nI S, lN K, wv, yd, de, dd, lh, le, ld, mw_row hs (fun _ => 0) (s * 16) W, ph, lo, lg, sr, ak, yo, as, yp)) : ∀ d i, i + d = W → wY_act_113 post (nI s) (nI T) (nI W) (nI S) (lN K) (d + 1) (nI i) wv yd de dd lh le ld (mw_row hs (fun _ => 0) (s * 16) i) ph lo lg sr ak yo as yp := by
  intro d
  induction d with
  | zero =>
    intro i hi
    have e : i = W := by omega
    subst e
    exact br_t (nI_le (Nat.le_refl _) (by omega)) h
  | succ d ih =>
    intro i hi
    have hi2 : i < 16 := by omega
    have v := mw_in hs' hi2
    have q := ih (i + 1) (by omega)
    have k := mw_row_s hs (fun _ => 0) (s * 16) i
    exact br_f (nI_ge (by omega) (by omega)) ⟨vp_in_nI hs' (by decide), br_f (by rw [nI_clamp (by omega)]; exact h10) ⟨v, nm_r ((mw_ub0 hs' hi2).trans k) (nm_r (nI_1 i) q)⟩⟩
end
