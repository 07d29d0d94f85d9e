/-! 07: look, and the turn -/
section
variable {T W S K : Nat} {wv wh ds xd yd de dd ph ra sh lh se le sd ld hs ak ao ap al yo yp lo lg : Nat → Int32} {sr as : Nat → Int64}
theorem tn_x9 {t n : Nat} {post : SX → Prop} (ht : t < 4) (q : ph t = 9) (h : wX_settle_5 (fun u => post u) (nI t) (nI T) (nI W) (nI S) wv wh ds xd de dd ph ra sh se sd ak ao ap al lo lg n (nI t) (nI 0)) : wpX_look post (nI T, nI W, nI S, wv, wh, ds, xd, de, dd, ph, ra, sh, se, sd, ak, ao, ap, al, lo, lg) (nI t) := by
  have c : (nI t).toNatClampNeg = t := nI_clamp (by omega)
  have v4 : vp_in (nI t) 4 := vp_in_nI ht (by decide)
  exact ⟨v4, br_f (by rw [c, q]; decide) ⟨v4, br_t (by rw [c]; exact q) ⟨n, h⟩⟩⟩
theorem tn_y9 {t n : Nat} {post : Int32 → SY → Prop} (ht : t < 4) (q : ph t = 9) (h : wY_look_85 post (nI t) (nI T) (nI W) (nI S) (lN K) wv yd de dd lh le ld hs ph lo lg sr ak yo as yp n (nI t) (nI 0)) : wpY_look post (nI T, nI W, nI S, lN K, wv, yd, de, dd, lh, le, ld, hs, ph, lo, lg, sr, ak, yo, as, yp) (nI t) := by
  have c : (nI t).toNatClampNeg = t := nI_clamp (by omega)
  have v4 : vp_in (nI t) 4 := vp_in_nI ht (by decide)
  exact ⟨v4, br_f (by rw [c, q]; decide) ⟨v4, br_f (by rw [c, q]; decide) ⟨v4, br_f (by rw [c, q]; decide) ⟨n, h⟩⟩⟩⟩
theorem tn_xf {t : Nat} {post : SX → Prop} (ht : t < 4) (q : ph t = 10 ∨ ph t = 11) (h : post (nI T, nI W, nI S, wv, wh, ds, xd, de, dd, upd ph t 5, ra, sh, se, sd, upd ak t 14, upd ao t (-1), upd ap t (-1), upd al t 0, upd lo t (ph t), lg)) : wpX_look post (nI T, nI W, nI S, wv, wh, ds, xd, de, dd, ph, ra, sh, se, sd, ak, ao, ap, al, lo, lg) (nI t) := by
  have c : (nI t).toNatClampNeg = t := nI_clamp (by omega)
  have v4 : vp_in (nI t) 4 := vp_in_nI ht (by decide)
  have n9 : ¬ ph t = 9 := by rcases q with q | q <;> rw [q] <;> decide
  have n8 : ¬ ph t = 8 := by rcases q with q | q <;> rw [q] <;> decide
  exact ⟨v4, br_f (by rw [c]; exact n8) ⟨v4, br_f (by rw [c]; exact n9) ⟨v4, by rw [c]; exact xa_fi ht h⟩⟩⟩
theorem tn_yf {t : Nat} {post : Int32 → SY → Prop} (ht : t < 4) (q : ph t = 10 ∨ ph t = 11) (h : post 1 (nI T, nI W, nI S, lN K, wv, yd, de, dd, lh, le, ld, hs, upd ph t 5, upd lo t (ph t), lg, sr, upd ak t 14, yo, as, yp)) : wpY_look post (nI T, nI W, nI S, lN K, wv, yd, de, dd, lh, le, ld, hs, ph, lo, lg, sr, ak, yo, as, yp) (nI t) := by
  have c : (nI t).toNatClampNeg = t := nI_clamp (by omega)
  have v4 : vp_in (nI t) 4 := vp_in_nI ht (by decide)
  have F : wY_look_22 post (nI t) (nI T) (nI W) (nI S) (lN K) wv yd de dd lh le ld hs ph lo lg sr ak yo as yp := ⟨v4, by rw [c]; exact ya_fi ht ⟨rfl, h⟩⟩
  rcases q with q | q
  · exact ⟨v4, br_t (by rw [c]; exact q) F⟩
  · exact ⟨v4, br_f (by rw [c, q]; decide) ⟨v4, br_t (by rw [c]; exact q) F⟩⟩
theorem tn_x8n {t r : Nat} {post : SX → Prop} (ht : t < 4) (hr : r < 16) (q : ph t = 8) (er : ra t = nI r) (z : wh r = -1) (h : post (nI T, nI W, nI S, wv, wh, ds, xd, de, dd, upd ph t 5, ra, sh, se, sd, upd ak t 14, upd ao t (-1), upd ap t (-1), upd al t 0, upd lo t 13, upd lg t (wv r))) : wpX_look post (nI T, nI W, nI S, wv, wh, ds, xd, de, dd, ph, ra, sh, se, sd, ak, ao, ap, al, lo, lg) (nI t) := by
  have c : (nI t).toNatClampNeg = t := nI_clamp (by omega)
  have v4 : vp_in (nI t) 4 := vp_in_nI ht (by decide)
  have vr : vp_in (nI r) 16 := vp_in_nI hr (by decide)
  have cr : (nI r).toNatClampNeg = r := nI_clamp (by omega)
  exact ⟨v4, br_t (by rw [c]; exact q) ⟨v4, nm_r (e' := nI r) (by rw [c]; exact er) ⟨vr, nm_r (e' := -1) (by rw [cr]; exact z) (br_t rfl ⟨vr, v4, nm_r (e' := upd lg t (wv r)) (by rw [c, cr]) (xa_fi ht h)⟩)⟩⟩⟩
theorem tn_x8s {t r s n : Nat} {post : SX → Prop} (ht : t < 4) (hr : r < 16) (hs' : s < 4) (q : ph t = 8) (er : ra t = nI r) (z : wh r = nI s) (h : wX_settle_5 (fun u => post u) (nI t) (nI T) (nI W) (nI S) wv wh ds xd de dd ph ra sh se sd ak ao ap al lo lg n (nI s) (nI 0)) : wpX_look post (nI T, nI W, nI S, wv, wh, ds, xd, de, dd, ph, ra, sh, se, sd, ak, ao, ap, al, lo, lg) (nI t) := by
  have c : (nI t).toNatClampNeg = t := nI_clamp (by omega)
  have v4 : vp_in (nI t) 4 := vp_in_nI ht (by decide)
  have vr : vp_in (nI r) 16 := vp_in_nI hr (by decide)
  have cr : (nI r).toNatClampNeg = r := nI_clamp (by omega)
  exact ⟨v4, br_t (by rw [c]; exact q) ⟨v4, nm_r (e' := nI r) (by rw [c]; exact er) ⟨vr, nm_r (e' := nI s) (by rw [cr]; exact z) (br_f (mw_nm (by omega)) ⟨n, h⟩)⟩⟩⟩
theorem tn_ym {t r : Nat} {post : Int32 → Prop} (hT : T ≤ 4) (ht : t < T) (hW : W ≤ 16) (hr : r < W) (hH : mw_H T W wh hs ph) (q : ph t = 8) (q3 : ∀ a, a < W → lh (t * 16 + a) = if a = r then 1 else 0) (h : post (nI r)) : wpY_lowestMissing post (nI T, nI W, nI S, lN K, wv, yd, de, dd, lh, le, ld, hs, ph, lo, lg, sr, ak, yo, as, yp) (nI t) := by
  have n9 : ph t ≠ 9 := by rw [q]; decide
  have ne : wh r ≠ nI t := by
    intro z
    rcases (hH r hr).1 with y | ⟨s, h1, h2, h3⟩
    · exact mw_nm (a := t) (by omega) (z.symm.trans y)
    · have e : s = t := mw_inj (by omega) (by omega) (h2.symm.trans z)
      exact n9 (e ▸ h3)
  refine ya_lm (m := r) (by omega) hW (by omega) (fun b hb hn => ?_) (fun _ => ?_) (by rw [if_pos hr]; exact h)
  · rw [q3 b (by omega), if_neg (by omega)] at hn
    exact absurd rfl hn
  · rw [q3 r hr, if_pos rfl, (hH r hr).2 t ht, if_neg ne]
    exact ⟨mw_10, rfl⟩
theorem tn_y8n {t r : Nat} {post : Int32 → SY → Prop} (hT : T ≤ 4) (ht : t < T) (hW : W ≤ 16) (hr : r < W) (hH : mw_H T W wh hs ph) (q : ph t = 8) (q3 : ∀ a, a < W → lh (t * 16 + a) = if a = r then 1 else 0) (z : wh r = -1) (h : post 1 (nI T, nI W, nI S, lN K, wv, yd, de, dd, lh, le, ld, hs, upd ph t 5, upd lo t 13, upd lg t (wv r), sr, upd ak t 14, yo, as, yp)) : wpY_look post (nI T, nI W, nI S, lN K, wv, yd, de, dd, lh, le, ld, hs, ph, lo, lg, sr, ak, yo, as, yp) (nI t) := by
  have c : (nI t).toNatClampNeg = t := nI_clamp (by omega)
  have v4 : vp_in (nI t) 4 := vp_in_nI (by omega) (by decide)
  refine ⟨v4, br_f (by rw [c, q]; decide) ⟨v4, br_f (by rw [c, q]; decide) ⟨v4, br_t (by rw [c]; exact q) ?_⟩⟩⟩
  refine tn_ym hT ht hW hr hH q q3 ?_
  refine ya_ho hT hr hW hH z ?_
  refine br_t rfl ?_
  refine ya_va hr hW ?_
  refine ⟨v4, nm_r (mw_uc (by omega)) ?_⟩
  exact ya_fi (by omega) ⟨rfl, h⟩
theorem tn_y8s {t r s n : Nat} {post : Int32 → SY → Prop} (hT : T ≤ 4) (ht : t < T) (hW : W ≤ 16) (hr : r < W) (hs' : s < 4) (hH : mw_H T W wh hs ph) (q : ph t = 8) (q3 : ∀ a, a < W → lh (t * 16 + a) = if a = r then 1 else 0) (z : wh r = nI s) (h : wY_look_85 post (nI t) (nI T) (nI W) (nI S) (lN K) wv yd de dd lh le ld hs ph lo lg sr ak yo as yp n (nI s) (nI 0)) : wpY_look post (nI T, nI W, nI S, lN K, wv, yd, de, dd, lh, le, ld, hs, ph, lo, lg, sr, ak, yo, as, yp) (nI t) := by
  have c : (nI t).toNatClampNeg = t := nI_clamp (by omega)
  have v4 : vp_in (nI t) 4 := vp_in_nI (by omega) (by decide)
  refine ⟨v4, br_f (by rw [c, q]; decide) ⟨v4, br_f (by rw [c, q]; decide) ⟨v4, br_t (by rw [c]; exact q) ?_⟩⟩⟩
  refine tn_ym hT ht hW hr hH q q3 ?_
  refine ya_ho hT hr hW hH z ?_
  exact br_f (mw_nm (by omega)) ⟨n, h⟩
theorem tn_st {t w : Nat} (hT : T ≤ 4) (hW : W ≤ 16) (hL : mw_L T W ph ra sh lh se le sd ld) (hH : mw_H T W wh hs ph) (hP : mw_P T W wh sh) (ht : t < T) (hw : w < T) (h9 : ph w = 9) : ∃ (kind p : Int32) (s : Nat), mw_Ok T W ph wh sh kind p s ∧ (∀ post : SX → Prop, post (nI T, nI W, nI S, wv, wh, ds, xd, de, dd, ph, ra, sh, se, sd, upd ak t kind, upd ao t (nI s), upd ap t p, upd al t 0, lo, lg) → wX_settle_5 post (nI t) (nI T) (nI W) (nI S) wv wh ds xd de dd ph ra sh se sd ak ao ap al lo lg (T + 1) (nI w) (nI 0)) ∧ (∀ post : Int32 → SY → Prop, post 0 (nI T, nI W, nI S, lN K, wv, yd, de, dd, lh, le, ld, hs, ph, lo, lg, sr, upd ak t kind, upd yo t (nI s), vp_updL as t (sr s), upd yp t p) → wY_look_85 post (nI t) (nI T) (nI W) (nI S) (lN K) wv yd de dd lh le ld hs ph lo lg sr ak yo as yp (T + 1) (nI w) (nI 0)) :=
  tn_set hT hW hL hH hP ht T 0 w (by omega) hw h9 (by have := mw_mu_t (L := mw_low sh wh W) hT hw; omega)
end
