/-! 07: look, and the turn -/
section
variable {T W S K : Nat} {wv wh ds xd yd de dd ph ra sh lh se le sd ld hs ak ao ap al yo yp lo lg : Nat → Int32} {sr as : Nat → Int64}
theorem tn_x9 {t w n : Nat} {post : SX → Prop} (ht : t < 4) (q : ph t = 9) (h : wX_settle_5 (fun u => post u) (nI t) (nI T) (nI W) (nI S) wv wh ds xd de dd ph ra sh se sd ak ao ap al lo lg n (nI t) (nI 0)) : wpX_look post (nI T, nI W, nI S, wv, wh, ds, xd, de, dd, ph, ra, sh, se, sd, ak, ao, ap, al, lo, lg) (nI t) := by
  have c : (nI t).toNatClampNeg = t := nI_clamp (by omega)
  have v4 : vp_in (nI t) 4 := vp_in_nI ht (by decide)
  exact ⟨v4, br_f (by rw [c, q]; decide) ⟨v4, br_t (by rw [c]; exact q) ⟨n, h⟩⟩⟩
theorem tn_y9 {t n : Nat} {post : Int32 → SY → Prop} (ht : t < 4) (q : ph t = 9) (h : wY_look_85 post (nI t) (nI T) (nI W) (nI S) (lN K) wv yd de dd lh le ld hs ph lo lg sr ak yo as yp n (nI t) (nI 0)) : wpY_look post (nI T, nI W, nI S, lN K, wv, yd, de, dd, lh, le, ld, hs, ph, lo, lg, sr, ak, yo, as, yp) (nI t) := by
  have c : (nI t).toNatClampNeg = t := nI_clamp (by omega)
  have v4 : vp_in (nI t) 4 := vp_in_nI ht (by decide)
  exact ⟨v4, br_f (by rw [c, q]; decide) ⟨v4, br_f (by rw [c, q]; decide) ⟨v4, br_f (by rw [c, q]; decide) ⟨n, h⟩⟩⟩⟩
theorem tn_xf {t : Nat} {post : SX → Prop} (ht : t < 4) (q : ph t = 10 ∨ ph t = 11) (h : post (nI T, nI W, nI S, wv, wh, ds, xd, de, dd, upd ph t 5, ra, sh, se, sd, upd ak t 14, upd ao t (-1), upd ap t (-1), upd al t 0, upd lo t (ph t), lg)) : wpX_look post (nI T, nI W, nI S, wv, wh, ds, xd, de, dd, ph, ra, sh, se, sd, ak, ao, ap, al, lo, lg) (nI t) := by
  have c : (nI t).toNatClampNeg = t := nI_clamp (by omega)
  have v4 : vp_in (nI t) 4 := vp_in_nI ht (by decide)
  have n9 : ¬ ph t = 9 := by rcases q with q | q <;> rw [q] <;> decide
  have n8 : ¬ ph t = 8 := by rcases q with q | q <;> rw [q] <;> decide
  exact ⟨v4, br_f (by rw [c]; exact n8) ⟨v4, br_f (by rw [c]; exact n9) ⟨v4, by rw [c]; exact xa_fi ht h⟩⟩⟩
theorem tn_yf {t : Nat} {post : Int32 → SY → Prop} (ht : t < 4) (q : ph t = 10 ∨ ph t = 11) (h : post 1 (nI T, nI W, nI S, lN K, wv, yd, de, dd, lh, le, ld, hs, upd ph t 5, upd lo t (ph t), lg, sr, upd ak t 14, yo, as, yp)) : wpY_look post (nI T, nI W, nI S, lN K, wv, yd, de, dd, lh, le, ld, hs, ph, lo, lg, sr, ak, yo, as, yp) (nI t) := by
  have c : (nI t).toNatClampNeg = t := nI_clamp (by omega)
  have v4 : vp_in (nI t) 4 := vp_in_nI ht (by decide)
  have F : wY_look_22 post (nI t) (nI T) (nI W) (nI S) (lN K) wv yd de dd lh le ld hs ph lo lg sr ak yo as yp := ⟨v4, by rw [c]; exact ya_fi ht ⟨rfl, h⟩⟩
  rcases q with q | q
  · exact ⟨v4, br_t (by rw [c]; exact q) F⟩
  · exact ⟨v4, br_f (by rw [c, q]; decide) ⟨v4, br_t (by rw [c]; exact q) F⟩⟩
theorem tn_x8n {t r : Nat} {post : SX → Prop} (ht : t < 4) (hr : r < 16) (q : ph t = 8) (er : ra t = nI r) (z : wh r = -1) (h : post (nI T, nI W, nI S, wv, wh, ds, xd, de, dd, upd ph t 5, ra, sh, se, sd, upd ak t 14, upd ao t (-1), upd ap t (-1), upd al t 0, upd lo t 13, upd lg t (wv r))) : wpX_look post (nI T, nI W, nI S, wv, wh, ds, xd, de, dd, ph, ra, sh, se, sd, ak, ao, ap, al, lo, lg) (nI t) := by
  have c : (nI t).toNatClampNeg = t := nI_clamp (by omega)
  have v4 : vp_in (nI t) 4 := vp_in_nI ht (by decide)
  have vr : vp_in (nI r) 16 := vp_in_nI hr (by decide)
  have cr : (nI r).toNatClampNeg = r := nI_clamp (by omega)
  exact ⟨v4, br_t (by rw [c]; exact q) ⟨v4, nm_r (e' := nI r) (by rw [c]; exact er) ⟨vr, nm_r (e' := -1) (by rw [cr]; exact z) (br_t rfl ⟨vr, v4, nm_r (e' := upd lg t (wv r)) (by rw [c, cr]) (xa_fi ht h)⟩)⟩⟩⟩
theorem tn_x8s {t r s n : Nat} {post : SX → Prop} (ht : t < 4) (hr : r < 16) (hs' : s < 4) (q : ph t = 8) (er : ra t = nI r) (z : wh r = nI s) (h : wX_settle_5 (fun u => post u) (nI t) (nI T) (nI W) (nI S) wv wh ds xd de dd ph ra sh se sd ak ao ap al lo lg n (nI s) (nI 0)) : wpX_look post (nI T, nI W, nI S, wv, wh, ds, xd, de, dd, ph, ra, sh, se, sd, ak, ao, ap, al, lo, lg) (nI t) := by
  have c : (nI t).toNatClampNeg = t := nI_clamp (by omega)
  have v4 : vp_in (nI t) 4 := vp_in_nI ht (by decide)
  have vr : vp_in (nI r) 16 := vp_in_nI hr (by decide)
  have cr : (nI r).toNatClampNeg = r := nI_clamp (by omega)
  exact ⟨v4, br_t (by rw [c]; exact q) ⟨v4, nm_r (e' := nI r) (by rw [c]; exact er) ⟨vr, nm_r (e' := nI s) (by rw [cr]; exact z) (br_f (mw_nm (by omega)) ⟨n, h⟩)⟩⟩⟩
end
