/-! 11: term on both sides, and the refused calls of Y's methods that open with a check -/
section
variable {T W S K : Nat} {wv wh ds xd yd de dd ph ra sh lh se le sd ld hs ak ao ap al yo yp lo lg : Nat → Int32} {sr as : Nat → Int64} {t a : Nat} {x : Int32} {post : Int32 → Prop}
theorem ya_ho1 (hx : x < 0 ∨ nI W ≤ x) (h : post (-1)) : wpY_holder post (nI T, nI W, nI S, lN K, wv, yd, de, dd, lh, le, ld, hs, ph, lo, lg, sr, ak, yo, as, yp) x := by
  unfold wpY_holder
  dsimp only
  exact ya_bw1 hx (br_f mw_10 h)
theorem ya_dr1 {post : Int32 → SY → Prop} (hx : x < 0 ∨ nI T ≤ x) (h : post 0 (nI T, nI W, nI S, lN K, wv, yd, de, dd, lh, le, ld, hs, ph, lo, lg, sr, ak, yo, as, yp)) : wpY_drop post (nI T, nI W, nI S, lN K, wv, yd, de, dd, lh, le, ld, hs, ph, lo, lg, sr, ak, yo, as, yp) x := by
  unfold wpY_drop
  dsimp only
  exact ya_bt1 hx (br_f mw_10 h)
theorem ya_lt9 (hx : x < 0 ∨ nI T ≤ x) (h : post 0) : wpY_late post (nI T, nI W, nI S, lN K, wv, yd, de, dd, lh, le, ld, hs, ph, lo, lg, sr, ak, yo, as, yp) x := by
  unfold wpY_late
  dsimp only
  exact ya_bt1 hx (br_f mw_10 h)
theorem yt_d0 (hT : T ≤ 4) (hW : W ≤ 16) (ht : t < T) (ha : a < W) (z : yd (t * 16 + a) = 0) (hx : x = 0 ∨ x = 1 ∨ x = 2) (h : post 0) : wpY_term post (nI T, nI W, nI S, lN K, wv, yd, de, dd, lh, le, ld, hs, ph, lo, lg, sr, ak, yo, as, yp) (nI t) (nI a) x := by
  have c : (nI (t * 16 + a)).toNatClampNeg = t * 16 + a := nI_clamp (by omega)
  have v : vp_in (nI (t * 16 + a)) 64 := vp_in_nI (by omega) (by decide)
  unfold wpY_term
  dsimp only
  rcases hx with rfl | rfl | rfl
  · exact ya_bt0 ht hT (br_t rfl (ya_bw0 ha hW (br_t rfl (nm_r (mw_ix t a) (br_t rfl ⟨v, br_t (by rw [c]; exact z) h⟩)))))
  · exact ya_bt0 ht hT (br_t rfl (ya_bw0 ha hW (br_t rfl (nm_r (mw_ix t a) (br_f (by decide) (br_t rfl ⟨v, br_t (by rw [c]; exact z) h⟩))))))
  · exact ya_bt0 ht hT (br_t rfl (ya_bw0 ha hW (br_t rfl (nm_r (mw_ix t a) (br_f (by decide) (br_f (by decide) (br_t rfl ⟨v, br_t (by rw [c]; exact z) h⟩)))))))
theorem yt_d1 (hT : T ≤ 4) (hW : W ≤ 16) (ht : t < T) (ha : a < W) (z : ¬ yd (t * 16 + a) = 0) (h : post 1) : wpY_term post (nI T, nI W, nI S, lN K, wv, yd, de, dd, lh, le, ld, hs, ph, lo, lg, sr, ak, yo, as, yp) (nI t) (nI a) 0 := by
  have c : (nI (t * 16 + a)).toNatClampNeg = t * 16 + a := nI_clamp (by omega)
  have v : vp_in (nI (t * 16 + a)) 64 := vp_in_nI (by omega) (by decide)
  unfold wpY_term
  dsimp only
  exact ya_bt0 ht hT (br_t rfl (ya_bw0 ha hW (br_t rfl (nm_r (mw_ix t a) (br_t rfl ⟨v, br_f (by rw [c]; exact z) h⟩)))))
theorem yt_d2 (hT : T ≤ 4) (hW : W ≤ 16) (ht : t < T) (ha : a < W) (z : ¬ yd (t * 16 + a) = 0) (h : post (de (t * 16 + a))) : wpY_term post (nI T, nI W, nI S, lN K, wv, yd, de, dd, lh, le, ld, hs, ph, lo, lg, sr, ak, yo, as, yp) (nI t) (nI a) 1 := by
  have c : (nI (t * 16 + a)).toNatClampNeg = t * 16 + a := nI_clamp (by omega)
  have v : vp_in (nI (t * 16 + a)) 64 := vp_in_nI (by omega) (by decide)
  unfold wpY_term
  dsimp only
  exact ya_bt0 ht hT (br_t rfl (ya_bw0 ha hW (br_t rfl (nm_r (mw_ix t a) (br_f (by decide) (br_t rfl ⟨v, br_f (by rw [c]; exact z) ⟨v, by rw [c]; exact h⟩⟩))))))
theorem yt_d3 (hT : T ≤ 4) (hW : W ≤ 16) (ht : t < T) (ha : a < W) (z : ¬ yd (t * 16 + a) = 0) (h : post (dd (t * 16 + a))) : wpY_term post (nI T, nI W, nI S, lN K, wv, yd, de, dd, lh, le, ld, hs, ph, lo, lg, sr, ak, yo, as, yp) (nI t) (nI a) 2 := by
  have c : (nI (t * 16 + a)).toNatClampNeg = t * 16 + a := nI_clamp (by omega)
  have v : vp_in (nI (t * 16 + a)) 64 := vp_in_nI (by omega) (by decide)
  unfold wpY_term
  dsimp only
  exact ya_bt0 ht hT (br_t rfl (ya_bw0 ha hW (br_t rfl (nm_r (mw_ix t a) (br_f (by decide) (br_f (by decide) (br_t rfl ⟨v, br_f (by rw [c]; exact z) ⟨v, by rw [c]; exact h⟩⟩)))))))
/-- beyond the draft's parts: what is left is a hypothesis -/
theorem yt_in (hT : T ≤ 4) (hW : W ≤ 16) (ht : t < T) (ha : a < W) (n0 : ¬ x = 0) (n1 : ¬ x = 1) (n2 : ¬ x = 2) (h : (ph t = 5 → post 0) ∧ (¬ ph t = 5 → (lh (t * 16 + a) = 0 → post 0) ∧ (¬ lh (t * 16 + a) = 0 → (x = 3 → post 1) ∧ (¬ x = 3 → (ph t = 8 → post 0) ∧ (¬ ph t = 8 → (x = 4 → post (le (t * 16 + a))) ∧ (¬ x = 4 → (x = 5 → post (ld (t * 16 + a))) ∧ (¬ x = 5 → post 0))))))) : wpY_term post (nI T, nI W, nI S, lN K, wv, yd, de, dd, lh, le, ld, hs, ph, lo, lg, sr, ak, yo, as, yp) (nI t) (nI a) x := by
  have c : (nI (t * 16 + a)).toNatClampNeg = t * 16 + a := nI_clamp (by omega)
  have c4 : (nI t).toNatClampNeg = t := nI_clamp (by omega)
  have v : vp_in (nI (t * 16 + a)) 64 := vp_in_nI (by omega) (by decide)
  have v4 : vp_in (nI t) 4 := vp_in_nI (by omega) (by decide)
  unfold wpY_term
  dsimp only
  refine ya_bt0 ht hT (br_t rfl (ya_bw0 ha hW (br_t rfl (nm_r (mw_ix t a) (br_f n0 (br_f n1 (br_f n2 ?_)))))))
  rw [c, c4]
  refine ⟨v4, br_c h.1 (fun n5 => ⟨v, br_c (h.2 n5).1 (fun nl => br_c ((h.2 n5).2 nl).1 (fun n3 => ⟨v4, br_c (((h.2 n5).2 nl).2 n3).1 (fun n8 => ?_)⟩))⟩)⟩
  have H := (((h.2 n5).2 nl).2 n3).2 n8
  exact ⟨fun e => ⟨v, H.1 e⟩, fun n4 => ⟨fun e => ⟨v, (H.2 n4).1 e⟩, (H.2 n4).2⟩⟩
theorem xt_li (hT : T ≤ 4) (hW : W ≤ 16) (ht : t < T) (ha : a < W) (hx : x = 3 ∨ x = 4 ∨ x = 5) (h : (ph t = 8 → (x = 3 → (ra t = nI a → post 1) ∧ (¬ ra t = nI a → post 0)) ∧ (¬ x = 3 → post 0)) ∧ (¬ ph t = 8 → (ph t = 5 → post 0) ∧ (¬ ph t = 5 → (sh (t * 16 + a) = 0 → post 0) ∧ (¬ sh (t * 16 + a) = 0 → (x = 3 → post 1) ∧ (¬ x = 3 → (x = 4 → post (se (t * 16 + a))) ∧ (¬ x = 4 → post (sd (t * 16 + a)))))))) : wpX_term post (nI T, nI W, nI S, wv, wh, ds, xd, de, dd, ph, ra, sh, se, sd, ak, ao, ap, al, lo, lg) (nI t) (nI a) x := by
  have c : (nI (t * 16 + a)).toNatClampNeg = t * 16 + a := nI_clamp (by omega)
  have c4 : (nI t).toNatClampNeg = t := nI_clamp (by omega)
  have v : vp_in (nI (t * 16 + a)) 64 := vp_in_nI (by omega) (by decide)
  have v4 : vp_in (nI t) 4 := vp_in_nI (by omega) (by decide)
  have LT : wpX_liveTerm (fun r => post r) (nI T, nI W, nI S, wv, wh, ds, xd, de, dd, ph, ra, sh, se, sd, ak, ao, ap, al, lo, lg) (nI t) (nI a) x := by
    unfold wpX_liveTerm
    dsimp only
    rw [c4]
    refine ⟨v4, fun e8 => ⟨fun e3 => ⟨v4, (h.1 e8).1 e3⟩, (h.1 e8).2⟩, fun n8 => xa_en ?_⟩
    rw [c]
    refine ⟨v4, (h.2 n8).1, fun n5 => ⟨v, ((h.2 n8).2 n5).1, fun nz => ⟨(((h.2 n8).2 n5).2 nz).1, fun n3 => ?_⟩⟩⟩
    have H := (((h.2 n8).2 n5).2 nz).2 n3
    exact ⟨fun e => ⟨v, H.1 e⟩, fun e => ⟨v, H.2 e⟩⟩
  unfold wpX_term
  dsimp only
  refine xa_bt0 ht hT (br_t rfl (xa_ba0 ha hW (br_t rfl ?_)))
  rcases hx with rfl | rfl | rfl
  · exact br_t rfl LT
  · exact br_f (by decide) (br_t rfl LT)
  · exact br_f (by decide) (br_f (by decide) (br_t rfl LT))
theorem xt_dr (hT : T ≤ 4) (hW : W ≤ 16) (ht : t < T) (ha : a < W) (n3 : ¬ x = 3) (n4 : ¬ x = 4) (n5 : ¬ x = 5) (h : (xd (t * 16 + a) = 0 → post 0) ∧ (¬ xd (t * 16 + a) = 0 → (x < 0 → post 0) ∧ (¬ x < 0 → (2 < x → post 0) ∧ (¬ 2 < x → (x = 0 → post 1) ∧ (¬ x = 0 → (x = 1 → post (de (t * 16 + a))) ∧ (¬ x = 1 → (x = 2 → post (dd (t * 16 + a))) ∧ (¬ x = 2 → True))))))) : wpX_term post (nI T, nI W, nI S, wv, wh, ds, xd, de, dd, ph, ra, sh, se, sd, ak, ao, ap, al, lo, lg) (nI t) (nI a) x := by
  have c : (nI (t * 16 + a)).toNatClampNeg = t * 16 + a := nI_clamp (by omega)
  have v : vp_in (nI (t * 16 + a)) 64 := vp_in_nI (by omega) (by decide)
  unfold wpX_term
  dsimp only
  refine xa_bt0 ht hT (br_t rfl (xa_ba0 ha hW (br_t rfl (br_f n3 (br_f n4 (br_f n5 (xa_en ?_)))))))
  rw [c]
  refine ⟨v, h.1, fun nz => ⟨(h.2 nz).1, fun a1 => ⟨((h.2 nz).2 a1).1, fun a2 => ⟨(((h.2 nz).2 a1).2 a2).1, fun a3 => ?_⟩⟩⟩⟩
  have H := (((h.2 nz).2 a1).2 a2).2 a3
  exact ⟨fun e => ⟨v, H.1 e⟩, fun e => ⟨fun e2 => ⟨v, (H.2 e).1 e2⟩, (H.2 e).2⟩⟩
end
