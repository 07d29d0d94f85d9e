/-! 08: look and the turn over the relation -/
section
variable {T W S K : Nat}
theorem tn_look {u : SX} {v : SY} {t : Nat} (I : mw_I T W S K u v) (ht : t < T) (h5 : mw_ph u t ≠ 5) : ∃ (r : Int32) (u' : SX) (v' : SY), mw_I T W S K u' v' ∧ ((r = 1 ∧ mw_ph u' t = 5) ∨ (r = 0 ∧ mw_ph u' t ≠ 5)) ∧ (∀ post : SX → Prop, post u' → wpX_look post u (nI t)) ∧ (∀ post : Int32 → SY → Prop, post r v' → wpY_look post v (nI t)) := by
  obtain ⟨wv, wh, ds, xd, yd, de, dd, ph, ra, sh, lh, se, le, sd, ld, hs, ak, ao, ap, al, yo, yp, lo, lg, sr, as, rfl, rfl, hB, hD, hL, hH, hP, hA, hS⟩ := I
  have hT : T ≤ 4 := hB.2.1
  have hW : W ≤ 16 := hB.2.2.2.1
  have h5' : ph t ≠ 5 := h5
  have ht4 : t < 4 := by omega
  rcases hL t ht with ⟨q | q, _⟩ | ⟨q, r, hr, er, q3⟩ | q
  · obtain ⟨kind, p, s, ok, hX, hY⟩ := tn_st (S := S) (K := K) (wv := wv) (wh := wh) (ds := ds) (xd := xd) (yd := yd) (de := de) (dd := dd) (ak := ak) (ao := ao) (ap := ap) (al := al) (yo := yo) (yp := yp) (lo := lo) (lg := lg) (sr := sr) (as := as) hT hW hL hH hP ht ht q
    exact ⟨0, (nI T, nI W, nI S, wv, wh, ds, xd, de, dd, ph, ra, sh, se, sd, upd ak t kind, upd ao t (nI s), upd ap t p, upd al t 0, lo, lg), (nI T, nI W, nI S, lN K, wv, yd, de, dd, lh, le, ld, hs, ph, lo, lg, sr, upd ak t kind, upd yo t (nI s), vp_updL as t (sr s), upd yp t p), mw_mk hB hD hL hH hP (mw_A_set hS hA ok) hS, Or.inr ⟨rfl, h5'⟩, fun post h => tn_x9 ht4 q (hX _ h), fun post h => tn_y9 ht4 q (hY _ h)⟩
  · have n9 : ph t ≠ 9 := by rcases q with q | q <;> rw [q] <;> decide
    exact ⟨1, (nI T, nI W, nI S, wv, wh, ds, xd, de, dd, upd ph t 5, ra, sh, se, sd, upd ak t 14, upd ao t (-1), upd ap t (-1), upd al t 0, upd lo t (ph t), lg), (nI T, nI W, nI S, lN K, wv, yd, de, dd, lh, le, ld, hs, upd ph t 5, upd lo t (ph t), lg, sr, upd ak t 14, yo, as, yp), mw_mk hB hD (mw_L_fin hL) (mw_H_ph hH n9) hP (mw_A_fin (mw_A_ph hA n9 (by decide))) hS, Or.inl ⟨rfl, pk_us⟩, fun post h => tn_xf ht4 q h, fun post h => tn_yf ht4 q h⟩
  · have n9 : ph t ≠ 9 := by rw [q]; decide
    have hr16 : r < 16 := by omega
    rcases (hH r hr).1 with z | ⟨s', hs', z, h9'⟩
    · exact ⟨1, (nI T, nI W, nI S, wv, wh, ds, xd, de, dd, upd ph t 5, ra, sh, se, sd, upd ak t 14, upd ao t (-1), upd ap t (-1), upd al t 0, upd lo t 13, upd lg t (wv r)), (nI T, nI W, nI S, lN K, wv, yd, de, dd, lh, le, ld, hs, upd ph t 5, upd lo t 13, upd lg t (wv r), sr, upd ak t 14, yo, as, yp), mw_mk hB hD (mw_L_fin hL) (mw_H_ph hH n9) hP (mw_A_fin (mw_A_ph hA n9 (by decide))) hS, Or.inl ⟨rfl, pk_us⟩, fun post h => tn_x8n ht4 hr16 q er z h, fun post h => tn_y8n hT ht hW hr hH q q3 z h⟩
    · obtain ⟨kind, p, s, ok, hX, hY⟩ := tn_st (S := S) (K := K) (wv := wv) (wh := wh) (ds := ds) (xd := xd) (yd := yd) (de := de) (dd := dd) (ak := ak) (ao := ao) (ap := ap) (al := al) (yo := yo) (yp := yp) (lo := lo) (lg := lg) (sr := sr) (as := as) hT hW hL hH hP ht hs' h9'
      exact ⟨0, (nI T, nI W, nI S, wv, wh, ds, xd, de, dd, ph, ra, sh, se, sd, upd ak t kind, upd ao t (nI s), upd ap t p, upd al t 0, lo, lg), (nI T, nI W, nI S, lN K, wv, yd, de, dd, lh, le, ld, hs, ph, lo, lg, sr, upd ak t kind, upd yo t (nI s), vp_updL as t (sr s), upd yp t p), mw_mk hB hD hL hH hP (mw_A_set hS hA ok) hS, Or.inr ⟨rfl, h5'⟩, fun post h => tn_x8s ht4 hr16 (by omega) q er z (hX _ h), fun post h => tn_y8s hT ht hW hr (by omega) hH q q3 z (hY _ h)⟩
  · exact absurd q h5'
theorem tn_turn {u : SX} {v : SY} {t : Nat} (I : mw_I T W S K u v) (ht : t < T) (h5 : mw_ph u t ≠ 5) : ∃ (r : Int32) (u' : SX) (v' : SY), mw_I T W S K u' v' ∧ ((r = 1 ∧ mw_ph u' t = 5) ∨ (r = 0 ∧ mw_ph u' t ≠ 5)) ∧ (∀ post : SX → Prop, post u' → wpX_takeTurn post u (nI t)) ∧ (∀ post : Int32 → SY → Prop, post r v' → wpY_turn post v (nI t)) := by
  obtain ⟨u1, v1, I1, p1, hX1, hY1⟩ := tn_act I ht h5
  obtain ⟨r, u2, v2, I2, hr, hX2, hY2⟩ := tn_look I1 ht p1
  refine ⟨r, u2, v2, I2, hr, fun post h => ?_, fun post h => ?_⟩
  · clear I I1 I2 hY1 hY2 hr h5 p1
    obtain ⟨a1, a2, a3, a4, a5, a6, a7, a8, a9, a10, a11, a12, a13, a14, a15, a16, a17, a18, a19, a20⟩ := u
    obtain ⟨b1, b2, b3, b4, b5, b6, b7, b8, b9, b10, b11, b12, b13, b14, b15, b16, b17, b18, b19, b20⟩ := u1
    obtain ⟨d1, d2, d3, d4, d5, d6, d7, d8, d9, d10, d11, d12, d13, d14, d15, d16, d17, d18, d19, d20⟩ := u2
    unfold wpX_takeTurn
    dsimp only
    exact hX1 _ (hX2 _ h)
  · have hn : narrow .boolean (.int r) = .int r := by
      rcases hr with ⟨e, _⟩ | ⟨e, _⟩
      · rw [e]; rfl
      · rw [e]; rfl
    clear I I1 I2 hX1 hX2 hr h5 p1
    obtain ⟨a1, a2, a3, a4, a5, a6, a7, a8, a9, a10, a11, a12, a13, a14, a15, a16, a17, a18, a19, a20⟩ := v
    obtain ⟨b1, b2, b3, b4, b5, b6, b7, b8, b9, b10, b11, b12, b13, b14, b15, b16, b17, b18, b19, b20⟩ := v1
    obtain ⟨d1, d2, d3, d4, d5, d6, d7, d8, d9, d10, d11, d12, d13, d14, d15, d16, d17, d18, d19, d20⟩ := v2
    unfold wpY_turn
    dsimp only
    exact hY1 _ (hY2 _ ⟨hn, h⟩)
end
