/-! 06: a turn, both sides at once: act, settle, look -/
theorem tn_act {T W S K : Nat} {u : SX} {v : SY} {t : Nat} (I : mw_I T W S K u v) (ht : t < T) (h5 : mw_ph u t ≠ 5) : ∃ (u' : SX) (v' : SY), mw_I T W S K u' v' ∧ mw_ph u' t ≠ 5 ∧ (∀ post : SX → Prop, post u' → wpX_act post u (nI t)) ∧ (∀ post : SY → Prop, post v' → wpY_act post v (nI t)) := by
  have I0 := I
  obtain ⟨wv, wh, ds, xd, yd, de, dd, ph, ra, sh, lh, se, le, sd, ld, hs, ak, ao, ap, al, yo, yp, lo, lg, sr, as, rfl, rfl, hB, hD, hL, hH, hP, hA, hS⟩ := I
  have hT : T ≤ 4 := hB.2.1
  have hW : W ≤ 16 := hB.2.2.2.1
  have h5' : ph t ≠ 5 := h5
  have c : (nI t).toNatClampNeg = t := nI_clamp (by omega)
  have v4 : vp_in (nI t) 4 := vp_in_nI (by omega) (by decide)
  rcases hA t ht with ⟨q1, _, _, _⟩ | ⟨s, m, hs', hm, hk, e1, e2, e3, e4, q⟩
  · exact ⟨_, _, I0, h5, fun post h => ⟨v4, br_t (by rw [c]; exact q1) h⟩, fun post h => ⟨v4, br_t (by rw [c]; exact q1) h⟩⟩
  · have k14 : ak t ≠ 14 := by
      rcases hk with z | z | z
      · rw [z]; decide
      · rw [z]; decide
      · rw [z]; decide
    rcases q with ⟨q1, q2, q3, q4⟩ | ⟨q1, q2⟩
    · have YL : ∀ post : Int32 → Prop, post 0 → wpY_late post (nI T, nI W, nI S, lN K, wv, yd, de, dd, lh, le, ld, hs, ph, lo, lg, sr, ak, yo, as, yp) (nI t) := fun post h => ya_lt0 ht hT k14 hs' e2 q2 (q3.trans e4.symm) h
      have hs4 : s < 4 := by omega
      have vs4 : vp_in (nI s) 4 := vp_in_nI hs4 (by decide)
      have L9 := mw_L_9 hL hs' q2
      by_cases z15 : ak t = 15
      · obtain ⟨p, hp, ep, pre⟩ := q4 z15
        have hp16 : p < 16 := by omega
        by_cases zc : wh p = -1 ∧ wv p = se (s * 16 + p)
        · refine ⟨(nI T, nI W, nI S, wv, upd wh p (nI s), ds, xd, de, dd, ph, ra, sh, se, sd, ak, ao, ap, al, lo, lg), (nI T, nI W, nI S, lN K, wv, yd, de, dd, lh, le, ld, upd hs (s * 16 + p) 1, ph, lo, lg, sr, ak, yo, as, yp), mw_mk hB hD hL (mw_H_cl hT hW hH hs' q2 hp zc.1) (mw_P_cl hT hP hs' zc.1 pre) (mw_A_cl hT hA zc.1) hS, h5, fun post h => ?_, fun post h => ?_⟩
          · exact ⟨v4, br_f (by rw [c]; exact k14) ⟨v4, br_t (by rw [c]; exact q1) ⟨v4, nm_r (e' := nI s) (by rw [c]; exact e1) ⟨v4, br_t (by rw [c]; exact z15) ⟨v4, by rw [c, ep]; exact xa_cl_y hs4 hp16 zc.1 zc.2 h⟩⟩⟩⟩⟩
          · exact ⟨v4, br_f (by rw [c]; exact k14) (YL _ (br_t rfl ⟨v4, nm_r (e' := nI s) (by rw [c]; exact e2) ⟨v4, br_t (by rw [c]; exact z15) ⟨v4, nm_r (e' := nI p) (by rw [c, e3]; exact ep) (ya_ho hT hp hW hH zc.1 (br_t rfl ⟨vp_in_nI hp16 (by decide), mw_in hs4 hp16, br_t (by rw [nI_clamp (by omega), mw_cl hs4 hp16, (L9 p hp).2.1]; exact zc.2) ⟨mw_in hs4 hp16, nm_r (mw_ub1 hs4 hp16) h⟩⟩))⟩⟩⟩))⟩
        · refine ⟨_, _, I0, h5, fun post h => ?_, fun post h => ?_⟩
          · exact ⟨v4, br_f (by rw [c]; exact k14) ⟨v4, br_t (by rw [c]; exact q1) ⟨v4, nm_r (e' := nI s) (by rw [c]; exact e1) ⟨v4, br_t (by rw [c]; exact z15) ⟨v4, by rw [c, ep]; exact xa_cl_n hs4 hp16 zc h⟩⟩⟩⟩⟩
          · by_cases zm : wh p = -1
            · have z2 : ¬ wv p = se (s * 16 + p) := fun q => zc ⟨zm, q⟩
              exact ⟨v4, br_f (by rw [c]; exact k14) (YL _ (br_t rfl ⟨v4, nm_r (e' := nI s) (by rw [c]; exact e2) ⟨v4, br_t (by rw [c]; exact z15) ⟨v4, nm_r (e' := nI p) (by rw [c, e3]; exact ep) (ya_ho hT hp hW hH zm (br_t rfl ⟨vp_in_nI hp16 (by decide), mw_in hs4 hp16, br_f (by rw [nI_clamp (by omega), mw_cl hs4 hp16, (L9 p hp).2.1]; exact z2) h⟩))⟩⟩⟩))⟩
            · exact ⟨v4, br_f (by rw [c]; exact k14) (YL _ (br_t rfl ⟨v4, nm_r (e' := nI s) (by rw [c]; exact e2) ⟨v4, br_t (by rw [c]; exact z15) ⟨v4, nm_r (e' := nI p) (by rw [c, e3]; exact ep) (ya_ho hT hp hW hH rfl (br_f zm h))⟩⟩⟩))⟩
      · by_cases z16 : ak t = 16
        · have p5 : upd ph s 10 t ≠ 5 := by
            by_cases e : t = s
            · rw [e, pk_us]; decide
            · rw [pk_un e]; exact h5'
          refine ⟨(nI T, nI W, nI S, mw_st wv sh sd (s * 16) W, mw_rel wh s W, ds, xd, de, dd, upd ph s 10, ra, sh, se, sd, ak, ao, ap, mw_mrk al ao s T, lo, lg), (nI T, nI W, nI S, lN K, mw_st wv sh sd (s * 16) W, yd, de, dd, lh, le, ld, mw_row hs (fun _ => 0) (s * 16) W, upd ph s 10, lo, lg, sr, ak, yo, as, yp), mw_mk hB hD (mw_L_dec hL q2 (Or.inl rfl)) (mw_H_dec hT hW hH hs') (mw_P_dec hT hP hs') (mw_A_dec hT hA hs' (by decide)) hS, p5, fun post h => ?_, fun post h => ?_⟩
          · exact ⟨v4, br_f (by rw [c]; exact k14) ⟨v4, br_t (by rw [c]; exact q1) ⟨v4, nm_r (e' := nI s) (by rw [c]; exact e1) ⟨v4, br_f (by rw [c]; exact z15) ⟨v4, br_t (by rw [c]; exact z16) (xa_sd hs4 hW (xa_de hs4 hT hW h))⟩⟩⟩⟩⟩
          · have q := yl_ac1 (T := T) (S := S) (K := K) (W := W) (wv := wv) (yd := yd) (de := de) (dd := dd) (lh := lh) (le := le) (ld := ld) (hs := hs) (ph := upd ph s 10) (lo := lo) (lg := lg) (sr := sr) (ak := ak) (yo := yo) (as := as) (yp := yp) (post := post) hs4 hW pk_us (by rw [mw_st_c (fun a ha => ⟨(L9 a ha).1, (L9 a ha).2.2⟩)]; exact h) W 0 (by omega)
            rw [mw_st_0, mw_row_0] at q
            exact ⟨v4, br_f (by rw [c]; exact k14) (YL _ (br_t rfl ⟨v4, nm_r (e' := nI s) (by rw [c]; exact e2) ⟨v4, br_f (by rw [c]; exact z15) ⟨v4, br_t (by rw [c]; exact z16) ⟨vs4, nm_r (mw_uc (by omega)) ⟨W + 1, q⟩⟩⟩⟩⟩))⟩
        · have p5 : upd ph s 11 t ≠ 5 := by
            by_cases e : t = s
            · rw [e, pk_us]; decide
            · rw [pk_un e]; exact h5'
          refine ⟨(nI T, nI W, nI S, wv, mw_rel wh s W, ds, xd, de, dd, upd ph s 11, ra, sh, se, sd, ak, ao, ap, mw_mrk al ao s T, lo, lg), (nI T, nI W, nI S, lN K, wv, yd, de, dd, lh, le, ld, mw_row hs (fun _ => 0) (s * 16) W, upd ph s 11, lo, lg, sr, ak, yo, as, yp), mw_mk hB hD (mw_L_dec hL q2 (Or.inr rfl)) (mw_H_dec hT hW hH hs') (mw_P_dec hT hP hs') (mw_A_dec hT hA hs' (by decide)) hS, p5, fun post h => ?_, fun post h => ?_⟩
          · exact ⟨v4, br_f (by rw [c]; exact k14) ⟨v4, br_t (by rw [c]; exact q1) ⟨v4, nm_r (e' := nI s) (by rw [c]; exact e1) ⟨v4, br_f (by rw [c]; exact z15) ⟨v4, br_f (by rw [c]; exact z16) (xa_de hs4 hT hW h)⟩⟩⟩⟩⟩
          · have q := yl_ac2 (T := T) (S := S) (K := K) (W := W) (wv := wv) (yd := yd) (de := de) (dd := dd) (lh := lh) (le := le) (ld := ld) (hs := hs) (ph := upd ph s 11) (lo := lo) (lg := lg) (sr := sr) (ak := ak) (yo := yo) (as := as) (yp := yp) (post := post) hs4 hW (by rw [pk_us]; decide) h W 0 (by omega)
            rw [mw_row_0] at q
            exact ⟨v4, br_f (by rw [c]; exact k14) (YL _ (br_t rfl ⟨v4, nm_r (e' := nI s) (by rw [c]; exact e2) ⟨v4, br_f (by rw [c]; exact z15) ⟨v4, br_f (by rw [c]; exact z16) ⟨vs4, nm_r (mw_uc (by omega)) ⟨W + 1, q⟩⟩⟩⟩⟩))⟩
    · have q3 : ¬ al t = 0 := by rw [q1]; decide
      have YL : ∀ post : Int32 → Prop, post 1 → wpY_late post (nI T, nI W, nI S, lN K, wv, yd, de, dd, lh, le, ld, hs, ph, lo, lg, sr, ak, yo, as, yp) (nI t) := fun post h => ya_lt1 ht hT k14 hs' e2 (by rw [e4]; exact q2) h
      exact ⟨_, _, I0, h5, fun post h => ⟨v4, br_f (by rw [c]; exact k14) ⟨v4, br_f (by rw [c]; exact q3) h⟩⟩, fun post h => ⟨v4, br_f (by rw [c]; exact k14) (YL _ (br_f mw_10 h))⟩⟩
section
variable {T W S K : Nat} {wv wh ds xd yd de dd ph ra sh lh se le sd ld hs ak ao ap al yo yp lo lg : Nat → Int32} {sr as : Nat → Int64}
theorem tn_set {t : Nat} (hT : T ≤ 4) (hW : W ≤ 16) (hL : mw_L T W ph ra sh lh se le sd ld) (hH : mw_H T W wh hs ph) (hP : mw_P T W wh sh) (ht : t < T) : ∀ d met w, met + d = T → w < T → ph w = 9 → mw_mu (mw_low sh wh W) T (mw_low sh wh W w) < d → ∃ (kind p : Int32) (s : Nat), mw_Ok T W ph wh sh kind p s ∧ (∀ post : SX → Prop, post (nI T, nI W, nI S, wv, wh, ds, xd, de, dd, ph, ra, sh, se, sd, upd ak t kind, upd ao t (nI s), upd ap t p, upd al t 0, lo, lg) → wX_settle_5 post (nI t) (nI T) (nI W) (nI S) wv wh ds xd de dd ph ra sh se sd ak ao ap al lo lg (d + 1) (nI w) (nI met)) ∧ (∀ post : Int32 → SY → Prop, post 0 (nI T, nI W, nI S, lN K, wv, yd, de, dd, lh, le, ld, hs, ph, lo, lg, sr, upd ak t kind, upd yo t (nI s), vp_updL as t (sr s), upd yp t p) → wY_look_85 post (nI t) (nI T) (nI W) (nI S) (lN K) wv yd de dd lh le ld hs ph lo lg sr ak yo as yp (d + 1) (nI w) (nI met)) := by
  intro d
  induction d with
  | zero => intro met w _ _ _ h; omega
  | succ d ih =>
    intro met w hd hw h9 hmu
    have ht4 : t < 4 := by omega
    have hw4 : w < 4 := by omega
    have cT : ¬ nI T ≤ nI met := nI_ge (by omega) (by omega)
    have c4 : ¬ (4 : Int32) ≤ nI met := nI_ge (b := 4) (by omega) (by decide)
    obtain ⟨l1, l2, l3⟩ := mw_low_s sh wh W w
    have L9 := mw_L_9 hL hw h9
    have YM : ∀ post : Int32 → Prop, post (if mw_low sh wh W w < W then nI (mw_low sh wh W w) else -1) → wpY_lowestMissing post (nI T, nI W, nI S, lN K, wv, yd, de, dd, lh, le, ld, hs, ph, lo, lg, sr, ak, yo, as, yp) (nI w) := fun post h => ya_lmw hT hw hW hL hH h9 h
    by_cases hm : mw_low sh wh W w < W
    · rw [if_pos hm] at YM
      have XM : ∀ post : Int32 → Prop, post (nI (mw_low sh wh W w)) → wpX_lowestNotHeld post (nI T, nI W, nI S, wv, wh, ds, xd, de, dd, ph, ra, sh, se, sd, ak, ao, ap, al, lo, lg) (nI w) := fun post h => xa_lo_y hw4 hW hm h
      have mupos : ∀ w' : Nat, w' < T → mw_low sh wh W w < mw_low sh wh W w' → mw_mu (mw_low sh wh W) T (mw_low sh wh W w') < mw_mu (mw_low sh wh W) T (mw_low sh wh W w) := fun w' h1 h2 => mw_mu_l (L := mw_low sh wh W) hT h1 h2
      generalize mw_low sh wh W w = m at *
      have hm16 : m < 16 := by omega
      have vm : vp_in (nI m) 16 := vp_in_nI hm16 (by decide)
      have cm : (nI m).toNatClampNeg = m := nI_clamp (by omega)
      have nm : ¬ nI m = -1 := mw_nm (by omega)
      rcases (hH m hm).1 with z | ⟨s', hs', z, h9'⟩
      · by_cases q : wv m = se (w * 16 + m)
        · refine ⟨15, nI m, w, ⟨hw, h9, Or.inr ⟨Or.inl rfl, m, hm, rfl, l2⟩⟩, fun post hp => ?_, fun post hp => ?_⟩
          · exact br_f cT (XM _ (br_f nm ⟨vm, br_t (by rw [cm]; exact z) ⟨vm, xa_en ⟨vp_in_nI (by omega) (by decide), br_t (by rw [cm, nI_clamp (by omega)]; exact q) (xa_sa ht4 hp)⟩⟩⟩))
          · exact br_f c4 (YM _ (br_f nm (ya_ho hT hm hW hH z (br_t rfl ⟨vm, mw_in hw4 hm16, br_t (by rw [cm, mw_cl hw4 hm16, (L9 m hm).2.1]; exact q) (ya_sa ht4 hw4 ⟨rfl, hp⟩)⟩))))
        · refine ⟨17, nI m, w, ⟨hw, h9, Or.inr ⟨Or.inr rfl, m, hm, rfl, l2⟩⟩, fun post hp => ?_, fun post hp => ?_⟩
          · exact br_f cT (XM _ (br_f nm ⟨vm, br_t (by rw [cm]; exact z) ⟨vm, xa_en ⟨vp_in_nI (by omega) (by decide), br_f (by rw [cm, nI_clamp (by omega)]; exact q) (xa_sa ht4 hp)⟩⟩⟩))
          · exact br_f c4 (YM _ (br_f nm (ya_ho hT hm hW hH z (br_t rfl ⟨vm, mw_in hw4 hm16, br_f (by rw [cm, mw_cl hw4 hm16, (L9 m hm).2.1]; exact q) (ya_sa ht4 hw4 ⟨rfl, hp⟩)⟩))))
      · have z1 : ¬ nI s' = -1 := mw_nm (by omega)
        have z2 : ¬ wh m = -1 := by rw [z]; exact z1
        have lt := mupos s' hs' (mw_P_low hP hm hs' z)
        obtain ⟨kind, p, s, ok, hX, hY⟩ := ih (met + 1) s' (by omega) hs' h9' (by omega)
        refine ⟨kind, p, s, ok, fun post hp => ?_, fun post hp => ?_⟩
        · exact br_f cT (XM _ (br_f nm ⟨vm, br_f (by rw [cm]; exact z2) ⟨vm, nm_r (e' := nI s') (by rw [cm]; exact z) (nm_r (nI_1 met) (hX post hp))⟩⟩))
        · exact br_f c4 (YM _ (br_f nm (ya_ho hT hm hW hH z (br_f z1 (nm_r (nI_1 met) (hY post hp))))))
    · rw [if_neg hm] at YM
      refine ⟨16, -1, w, ⟨hw, h9, Or.inl ⟨rfl, rfl⟩⟩, fun post hp => ?_, fun post hp => ?_⟩
      · exact br_f cT (xa_lo_n hw4 hW hm (br_t rfl (xa_sa ht4 hp)))
      · exact br_f c4 (YM _ (br_t rfl (ya_sa ht4 hw4 ⟨rfl, hp⟩)))
end
