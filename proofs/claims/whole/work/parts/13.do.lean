/-! 13: put, drop, launch, read, run, weave -/
theorem i_vc_put {k : Nat} {u : SX} {v : SY} (I : i_Rel k u v) (hk : k + 5 ≤ 2563) (v1 : Int32) (v2 : Int32) (v3 : Int32) (v4 : Int32) : wpX_put (fun r u' => wpY_put (fun r' v' => r' = r ∧ i_Rel (k + 5) u' v') v v1 v2 v3 v4) u v1 v2 v3 v4 := by
  have J := i_up I
  obtain ⟨T, W, S, K, hK, I⟩ := I
  have I0 := I
  obtain ⟨wv, wh, ds, xd, yd, de, dd, ph, ra, sh, lh, se, le, sd, ld, hs, ak, ao, ap, al, yo, yp, lo, lg, sr, as, rfl, rfl, hB, hD, hL, hH, hP, hA, hS⟩ := I
  have hT : T ≤ 4 := hB.2.1
  have hW : W ≤ 16 := hB.2.2.2.1
  unfold wpX_put wpY_put
  dsimp only
  rcases pk_ix v1 (n := T) (by omega) with z | z | ⟨t, ht, rfl⟩
  · exact xa_bt1 (Or.inl z) (br_f mw_10 (ya_bt1 (Or.inl z) (br_f mw_10 ⟨rfl, J⟩)))
  · exact xa_bt1 (Or.inr z) (br_f mw_10 (ya_bt1 (Or.inr z) (br_f mw_10 ⟨rfl, J⟩)))
  · rcases pk_ix v2 (n := W) (by omega) with z | z | ⟨a, ha, rfl⟩
    · exact xa_bt0 ht hT (br_t rfl (xa_ba1 (Or.inl z) (br_f mw_10 (ya_bt0 ht hT (br_t rfl (ya_bw1 (Or.inl z) (br_f mw_10 ⟨rfl, J⟩)))))))
    · exact xa_bt0 ht hT (br_t rfl (xa_ba1 (Or.inr z) (br_f mw_10 (ya_bt0 ht hT (br_t rfl (ya_bw1 (Or.inr z) (br_f mw_10 ⟨rfl, J⟩)))))))
    · have ht4 : t < 4 := by omega
      have ha16 : a < 16 := by omega
      have hS8 : S ≤ 8 := hB.2.2.2.2.2
      have c : (nI (t * 16 + a)).toNatClampNeg = t * 16 + a := nI_clamp (by omega)
      have c4 : (nI t).toNatClampNeg = t := nI_clamp (by omega)
      have v : vp_in (nI (t * 16 + a)) 64 := vp_in_nI (by omega) (by decide)
      have v4 : vp_in (nI t) 4 := vp_in_nI ht4 (by decide)
      have hY : yd (t * 16 + a) = xd (t * 16 + a) := ((hD t ht).1 a ha).1
      have eC : mw_cnt yd (t * 16) W = mw_cnt xd (t * 16) W := mw_cnt_c (fun b hb => ((hD t ht).1 b hb).1)
      have cle := mw_cnt_le xd (t * 16) W
      by_cases z : xd (t * 16 + a) = 0
      · by_cases zs : mw_cnt xd (t * 16) W < S
        · have lt : nI (mw_cnt xd (t * 16) W) < nI S := nI_lt zs (by omega)
          refine xa_bt0 ht hT (br_t rfl (xa_ba0 ha hW (br_t rfl (xa_en ⟨v, br_t (by rw [c]; exact z) ⟨v4, br_t (by rw [c4, (hD t ht).2]; exact lt) ⟨v, nm_r (mw_ucb1 (by omega)) ⟨v4, v4, nm_r (e' := upd ds t (nI (mw_cnt xd (t * 16) W + 1))) (by rw [c4, (hD t ht).2, nI_1]) ⟨v, nm_r (mw_uc (by omega)) ⟨v, nm_r (mw_uc (by omega)) ?_⟩⟩⟩⟩⟩⟩))))
          refine ya_bt0 ht hT (br_t rfl (ya_bw0 ha hW (br_t rfl ⟨mw_in ht4 ha16, br_t (by rw [mw_cl ht4 ha16, hY]; exact z) (ya_ds ht4 hW (br_t (by rw [eC]; exact lt) (ya_pu ht4 ha16 ⟨rfl, ?_⟩)))⟩)))
          exact ⟨T, W, S, K, by omega, mw_mk hB (mw_D_put hW hD ht ha z) hL hH hP hA hS⟩
        · have lt : ¬ nI (mw_cnt xd (t * 16) W) < nI S := nI_nlt (by omega) (by omega)
          refine xa_bt0 ht hT (br_t rfl (xa_ba0 ha hW (br_t rfl (xa_en ⟨v, br_t (by rw [c]; exact z) ⟨v4, br_f (by rw [c4, (hD t ht).2]; exact lt) ?_⟩⟩))))
          exact ya_bt0 ht hT (br_t rfl (ya_bw0 ha hW (br_t rfl ⟨mw_in ht4 ha16, br_t (by rw [mw_cl ht4 ha16, hY]; exact z) (ya_ds ht4 hW (br_f (by rw [eC]; exact lt) ⟨rfl, J⟩))⟩)))
      · refine xa_bt0 ht hT (br_t rfl (xa_ba0 ha hW (br_t rfl (xa_en ⟨v, br_f (by rw [c]; exact z) ⟨v, nm_r (mw_uc (by omega)) ⟨v, nm_r (mw_uc (by omega)) ?_⟩⟩⟩))))
        refine ya_bt0 ht hT (br_t rfl (ya_bw0 ha hW (br_t rfl ⟨mw_in ht4 ha16, br_f (by rw [mw_cl ht4 ha16, hY]; exact z) (ya_pu ht4 ha16 ⟨rfl, ?_⟩)⟩)))
        exact ⟨T, W, S, K, by omega, mw_mk hB (mw_D_put2 hD z) hL hH hP hA hS⟩
theorem i_vc_drop {k : Nat} {u : SX} {v : SY} (I : i_Rel k u v) (hk : k + 5 ≤ 2563) (v1 : Int32) : wpX_drop (fun r u' => wpY_drop (fun r' v' => r' = r ∧ i_Rel (k + 5) u' v') v v1) u v1 := by
  have J := i_up I
  obtain ⟨T, W, S, K, hK, I⟩ := I
  have I0 := I
  obtain ⟨wv, wh, ds, xd, yd, de, dd, ph, ra, sh, lh, se, le, sd, ld, hs, ak, ao, ap, al, yo, yp, lo, lg, sr, as, rfl, rfl, hB, hD, hL, hH, hP, hA, hS⟩ := I
  have hT : T ≤ 4 := hB.2.1
  have hW : W ≤ 16 := hB.2.2.2.1
  unfold wpX_drop
  dsimp only
  rcases pk_ix v1 (n := T) (by omega) with z | z | ⟨t, ht, rfl⟩
  · exact xa_bt1 (Or.inl z) (br_f mw_10 (ya_dr1 (Or.inl z) ⟨rfl, J⟩))
  · exact xa_bt1 (Or.inr z) (br_f mw_10 (ya_dr1 (Or.inr z) ⟨rfl, J⟩))
  · exact xa_bt0 ht hT (br_t rfl (xa_ed (by omega) hW (ya_dr ht hT ⟨rfl, ⟨T, W, S, K, by omega, mw_mk hB (mw_D_drop hW hD) hL hH hP hA hS⟩⟩)))
theorem i_vc_launch {k : Nat} {u : SX} {v : SY} (I : i_Rel k u v) (hk : k + 5 ≤ 2563) (v1 : Int32) : wpX_launch (fun r u' => wpY_launch (fun r' v' => r' = r ∧ i_Rel (k + 5) u' v') v v1) u v1 := by
  have J := i_up I
  obtain ⟨T, W, S, K, hK, I⟩ := I
  have I0 := I
  obtain ⟨wv, wh, ds, xd, yd, de, dd, ph, ra, sh, lh, se, le, sd, ld, hs, ak, ao, ap, al, yo, yp, lo, lg, sr, as, rfl, rfl, hB, hD, hL, hH, hP, hA, hS⟩ := I
  have hT : T ≤ 4 := hB.2.1
  have hW : W ≤ 16 := hB.2.2.2.1
  unfold wpX_launch wpY_launch
  dsimp only
  rcases pk_ix v1 (n := T) (by omega) with z | z | ⟨t, ht, rfl⟩
  · exact xa_bt1 (Or.inl z) (br_f mw_10 (ya_bt1 (Or.inl z) (br_f mw_10 ⟨rfl, J⟩)))
  · exact xa_bt1 (Or.inr z) (br_f mw_10 (ya_bt1 (Or.inr z) (br_f mw_10 ⟨rfl, J⟩)))
  · have ht4 : t < 4 := by omega
    have c4 : (nI t).toNatClampNeg = t := nI_clamp (by omega)
    have v4 : vp_in (nI t) 4 := vp_in_nI ht4 (by decide)
    have eC : mw_cnt yd (t * 16) W = mw_cnt xd (t * 16) W := mw_cnt_c (fun b hb => ((hD t ht).1 b hb).1)
    have cle := mw_cnt_le xd (t * 16) W
    by_cases h5 : ph t = 5
    · have n9 : ph t ≠ 9 := by rw [h5]; decide
      by_cases z : mw_cnt xd (t * 16) W = 0
      · refine xa_bt0 ht hT (br_t rfl ⟨v4, br_t (by rw [c4]; exact h5) ⟨v4, br_t (by rw [c4, (hD t ht).2, z]; exact nI_0) ?_⟩⟩)
        exact ya_bt0 ht hT (br_t rfl ⟨v4, br_t (by rw [c4]; exact h5) (ya_ds ht4 hW (br_t (by rw [eC, z]; exact nI_0) ⟨rfl, J⟩))⟩)
      · have z0 : ¬ nI (mw_cnt xd (t * 16) W) = 0 := nI_ne0 (by omega) (by omega)
        refine xa_bt0 ht hT (br_t rfl ⟨v4, br_t (by rw [c4]; exact h5) ⟨v4, br_f (by rw [c4, (hD t ht).2]; exact z0) (xa_cp ht4 hW (xa_ed ht4 hW ⟨v4, nm_r (mw_uc (by omega)) ?_⟩))⟩⟩)
        have R : i_Rel (k + 5) (nI T, nI W, nI S, wv, wh, upd ds t 0, mw_row xd (fun _ => 0) (t * 16) W, de, dd, upd ph t 9, ra, mw_row sh (fun j => vp_nar .boolean (xd j)) (t * 16) W, mw_row se de (t * 16) W, mw_row sd dd (t * 16) W, ak, ao, ap, al, lo, lg) (nI T, nI W, nI S, lN (K + 1), wv, mw_row yd (fun _ => 0) (t * 16) 16, de, dd, mw_row lh (fun j => vp_nar .boolean (yd j)) (t * 16) 16, mw_row le de (t * 16) 16, mw_row ld dd (t * 16) 16, hs, upd ph t 9, lo, lg, vp_updL sr t (lN (K + 1)), ak, yo, as, yp) :=
          ⟨T, W, S, K + 1, by omega, mw_mk hB (mw_D_drop hW hD) (mw_L_la hW hL hD) (mw_H_ph hH n9) (mw_P_row hT hW hW hH n9 hP) (mw_A_la hW hW (by omega) hA n9) (mw_S_la hS)⟩
        have q := yl_la (post := fun r' v' => r' = 1 ∧ i_Rel (k + 5) (nI T, nI W, nI S, wv, wh, upd ds t 0, mw_row xd (fun _ => 0) (t * 16) W, de, dd, upd ph t 9, ra, mw_row sh (fun j => vp_nar .boolean (xd j)) (t * 16) W, mw_row se de (t * 16) W, mw_row sd dd (t * 16) W, ak, ao, ap, al, lo, lg) v') (T := T) (W := W) (S := S) (K := K) (wv := wv) (yd := yd) (de := de) (dd := dd) (lh := lh) (le := le) (ld := ld) (hs := hs) (ph := ph) (lo := lo) (lg := lg) (sr := sr) (ak := ak) (yo := yo) (as := as) (yp := yp) ht hT ⟨rfl, R⟩ 16 0 (by decide)
        rw [mw_row_0, mw_row_0, mw_row_0] at q
        exact ya_bt0 ht hT (br_t rfl ⟨v4, br_t (by rw [c4]; exact h5) (ya_ds ht4 hW (br_f (by rw [eC]; exact z0) (nm_r (e' := nI (t * 16 + 0)) (pk_mul t 16) ⟨17, q⟩)))⟩)
    · refine xa_bt0 ht hT (br_t rfl ⟨v4, br_f (by rw [c4]; exact h5) ?_⟩)
      exact ya_bt0 ht hT (br_t rfl ⟨v4, br_f (by rw [c4]; exact h5) ⟨rfl, J⟩⟩)
theorem i_vc_read {k : Nat} {u : SX} {v : SY} (I : i_Rel k u v) (hk : k + 5 ≤ 2563) (v1 : Int32) (v2 : Int32) : wpX_read (fun r u' => wpY_read (fun r' v' => r' = r ∧ i_Rel (k + 5) u' v') v v1 v2) u v1 v2 := by
  have J := i_up I
  obtain ⟨T, W, S, K, hK, I⟩ := I
  have I0 := I
  obtain ⟨wv, wh, ds, xd, yd, de, dd, ph, ra, sh, lh, se, le, sd, ld, hs, ak, ao, ap, al, yo, yp, lo, lg, sr, as, rfl, rfl, hB, hD, hL, hH, hP, hA, hS⟩ := I
  have hT : T ≤ 4 := hB.2.1
  have hW : W ≤ 16 := hB.2.2.2.1
  unfold wpX_read wpY_read
  dsimp only
  rcases pk_ix v1 (n := T) (by omega) with z | z | ⟨t, ht, rfl⟩
  · exact xa_bt1 (Or.inl z) (br_f mw_10 (ya_bt1 (Or.inl z) (br_f mw_10 ⟨rfl, J⟩)))
  · exact xa_bt1 (Or.inr z) (br_f mw_10 (ya_bt1 (Or.inr z) (br_f mw_10 ⟨rfl, J⟩)))
  · rcases pk_ix v2 (n := W) (by omega) with z | z | ⟨a, ha, rfl⟩
    · exact xa_bt0 ht hT (br_t rfl (xa_ba1 (Or.inl z) (br_f mw_10 (ya_bt0 ht hT (br_t rfl (ya_bw1 (Or.inl z) (br_f mw_10 ⟨rfl, J⟩)))))))
    · exact xa_bt0 ht hT (br_t rfl (xa_ba1 (Or.inr z) (br_f mw_10 (ya_bt0 ht hT (br_t rfl (ya_bw1 (Or.inr z) (br_f mw_10 ⟨rfl, J⟩)))))))
    · have ht4 : t < 4 := by omega
      have c4 : (nI t).toNatClampNeg = t := nI_clamp (by omega)
      have v4 : vp_in (nI t) 4 := vp_in_nI ht4 (by decide)
      by_cases h5 : ph t = 5
      · have n9 : ph t ≠ 9 := by rw [h5]; decide
        refine xa_bt0 ht hT (br_t rfl (xa_ba0 ha hW (br_t rfl ⟨v4, br_t (by rw [c4]; exact h5) ⟨v4, nm_r (mw_uc (by omega)) ⟨v4, nm_r (mw_uc (by omega)) ?_⟩⟩⟩)))
        have R : i_Rel (k + 5) (nI T, nI W, nI S, wv, wh, ds, xd, de, dd, upd ph t 8, upd ra t (nI a), sh, se, sd, ak, ao, ap, al, lo, lg) (nI T, nI W, nI S, lN K, wv, yd, de, dd, mw_row lh (fun j => if j = t * 16 + a then 1 else 0) (t * 16) 16, le, ld, hs, upd ph t 8, lo, lg, sr, ak, yo, as, yp) :=
          ⟨T, W, S, K, by omega, mw_mk hB hD (mw_L_rd hW hL ha) (mw_H_ph hH n9) hP (mw_A_ph hA n9 (by decide)) hS⟩
        have q := yl_rd (post := fun r' v' => r' = 1 ∧ i_Rel (k + 5) (nI T, nI W, nI S, wv, wh, ds, xd, de, dd, upd ph t 8, upd ra t (nI a), sh, se, sd, ak, ao, ap, al, lo, lg) v') (T := T) (W := W) (S := S) (K := K) (wv := wv) (yd := yd) (de := de) (dd := dd) (lh := lh) (le := le) (ld := ld) (hs := hs) (ph := ph) (lo := lo) (lg := lg) (sr := sr) (ak := ak) (yo := yo) (as := as) (yp := yp) ht4 (by omega) ⟨rfl, R⟩ 16 0 (by decide)
        rw [mw_row_0] at q
        exact ya_bt0 ht hT (br_t rfl (ya_bw0 ha hW (br_t rfl ⟨v4, br_t (by rw [c4]; exact h5) ⟨17, q⟩⟩)))
      · refine xa_bt0 ht hT (br_t rfl (xa_ba0 ha hW (br_t rfl ⟨v4, br_f (by rw [c4]; exact h5) ?_⟩)))
        exact ya_bt0 ht hT (br_t rfl (ya_bw0 ha hW (br_t rfl ⟨v4, br_f (by rw [c4]; exact h5) ⟨rfl, J⟩⟩)))
theorem i_vc_run {k : Nat} {u : SX} {v : SY} (I : i_Rel k u v) (hk : k + 5 ≤ 2563) (v1 : Int32) (v2 : Int32) : wpX_run (fun r u' => wpY_run (fun r' v' => r' = r ∧ i_Rel (k + 5) u' v') v v1 v2) u v1 v2 := by
  have J := i_up I
  obtain ⟨T, W, S, K, hK, I⟩ := I
  have I0 := I
  obtain ⟨wv, wh, ds, xd, yd, de, dd, ph, ra, sh, lh, se, le, sd, ld, hs, ak, ao, ap, al, yo, yp, lo, lg, sr, as, rfl, rfl, hB, hD, hL, hH, hP, hA, hS⟩ := I
  have hT : T ≤ 4 := hB.2.1
  have hW : W ≤ 16 := hB.2.2.2.1
  unfold wpX_run wpY_run
  dsimp only
  rcases pk_ix v1 (n := T) (by omega) with z | z | ⟨t, ht, rfl⟩
  · exact xa_bt1 (Or.inl z) (br_f mw_10 (ya_bt1 (Or.inl z) (br_f mw_10 ⟨rfl, J⟩)))
  · exact xa_bt1 (Or.inr z) (br_f mw_10 (ya_bt1 (Or.inr z) (br_f mw_10 ⟨rfl, J⟩)))
  · have c4 : (nI t).toNatClampNeg = t := nI_clamp (by omega)
    have v4 : vp_in (nI t) 4 := vp_in_nI (by omega) (by decide)
    by_cases h5 : ph t = 5
    · refine xa_bt0 ht hT (br_t rfl ⟨v4, br_t (by rw [c4]; exact h5) ?_⟩)
      exact ya_bt0 ht hT (br_t rfl ⟨v4, br_t (by rw [c4]; exact h5) ⟨rfl, J⟩⟩)
    · obtain ⟨n, hn, cX, hx, hx2⟩ := xa_clamp0 v2 64 (by decide)
      obtain ⟨r, u', v', I', hX, hY⟩ := rn_run hT ht hn hx hx2 n 0 wv wh ds xd yd de dd ph ra sh lh se le sd ld hs ak ao ap al yo yp lo lg sr as (by omega) I0 h5
      refine xa_bt0 ht hT (br_t rfl ⟨v4, br_f (by rw [c4]; exact h5) (cX _ ⟨n + 1, hX _ ?_⟩)⟩)
      exact ya_bt0 ht hT (br_t rfl ⟨v4, br_f (by rw [c4]; exact h5) ⟨n + 1, hY _ ⟨rfl, ⟨T, W, S, K, by omega, I'⟩⟩⟩⟩)
theorem i_vc_weave {k : Nat} {u : SX} {v : SY} (I : i_Rel k u v) (hk : k + 5 ≤ 2563) (v1 : Int32) (v2 : Int32) : wpX_weave (fun r u' => wpY_weave (fun r' v' => r' = r ∧ i_Rel (k + 5) u' v') v v1 v2) u v1 v2 := by
  have J := i_up I
  obtain ⟨T, W, S, K, hK, I⟩ := I
  have I0 := I
  obtain ⟨wv, wh, ds, xd, yd, de, dd, ph, ra, sh, lh, se, le, sd, ld, hs, ak, ao, ap, al, yo, yp, lo, lg, sr, as, rfl, rfl, hB, hD, hL, hH, hP, hA, hS⟩ := I
  have hT : T ≤ 4 := hB.2.1
  have hW : W ≤ 16 := hB.2.2.2.1
  unfold wpX_weave wpY_weave
  dsimp only
  obtain ⟨n, hn, cX, hx, hx2⟩ := xa_clamp0 v2 16 (by decide)
  obtain ⟨r, u', v', I', hX, hY⟩ := rn_wea (y := v1) hT hn hx hx2 n 0 0 wv wh ds xd yd de dd ph ra sh lh se le sd ld hs ak ao ap al yo yp lo lg sr as (by omega) I0
  refine cX _ ⟨n + 1, hX _ ?_⟩
  exact ⟨n + 1, hY _ ⟨rfl, ⟨T, W, S, K, by omega, I'⟩⟩⟩
