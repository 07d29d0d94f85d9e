/-! 12: what is owed -/
theorem i_vc_value {k : Nat} {u : SX} {v : SY} (I : i_Rel k u v) (hk : k + 5 ≤ 2563) (v1 : Int32) : wpX_value (fun r => wpY_value (fun r' => r' = r ∧ i_Rel (k + 5) u v) v v1) u v1 := by
  have J := i_up I
  obtain ⟨T, W, S, K, hK, I⟩ := I
  have I0 := I
  obtain ⟨wv, wh, ds, xd, yd, de, dd, ph, ra, sh, lh, se, le, sd, ld, hs, ak, ao, ap, al, yo, yp, lo, lg, sr, as, rfl, rfl, hB, hD, hL, hH, hP, hA, hS⟩ := I
  have hT : T ≤ 4 := hB.2.1
  have hW : W ≤ 16 := hB.2.2.2.1
  unfold wpX_value wpY_value
  dsimp only
  rcases pk_ix v1 (n := W) (by omega) with z | z | ⟨a, ha, rfl⟩
  · exact xa_ba1 (Or.inl z) (br_f mw_10 (ya_bw1 (Or.inl z) (br_f mw_10 ⟨rfl, J⟩)))
  · exact xa_ba1 (Or.inr z) (br_f mw_10 (ya_bw1 (Or.inr z) (br_f mw_10 ⟨rfl, J⟩)))
  · exact xa_ba0 ha hW (br_t rfl ⟨vp_in_nI (by omega) (by decide), ya_bw0 ha hW (br_t rfl ⟨vp_in_nI (by omega) (by decide), ⟨rfl, J⟩⟩)⟩)
theorem i_vc_holder {k : Nat} {u : SX} {v : SY} (I : i_Rel k u v) (hk : k + 5 ≤ 2563) (v1 : Int32) : wpX_holder (fun r => wpY_holder (fun r' => r' = r ∧ i_Rel (k + 5) u v) v v1) u v1 := by
  have J := i_up I
  obtain ⟨T, W, S, K, hK, I⟩ := I
  have I0 := I
  obtain ⟨wv, wh, ds, xd, yd, de, dd, ph, ra, sh, lh, se, le, sd, ld, hs, ak, ao, ap, al, yo, yp, lo, lg, sr, as, rfl, rfl, hB, hD, hL, hH, hP, hA, hS⟩ := I
  have hT : T ≤ 4 := hB.2.1
  have hW : W ≤ 16 := hB.2.2.2.1
  unfold wpX_holder
  dsimp only
  rcases pk_ix v1 (n := W) (by omega) with z | z | ⟨a, ha, rfl⟩
  · exact xa_ba1 (Or.inl z) (br_f mw_10 (ya_ho1 (Or.inl z) ⟨rfl, J⟩))
  · exact xa_ba1 (Or.inr z) (br_f mw_10 (ya_ho1 (Or.inr z) ⟨rfl, J⟩))
  · exact xa_ba0 ha hW (br_t rfl ⟨vp_in_nI (by omega) (by decide), ya_ho hT ha hW hH rfl ⟨by rw [nI_clamp (by omega)], J⟩⟩)
theorem i_vc_state {k : Nat} {u : SX} {v : SY} (I : i_Rel k u v) (hk : k + 5 ≤ 2563) (v1 : Int32) : wpX_state (fun r => wpY_state (fun r' => r' = r ∧ i_Rel (k + 5) u v) v v1) u v1 := by
  have J := i_up I
  obtain ⟨T, W, S, K, hK, I⟩ := I
  have I0 := I
  obtain ⟨wv, wh, ds, xd, yd, de, dd, ph, ra, sh, lh, se, le, sd, ld, hs, ak, ao, ap, al, yo, yp, lo, lg, sr, as, rfl, rfl, hB, hD, hL, hH, hP, hA, hS⟩ := I
  have hT : T ≤ 4 := hB.2.1
  have hW : W ≤ 16 := hB.2.2.2.1
  unfold wpX_state wpY_state
  dsimp only
  rcases pk_ix v1 (n := T) (by omega) with z | z | ⟨t, ht, rfl⟩
  · exact xa_bt1 (Or.inl z) (br_f mw_10 (ya_bt1 (Or.inl z) (br_f mw_10 ⟨rfl, J⟩)))
  · exact xa_bt1 (Or.inr z) (br_f mw_10 (ya_bt1 (Or.inr z) (br_f mw_10 ⟨rfl, J⟩)))
  · exact xa_bt0 ht hT (br_t rfl ⟨vp_in_nI (by omega) (by decide), ya_bt0 ht hT (br_t rfl ⟨vp_in_nI (by omega) (by decide), ⟨rfl, J⟩⟩)⟩)
theorem i_vc_aim {k : Nat} {u : SX} {v : SY} (I : i_Rel k u v) (hk : k + 5 ≤ 2563) (v1 : Int32) : wpX_aim (fun r => wpY_aim (fun r' => r' = r ∧ i_Rel (k + 5) u v) v v1) u v1 := by
  have J := i_up I
  obtain ⟨T, W, S, K, hK, I⟩ := I
  have I0 := I
  obtain ⟨wv, wh, ds, xd, yd, de, dd, ph, ra, sh, lh, se, le, sd, ld, hs, ak, ao, ap, al, yo, yp, lo, lg, sr, as, rfl, rfl, hB, hD, hL, hH, hP, hA, hS⟩ := I
  have hT : T ≤ 4 := hB.2.1
  have hW : W ≤ 16 := hB.2.2.2.1
  unfold wpX_aim wpY_aim
  dsimp only
  rcases pk_ix v1 (n := T) (by omega) with z | z | ⟨t, ht, rfl⟩
  · exact xa_bt1 (Or.inl z) (br_f mw_10 (ya_bt1 (Or.inl z) (br_f mw_10 ⟨rfl, J⟩)))
  · exact xa_bt1 (Or.inr z) (br_f mw_10 (ya_bt1 (Or.inr z) (br_f mw_10 ⟨rfl, J⟩)))
  · exact xa_bt0 ht hT (br_t rfl ⟨vp_in_nI (by omega) (by decide), ya_bt0 ht hT (br_t rfl ⟨vp_in_nI (by omega) (by decide), ⟨rfl, J⟩⟩)⟩)
theorem i_vc_outcome {k : Nat} {u : SX} {v : SY} (I : i_Rel k u v) (hk : k + 5 ≤ 2563) (v1 : Int32) : wpX_outcome (fun r => wpY_outcome (fun r' => r' = r ∧ i_Rel (k + 5) u v) v v1) u v1 := by
  have J := i_up I
  obtain ⟨T, W, S, K, hK, I⟩ := I
  have I0 := I
  obtain ⟨wv, wh, ds, xd, yd, de, dd, ph, ra, sh, lh, se, le, sd, ld, hs, ak, ao, ap, al, yo, yp, lo, lg, sr, as, rfl, rfl, hB, hD, hL, hH, hP, hA, hS⟩ := I
  have hT : T ≤ 4 := hB.2.1
  have hW : W ≤ 16 := hB.2.2.2.1
  unfold wpX_outcome wpY_outcome
  dsimp only
  rcases pk_ix v1 (n := T) (by omega) with z | z | ⟨t, ht, rfl⟩
  · exact xa_bt1 (Or.inl z) (br_f mw_10 (ya_bt1 (Or.inl z) (br_f mw_10 ⟨rfl, J⟩)))
  · exact xa_bt1 (Or.inr z) (br_f mw_10 (ya_bt1 (Or.inr z) (br_f mw_10 ⟨rfl, J⟩)))
  · exact xa_bt0 ht hT (br_t rfl ⟨vp_in_nI (by omega) (by decide), ya_bt0 ht hT (br_t rfl ⟨vp_in_nI (by omega) (by decide), ⟨rfl, J⟩⟩)⟩)
theorem i_vc_got {k : Nat} {u : SX} {v : SY} (I : i_Rel k u v) (hk : k + 5 ≤ 2563) (v1 : Int32) : wpX_got (fun r => wpY_got (fun r' => r' = r ∧ i_Rel (k + 5) u v) v v1) u v1 := by
  have J := i_up I
  obtain ⟨T, W, S, K, hK, I⟩ := I
  have I0 := I
  obtain ⟨wv, wh, ds, xd, yd, de, dd, ph, ra, sh, lh, se, le, sd, ld, hs, ak, ao, ap, al, yo, yp, lo, lg, sr, as, rfl, rfl, hB, hD, hL, hH, hP, hA, hS⟩ := I
  have hT : T ≤ 4 := hB.2.1
  have hW : W ≤ 16 := hB.2.2.2.1
  unfold wpX_got wpY_got
  dsimp only
  rcases pk_ix v1 (n := T) (by omega) with z | z | ⟨t, ht, rfl⟩
  · exact xa_bt1 (Or.inl z) (br_f mw_10 (ya_bt1 (Or.inl z) (br_f mw_10 ⟨rfl, J⟩)))
  · exact xa_bt1 (Or.inr z) (br_f mw_10 (ya_bt1 (Or.inr z) (br_f mw_10 ⟨rfl, J⟩)))
  · exact xa_bt0 ht hT (br_t rfl ⟨vp_in_nI (by omega) (by decide), ya_bt0 ht hT (br_t rfl ⟨vp_in_nI (by omega) (by decide), ⟨rfl, J⟩⟩)⟩)
theorem i_vc_target {k : Nat} {u : SX} {v : SY} (I : i_Rel k u v) (hk : k + 5 ≤ 2563) (v1 : Int32) : wpX_target (fun r => wpY_target (fun r' => r' = r ∧ i_Rel (k + 5) u v) v v1) u v1 := by
  have J := i_up I
  obtain ⟨T, W, S, K, hK, I⟩ := I
  have I0 := I
  obtain ⟨wv, wh, ds, xd, yd, de, dd, ph, ra, sh, lh, se, le, sd, ld, hs, ak, ao, ap, al, yo, yp, lo, lg, sr, as, rfl, rfl, hB, hD, hL, hH, hP, hA, hS⟩ := I
  have hT : T ≤ 4 := hB.2.1
  have hW : W ≤ 16 := hB.2.2.2.1
  unfold wpX_target wpY_target
  dsimp only
  rcases pk_ix v1 (n := T) (by omega) with z | z | ⟨t, ht, rfl⟩
  · exact xa_bt1 (Or.inl z) (br_f mw_10 (ya_bt1 (Or.inl z) (br_f mw_10 ⟨rfl, J⟩)))
  · exact xa_bt1 (Or.inr z) (br_f mw_10 (ya_bt1 (Or.inr z) (br_f mw_10 ⟨rfl, J⟩)))
  · have c : (nI t).toNatClampNeg = t := nI_clamp (by omega)
    have v4 : vp_in (nI t) 4 := vp_in_nI (by omega) (by decide)
    rcases hA t ht with ⟨q1, q2, q3, _⟩ | ⟨s, m, hs', hm, hk', e1, e2, e3, e4, _⟩
    · exact xa_bt0 ht hT (br_t rfl ⟨v4, ya_bt0 ht hT (br_t rfl ⟨v4, br_t (by rw [c]; exact q1) ⟨by rw [c]; exact q2.symm, J⟩⟩)⟩)
    · have k14 : ¬ ak t = 14 := by
        rcases hk' with z | z | z
        · rw [z]; decide
        · rw [z]; decide
        · rw [z]; decide
      exact xa_bt0 ht hT (br_t rfl ⟨v4, ya_bt0 ht hT (br_t rfl ⟨v4, br_f (by rw [c]; exact k14) ⟨v4, ⟨by rw [c]; exact e2.trans e1.symm, J⟩⟩⟩)⟩)
theorem i_vc_place {k : Nat} {u : SX} {v : SY} (I : i_Rel k u v) (hk : k + 5 ≤ 2563) (v1 : Int32) : wpX_place (fun r => wpY_place (fun r' => r' = r ∧ i_Rel (k + 5) u v) v v1) u v1 := by
  have J := i_up I
  obtain ⟨T, W, S, K, hK, I⟩ := I
  have I0 := I
  obtain ⟨wv, wh, ds, xd, yd, de, dd, ph, ra, sh, lh, se, le, sd, ld, hs, ak, ao, ap, al, yo, yp, lo, lg, sr, as, rfl, rfl, hB, hD, hL, hH, hP, hA, hS⟩ := I
  have hT : T ≤ 4 := hB.2.1
  have hW : W ≤ 16 := hB.2.2.2.1
  unfold wpX_place wpY_place
  dsimp only
  rcases pk_ix v1 (n := T) (by omega) with z | z | ⟨t, ht, rfl⟩
  · exact xa_bt1 (Or.inl z) (br_f mw_10 (ya_bt1 (Or.inl z) (br_f mw_10 ⟨rfl, J⟩)))
  · exact xa_bt1 (Or.inr z) (br_f mw_10 (ya_bt1 (Or.inr z) (br_f mw_10 ⟨rfl, J⟩)))
  · have c : (nI t).toNatClampNeg = t := nI_clamp (by omega)
    have v4 : vp_in (nI t) 4 := vp_in_nI (by omega) (by decide)
    rcases hA t ht with ⟨q1, q2, q3, _⟩ | ⟨s, m, hs', hm, hk', e1, e2, e3, e4, _⟩
    · exact xa_bt0 ht hT (br_t rfl ⟨v4, ya_bt0 ht hT (br_t rfl ⟨v4, br_t (by rw [c]; exact q1) ⟨by rw [c]; exact q3.symm, J⟩⟩)⟩)
    · have k14 : ¬ ak t = 14 := by
        rcases hk' with z | z | z
        · rw [z]; decide
        · rw [z]; decide
        · rw [z]; decide
      exact xa_bt0 ht hT (br_t rfl ⟨v4, ya_bt0 ht hT (br_t rfl ⟨v4, br_f (by rw [c]; exact k14) ⟨v4, ⟨by rw [c]; exact e3, J⟩⟩⟩)⟩)
theorem i_vc_late {k : Nat} {u : SX} {v : SY} (I : i_Rel k u v) (hk : k + 5 ≤ 2563) (v1 : Int32) : wpX_late (fun r => wpY_late (fun r' => r' = r ∧ i_Rel (k + 5) u v) v v1) u v1 := by
  have J := i_up I
  obtain ⟨T, W, S, K, hK, I⟩ := I
  have I0 := I
  obtain ⟨wv, wh, ds, xd, yd, de, dd, ph, ra, sh, lh, se, le, sd, ld, hs, ak, ao, ap, al, yo, yp, lo, lg, sr, as, rfl, rfl, hB, hD, hL, hH, hP, hA, hS⟩ := I
  have hT : T ≤ 4 := hB.2.1
  have hW : W ≤ 16 := hB.2.2.2.1
  unfold wpX_late
  dsimp only
  rcases pk_ix v1 (n := T) (by omega) with z | z | ⟨t, ht, rfl⟩
  · exact xa_bt1 (Or.inl z) (br_f mw_10 (ya_lt9 (Or.inl z) ⟨rfl, J⟩))
  · exact xa_bt1 (Or.inr z) (br_f mw_10 (ya_lt9 (Or.inr z) ⟨rfl, J⟩))
  · have c : (nI t).toNatClampNeg = t := nI_clamp (by omega)
    have v4 : vp_in (nI t) 4 := vp_in_nI (by omega) (by decide)
    rcases hA t ht with ⟨q1, _, _, q4⟩ | ⟨s, m, hs', hm, hk', e1, e2, e3, e4, q⟩
    · exact xa_bt0 ht hT (br_t rfl ⟨v4, br_t (by rw [c]; exact q4) (ya_lt14 ht hT q1 ⟨rfl, J⟩)⟩)
    · have k14 : ak t ≠ 14 := by
        rcases hk' with z | z | z
        · rw [z]; decide
        · rw [z]; decide
        · rw [z]; decide
      rcases q with ⟨q1, q2, q3, _⟩ | ⟨q1, q2⟩
      · exact xa_bt0 ht hT (br_t rfl ⟨v4, br_t (by rw [c]; exact q1) (ya_lt0 ht hT k14 hs' e2 q2 (q3.trans e4.symm) ⟨rfl, J⟩)⟩)
      · exact xa_bt0 ht hT (br_t rfl ⟨v4, br_f (by rw [c, q1]; decide) (ya_lt1 ht hT k14 hs' e2 (by rw [e4]; exact q2) ⟨rfl, J⟩)⟩)
