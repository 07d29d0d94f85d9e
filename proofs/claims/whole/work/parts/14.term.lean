/-! 14: term -/
theorem i_vc_term {k : Nat} {u : SX} {v : SY} (I : i_Rel k u v) (hk : k + 5 ≤ 2563) (v1 : Int32) (v2 : Int32) (v3 : Int32) : wpX_term (fun r => wpY_term (fun r' => r' = r ∧ i_Rel (k + 5) u v) v v1 v2 v3) u v1 v2 v3 := by
  have J := i_up I
  obtain ⟨T, W, S, K, hK, I⟩ := I
  have I0 := I
  obtain ⟨wv, wh, ds, xd, yd, de, dd, ph, ra, sh, lh, se, le, sd, ld, hs, ak, ao, ap, al, yo, yp, lo, lg, sr, as, rfl, rfl, hB, hD, hL, hH, hP, hA, hS⟩ := I
  have hT : T ≤ 4 := hB.2.1
  have hW : W ≤ 16 := hB.2.2.2.1
  rcases pk_ix v1 (n := T) (by omega) with z | z | ⟨t, ht, rfl⟩
  · unfold wpX_term wpY_term
    dsimp only
    exact xa_bt1 (Or.inl z) (br_f mw_10 (ya_bt1 (Or.inl z) (br_f mw_10 ⟨rfl, J⟩)))
  · unfold wpX_term wpY_term
    dsimp only
    exact xa_bt1 (Or.inr z) (br_f mw_10 (ya_bt1 (Or.inr z) (br_f mw_10 ⟨rfl, J⟩)))
  · rcases pk_ix v2 (n := W) (by omega) with z | z | ⟨a, ha, rfl⟩
    · unfold wpX_term wpY_term
      dsimp only
      exact xa_bt0 ht hT (br_t rfl (xa_ba1 (Or.inl z) (br_f mw_10 (ya_bt0 ht hT (br_t rfl (ya_bw1 (Or.inl z) (br_f mw_10 ⟨rfl, J⟩)))))))
    · unfold wpX_term wpY_term
      dsimp only
      exact xa_bt0 ht hT (br_t rfl (xa_ba1 (Or.inr z) (br_f mw_10 (ya_bt0 ht hT (br_t rfl (ya_bw1 (Or.inr z) (br_f mw_10 ⟨rfl, J⟩)))))))
    · have hY : yd (t * 16 + a) = xd (t * 16 + a) := ((hD t ht).1 a ha).1
      by_cases hx : v3 = 3 ∨ v3 = 4 ∨ v3 = 5
      · have m0 : ¬ v3 = 0 := by rcases hx with e | e | e <;> rw [e] <;> decide
        have m1 : ¬ v3 = 1 := by rcases hx with e | e | e <;> rw [e] <;> decide
        have m2 : ¬ v3 = 2 := by rcases hx with e | e | e <;> rw [e] <;> decide
        rcases hL t ht with ⟨q, q2⟩ | ⟨q, r, hr, er, q3⟩ | q
        · have n5 : ¬ ph t = 5 := by rcases q with e | e | e <;> rw [e] <;> decide
          have n8 : ¬ ph t = 8 := by rcases q with e | e | e <;> rw [e] <;> decide
          obtain ⟨l1, l2, l3⟩ := q2 a ha
          by_cases z : sh (t * 16 + a) = 0
          · have z' : lh (t * 16 + a) = 0 := l1.trans z
            exact xt_li hT hW ht ha hx ⟨fun q => absurd q n8, fun _ => ⟨fun q => absurd q n5, fun _ => ⟨fun _ => yt_in hT hW ht ha m0 m1 m2 ⟨fun q => absurd q n5, fun _ => ⟨fun _ => ⟨rfl, J⟩, fun q => absurd z' q⟩⟩, fun q => absurd z q⟩⟩⟩
          · have z' : ¬ lh (t * 16 + a) = 0 := by rw [l1]; exact z
            rcases hx with rfl | rfl | rfl
            · exact xt_li hT hW ht ha (Or.inl rfl) ⟨fun q => absurd q n8, fun _ => ⟨fun q => absurd q n5, fun _ => ⟨fun q => absurd q z, fun _ => ⟨fun _ => yt_in hT hW ht ha m0 m1 m2 ⟨fun q => absurd q n5, fun _ => ⟨fun q => absurd q z', fun _ => ⟨fun _ => ⟨rfl, J⟩, fun q => absurd rfl q⟩⟩⟩, fun q => absurd rfl q⟩⟩⟩⟩
            · exact xt_li hT hW ht ha (Or.inr (Or.inl rfl)) ⟨fun q => absurd q n8, fun _ => ⟨fun q => absurd q n5, fun _ => ⟨fun q => absurd q z, fun _ => ⟨fun q => absurd q (by decide), fun _ => ⟨fun _ => yt_in hT hW ht ha m0 m1 m2 ⟨fun q => absurd q n5, fun _ => ⟨fun q => absurd q z', fun _ => ⟨fun q => absurd q (by decide), fun _ => ⟨fun q => absurd q n8, fun _ => ⟨fun _ => ⟨l2, J⟩, fun q => absurd rfl q⟩⟩⟩⟩⟩, fun q => absurd rfl q⟩⟩⟩⟩⟩
            · exact xt_li hT hW ht ha (Or.inr (Or.inr rfl)) ⟨fun q => absurd q n8, fun _ => ⟨fun q => absurd q n5, fun _ => ⟨fun q => absurd q z, fun _ => ⟨fun q => absurd q (by decide), fun _ => ⟨fun q => absurd q (by decide), fun _ => yt_in hT hW ht ha m0 m1 m2 ⟨fun q => absurd q n5, fun _ => ⟨fun q => absurd q z', fun _ => ⟨fun q => absurd q (by decide), fun _ => ⟨fun q => absurd q n8, fun _ => ⟨fun q => absurd q (by decide), fun _ => ⟨fun _ => ⟨l3, J⟩, fun q => absurd rfl q⟩⟩⟩⟩⟩⟩⟩⟩⟩⟩⟩
        · have n5 : ¬ ph t = 5 := by rw [q]; decide
          have l1 := q3 a ha
          by_cases e : a = r
          · subst e
            rw [if_pos rfl] at l1
            have z' : ¬ lh (t * 16 + a) = 0 := by rw [l1]; exact mw_10
            exact xt_li hT hW ht ha hx ⟨fun _ => ⟨fun e3 => ⟨fun _ => yt_in hT hW ht ha m0 m1 m2 ⟨fun q => absurd q n5, fun _ => ⟨fun q => absurd q z', fun _ => ⟨fun _ => ⟨rfl, J⟩, fun n3 => absurd e3 n3⟩⟩⟩, fun n => absurd er n⟩, fun n3 => yt_in hT hW ht ha m0 m1 m2 ⟨fun q => absurd q n5, fun _ => ⟨fun q => absurd q z', fun _ => ⟨fun e3 => absurd e3 n3, fun _ => ⟨fun _ => ⟨rfl, J⟩, fun n => absurd q n⟩⟩⟩⟩⟩, fun n => absurd q n⟩
          · rw [if_neg e] at l1
            have ne : ¬ ra t = nI a := by rw [er]; exact mw_ne (by omega) (by omega) (fun y => e y.symm)
            have Y0 := fun (P : Int32 → Prop) (hp : P 0) => yt_in (S := S) (K := K) (wv := wv) (yd := yd) (de := de) (dd := dd) (lh := lh) (le := le) (ld := ld) (hs := hs) (ph := ph) (lo := lo) (lg := lg) (sr := sr) (ak := ak) (yo := yo) (as := as) (yp := yp) (post := P) hT hW ht ha m0 m1 m2 ⟨fun q => absurd q n5, fun _ => ⟨fun _ => hp, fun n => absurd l1 n⟩⟩
            exact xt_li hT hW ht ha hx ⟨fun _ => ⟨fun _ => ⟨fun y => absurd y ne, fun _ => Y0 _ ⟨rfl, J⟩⟩, fun _ => Y0 _ ⟨rfl, J⟩⟩, fun n => absurd q n⟩
        · have n8 : ¬ ph t = 8 := by rw [q]; decide
          exact xt_li hT hW ht ha hx ⟨fun e => absurd e n8, fun _ => ⟨fun _ => yt_in hT hW ht ha m0 m1 m2 ⟨fun _ => ⟨rfl, J⟩, fun n => absurd q n⟩, fun n => absurd q n⟩⟩
      · have n3 : ¬ v3 = 3 := fun e => hx (Or.inl e)
        have n4 : ¬ v3 = 4 := fun e => hx (Or.inr (Or.inl e))
        have n5 : ¬ v3 = 5 := fun e => hx (Or.inr (Or.inr e))
        by_cases n0 : v3 = 0
        · subst n0
          by_cases z : xd (t * 16 + a) = 0
          · exact xt_dr hT hW ht ha n3 n4 n5 ⟨fun _ => yt_d0 hT hW ht ha (hY.trans z) (Or.inl rfl) ⟨rfl, J⟩, fun n => absurd z n⟩
          · exact xt_dr hT hW ht ha n3 n4 n5 ⟨fun e => absurd e z, fun _ => ⟨fun e => absurd e (by decide), fun _ => ⟨fun e => absurd e (by decide), fun _ => ⟨fun _ => yt_d1 hT hW ht ha (by rw [hY]; exact z) ⟨rfl, J⟩, fun n => absurd rfl n⟩⟩⟩⟩
        · by_cases n1 : v3 = 1
          · subst n1
            by_cases z : xd (t * 16 + a) = 0
            · exact xt_dr hT hW ht ha n3 n4 n5 ⟨fun _ => yt_d0 hT hW ht ha (hY.trans z) (Or.inr (Or.inl rfl)) ⟨rfl, J⟩, fun n => absurd z n⟩
            · exact xt_dr hT hW ht ha n3 n4 n5 ⟨fun e => absurd e z, fun _ => ⟨fun e => absurd e (by decide), fun _ => ⟨fun e => absurd e (by decide), fun _ => ⟨fun e => absurd e n0, fun _ => ⟨fun _ => yt_d2 hT hW ht ha (by rw [hY]; exact z) ⟨rfl, J⟩, fun n => absurd rfl n⟩⟩⟩⟩⟩
          · by_cases n2 : v3 = 2
            · subst n2
              by_cases z : xd (t * 16 + a) = 0
              · exact xt_dr hT hW ht ha n3 n4 n5 ⟨fun _ => yt_d0 hT hW ht ha (hY.trans z) (Or.inr (Or.inr rfl)) ⟨rfl, J⟩, fun n => absurd z n⟩
              · exact xt_dr hT hW ht ha n3 n4 n5 ⟨fun e => absurd e z, fun _ => ⟨fun e => absurd e (by decide), fun _ => ⟨fun e => absurd e (by decide), fun _ => ⟨fun e => absurd e n0, fun _ => ⟨fun e => absurd e n1, fun _ => ⟨fun _ => yt_d3 hT hW ht ha (by rw [hY]; exact z) ⟨rfl, J⟩, fun n => absurd rfl n⟩⟩⟩⟩⟩⟩
            · have Y0 := fun (P : Int32 → Prop) (hp : P 0) => yt_in (S := S) (K := K) (wv := wv) (yd := yd) (de := de) (dd := dd) (lh := lh) (le := le) (ld := ld) (hs := hs) (ph := ph) (lo := lo) (lg := lg) (sr := sr) (ak := ak) (yo := yo) (as := as) (yp := yp) (post := P) hT hW ht ha n0 n1 n2 ⟨fun _ => hp, fun _ => ⟨fun _ => hp, fun _ => ⟨fun e => absurd e n3, fun _ => ⟨fun _ => hp, fun _ => ⟨fun e => absurd e n4, fun _ => ⟨fun e => absurd e n5, fun _ => hp⟩⟩⟩⟩⟩⟩
              exact xt_dr hT hW ht ha n3 n4 n5 ⟨fun _ => Y0 _ ⟨rfl, J⟩, fun _ => ⟨fun _ => Y0 _ ⟨rfl, J⟩, fun _ => ⟨fun _ => Y0 _ ⟨rfl, J⟩, fun _ => ⟨fun e => absurd e n0, fun _ => ⟨fun e => absurd e n1, fun _ => ⟨fun e => absurd e n2, fun _ => trivial⟩⟩⟩⟩⟩⟩
