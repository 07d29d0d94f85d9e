/-! 09: run and weave, in lockstep -/
theorem rn_run {T W S K t n : Nat} {x : Int32} (hT : T ≤ 4) (ht : t < T) (hn : n ≤ 64) (hx : ∀ i, i < n → ¬ x ≤ nI i) (hx2 : x ≤ nI n ∨ n = 64) : ∀ (d i : Nat) (wv wh ds xd yd de dd ph ra sh lh se le sd ld hs ak ao ap al yo yp lo lg : Nat → Int32) (sr as : Nat → Int64), i + d = n → mw_I T W S K (nI T, nI W, nI S, wv, wh, ds, xd, de, dd, ph, ra, sh, se, sd, ak, ao, ap, al, lo, lg) (nI T, nI W, nI S, lN K, wv, yd, de, dd, lh, le, ld, hs, ph, lo, lg, sr, ak, yo, as, yp) → ph t ≠ 5 → ∃ (r : Int32) (u' : SX) (v' : SY), mw_I T W S K u' v' ∧ (∀ post : Int32 → SX → Prop, post r u' → wX_run_33 post (nI t) (nI n) (d + 1) (nI i) (nI T) (nI W) (nI S) wv wh ds xd de dd ph ra sh se sd ak ao ap al lo lg) ∧ (∀ post : Int32 → SY → Prop, post r v' → wY_run_24 post (nI t) x (d + 1) (nI i) (nI T) (nI W) (nI S) (lN K) wv yd de dd lh le ld hs ph lo lg sr ak yo as yp) := by
  intro d
  induction d with
  | zero =>
    intro i wv wh ds xd yd de dd ph ra sh lh se le sd ld hs ak ao ap al yo yp lo lg sr as hi I h5
    have e : i = n := by omega
    subst e
    refine ⟨6, _, _, I, fun post h => br_t (nI_le (Nat.le_refl _) (by omega)) h, fun post h => ?_⟩
    by_cases z : x ≤ nI i
    · exact br_t z h
    · have e2 : i = 64 := hx2.resolve_left z
      subst e2
      exact br_f z (br_t (nI_le (a := 64) (b := 64) (Nat.le_refl _) (by decide)) h)
  | succ d ih =>
    intro i wv wh ds xd yd de dd ph ra sh lh se le sd ld hs ak ao ap al yo yp lo lg sr as hi I h5
    have c : (nI t).toNatClampNeg = t := nI_clamp (by omega)
    have v4 : vp_in (nI t) 4 := vp_in_nI (by omega) (by decide)
    have cn : ¬ nI n ≤ nI i := nI_ge (by omega) (by omega)
    have c64 : ¬ (64 : Int32) ≤ nI i := nI_ge (b := 64) (by omega) (by decide)
    have cx : ¬ x ≤ nI i := hx i (by omega)
    obtain ⟨r, u', v', I', hr, hX, hY⟩ := tn_turn I ht h5
    have I1 := I'
    obtain ⟨wv', wh', ds', xd', yd', de', dd', ph', ra', sh', lh', se', le', sd', ld', hs', ak', ao', ap', al', yo', yp', lo', lg', sr', as', rfl, rfl, _⟩ := I'
    rcases hr with ⟨r1, p5⟩ | ⟨r0, p5⟩
    · have p6 : ph' t = 5 := p5
      have r2 : ¬ r = 0 := by rw [r1]; exact mw_10
      exact ⟨7, _, _, I1, fun post h => br_f cn (hX _ ⟨v4, br_t (by rw [c]; exact p6) h⟩), fun post h => br_f cx (br_f c64 (hY _ (br_f r2 h)))⟩
    · have p6 : ph' t ≠ 5 := p5
      obtain ⟨r2, u2, v2, I2, hX2, hY2⟩ := ih (i + 1) wv' wh' ds' xd' yd' de' dd' ph' ra' sh' lh' se' le' sd' ld' hs' ak' ao' ap' al' yo' yp' lo' lg' sr' as' (by omega) I1 p6
      exact ⟨r2, u2, v2, I2, fun post h => br_f cn (hX _ ⟨v4, br_f (by rw [c]; exact p6) (nm_r (nI_1 i) (hX2 post h))⟩), fun post h => br_f cx (br_f c64 (hY _ (br_t r0 (nm_r (nI_1 i) (hY2 post h)))))⟩
theorem rn_wea {T W S K n : Nat} {x y : Int32} (hT : T ≤ 4) (hn : n ≤ 16) (hx : ∀ i, i < n → ¬ x ≤ nI i) (hx2 : x ≤ nI n ∨ n = 16) : ∀ (d i : Nat) (f : Int32) (wv wh ds xd yd de dd ph ra sh lh se le sd ld hs ak ao ap al yo yp lo lg : Nat → Int32) (sr as : Nat → Int64), i + d = n → mw_I T W S K (nI T, nI W, nI S, wv, wh, ds, xd, de, dd, ph, ra, sh, se, sd, ak, ao, ap, al, lo, lg) (nI T, nI W, nI S, lN K, wv, yd, de, dd, lh, le, ld, hs, ph, lo, lg, sr, ak, yo, as, yp) → ∃ (r : Int32) (u' : SX) (v' : SY), mw_I T W S K u' v' ∧ (∀ post : Int32 → SX → Prop, post r u' → wX_weave_14 post y (nI n) (d + 1) f (nI i) (nI T) (nI W) (nI S) wv wh ds xd de dd ph ra sh se sd ak ao ap al lo lg) ∧ (∀ post : Int32 → SY → Prop, post r v' → wY_weave_5 post y x (d + 1) f (nI i) (nI T) (nI W) (nI S) (lN K) wv yd de dd lh le ld hs ph lo lg sr ak yo as yp) := by
  intro d
  induction d with
  | zero =>
    intro i f wv wh ds xd yd de dd ph ra sh lh se le sd ld hs ak ao ap al yo yp lo lg sr as hi I
    have e : i = n := by omega
    subst e
    refine ⟨f, _, _, I, fun post h => br_t (nI_le (Nat.le_refl _) (by omega)) h, fun post h => ?_⟩
    by_cases z : x ≤ nI i
    · exact br_t z h
    · have e2 : i = 16 := hx2.resolve_left z
      subst e2
      exact br_f z (br_t (nI_le (a := 16) (b := 16) (Nat.le_refl _) (by decide)) h)
  | succ d ih =>
    intro i f wv wh ds xd yd de dd ph ra sh lh se le sd ld hs ak ao ap al yo yp lo lg sr as hi I
    have cn : ¬ nI n ≤ nI i := nI_ge (by omega) (by omega)
    have c16 : ¬ (16 : Int32) ≤ nI i := nI_ge (b := 16) (by omega) (by decide)
    have cx : ¬ x ≤ nI i := hx i (by omega)
    obtain ⟨j, hj, ej⟩ := pk_andE ((y.toUInt32 >>> ((2 * nI i).toUInt32 &&& Int32.toUInt32 31)).toInt32) (m := 3) 2 (by decide)
    have hj4 : j < 4 := hj
    have c : (nI j).toNatClampNeg = j := nI_clamp (by omega)
    have v4 : vp_in (nI j) 4 := vp_in_nI hj4 (by decide)
    by_cases hjT : j < T
    · have cT : ¬ nI T ≤ nI j := nI_ge hjT (by omega)
      by_cases h5 : ph j = 5
      · obtain ⟨r2, u2, v2, I2, hX2, hY2⟩ := ih (i + 1) f wv wh ds xd yd de dd ph ra sh lh se le sd ld hs ak ao ap al yo yp lo lg sr as (by omega) I
        exact ⟨r2, u2, v2, I2, fun post h => br_f cn (nm_r ej (br_f cT ⟨v4, br_t (by rw [c]; exact h5) (nm_r (nI_1 i) (hX2 post h))⟩)), fun post h => br_f cx (br_f c16 (nm_r ej (br_f cT ⟨v4, br_t (by rw [c]; exact h5) (nm_r (nI_1 i) (hY2 post h))⟩)))⟩
      · obtain ⟨r, u', v', I', hr, hX, hY⟩ := tn_turn I hjT h5
        have I1 := I'
        obtain ⟨wv', wh', ds', xd', yd', de', dd', ph', ra', sh', lh', se', le', sd', ld', hs', ak', ao', ap', al', yo', yp', lo', lg', sr', as', rfl, rfl, _⟩ := I'
        rcases hr with ⟨r1, p5⟩ | ⟨r0, p5⟩
        · have p6 : ph' j = 5 := p5
          have r2 : ¬ r = 0 := by rw [r1]; exact mw_10
          obtain ⟨r3, u2, v2, I2, hX2, hY2⟩ := ih (i + 1) (f + 1) wv' wh' ds' xd' yd' de' dd' ph' ra' sh' lh' se' le' sd' ld' hs' ak' ao' ap' al' yo' yp' lo' lg' sr' as' (by omega) I1
          exact ⟨r3, u2, v2, I2, fun post h => br_f cn (nm_r ej (br_f cT ⟨v4, br_f (by rw [c]; exact h5) (hX _ ⟨v4, br_t (by rw [c]; exact p6) (nm_e (nm_r (nI_1 i) (hX2 post h)))⟩)⟩)), fun post h => br_f cx (br_f c16 (nm_r ej (br_f cT ⟨v4, br_f (by rw [c]; exact h5) (hY _ (br_f r2 (nm_e (nm_r (nI_1 i) (hY2 post h)))))⟩)))⟩
        · have p6 : ph' j ≠ 5 := p5
          obtain ⟨r3, u2, v2, I2, hX2, hY2⟩ := ih (i + 1) f wv' wh' ds' xd' yd' de' dd' ph' ra' sh' lh' se' le' sd' ld' hs' ak' ao' ap' al' yo' yp' lo' lg' sr' as' (by omega) I1
          exact ⟨r3, u2, v2, I2, fun post h => br_f cn (nm_r ej (br_f cT ⟨v4, br_f (by rw [c]; exact h5) (hX _ ⟨v4, br_f (by rw [c]; exact p6) (nm_r (nI_1 i) (hX2 post h))⟩)⟩)), fun post h => br_f cx (br_f c16 (nm_r ej (br_f cT ⟨v4, br_f (by rw [c]; exact h5) (hY _ (br_t r0 (nm_r (nI_1 i) (hY2 post h))))⟩)))⟩
    · have cT : nI T ≤ nI j := nI_le (by omega) (by omega)
      obtain ⟨r2, u2, v2, I2, hX2, hY2⟩ := ih (i + 1) f wv wh ds xd yd de dd ph ra sh lh se le sd ld hs ak ao ap al yo yp lo lg sr as (by omega) I
      exact ⟨r2, u2, v2, I2, fun post h => br_f cn (nm_r ej (br_t cT (nm_r (nI_1 i) (hX2 post h)))), fun post h => br_f cx (br_f c16 (nm_r ej (br_t cT (nm_r (nI_1 i) (hY2 post h)))))⟩
