/-! 03: the relation -/
def mw_B (T W S : Nat) : Prop := 2 ≤ T ∧ T ≤ 4 ∧ 4 ≤ W ∧ W ≤ 16 ∧ 1 ≤ S ∧ S ≤ 8
def mw_I (T W S K : Nat) (u : SX) (v : SY) : Prop := ∃ (wv wh ds xd yd de dd ph ra sh lh se le sd ld hs ak ao ap al yo yp lo lg : Nat → Int32) (sr as : Nat → Int64), u = (nI T, nI W, nI S, wv, wh, ds, xd, de, dd, ph, ra, sh, se, sd, ak, ao, ap, al, lo, lg) ∧ v = (nI T, nI W, nI S, lN K, wv, yd, de, dd, lh, le, ld, hs, ph, lo, lg, sr, ak, yo, as, yp) ∧ mw_B T W S ∧ mw_D T W xd yd ds ∧ mw_L T W ph ra sh lh se le sd ld ∧ mw_H T W wh hs ph ∧ mw_P T W wh sh ∧ mw_A T W K ph wh sh ak ao ap al yo yp sr as ∧ mw_S T K sr
theorem mw_mk {T W S K : Nat} {wv wh ds xd yd de dd ph ra sh lh se le sd ld hs ak ao ap al yo yp lo lg : Nat → Int32} {sr as : Nat → Int64} (hB : mw_B T W S) (hD : mw_D T W xd yd ds) (hL : mw_L T W ph ra sh lh se le sd ld) (hH : mw_H T W wh hs ph) (hP : mw_P T W wh sh) (hA : mw_A T W K ph wh sh ak ao ap al yo yp sr as) (hS : mw_S T K sr) : mw_I T W S K (nI T, nI W, nI S, wv, wh, ds, xd, de, dd, ph, ra, sh, se, sd, ak, ao, ap, al, lo, lg) (nI T, nI W, nI S, lN K, wv, yd, de, dd, lh, le, ld, hs, ph, lo, lg, sr, ak, yo, as, yp) :=
  ⟨wv, wh, ds, xd, yd, de, dd, ph, ra, sh, lh, se, le, sd, ld, hs, ak, ao, ap, al, yo, yp, lo, lg, sr, as, rfl, rfl, hB, hD, hL, hH, hP, hA, hS⟩
/-- the phases of X's state -/
def mw_ph (u : SX) : Nat → Int32 := u.2.2.2.2.2.2.2.2.2.1
def i_Rel (k : Nat) (u : SX) (v : SY) : Prop := ∃ (T W S K : Nat), K ≤ k ∧ mw_I T W S K u v
theorem i_up {k : Nat} {u : SX} {v : SY} (h : i_Rel k u v) : i_Rel (k + 5) u v := by
  obtain ⟨T, W, S, K, hK, h⟩ := h
  exact ⟨T, W, S, K, by omega, h⟩
