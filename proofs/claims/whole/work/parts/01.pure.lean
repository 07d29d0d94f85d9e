/-! 01: rows pasted from the kit's pure rows (pk_), numbers, counting, rows of an array, the lowest entry that is not held -/
theorem pk_us {f : Nat → Int32} {k : Nat} {x : Int32} : upd f k x k = x := if_pos rfl
theorem pk_un {f : Nat → Int32} {k j : Nat} {x : Int32} (h : j ≠ k) : upd f k x j = f j := if_neg h
theorem pk_uLs {f : Nat → Int64} {k : Nat} {x : Int64} : vp_updL f k x k = x := if_pos rfl
theorem pk_uLn {f : Nat → Int64} {k j : Nat} {x : Int64} (h : j ≠ k) : vp_updL f k x j = f j := if_neg h
theorem pk_mul (a b : Nat) : nI a * nI b = nI (a * b) := (Int32.ofNat_mul a b).symm
theorem pk_ix (x : Int32) {n : Nat} (hn : n < 2 ^ 31) : x < 0 ∨ nI n ≤ x ∨ ∃ j : Nat, j < n ∧ x = nI j := by
  by_cases h : x < 0
  · exact Or.inl h
  · obtain ⟨j, hj, rfl⟩ := nI_of h
    by_cases h2 : j < n
    · exact Or.inr (Or.inr ⟨j, h2, rfl⟩)
    · exact Or.inr (Or.inl (nI_le (by omega) hj))
theorem pk_and (x : Int32) {m : Int32} (k : Nat) (hm : m.toBitVec.toNat = 2 ^ k - 1) : x &&& m = nI (x.toBitVec.toNat % 2 ^ k) := by
  apply Int32.toBitVec_inj.mp
  apply BitVec.eq_of_toNat_eq
  rw [Int32.toBitVec_and, BitVec.toNat_and, hm, Nat.and_two_pow_sub_one_eq_mod]
  show _ = (BitVec.ofNat 32 _).toNat
  rw [BitVec.toNat_ofNat]
  exact (Nat.mod_eq_of_lt (Nat.lt_of_le_of_lt (Nat.mod_le _ _) x.toBitVec.isLt)).symm
theorem pk_andE (x : Int32) {m : Int32} (k : Nat) (hm : m.toBitVec.toNat = 2 ^ k - 1) : ∃ j : Nat, j < 2 ^ k ∧ x &&& m = nI j := ⟨_, Nat.mod_lt _ (Nat.two_pow_pos k), pk_and x k hm⟩
theorem mw_inj {a b : Nat} (ha : a < 64) (hb : b < 64) (h : nI a = nI b) : a = b := (nI_eq (by omega) (by omega)).mp h
theorem mw_ne {a b : Nat} (ha : a < 64) (hb : b < 64) (h : a ≠ b) : nI a ≠ nI b := fun e => h (mw_inj ha hb e)
theorem mw_nm {a : Nat} (ha : a < 64) : nI a ≠ -1 := fun e => nI_pos (n := a) (by omega) (by rw [e]; decide)
theorem mw_nm' {a : Nat} (ha : a < 64) : (-1 : Int32) ≠ nI a := fun e => mw_nm ha e.symm
theorem mw_ix (t a : Nat) : nI t * 16 + nI a = nI (t * 16 + a) := by
  rw [show (16 : Int32) = nI 16 from rfl, pk_mul, nI_add]
theorem mw_b0 : vp_nar .boolean 0 = 0 := by decide
theorem mw_b1 : vp_nar .boolean 1 = 1 := by decide
/-- how many of the n cells from b on are not 0 -/
def mw_cnt (f : Nat → Int32) (b : Nat) : Nat → Nat
  | 0 => 0
  | n + 1 => mw_cnt f b n + (if f (b + n) = 0 then 0 else 1)
theorem mw_cnt_le (f : Nat → Int32) (b : Nat) : ∀ n, mw_cnt f b n ≤ n := by
  intro n
  induction n with
  | zero => exact Nat.le_refl 0
  | succ n ih =>
    show mw_cnt f b n + (if f (b + n) = 0 then 0 else 1) ≤ n + 1
    split <;> omega
theorem mw_cnt_c {f g : Nat → Int32} {b n : Nat} : (∀ a, a < n → f (b + a) = g (b + a)) → mw_cnt f b n = mw_cnt g b n := by
  induction n with
  | zero => intro _; rfl
  | succ n ih =>
    intro h
    show mw_cnt f b n + (if f (b + n) = 0 then 0 else 1) = mw_cnt g b n + (if g (b + n) = 0 then 0 else 1)
    rw [ih (fun a ha => h a (by omega)), h n (by omega)]
theorem mw_cnt_0 {f : Nat → Int32} {b n : Nat} : (∀ a, a < n → f (b + a) = 0) → mw_cnt f b n = 0 := by
  induction n with
  | zero => intro _; rfl
  | succ n ih =>
    intro h
    show mw_cnt f b n + (if f (b + n) = 0 then 0 else 1) = 0
    rw [ih (fun a ha => h a (by omega)), if_pos (h n (by omega))]
theorem mw_cnt_u {f : Nat → Int32} {b a n : Nat} (h0 : f (b + a) = 0) : a < n → mw_cnt (upd f (b + a) 1) b n = mw_cnt f b n + 1 := by
  induction n with
  | zero => intro h; omega
  | succ n ih =>
    intro h
    show mw_cnt (upd f (b + a) 1) b n + (if upd f (b + a) 1 (b + n) = 0 then 0 else 1) = mw_cnt f b n + (if f (b + n) = 0 then 0 else 1) + 1
    by_cases e : n = a
    · subst e
      have e2 : mw_cnt (upd f (b + n) 1) b n = mw_cnt f b n := mw_cnt_c (fun j hj => pk_un (by omega))
      rw [e2, pk_us, h0, if_neg (show ¬ (1 : Int32) = 0 by decide), if_pos rfl, Nat.add_zero]
    · rw [ih (by omega), pk_un (by omega)]
      exact Nat.add_right_comm _ _ _
/-- f with the n cells from b on taken from g -/
def mw_row (f g : Nat → Int32) (b n : Nat) : Nat → Int32 := fun j => if b ≤ j ∧ j < b + n then g j else f j
theorem mw_row_i {f g : Nat → Int32} {b n j : Nat} (h1 : b ≤ j) (h2 : j < b + n) : mw_row f g b n j = g j := if_pos ⟨h1, h2⟩
theorem mw_row_o {f g : Nat → Int32} {b n j : Nat} (h : j < b ∨ b + n ≤ j) : mw_row f g b n j = f j := if_neg (by omega)
theorem mw_row_0 (f g : Nat → Int32) (b : Nat) : mw_row f g b 0 = f := funext fun j => mw_row_o (by omega)
theorem mw_row_s (f g : Nat → Int32) (b n : Nat) : upd (mw_row f g b n) (b + n) (g (b + n)) = mw_row f g b (n + 1) := by
  funext j
  by_cases e : j = b + n
  · rw [e, pk_us, mw_row_i (by omega) (by omega)]
  · rw [pk_un e]
    by_cases h : b ≤ j ∧ j < b + n
    · rw [mw_row_i h.1 h.2, mw_row_i h.1 (by omega)]
    · rw [mw_row_o (by omega), mw_row_o (by omega)]
/-- f with the cells below n at which p says so taken from g -/
def mw_cu (f g : Nat → Int32) (p : Nat → Bool) (n : Nat) : Nat → Int32 := fun a => if a < n ∧ p a = true then g a else f a
theorem mw_cu_e {f g : Nat → Int32} {p : Nat → Bool} {n a : Nat} (h : a < n) (h2 : p a = true) : mw_cu f g p n a = g a := if_pos ⟨h, h2⟩
theorem mw_cu_k {f g : Nat → Int32} {p : Nat → Bool} {n a : Nat} (h : ¬ (a < n ∧ p a = true)) : mw_cu f g p n a = f a := if_neg h
theorem mw_cu_0 (f g : Nat → Int32) (p : Nat → Bool) : mw_cu f g p 0 = f := funext fun a => mw_cu_k (fun h => absurd h.1 (Nat.not_lt_zero a))
theorem mw_cu_a (f g : Nat → Int32) (p : Nat → Bool) (n : Nat) : mw_cu f g p n n = f n := mw_cu_k (fun h => absurd h.1 (Nat.lt_irrefl n))
theorem mw_cu_y {f g : Nat → Int32} {p : Nat → Bool} {n : Nat} (h : p n = true) : upd (mw_cu f g p n) n (g n) = mw_cu f g p (n + 1) := by
  funext a
  by_cases e : a = n
  · rw [e, pk_us, mw_cu_e (Nat.lt_succ_self n) h]
  · rw [pk_un e]
    by_cases q : a < n ∧ p a = true
    · rw [mw_cu_e q.1 q.2, mw_cu_e (by omega) q.2]
    · have q2 : ¬ (a < n + 1 ∧ p a = true) := fun z => q ⟨by omega, z.2⟩
      rw [mw_cu_k q, mw_cu_k q2]
theorem mw_cu_n {f g : Nat → Int32} {p : Nat → Bool} {n : Nat} (h : p n = false) : mw_cu f g p n = mw_cu f g p (n + 1) := by
  funext a
  by_cases q : a < n ∧ p a = true
  · rw [mw_cu_e q.1 q.2, mw_cu_e (by omega) q.2]
  · have q2 : ¬ (a < n + 1 ∧ p a = true) := by
      intro z
      by_cases e : a = n
      · rw [e, h] at z; exact absurd z.2 (by decide)
      · exact q ⟨by omega, z.2⟩
    rw [mw_cu_k q, mw_cu_k q2]
theorem mw_cu_c {f g g' : Nat → Int32} {p p' : Nat → Bool} {n : Nat} (h : ∀ a, a < n → p' a = p a ∧ g' a = g a) : mw_cu f g' p' n = mw_cu f g p n := by
  funext a
  by_cases q : a < n
  · by_cases e : p a = true
    · rw [mw_cu_e q e, mw_cu_e q ((h a q).1.trans e), (h a q).2]
    · have e2 : ¬ p' a = true := by rw [(h a q).1]; exact e
      rw [mw_cu_k (fun z => e z.2), mw_cu_k (fun z => e2 z.2)]
  · rw [mw_cu_k (fun z => q z.1), mw_cu_k (fun z => q z.1)]
/-- the words with the desired values of the entries below n stored -/
def mw_st (wv sh sd : Nat → Int32) (b n : Nat) : Nat → Int32 := mw_cu wv (fun a => sd (b + a)) (fun a => decide (sh (b + a) ≠ 0)) n
theorem mw_st_0 (wv sh sd : Nat → Int32) (b : Nat) : mw_st wv sh sd b 0 = wv := mw_cu_0 _ _ _
theorem mw_st_y {wv sh sd : Nat → Int32} {b n : Nat} (h : sh (b + n) ≠ 0) : upd (mw_st wv sh sd b n) n (sd (b + n)) = mw_st wv sh sd b (n + 1) := mw_cu_y (f := wv) (g := fun a => sd (b + a)) (p := fun a => decide (sh (b + a) ≠ 0)) (decide_eq_true h)
theorem mw_st_n {wv sh sd : Nat → Int32} {b n : Nat} (h : sh (b + n) = 0) : mw_st wv sh sd b n = mw_st wv sh sd b (n + 1) := mw_cu_n (f := wv) (g := fun a => sd (b + a)) (p := fun a => decide (sh (b + a) ≠ 0)) (decide_eq_false (fun z => z h))
theorem mw_st_c {wv sh sd lh ld : Nat → Int32} {b n : Nat} (h : ∀ a, a < n → lh (b + a) = sh (b + a) ∧ ld (b + a) = sd (b + a)) : mw_st wv lh ld b n = mw_st wv sh sd b n := by
  refine mw_cu_c (f := wv) (fun a ha => ⟨?_, (h a ha).2⟩)
  show decide (lh (b + a) ≠ 0) = decide (sh (b + a) ≠ 0)
  rw [(h a ha).1]
/-- the holders with those of s below n let go -/
def mw_rel (wh : Nat → Int32) (s n : Nat) : Nat → Int32 := mw_cu wh (fun _ => -1) (fun a => decide (wh a = nI s)) n
theorem mw_rel_0 (wh : Nat → Int32) (s : Nat) : mw_rel wh s 0 = wh := mw_cu_0 _ _ _
theorem mw_rel_a (wh : Nat → Int32) (s n : Nat) : mw_rel wh s n n = wh n := mw_cu_a _ _ _ _
theorem mw_rel_y {wh : Nat → Int32} {s n : Nat} (h : wh n = nI s) : upd (mw_rel wh s n) n (-1) = mw_rel wh s (n + 1) := mw_cu_y (f := wh) (g := fun _ => -1) (p := fun a => decide (wh a = nI s)) (decide_eq_true h)
theorem mw_rel_n {wh : Nat → Int32} {s n : Nat} (h : wh n ≠ nI s) : mw_rel wh s n = mw_rel wh s (n + 1) := mw_cu_n (f := wh) (g := fun _ => -1) (p := fun a => decide (wh a = nI s)) (decide_eq_false h)
theorem mw_rel_e {wh : Nat → Int32} {s n a : Nat} (ha : a < n) (h : wh a = nI s) : mw_rel wh s n a = -1 := mw_cu_e (f := wh) (g := fun _ => -1) (p := fun a => decide (wh a = nI s)) ha (decide_eq_true h)
theorem mw_rel_k {wh : Nat → Int32} {s n a : Nat} (h : wh a ≠ nI s) : mw_rel wh s n a = wh a := mw_cu_k (f := wh) (g := fun _ => -1) (p := fun a => decide (wh a = nI s)) (fun z => h (of_decide_eq_true z.2))
/-- the late marks with the aims at s below n marked -/
def mw_mrk (al ao : Nat → Int32) (s n : Nat) : Nat → Int32 := mw_cu al (fun _ => 1) (fun t => decide (ao t = nI s)) n
theorem mw_mrk_0 (al ao : Nat → Int32) (s : Nat) : mw_mrk al ao s 0 = al := mw_cu_0 _ _ _
theorem mw_mrk_y {al ao : Nat → Int32} {s n : Nat} (h : ao n = nI s) : upd (mw_mrk al ao s n) n 1 = mw_mrk al ao s (n + 1) := mw_cu_y (f := al) (g := fun _ => 1) (p := fun t => decide (ao t = nI s)) (decide_eq_true h)
theorem mw_mrk_n {al ao : Nat → Int32} {s n : Nat} (h : ao n ≠ nI s) : mw_mrk al ao s n = mw_mrk al ao s (n + 1) := mw_cu_n (f := al) (g := fun _ => 1) (p := fun t => decide (ao t = nI s)) (decide_eq_false h)
theorem mw_mrk_e {al ao : Nat → Int32} {s n t : Nat} (ht : t < n) (h : ao t = nI s) : mw_mrk al ao s n t = 1 := mw_cu_e (f := al) (g := fun _ => 1) (p := fun t => decide (ao t = nI s)) ht (decide_eq_true h)
theorem mw_mrk_k {al ao : Nat → Int32} {s n t : Nat} (h : ao t ≠ nI s) : mw_mrk al ao s n t = al t := mw_cu_k (f := al) (g := fun _ => 1) (p := fun t => decide (ao t = nI s)) (fun z => h (of_decide_eq_true z.2))
/-- the first i' ≥ i with p, of d many; i + d if there is none -/
def mw_ff (p : Nat → Bool) : Nat → Nat → Nat
  | 0, i => i
  | d + 1, i => if p i = true then i else mw_ff p d (i + 1)
theorem mw_ff_s (p : Nat → Bool) : ∀ d i, i ≤ mw_ff p d i ∧ mw_ff p d i ≤ i + d ∧ (∀ j, i ≤ j → j < mw_ff p d i → p j = false) ∧ (mw_ff p d i < i + d → p (mw_ff p d i) = true) := by
  intro d
  induction d with
  | zero =>
    intro i
    have e : mw_ff p 0 i = i := rfl
    rw [e]
    exact ⟨Nat.le_refl i, Nat.le_refl i, fun j h1 h2 => absurd h2 (Nat.not_lt.mpr h1), fun h => absurd h (Nat.lt_irrefl _)⟩
  | succ d ih =>
    intro i
    by_cases h : p i = true
    · have e : mw_ff p (d + 1) i = i := if_pos h
      rw [e]
      exact ⟨Nat.le_refl i, by omega, fun j h1 h2 => absurd h2 (Nat.not_lt.mpr h1), fun _ => h⟩
    · have e : mw_ff p (d + 1) i = mw_ff p d (i + 1) := if_neg h
      rw [e]
      obtain ⟨a, b, c, f⟩ := ih (i + 1)
      refine ⟨by omega, by omega, fun j h1 h2 => ?_, fun h2 => f (by omega)⟩
      by_cases e2 : j = i
      · rw [e2]; exact Bool.eq_false_iff.mpr h
      · exact c j (by omega) h2
/-- the lowest entry of s that s does not hold; W if there is none -/
def mw_low (sh wh : Nat → Int32) (W s : Nat) : Nat := mw_ff (fun a => decide (sh (s * 16 + a) ≠ 0 ∧ wh a ≠ nI s)) W 0
theorem mw_low_s (sh wh : Nat → Int32) (W s : Nat) : mw_low sh wh W s ≤ W ∧ (∀ b, b < mw_low sh wh W s → sh (s * 16 + b) ≠ 0 → wh b = nI s) ∧ (mw_low sh wh W s < W → sh (s * 16 + mw_low sh wh W s) ≠ 0 ∧ wh (mw_low sh wh W s) ≠ nI s) := by
  have h := mw_ff_s (fun a => decide (sh (s * 16 + a) ≠ 0 ∧ wh a ≠ nI s)) W 0
  rw [Nat.zero_add] at h
  refine ⟨h.2.1, fun b hb hn => ?_, fun hl => of_decide_eq_true (h.2.2.2 hl)⟩
  have q := of_decide_eq_false (h.2.2.1 b (Nat.zero_le b) hb)
  exact Classical.byContradiction fun z => q ⟨hn, z⟩
/-- the number of threads whose number is beyond x -/
def mw_one (L : Nat → Nat) (T x v : Nat) : Nat := if v < T ∧ x < L v then 1 else 0
def mw_mu (L : Nat → Nat) (T x : Nat) : Nat := mw_one L T x 0 + mw_one L T x 1 + mw_one L T x 2 + mw_one L T x 3
theorem mw_one_1 (L : Nat → Nat) (T x v : Nat) : mw_one L T x v ≤ 1 := by
  unfold mw_one
  split <;> omega
theorem mw_one_0 {L : Nat → Nat} {T x v : Nat} (h : T ≤ v ∨ L v ≤ x) : mw_one L T x v = 0 := if_neg (by omega)
theorem mw_one_e {L : Nat → Nat} {T x v : Nat} (h : v < T) (h2 : x < L v) : mw_one L T x v = 1 := if_pos ⟨h, h2⟩
theorem mw_one_m {L : Nat → Nat} {T x y : Nat} (h : x ≤ y) (v : Nat) : mw_one L T y v ≤ mw_one L T x v := by
  by_cases q : v < T ∧ y < L v
  · rw [mw_one_e q.1 q.2, mw_one_e q.1 (by omega)]; exact Nat.le_refl 1
  · rw [mw_one_0 (by omega)]; exact Nat.zero_le _
theorem mw_mu_l {L : Nat → Nat} {T x w : Nat} (hT : T ≤ 4) (hw : w < T) (h : x < L w) : mw_mu L T (L w) < mw_mu L T x := by
  have m := mw_one_m (L := L) (T := T) (Nat.le_of_lt h)
  have a := m 0
  have b := m 1
  have c := m 2
  have d := m 3
  have e0 : mw_one L T (L w) w = 0 := mw_one_0 (Or.inr (Nat.le_refl _))
  have e1 : mw_one L T x w = 1 := mw_one_e hw h
  unfold mw_mu
  rcases (show w = 0 ∨ w = 1 ∨ w = 2 ∨ w = 3 by omega) with q | q | q | q
  · rw [q] at e0 e1 a b c d ⊢; omega
  · rw [q] at e0 e1 a b c d ⊢; omega
  · rw [q] at e0 e1 a b c d ⊢; omega
  · rw [q] at e0 e1 a b c d ⊢; omega
theorem mw_mu_t {L : Nat → Nat} {T w : Nat} (hT : T ≤ 4) (hw : w < T) : mw_mu L T (L w) + 1 ≤ T := by
  have a := mw_one_1 L T (L w) 0
  have b := mw_one_1 L T (L w) 1
  have c := mw_one_1 L T (L w) 2
  have d := mw_one_1 L T (L w) 3
  have z : ∀ v, T ≤ v → mw_one L T (L w) v = 0 := fun v hv => mw_one_0 (Or.inl hv)
  have z1 := z 1
  have z2 := z 2
  have z3 := z 3
  have e0 : mw_one L T (L w) w = 0 := mw_one_0 (Or.inr (Nat.le_refl _))
  unfold mw_mu
  rcases (show w = 0 ∨ w = 1 ∨ w = 2 ∨ w = 3 by omega) with q | q | q | q
  · rw [q] at e0 a b c d z1 z2 z3 ⊢; omega
  · rw [q] at e0 a b c d z1 z2 z3 ⊢; omega
  · rw [q] at e0 a b c d z1 z2 z3 ⊢; omega
  · rw [q] at e0 a b c d z1 z2 z3 ⊢; omega
