section
/-! 01: rows pasted from the kit's pure rows (pk_), numbers, counting, rows of an array, the lowest entry that is not held -/
theorem pk_us {f : Nat → Int32} {k : Nat} {x : Int32} : upd f k x k = x := if_pos rfl
theorem pk_un {f : Nat → Int32} {k j : Nat} {x : Int32} (h : j ≠ k) : upd f k x j = f j := if_neg h
theorem pk_uLs {f : Nat → Int64} {k : Nat} {x : Int64} : vp_updL f k x k = x := if_pos rfl
theorem pk_uLn {f : Nat → Int64} {k j : Nat} {x : Int64} (h : j ≠ k) : vp_updL f k x j = f j := if_neg h
theorem pk_mul (a b : Nat) : nI a * nI b = nI (a * b) := (Int32.ofNat_mul a b).symm
theorem pk_ix (x : Int32) {n : Nat} (hn : n < 2 ^ 31) : x < 0 ∨ nI n ≤ x ∨ ∃ j : Nat, j < n ∧ x = nI j := by
  by_cases h : x < 0
  · exact Or.inl h
  · obtain ⟨j, hj, rfl⟩ := nI_of h
    by_cases h2 : j < n
    · exact Or.inr (Or.inr ⟨j, h2, rfl⟩)
    · exact Or.inr (Or.inl (nI_le (by omega) hj))
theorem pk_and (x : Int32) {m : Int32} (k : Nat) (hm : m.toBitVec.toNat = 2 ^ k - 1) : x &&& m = nI (x.toBitVec.toNat % 2 ^ k) := by
  apply Int32.toBitVec_inj.mp
  apply BitVec.eq_of_toNat_eq
  rw [Int32.toBitVec_and, BitVec.toNat_and, hm, Nat.and_two_pow_sub_one_eq_mod]
  show _ = (BitVec.ofNat 32 _).toNat
  rw [BitVec.toNat_ofNat]
  exact (Nat.mod_eq_of_lt (Nat.lt_of_le_of_lt (Nat.mod_le _ _) x.toBitVec.isLt)).symm
theorem pk_andE (x : Int32) {m : Int32} (k : Nat) (hm : m.toBitVec.toNat = 2 ^ k - 1) : ∃ j : Nat, j < 2 ^ k ∧ x &&& m = nI j := ⟨_, Nat.mod_lt _ (Nat.two_pow_pos k), pk_and x k hm⟩
theorem mw_inj {a b : Nat} (ha : a < 64) (hb : b < 64) (h : nI a = nI b) : a = b := (nI_eq (by omega) (by omega)).mp h
theorem mw_ne {a b : Nat} (ha : a < 64) (hb : b < 64) (h : a ≠ b) : nI a ≠ nI b := fun e => h (mw_inj ha hb e)
theorem mw_nm {a : Nat} (ha : a < 64) : nI a ≠ -1 := fun e => nI_pos (n := a) (by omega) (by rw [e]; decide)
theorem mw_nm' {a : Nat} (ha : a < 64) : (-1 : Int32) ≠ nI a := fun e => mw_nm ha e.symm
theorem mw_ix (t a : Nat) : nI t * 16 + nI a = nI (t * 16 + a) := by
  rw [show (16 : Int32) = nI 16 from rfl, pk_mul, nI_add]
theorem mw_b0 : vp_nar .boolean 0 = 0 := by decide
theorem mw_b1 : vp_nar .boolean 1 = 1 := by decide
/-- how many of the n cells from b on are not 0 -/
def mw_cnt (f : Nat → Int32) (b : Nat) : Nat → Nat
  | 0 => 0
  | n + 1 => mw_cnt f b n + (if f (b + n) = 0 then 0 else 1)
theorem mw_cnt_le (f : Nat → Int32) (b : Nat) : ∀ n, mw_cnt f b n ≤ n := by
  intro n
  induction n with
  | zero => exact Nat.le_refl 0
  | succ n ih =>
    show mw_cnt f b n + (if f (b + n) = 0 then 0 else 1) ≤ n + 1
    split <;> omega
theorem mw_cnt_c {f g : Nat → Int32} {b n : Nat} : (∀ a, a < n → f (b + a) = g (b + a)) → mw_cnt f b n = mw_cnt g b n := by
  induction n with
  | zero => intro _; rfl
  | succ n ih =>
    intro h
    show mw_cnt f b n + (if f (b + n) = 0 then 0 else 1) = mw_cnt g b n + (if g (b + n) = 0 then 0 else 1)
    rw [ih (fun a ha => h a (by omega)), h n (by omega)]
theorem mw_cnt_0 {f : Nat → Int32} {b n : Nat} : (∀ a, a < n → f (b + a) = 0) → mw_cnt f b n = 0 := by
  induction n with
  | zero => intro _; rfl
  | succ n ih =>
    intro h
    show mw_cnt f b n + (if f (b + n) = 0 then 0 else 1) = 0
    rw [ih (fun a ha => h a (by omega)), if_pos (h n (by omega))]
theorem mw_cnt_u {f : Nat → Int32} {b a n : Nat} (h0 : f (b + a) = 0) : a < n → mw_cnt (upd f (b + a) 1) b n = mw_cnt f b n + 1 := by
  induction n with
  | zero => intro h; omega
  | succ n ih =>
    intro h
    show mw_cnt (upd f (b + a) 1) b n + (if upd f (b + a) 1 (b + n) = 0 then 0 else 1) = mw_cnt f b n + (if f (b + n) = 0 then 0 else 1) + 1
    by_cases e : n = a
    · subst e
      have e2 : mw_cnt (upd f (b + n) 1) b n = mw_cnt f b n := mw_cnt_c (fun j hj => pk_un (by omega))
      rw [e2, pk_us, h0, if_neg (show ¬ (1 : Int32) = 0 by decide), if_pos rfl, Nat.add_zero]
    · rw [ih (by omega), pk_un (by omega)]
      exact Nat.add_right_comm _ _ _
/-- f with the n cells from b on taken from g -/
def mw_row (f g : Nat → Int32) (b n : Nat) : Nat → Int32 := fun j => if b ≤ j ∧ j < b + n then g j else f j
theorem mw_row_i {f g : Nat → Int32} {b n j : Nat} (h1 : b ≤ j) (h2 : j < b + n) : mw_row f g b n j = g j := if_pos ⟨h1, h2⟩
theorem mw_row_o {f g : Nat → Int32} {b n j : Nat} (h : j < b ∨ b + n ≤ j) : mw_row f g b n j = f j := if_neg (by omega)
theorem mw_row_0 (f g : Nat → Int32) (b : Nat) : mw_row f g b 0 = f := funext fun j => mw_row_o (by omega)
theorem mw_row_s (f g : Nat → Int32) (b n : Nat) : upd (mw_row f g b n) (b + n) (g (b + n)) = mw_row f g b (n + 1) := by
  funext j
  by_cases e : j = b + n
  · rw [e, pk_us, mw_row_i (by omega) (by omega)]
  · rw [pk_un e]
    by_cases h : b ≤ j ∧ j < b + n
    · rw [mw_row_i h.1 h.2, mw_row_i h.1 (by omega)]
    · rw [mw_row_o (by omega), mw_row_o (by omega)]
/-- f with the cells below n at which p says so taken from g -/
def mw_cu (f g : Nat → Int32) (p : Nat → Bool) (n : Nat) : Nat → Int32 := fun a => if a < n ∧ p a = true then g a else f a
theorem mw_cu_e {f g : Nat → Int32} {p : Nat → Bool} {n a : Nat} (h : a < n) (h2 : p a = true) : mw_cu f g p n a = g a := if_pos ⟨h, h2⟩
theorem mw_cu_k {f g : Nat → Int32} {p : Nat → Bool} {n a : Nat} (h : ¬ (a < n ∧ p a = true)) : mw_cu f g p n a = f a := if_neg h
theorem mw_cu_0 (f g : Nat → Int32) (p : Nat → Bool) : mw_cu f g p 0 = f := funext fun a => mw_cu_k (fun h => absurd h.1 (Nat.not_lt_zero a))
theorem mw_cu_a (f g : Nat → Int32) (p : Nat → Bool) (n : Nat) : mw_cu f g p n n = f n := mw_cu_k (fun h => absurd h.1 (Nat.lt_irrefl n))
theorem mw_cu_y {f g : Nat → Int32} {p : Nat → Bool} {n : Nat} (h : p n = true) : upd (mw_cu f g p n) n (g n) = mw_cu f g p (n + 1) := by
  funext a
  by_cases e : a = n
  · rw [e, pk_us, mw_cu_e (Nat.lt_succ_self n) h]
  · rw [pk_un e]
    by_cases q : a < n ∧ p a = true
    · rw [mw_cu_e q.1 q.2, mw_cu_e (by omega) q.2]
    · have q2 : ¬ (a < n + 1 ∧ p a = true) := fun z => q ⟨by omega, z.2⟩
      rw [mw_cu_k q, mw_cu_k q2]
theorem mw_cu_n {f g : Nat → Int32} {p : Nat → Bool} {n : Nat} (h : p n = false) : mw_cu f g p n = mw_cu f g p (n + 1) := by
  funext a
  by_cases q : a < n ∧ p a = true
  · rw [mw_cu_e q.1 q.2, mw_cu_e (by omega) q.2]
  · have q2 : ¬ (a < n + 1 ∧ p a = true) := by
      intro z
      by_cases e : a = n
      · rw [e, h] at z; exact absurd z.2 (by decide)
      · exact q ⟨by omega, z.2⟩
    rw [mw_cu_k q, mw_cu_k q2]
theorem mw_cu_c {f g g' : Nat → Int32} {p p' : Nat → Bool} {n : Nat} (h : ∀ a, a < n → p' a = p a ∧ g' a = g a) : mw_cu f g' p' n = mw_cu f g p n := by
  funext a
  by_cases q : a < n
  · by_cases e : p a = true
    · rw [mw_cu_e q e, mw_cu_e q ((h a q).1.trans e), (h a q).2]
    · have e2 : ¬ p' a = true := by rw [(h a q).1]; exact e
      rw [mw_cu_k (fun z => e z.2), mw_cu_k (fun z => e2 z.2)]
  · rw [mw_cu_k (fun z => q z.1), mw_cu_k (fun z => q z.1)]
/-- the words with the desired values of the entries below n stored -/
def mw_st (wv sh sd : Nat → Int32) (b n : Nat) : Nat → Int32 := mw_cu wv (fun a => sd (b + a)) (fun a => decide (sh (b + a) ≠ 0)) n
theorem mw_st_0 (wv sh sd : Nat → Int32) (b : Nat) : mw_st wv sh sd b 0 = wv := mw_cu_0 _ _ _
theorem mw_st_y {wv sh sd : Nat → Int32} {b n : Nat} (h : sh (b + n) ≠ 0) : upd (mw_st wv sh sd b n) n (sd (b + n)) = mw_st wv sh sd b (n + 1) := mw_cu_y (f := wv) (g := fun a => sd (b + a)) (p := fun a => decide (sh (b + a) ≠ 0)) (decide_eq_true h)
theorem mw_st_n {wv sh sd : Nat → Int32} {b n : Nat} (h : sh (b + n) = 0) : mw_st wv sh sd b n = mw_st wv sh sd b (n + 1) := mw_cu_n (f := wv) (g := fun a => sd (b + a)) (p := fun a => decide (sh (b + a) ≠ 0)) (decide_eq_false (fun z => z h))
theorem mw_st_c {wv sh sd lh ld : Nat → Int32} {b n : Nat} (h : ∀ a, a < n → lh (b + a) = sh (b + a) ∧ ld (b + a) = sd (b + a)) : mw_st wv lh ld b n = mw_st wv sh sd b n := by
  refine mw_cu_c (f := wv) (fun a ha => ⟨?_, (h a ha).2⟩)
  show decide (lh (b + a) ≠ 0) = decide (sh (b + a) ≠ 0)
  rw [(h a ha).1]
/-- the holders with those of s below n let go -/
def mw_rel (wh : Nat → Int32) (s n : Nat) : Nat → Int32 := mw_cu wh (fun _ => -1) (fun a => decide (wh a = nI s)) n
theorem mw_rel_0 (wh : Nat → Int32) (s : Nat) : mw_rel wh s 0 = wh := mw_cu_0 _ _ _
theorem mw_rel_a (wh : Nat → Int32) (s n : Nat) : mw_rel wh s n n = wh n := mw_cu_a _ _ _ _
theorem mw_rel_y {wh : Nat → Int32} {s n : Nat} (h : wh n = nI s) : upd (mw_rel wh s n) n (-1) = mw_rel wh s (n + 1) := mw_cu_y (f := wh) (g := fun _ => -1) (p := fun a => decide (wh a = nI s)) (decide_eq_true h)
theorem mw_rel_n {wh : Nat → Int32} {s n : Nat} (h : wh n ≠ nI s) : mw_rel wh s n = mw_rel wh s (n + 1) := mw_cu_n (f := wh) (g := fun _ => -1) (p := fun a => decide (wh a = nI s)) (decide_eq_false h)
theorem mw_rel_e {wh : Nat → Int32} {s n a : Nat} (ha : a < n) (h : wh a = nI s) : mw_rel wh s n a = -1 := mw_cu_e (f := wh) (g := fun _ => -1) (p := fun a => decide (wh a = nI s)) ha (decide_eq_true h)
theorem mw_rel_k {wh : Nat → Int32} {s n a : Nat} (h : wh a ≠ nI s) : mw_rel wh s n a = wh a := mw_cu_k (f := wh) (g := fun _ => -1) (p := fun a => decide (wh a = nI s)) (fun z => h (of_decide_eq_true z.2))
/-- the late marks with the aims at s below n marked -/
def mw_mrk (al ao : Nat → Int32) (s n : Nat) : Nat → Int32 := mw_cu al (fun _ => 1) (fun t => decide (ao t = nI s)) n
theorem mw_mrk_0 (al ao : Nat → Int32) (s : Nat) : mw_mrk al ao s 0 = al := mw_cu_0 _ _ _
theorem mw_mrk_y {al ao : Nat → Int32} {s n : Nat} (h : ao n = nI s) : upd (mw_mrk al ao s n) n 1 = mw_mrk al ao s (n + 1) := mw_cu_y (f := al) (g := fun _ => 1) (p := fun t => decide (ao t = nI s)) (decide_eq_true h)
theorem mw_mrk_n {al ao : Nat → Int32} {s n : Nat} (h : ao n ≠ nI s) : mw_mrk al ao s n = mw_mrk al ao s (n + 1) := mw_cu_n (f := al) (g := fun _ => 1) (p := fun t => decide (ao t = nI s)) (decide_eq_false h)
theorem mw_mrk_e {al ao : Nat → Int32} {s n t : Nat} (ht : t < n) (h : ao t = nI s) : mw_mrk al ao s n t = 1 := mw_cu_e (f := al) (g := fun _ => 1) (p := fun t => decide (ao t = nI s)) ht (decide_eq_true h)
theorem mw_mrk_k {al ao : Nat → Int32} {s n t : Nat} (h : ao t ≠ nI s) : mw_mrk al ao s n t = al t := mw_cu_k (f := al) (g := fun _ => 1) (p := fun t => decide (ao t = nI s)) (fun z => h (of_decide_eq_true z.2))
/-- the first i' ≥ i with p, of d many; i + d if there is none -/
def mw_ff (p : Nat → Bool) : Nat → Nat → Nat
  | 0, i => i
  | d + 1, i => if p i = true then i else mw_ff p d (i + 1)
theorem mw_ff_s (p : Nat → Bool) : ∀ d i, i ≤ mw_ff p d i ∧ mw_ff p d i ≤ i + d ∧ (∀ j, i ≤ j → j < mw_ff p d i → p j = false) ∧ (mw_ff p d i < i + d → p (mw_ff p d i) = true) := by
  intro d
  induction d with
  | zero =>
    intro i
    have e : mw_ff p 0 i = i := rfl
    rw [e]
    exact ⟨Nat.le_refl i, Nat.le_refl i, fun j h1 h2 => absurd h2 (Nat.not_lt.mpr h1), fun h => absurd h (Nat.lt_irrefl _)⟩
  | succ d ih =>
    intro i
    by_cases h : p i = true
    · have e : mw_ff p (d + 1) i = i := if_pos h
      rw [e]
      exact ⟨Nat.le_refl i, by omega, fun j h1 h2 => absurd h2 (Nat.not_lt.mpr h1), fun _ => h⟩
    · have e : mw_ff p (d + 1) i = mw_ff p d (i + 1) := if_neg h
      rw [e]
      obtain ⟨a, b, c, f⟩ := ih (i + 1)
      refine ⟨by omega, by omega, fun j h1 h2 => ?_, fun h2 => f (by omega)⟩
      by_cases e2 : j = i
      · rw [e2]; exact Bool.eq_false_iff.mpr h
      · exact c j (by omega) h2
/-- the lowest entry of s that s does not hold; W if there is none -/
def mw_low (sh wh : Nat → Int32) (W s : Nat) : Nat := mw_ff (fun a => decide (sh (s * 16 + a) ≠ 0 ∧ wh a ≠ nI s)) W 0
theorem mw_low_s (sh wh : Nat → Int32) (W s : Nat) : mw_low sh wh W s ≤ W ∧ (∀ b, b < mw_low sh wh W s → sh (s * 16 + b) ≠ 0 → wh b = nI s) ∧ (mw_low sh wh W s < W → sh (s * 16 + mw_low sh wh W s) ≠ 0 ∧ wh (mw_low sh wh W s) ≠ nI s) := by
  have h := mw_ff_s (fun a => decide (sh (s * 16 + a) ≠ 0 ∧ wh a ≠ nI s)) W 0
  rw [Nat.zero_add] at h
  refine ⟨h.2.1, fun b hb hn => ?_, fun hl => of_decide_eq_true (h.2.2.2 hl)⟩
  have q := of_decide_eq_false (h.2.2.1 b (Nat.zero_le b) hb)
  exact Classical.byContradiction fun z => q ⟨hn, z⟩
/-- the number of threads whose number is beyond x -/
def mw_one (L : Nat → Nat) (T x v : Nat) : Nat := if v < T ∧ x < L v then 1 else 0
def mw_mu (L : Nat → Nat) (T x : Nat) : Nat := mw_one L T x 0 + mw_one L T x 1 + mw_one L T x 2 + mw_one L T x 3
theorem mw_one_1 (L : Nat → Nat) (T x v : Nat) : mw_one L T x v ≤ 1 := by
  unfold mw_one
  split <;> omega
theorem mw_one_0 {L : Nat → Nat} {T x v : Nat} (h : T ≤ v ∨ L v ≤ x) : mw_one L T x v = 0 := if_neg (by omega)
theorem mw_one_e {L : Nat → Nat} {T x v : Nat} (h : v < T) (h2 : x < L v) : mw_one L T x v = 1 := if_pos ⟨h, h2⟩
theorem mw_one_m {L : Nat → Nat} {T x y : Nat} (h : x ≤ y) (v : Nat) : mw_one L T y v ≤ mw_one L T x v := by
  by_cases q : v < T ∧ y < L v
  · rw [mw_one_e q.1 q.2, mw_one_e q.1 (by omega)]; exact Nat.le_refl 1
  · rw [mw_one_0 (by omega)]; exact Nat.zero_le _
theorem mw_mu_l {L : Nat → Nat} {T x w : Nat} (hT : T ≤ 4) (hw : w < T) (h : x < L w) : mw_mu L T (L w) < mw_mu L T x := by
  have m := mw_one_m (L := L) (T := T) (Nat.le_of_lt h)
  have a := m 0
  have b := m 1
  have c := m 2
  have d := m 3
  have e0 : mw_one L T (L w) w = 0 := mw_one_0 (Or.inr (Nat.le_refl _))
  have e1 : mw_one L T x w = 1 := mw_one_e hw h
  unfold mw_mu
  rcases (show w = 0 ∨ w = 1 ∨ w = 2 ∨ w = 3 by omega) with q | q | q | q
  · rw [q] at e0 e1 a b c d ⊢; omega
  · rw [q] at e0 e1 a b c d ⊢; omega
  · rw [q] at e0 e1 a b c d ⊢; omega
  · rw [q] at e0 e1 a b c d ⊢; omega
theorem mw_mu_t {L : Nat → Nat} {T w : Nat} (hT : T ≤ 4) (hw : w < T) : mw_mu L T (L w) + 1 ≤ T := by
  have a := mw_one_1 L T (L w) 0
  have b := mw_one_1 L T (L w) 1
  have c := mw_one_1 L T (L w) 2
  have d := mw_one_1 L T (L w) 3
  have z : ∀ v, T ≤ v → mw_one L T (L w) v = 0 := fun v hv => mw_one_0 (Or.inl hv)
  have z1 := z 1
  have z2 := z 2
  have z3 := z 3
  have e0 : mw_one L T (L w) w = 0 := mw_one_0 (Or.inr (Nat.le_refl _))
  unfold mw_mu
  rcases (show w = 0 ∨ w = 1 ∨ w = 2 ∨ w = 3 by omega) with q | q | q | q
  · rw [q] at e0 a b c d z1 z2 z3 ⊢; omega
  · rw [q] at e0 a b c d z1 z2 z3 ⊢; omega
  · rw [q] at e0 a b c d z1 z2 z3 ⊢; omega
  · rw [q] at e0 a b c d z1 z2 z3 ⊢; omega
end
section
/-! 02: the pieces of the relation, and what each change of the state does to them -/
/-- drafts: the same entries on both sides; the size is their number -/
def mw_D (T W : Nat) (xd yd ds : Nat → Int32) : Prop := ∀ t, t < T → (∀ a, a < W → yd (t * 16 + a) = xd (t * 16 + a) ∧ (xd (t * 16 + a) = 0 ∨ xd (t * 16 + a) = 1)) ∧ ds t = nI (mw_cnt xd (t * 16) W)
/-- phases, and what runs: a swap's entries are the same on both sides; a read's row has its one address -/
def mw_L (T W : Nat) (ph ra sh lh se le sd ld : Nat → Int32) : Prop := ∀ t, t < T →
  ((ph t = 9 ∨ ph t = 10 ∨ ph t = 11) ∧ ∀ a, a < W → lh (t * 16 + a) = sh (t * 16 + a) ∧ le (t * 16 + a) = se (t * 16 + a) ∧ ld (t * 16 + a) = sd (t * 16 + a)) ∨
  (ph t = 8 ∧ ∃ r, r < W ∧ ra t = nI r ∧ ∀ a, a < W → lh (t * 16 + a) = if a = r then 1 else 0) ∨ ph t = 5
/-- holders: nobody, or a thread that runs an undecided swap; the other side's table says the same -/
def mw_H (T W : Nat) (wh hs ph : Nat → Int32) : Prop := ∀ a, a < W → (wh a = -1 ∨ ∃ s, s < T ∧ wh a = nI s ∧ ph s = 9) ∧ ∀ t, t < T → hs (t * 16 + a) = if wh a = nI t then 1 else 0
/-- a swap that holds a word holds all its entries below it -/
def mw_P (T W : Nat) (wh sh : Nat → Int32) : Prop := ∀ a s, a < W → s < T → wh a = nI s → ∀ b, b < a → sh (s * 16 + b) ≠ 0 → wh b = nI s
/-- aims -/
def mw_A (T W K : Nat) (ph wh sh ak ao ap al yo yp : Nat → Int32) (sr as : Nat → Int64) : Prop := ∀ t, t < T →
  (ak t = 14 ∧ ao t = -1 ∧ ap t = -1 ∧ al t = 0) ∨
  (∃ s m, s < T ∧ m ≤ K ∧ (ak t = 15 ∨ ak t = 16 ∨ ak t = 17) ∧ ao t = nI s ∧ yo t = nI s ∧ yp t = ap t ∧ as t = lN m ∧
    ((al t = 0 ∧ ph s = 9 ∧ sr s = lN m ∧ (ak t = 15 → ∃ p, p < W ∧ ap t = nI p ∧ ∀ b, b < p → sh (s * 16 + b) ≠ 0 → wh b = nI s)) ∨
     (al t = 1 ∧ (ph s ≠ 9 ∨ sr s ≠ lN m))))
/-- serials -/
def mw_S (T K : Nat) (sr : Nat → Int64) : Prop := ∀ s, s < T → ∃ m, m ≤ K ∧ sr s = lN m
/-- what an aim must be when it is set -/
def mw_Ok (T W : Nat) (ph wh sh : Nat → Int32) (kind p : Int32) (s : Nat) : Prop := s < T ∧ ph s = 9 ∧ ((kind = 16 ∧ p = -1) ∨ ((kind = 15 ∨ kind = 17) ∧ ∃ a, a < W ∧ p = nI a ∧ ∀ b, b < a → sh (s * 16 + b) ≠ 0 → wh b = nI s))
section
variable {T W K : Nat} {xd yd ds ph ra sh lh se le sd ld wh hs ak ao ap al yo yp de dd : Nat → Int32} {sr as : Nat → Int64}
theorem mw_D_put {t a : Nat} (hW : W ≤ 16) (h : mw_D T W xd yd ds) (ht : t < T) (ha : a < W) (h0 : xd (t * 16 + a) = 0) : mw_D T W (upd xd (t * 16 + a) 1) (upd yd (t * 16 + a) 1) (upd ds t (nI (mw_cnt xd (t * 16) W + 1))) := by
  intro t' ht'
  refine ⟨fun a' ha' => ?_, ?_⟩
  · by_cases e : t' * 16 + a' = t * 16 + a
    · rw [e, pk_us, pk_us]; exact ⟨rfl, Or.inr rfl⟩
    · rw [pk_un e, pk_un e]; exact (h t' ht').1 a' ha'
  · by_cases e : t' = t
    · subst e
      rw [pk_us, mw_cnt_u h0 ha]
    · have e2 : mw_cnt (upd xd (t * 16 + a) 1) (t' * 16) W = mw_cnt xd (t' * 16) W := mw_cnt_c (fun j hj => pk_un (by omega))
      rw [pk_un e, e2]; exact (h t' ht').2
theorem mw_D_put2 {t a : Nat} (h : mw_D T W xd yd ds) (h0 : xd (t * 16 + a) ≠ 0) : mw_D T W xd (upd yd (t * 16 + a) 1) ds := by
  intro t' ht'
  refine ⟨fun a' ha' => ?_, (h t' ht').2⟩
  have q := (h t' ht').1 a' ha'
  by_cases e : t' * 16 + a' = t * 16 + a
  · rw [e] at q ⊢
    rw [pk_us]
    exact ⟨(q.2.resolve_left h0).symm, q.2⟩
  · rw [pk_un e]; exact q
theorem mw_D_drop {t : Nat} (hW : W ≤ 16) (h : mw_D T W xd yd ds) : mw_D T W (mw_row xd (fun _ => 0) (t * 16) W) (mw_row yd (fun _ => 0) (t * 16) 16) (upd ds t 0) := by
  intro t' ht'
  by_cases e : t' = t
  · subst e
    refine ⟨fun a ha => ?_, ?_⟩
    · rw [mw_row_i (by omega) (by omega), mw_row_i (by omega) (by omega)]; exact ⟨rfl, Or.inl rfl⟩
    · have e2 : mw_cnt (mw_row xd (fun _ => 0) (t' * 16) W) (t' * 16) W = 0 := mw_cnt_0 (fun a ha => mw_row_i (by omega) (by omega))
      rw [pk_us, e2]; exact nI_0.symm
  · refine ⟨fun a ha => ?_, ?_⟩
    · rw [mw_row_o (by omega), mw_row_o (by omega)]; exact (h t' ht').1 a ha
    · have e2 : mw_cnt (mw_row xd (fun _ => 0) (t * 16) W) (t' * 16) W = mw_cnt xd (t' * 16) W := mw_cnt_c (fun a ha => mw_row_o (by omega))
      rw [pk_un e, e2]; exact (h t' ht').2
theorem mw_L_la {t : Nat} (hW : W ≤ 16) (h : mw_L T W ph ra sh lh se le sd ld) (D : mw_D T W xd yd ds) : mw_L T W (upd ph t 9) ra (mw_row sh (fun j => vp_nar .boolean (xd j)) (t * 16) W) (mw_row lh (fun j => vp_nar .boolean (yd j)) (t * 16) 16) (mw_row se de (t * 16) W) (mw_row le de (t * 16) 16) (mw_row sd dd (t * 16) W) (mw_row ld dd (t * 16) 16) := by
  intro t' ht'
  by_cases e : t' = t
  · subst e
    refine Or.inl ⟨Or.inl pk_us, fun a ha => ?_⟩
    rw [mw_row_i (by omega) (by omega), mw_row_i (by omega) (by omega), mw_row_i (by omega) (by omega), mw_row_i (by omega) (by omega), mw_row_i (by omega) (by omega), mw_row_i (by omega) (by omega), ((D t' ht').1 a ha).1]
    exact ⟨rfl, rfl, rfl⟩
  · rw [pk_un e]
    have o : ∀ (f g : Nat → Int32) (a : Nat), a < W → mw_row f g (t * 16) W (t' * 16 + a) = f (t' * 16 + a) := fun f g a ha => mw_row_o (by omega)
    have o2 : ∀ (f g : Nat → Int32) (a : Nat), a < W → mw_row f g (t * 16) 16 (t' * 16 + a) = f (t' * 16 + a) := fun f g a ha => mw_row_o (by omega)
    rcases h t' ht' with ⟨q, q2⟩ | ⟨q, r, hr, q2, q3⟩ | q
    · refine Or.inl ⟨q, fun a ha => ?_⟩
      rw [o _ _ a ha, o _ _ a ha, o _ _ a ha, o2 _ _ a ha, o2 _ _ a ha, o2 _ _ a ha]; exact q2 a ha
    · exact Or.inr (Or.inl ⟨q, r, hr, q2, fun a ha => (o2 _ _ a ha).trans (q3 a ha)⟩)
    · exact Or.inr (Or.inr q)
theorem mw_L_rd {t r : Nat} (hW : W ≤ 16) (h : mw_L T W ph ra sh lh se le sd ld) (hr : r < W) : mw_L T W (upd ph t 8) (upd ra t (nI r)) sh (mw_row lh (fun j => if j = t * 16 + r then 1 else 0) (t * 16) 16) se le sd ld := by
  intro t' ht'
  by_cases e : t' = t
  · subst e
    refine Or.inr (Or.inl ⟨pk_us, r, hr, pk_us, fun a ha => ?_⟩)
    rw [mw_row_i (by omega) (by omega)]
    by_cases e2 : a = r
    · rw [e2, if_pos rfl, if_pos rfl]
    · rw [if_neg (by omega), if_neg e2]
  · rw [pk_un e, pk_un e]
    have o2 : ∀ (f g : Nat → Int32) (a : Nat), a < W → mw_row f g (t * 16) 16 (t' * 16 + a) = f (t' * 16 + a) := fun f g a ha => mw_row_o (by omega)
    rcases h t' ht' with ⟨q, q2⟩ | ⟨q, r, hr, q2, q3⟩ | q
    · refine Or.inl ⟨q, fun a ha => ?_⟩
      rw [o2 _ _ a ha]; exact q2 a ha
    · exact Or.inr (Or.inl ⟨q, r, hr, q2, fun a ha => (o2 _ _ a ha).trans (q3 a ha)⟩)
    · exact Or.inr (Or.inr q)
theorem mw_L_9 (h : mw_L T W ph ra sh lh se le sd ld) {s : Nat} (hs : s < T) (h9 : ph s = 9) : ∀ a, a < W → lh (s * 16 + a) = sh (s * 16 + a) ∧ le (s * 16 + a) = se (s * 16 + a) ∧ ld (s * 16 + a) = sd (s * 16 + a) := by
  rcases h s hs with ⟨_, q2⟩ | ⟨q, _⟩ | q
  · exact q2
  · rw [h9] at q; exact absurd q (by decide)
  · rw [h9] at q; exact absurd q (by decide)
theorem mw_L_dec {s : Nat} {d : Int32} (h : mw_L T W ph ra sh lh se le sd ld) (h9 : ph s = 9) (hd : d = 10 ∨ d = 11) : mw_L T W (upd ph s d) ra sh lh se le sd ld := by
  intro t ht
  by_cases e : t = s
  · subst e
    rw [pk_us]
    exact Or.inl ⟨Or.inr hd, mw_L_9 h ht h9⟩
  · rw [pk_un e]; exact h t ht
theorem mw_L_fin {s : Nat} (h : mw_L T W ph ra sh lh se le sd ld) : mw_L T W (upd ph s 5) ra sh lh se le sd ld := by
  intro t ht
  by_cases e : t = s
  · subst e
    exact Or.inr (Or.inr pk_us)
  · rw [pk_un e]; exact h t ht
theorem mw_H_ph {t : Nat} {x : Int32} (h : mw_H T W wh hs ph) (hp : ph t ≠ 9) : mw_H T W wh hs (upd ph t x) := by
  intro a ha
  refine ⟨(h a ha).1.imp id (fun q => ?_), (h a ha).2⟩
  obtain ⟨s, h1, h2, h3⟩ := q
  exact ⟨s, h1, h2, (pk_un (fun (e : s = t) => hp (e ▸ h3))).trans h3⟩
theorem mw_H_cl {s p : Nat} (hT : T ≤ 4) (hW : W ≤ 16) (h : mw_H T W wh hs ph) (hs' : s < T) (h9 : ph s = 9) (hp : p < W) (hm : wh p = -1) : mw_H T W (upd wh p (nI s)) (upd hs (s * 16 + p) 1) ph := by
  intro a ha
  by_cases e : a = p
  · subst e
    refine ⟨Or.inr ⟨s, hs', pk_us, h9⟩, fun t ht => ?_⟩
    rw [pk_us]
    by_cases e2 : t = s
    · subst e2
      rw [pk_us, if_pos rfl]
    · rw [pk_un (by omega), if_neg (mw_ne (by omega) (by omega) (fun q => e2 q.symm)), (h a ha).2 t ht, hm, if_neg (mw_nm' (a := t) (by omega))]
  · rw [pk_un e]
    refine ⟨(h a ha).1, fun t ht => ?_⟩
    rw [pk_un (by omega)]; exact (h a ha).2 t ht
theorem mw_H_dec {s : Nat} {d : Int32} (hT : T ≤ 4) (hW : W ≤ 16) (h : mw_H T W wh hs ph) (hs' : s < T) : mw_H T W (mw_rel wh s W) (mw_row hs (fun _ => 0) (s * 16) W) (upd ph s d) := by
  intro a ha
  by_cases e : wh a = nI s
  · rw [mw_rel_e ha e]
    refine ⟨Or.inl rfl, fun t ht => ?_⟩
    rw [if_neg (mw_nm' (a := t) (by omega))]
    by_cases e2 : t = s
    · subst e2
      exact mw_row_i (by omega) (by omega)
    · rw [mw_row_o (by omega), (h a ha).2 t ht, e, if_neg (mw_ne (by omega) (by omega) (fun q => e2 q.symm))]
  · rw [mw_rel_k e]
    refine ⟨(h a ha).1.imp id (fun q => ?_), fun t ht => ?_⟩
    · obtain ⟨s', h1, h2, h3⟩ := q
      exact ⟨s', h1, h2, (pk_un (fun (z : s' = s) => e (z ▸ h2))).trans h3⟩
    · by_cases e2 : t = s
      · subst e2
        rw [mw_row_i (by omega) (by omega), if_neg e]
      · rw [mw_row_o (by omega)]; exact (h a ha).2 t ht
theorem mw_P_row {t n : Nat} {g : Nat → Int32} (hT : T ≤ 4) (hW : W ≤ 16) (hn : n ≤ 16) (H : mw_H T W wh hs ph) (hp : ph t ≠ 9) (h : mw_P T W wh sh) : mw_P T W wh (mw_row sh g (t * 16) n) := by
  intro a s ha hs' hh b hb
  have e : s ≠ t := by
    rcases (H a ha).1 with q | ⟨s', h1, h2, h3⟩
    · exact absurd (hh.symm.trans q) (mw_nm (by omega))
    · have e2 : s' = s := mw_inj (by omega) (by omega) (h2.symm.trans hh)
      exact fun z => hp (by rw [← z, ← e2]; exact h3)
  rw [mw_row_o (by omega)]
  exact h a s ha hs' hh b hb
theorem mw_P_cl {s p : Nat} (hT : T ≤ 4) (h : mw_P T W wh sh) (hs' : s < T) (hm : wh p = -1) (hb : ∀ b, b < p → sh (s * 16 + b) ≠ 0 → wh b = nI s) : mw_P T W (upd wh p (nI s)) sh := by
  intro a s' ha hs2 hh b hba hn
  by_cases e : a = p
  · subst e
    rw [pk_us] at hh
    have e2 : s = s' := mw_inj (by omega) (by omega) hh
    subst e2
    rw [pk_un (by omega)]
    exact hb b hba hn
  · rw [pk_un e] at hh
    have q := h a s' ha hs2 hh b hba hn
    by_cases e2 : b = p
    · subst e2
      exact absurd (q.symm.trans hm) (mw_nm (by omega))
    · rw [pk_un e2]; exact q
theorem mw_P_dec {s : Nat} (hT : T ≤ 4) (h : mw_P T W wh sh) (hs' : s < T) : mw_P T W (mw_rel wh s W) sh := by
  intro a s' ha hs2 hh b hba hn
  by_cases e : wh a = nI s
  · rw [mw_rel_e ha e] at hh
    exact absurd hh.symm (mw_nm (by omega))
  · rw [mw_rel_k e] at hh
    have q := h a s' ha hs2 hh b hba hn
    rw [mw_rel_k (fun z => e (hh.trans (q.symm.trans z)))]
    exact q
/-- a holder's lowest entry that it does not hold lies beyond what it holds -/
theorem mw_P_low {a w : Nat} (h : mw_P T W wh sh) (ha : a < W) (hw : w < T) (hh : wh a = nI w) : a < mw_low sh wh W w := by
  obtain ⟨_, _, h3⟩ := mw_low_s sh wh W w
  refine Nat.lt_of_not_le fun q => ?_
  have z := h3 (by omega)
  by_cases e : mw_low sh wh W w = a
  · rw [e] at z; exact z.2 hh
  · exact z.2 (h a w ha hw hh _ (by omega) z.1)
theorem mw_A_ph {t : Nat} {x : Int32} (h : mw_A T W K ph wh sh ak ao ap al yo yp sr as) (hp : ph t ≠ 9) (hx : x ≠ 9) : mw_A T W K (upd ph t x) wh sh ak ao ap al yo yp sr as := by
  intro t' ht'
  rcases h t' ht' with q | ⟨s, m, hs, hm, hk, e1, e2, e3, e4, q⟩
  · exact Or.inl q
  · refine Or.inr ⟨s, m, hs, hm, hk, e1, e2, e3, e4, ?_⟩
    rcases q with ⟨a, b, c, d⟩ | ⟨a, b⟩
    · exact Or.inl ⟨a, (pk_un (fun (e : s = t) => hp (e ▸ b))).trans b, c, d⟩
    · refine Or.inr ⟨a, b.imp (fun b' => ?_) id⟩
      by_cases e : s = t
      · rw [e, pk_us]; exact hx
      · rw [pk_un e]; exact b'
theorem mw_A_la {t n : Nat} {g : Nat → Int32} (hW : W ≤ 16) (hn : n ≤ 16) (hK : K < 1000000) (h : mw_A T W K ph wh sh ak ao ap al yo yp sr as) (hp : ph t ≠ 9) : mw_A T W (K + 1) (upd ph t 9) wh (mw_row sh g (t * 16) n) ak ao ap al yo yp (vp_updL sr t (lN (K + 1))) as := by
  intro t' ht'
  rcases h t' ht' with q | ⟨s, m, hs, hm, hk, e1, e2, e3, e4, q⟩
  · exact Or.inl q
  · refine Or.inr ⟨s, m, hs, by omega, hk, e1, e2, e3, e4, ?_⟩
    rcases q with ⟨a, b, c, d⟩ | ⟨a, b⟩
    · have e : s ≠ t := fun e => hp (e ▸ b)
      refine Or.inl ⟨a, (pk_un e).trans b, (pk_uLn e).trans c, fun z => ?_⟩
      obtain ⟨p, p1, p2, p3⟩ := d z
      refine ⟨p, p1, p2, fun b hb => ?_⟩
      rw [mw_row_o (by omega)]
      exact p3 b hb
    · refine Or.inr ⟨a, ?_⟩
      by_cases e : s = t
      · refine Or.inr ?_
        rw [e, pk_uLs]
        intro z
        have := (lN_eq (by omega) (by omega)).mp z
        omega
      · rw [pk_un e, pk_uLn e]; exact b
theorem mw_A_cl {s p : Nat} (hT : T ≤ 4) (h : mw_A T W K ph wh sh ak ao ap al yo yp sr as) (hm : wh p = -1) : mw_A T W K ph (upd wh p (nI s)) sh ak ao ap al yo yp sr as := by
  intro t' ht'
  rcases h t' ht' with q | ⟨s', m, hs, hm', hk, e1, e2, e3, e4, q⟩
  · exact Or.inl q
  · refine Or.inr ⟨s', m, hs, hm', hk, e1, e2, e3, e4, ?_⟩
    rcases q with ⟨a, b, c, d⟩ | q
    · refine Or.inl ⟨a, b, c, fun z => ?_⟩
      obtain ⟨p', p1, p2, p3⟩ := d z
      refine ⟨p', p1, p2, fun b hb hn => ?_⟩
      have y := p3 b hb hn
      by_cases e : b = p
      · subst e
        exact absurd (y.symm.trans hm) (mw_nm (by omega))
      · rw [pk_un e]; exact y
    · exact Or.inr q
theorem mw_A_dec {s : Nat} {d : Int32} (hT : T ≤ 4) (h : mw_A T W K ph wh sh ak ao ap al yo yp sr as) (hs' : s < T) (hd : d ≠ 9) : mw_A T W K (upd ph s d) (mw_rel wh s W) sh ak ao ap (mw_mrk al ao s T) yo yp sr as := by
  intro t' ht'
  rcases h t' ht' with ⟨q1, q2, q3, q4⟩ | ⟨s', m, hs, hm', hk, e1, e2, e3, e4, q⟩
  · refine Or.inl ⟨q1, q2, q3, ?_⟩
    rw [mw_mrk_k (fun z => mw_nm (a := s) (by omega) (z.symm.trans q2))]; exact q4
  · refine Or.inr ⟨s', m, hs, hm', hk, e1, e2, e3, e4, ?_⟩
    by_cases e : s' = s
    · subst e
      refine Or.inr ⟨mw_mrk_e ht' e1, Or.inl ?_⟩
      rw [pk_us]; exact hd
    · have ne : nI s' ≠ nI s := mw_ne (by omega) (by omega) e
      rw [mw_mrk_k (fun z => ne (e1.symm.trans z)), pk_un e]
      rcases q with ⟨a, b, c, d⟩ | q
      · refine Or.inl ⟨a, b, c, fun z => ?_⟩
        obtain ⟨p', p1, p2, p3⟩ := d z
        refine ⟨p', p1, p2, fun b hb hn => ?_⟩
        have y := p3 b hb hn
        rw [mw_rel_k (fun z => ne (y.symm.trans z))]; exact y
      · exact Or.inr q
theorem mw_A_fin {t : Nat} (h : mw_A T W K ph wh sh ak ao ap al yo yp sr as) : mw_A T W K ph wh sh (upd ak t 14) (upd ao t (-1)) (upd ap t (-1)) (upd al t 0) yo yp sr as := by
  intro t' ht'
  by_cases e : t' = t
  · subst e
    exact Or.inl ⟨pk_us, pk_us, pk_us, pk_us⟩
  · simp only [pk_un e]
    exact h t' ht'
theorem mw_A_set {t s : Nat} {kind p : Int32} (S : mw_S T K sr) (h : mw_A T W K ph wh sh ak ao ap al yo yp sr as) (ok : mw_Ok T W ph wh sh kind p s) : mw_A T W K ph wh sh (upd ak t kind) (upd ao t (nI s)) (upd ap t p) (upd al t 0) (upd yo t (nI s)) (upd yp t p) sr (vp_updL as t (sr s)) := by
  intro t' ht'
  by_cases e : t' = t
  · subst e
    obtain ⟨o1, o2, o3⟩ := ok
    obtain ⟨m, hm, hsr⟩ := S s o1
    refine Or.inr ⟨s, m, o1, hm, ?_, pk_us, pk_us, pk_us.trans pk_us.symm, pk_uLs.trans hsr, Or.inl ⟨pk_us, o2, hsr, fun z => ?_⟩⟩
    · rw [pk_us]
      rcases o3 with ⟨k1, _⟩ | ⟨k1 | k1, _⟩
      · exact Or.inr (Or.inl k1)
      · exact Or.inl k1
      · exact Or.inr (Or.inr k1)
    · rw [pk_us] at z
      rw [pk_us]
      rcases o3 with ⟨k1, _⟩ | ⟨_, q⟩
      · rw [k1] at z; exact absurd z (by decide)
      · exact q
  · simp only [pk_un e, pk_uLn e]
    exact h t' ht'
theorem mw_S_la {t : Nat} (S : mw_S T K sr) : mw_S T (K + 1) (vp_updL sr t (lN (K + 1))) := by
  intro s hs
  by_cases e : s = t
  · subst e
    exact ⟨K + 1, Nat.le_refl _, pk_uLs⟩
  · obtain ⟨m, h1, h2⟩ := S s hs
    exact ⟨m, by omega, (pk_uLn e).trans h2⟩
end
end
section
/-! 03: the relation -/
def mw_B (T W S : Nat) : Prop := 2 ≤ T ∧ T ≤ 4 ∧ 4 ≤ W ∧ W ≤ 16 ∧ 1 ≤ S ∧ S ≤ 8
def mw_I (T W S K : Nat) (u : SX) (v : SY) : Prop := ∃ (wv wh ds xd yd de dd ph ra sh lh se le sd ld hs ak ao ap al yo yp lo lg : Nat → Int32) (sr as : Nat → Int64), u = (nI T, nI W, nI S, wv, wh, ds, xd, de, dd, ph, ra, sh, se, sd, ak, ao, ap, al, lo, lg) ∧ v = (nI T, nI W, nI S, lN K, wv, yd, de, dd, lh, le, ld, hs, ph, lo, lg, sr, ak, yo, as, yp) ∧ mw_B T W S ∧ mw_D T W xd yd ds ∧ mw_L T W ph ra sh lh se le sd ld ∧ mw_H T W wh hs ph ∧ mw_P T W wh sh ∧ mw_A T W K ph wh sh ak ao ap al yo yp sr as ∧ mw_S T K sr
theorem mw_mk {T W S K : Nat} {wv wh ds xd yd de dd ph ra sh lh se le sd ld hs ak ao ap al yo yp lo lg : Nat → Int32} {sr as : Nat → Int64} (hB : mw_B T W S) (hD : mw_D T W xd yd ds) (hL : mw_L T W ph ra sh lh se le sd ld) (hH : mw_H T W wh hs ph) (hP : mw_P T W wh sh) (hA : mw_A T W K ph wh sh ak ao ap al yo yp sr as) (hS : mw_S T K sr) : mw_I T W S K (nI T, nI W, nI S, wv, wh, ds, xd, de, dd, ph, ra, sh, se, sd, ak, ao, ap, al, lo, lg) (nI T, nI W, nI S, lN K, wv, yd, de, dd, lh, le, ld, hs, ph, lo, lg, sr, ak, yo, as, yp) :=
  ⟨wv, wh, ds, xd, yd, de, dd, ph, ra, sh, lh, se, le, sd, ld, hs, ak, ao, ap, al, yo, yp, lo, lg, sr, as, rfl, rfl, hB, hD, hL, hH, hP, hA, hS⟩
/-- the phases of X's state -/
def mw_ph (u : SX) : Nat → Int32 := u.2.2.2.2.2.2.2.2.2.1
def i_Rel (k : Nat) (u : SX) (v : SY) : Prop := ∃ (T W S K : Nat), K ≤ k ∧ mw_I T W S K u v
theorem i_up {k : Nat} {u : SX} {v : SY} (h : i_Rel k u v) : i_Rel (k + 5) u v := by
  obtain ⟨T, W, S, K, hK, h⟩ := h
  exact ⟨T, W, S, K, by omega, h⟩
end
section
/-! 04: X's walks, one lemma a private method, with a general post -/
theorem mw_10 : ¬ (1 : Int32) = 0 := by decide
theorem mw_uc {f : Nat → Int32} {n : Nat} {x : Int32} (h : n < 64) : upd f (nI n).toNatClampNeg x = upd f n x := by rw [nI_clamp (by omega)]
theorem mw_ucb0 {f : Nat → Int32} {n : Nat} (h : n < 64) : upd f (nI n).toNatClampNeg (vp_nar .boolean 0) = upd f n 0 := by rw [nI_clamp (by omega), mw_b0]
theorem mw_ucb1 {f : Nat → Int32} {n : Nat} (h : n < 64) : upd f (nI n).toNatClampNeg (vp_nar .boolean 1) = upd f n 1 := by rw [nI_clamp (by omega), mw_b1]
theorem mw_row_s0 (f g : Nat → Int32) (n : Nat) : upd (mw_row f g 0 n) n (g n) = mw_row f g 0 (n + 1) := by
  have h := mw_row_s f g 0 n
  rwa [Nat.zero_add] at h
theorem xa_en {post : Int32 → Prop} {t a : Nat} (h : post (nI (t * 16 + a))) : wpX_entry post (nI t) (nI a) := by
  unfold wpX_entry
  rw [mw_ix]
  exact h
theorem xa_clamp0 (x : Int32) (hi : Nat) (hh : hi ≤ 64) : ∃ n, n ≤ hi ∧ (∀ post : Int32 → Prop, post (nI n) → wpX_clamp post x 0 (nI hi)) ∧ (∀ i, i < n → ¬ x ≤ nI i) ∧ (x ≤ nI n ∨ n = hi) := by
  by_cases h0 : x < 0
  · exact ⟨0, Nat.zero_le _, fun post h => br_f (Int32.not_le.mpr h0) h, fun i hi => absurd hi (Nat.not_lt_zero i), Or.inl (Int32.le_of_lt h0)⟩
  · obtain ⟨j, hj, rfl⟩ := nI_of h0
    by_cases h1 : j ≤ hi
    · exact ⟨j, h1, fun post h => br_t (nI_pos' hj) (br_t (nI_le h1 (by omega)) h), fun i hi => nI_ge hi hj, Or.inl (nI_le (Nat.le_refl j) hj)⟩
    · exact ⟨hi, Nat.le_refl hi, fun post h => br_t (nI_pos' hj) (br_f (nI_ge (by omega) hj) h), fun i hi => nI_ge (by omega) hj, Or.inr rfl⟩
theorem xa_clampT (x : Int32) (lo hi : Nat) (hl : lo ≤ hi) (hh : hi ≤ 64) : ∃ n, lo ≤ n ∧ n ≤ hi ∧ (∀ post : Int32 → Prop, post (nI n) → wpX_clamp post x (nI lo) (nI hi)) ∧ (∀ (post : Int32 → Prop) (v : SY), post (nI n) → wpY_clamp post v x (nI lo) (nI hi)) := by
  by_cases h1 : nI lo ≤ x
  · obtain ⟨j, hj, rfl⟩ := nI_of (Int32.not_lt.mpr (Int32.le_trans (nI_pos' (n := lo) (by omega)) h1))
    have h2 : lo ≤ j := (nI_leI (by omega) hj).mp h1
    by_cases h3 : j ≤ hi
    · refine ⟨j, h2, h3, fun post h => br_t h1 (br_t (nI_le h3 (by omega)) h), fun post v h => ?_⟩
      obtain ⟨v1, v2, v3, v4, v5, v6, v7, v8, v9, v10, v11, v12, v13, v14, v15, v16, v17, v18, v19, v20⟩ := v
      exact br_t h1 (br_t (nI_le h3 (by omega)) h)
    · refine ⟨hi, hl, Nat.le_refl hi, fun post h => br_t h1 (br_f (nI_ge (by omega) hj) h), fun post v h => ?_⟩
      obtain ⟨v1, v2, v3, v4, v5, v6, v7, v8, v9, v10, v11, v12, v13, v14, v15, v16, v17, v18, v19, v20⟩ := v
      exact br_t h1 (br_f (nI_ge (by omega) hj) h)
  · refine ⟨lo, Nat.le_refl lo, hl, fun post h => br_f h1 h, fun post v h => ?_⟩
    obtain ⟨v1, v2, v3, v4, v5, v6, v7, v8, v9, v10, v11, v12, v13, v14, v15, v16, v17, v18, v19, v20⟩ := v
    exact br_f h1 h
section
variable {T W S K : Nat} {wv wh ds xd yd de dd ph ra sh lh se le sd ld hs ak ao ap al yo yp lo lg : Nat → Int32} {sr as : Nat → Int64}
theorem xa_bt0 {t : Nat} {post : Int32 → Prop} (ht : t < T) (hT : T ≤ 4) (h : post 0) : wpX_badThread post (nI T, nI W, nI S, wv, wh, ds, xd, de, dd, ph, ra, sh, se, sd, ak, ao, ap, al, lo, lg) (nI t) :=
  br_f (nI_pos (by omega)) (br_t (nI_lt ht (by omega)) h)
theorem xa_bt1 {x : Int32} {post : Int32 → Prop} (hx : x < 0 ∨ nI T ≤ x) (h : post 1) : wpX_badThread post (nI T, nI W, nI S, wv, wh, ds, xd, de, dd, ph, ra, sh, se, sd, ak, ao, ap, al, lo, lg) x := by
  by_cases h0 : x < 0
  · exact br_t h0 h
  · exact br_f h0 (br_f (Int32.not_lt.mpr (hx.resolve_left h0)) h)
theorem xa_ba0 {a : Nat} {post : Int32 → Prop} (ha : a < W) (hW : W ≤ 16) (h : post 0) : wpX_badAddress post (nI T, nI W, nI S, wv, wh, ds, xd, de, dd, ph, ra, sh, se, sd, ak, ao, ap, al, lo, lg) (nI a) :=
  br_f (nI_pos (by omega)) (br_t (nI_lt ha (by omega)) h)
theorem xa_ba1 {x : Int32} {post : Int32 → Prop} (hx : x < 0 ∨ nI W ≤ x) (h : post 1) : wpX_badAddress post (nI T, nI W, nI S, wv, wh, ds, xd, de, dd, ph, ra, sh, se, sd, ak, ao, ap, al, lo, lg) x := by
  by_cases h0 : x < 0
  · exact br_t h0 h
  · exact br_f h0 (br_f (Int32.not_lt.mpr (hx.resolve_left h0)) h)
theorem xa_sa {t : Nat} {kind o p : Int32} {post : SX → Prop} (ht : t < 4) (h : post (nI T, nI W, nI S, wv, wh, ds, xd, de, dd, ph, ra, sh, se, sd, upd ak t kind, upd ao t o, upd ap t p, upd al t 0, lo, lg)) : wpX_setAim post (nI T, nI W, nI S, wv, wh, ds, xd, de, dd, ph, ra, sh, se, sd, ak, ao, ap, al, lo, lg) (nI t) kind o p :=
  ⟨vp_in_nI ht (by decide), nm_r (mw_uc (by omega)) ⟨vp_in_nI ht (by decide), nm_r (mw_uc (by omega)) ⟨vp_in_nI ht (by decide), nm_r (mw_uc (by omega)) ⟨vp_in_nI ht (by decide), nm_r (mw_ucb0 (by omega)) h⟩⟩⟩⟩
theorem xa_fi {t : Nat} {how : Int32} {post : SX → Prop} (ht : t < 4) (h : post (nI T, nI W, nI S, wv, wh, ds, xd, de, dd, upd ph t 5, ra, sh, se, sd, upd ak t 14, upd ao t (-1), upd ap t (-1), upd al t 0, upd lo t how, lg)) : wpX_finish post (nI T, nI W, nI S, wv, wh, ds, xd, de, dd, ph, ra, sh, se, sd, ak, ao, ap, al, lo, lg) (nI t) how :=
  ⟨vp_in_nI ht (by decide), nm_r (mw_uc (by omega)) ⟨vp_in_nI ht (by decide), nm_r (mw_uc (by omega)) (xa_sa ht h)⟩⟩
theorem xl_ed {t : Nat} {post : SX → Prop} (ht : t < 4) (hW : W ≤ 16) (h : post (nI T, nI W, nI S, wv, wh, upd ds t 0, mw_row xd (fun _ => 0) (t * 16) W, de, dd, ph, ra, sh, se, sd, ak, ao, ap, al, lo, lg)) : ∀ d i, i + d = W → wX_emptyDraft_2 post (nI t) (nI T) (nI W) (nI S) (d + 1) (nI i) wv wh ds (mw_row xd (fun _ => 0) (t * 16) i) de dd ph ra sh se sd ak ao ap al lo lg := by
  intro d
  induction d with
  | zero =>
    intro i hi
    have e : i = W := by omega
    subst e
    exact br_t (nI_le (Nat.le_refl _) (by omega)) ⟨vp_in_nI ht (by decide), nm_r (mw_uc (by omega)) h⟩
  | succ d ih =>
    intro i hi
    exact br_f (nI_ge (by omega) (by omega)) (xa_en ⟨vp_in_nI (by omega) (by decide), nm_r (e' := mw_row xd (fun _ => 0) (t * 16) (i + 1)) (by rw [mw_ucb0 (by omega)]; exact mw_row_s xd (fun _ => 0) (t * 16) i) (nm_r (nI_1 i) (ih (i + 1) (by omega)))⟩)
theorem xa_ed {t : Nat} {post : SX → Prop} (ht : t < 4) (hW : W ≤ 16) (h : post (nI T, nI W, nI S, wv, wh, upd ds t 0, mw_row xd (fun _ => 0) (t * 16) W, de, dd, ph, ra, sh, se, sd, ak, ao, ap, al, lo, lg)) : wpX_emptyDraft post (nI T, nI W, nI S, wv, wh, ds, xd, de, dd, ph, ra, sh, se, sd, ak, ao, ap, al, lo, lg) (nI t) := by
  have q := xl_ed ht hW h W 0 (by omega)
  rw [mw_row_0] at q
  exact ⟨W + 1, q⟩
theorem xl_cp {t : Nat} {post : SX → Prop} (ht : t < 4) (hW : W ≤ 16) (h : post (nI T, nI W, nI S, wv, wh, ds, xd, de, dd, ph, ra, mw_row sh (fun j => vp_nar .boolean (xd j)) (t * 16) W, mw_row se de (t * 16) W, mw_row sd dd (t * 16) W, ak, ao, ap, al, lo, lg)) : ∀ d i, i + d = W → wX_copyDraftToSwap_2 post (nI t) (nI T) (nI W) (nI S) (d + 1) (nI i) wv wh ds xd de dd ph ra (mw_row sh (fun j => vp_nar .boolean (xd j)) (t * 16) i) (mw_row se de (t * 16) i) (mw_row sd dd (t * 16) i) ak ao ap al lo lg := by
  intro d
  induction d with
  | zero =>
    intro i hi
    have e : i = W := by omega
    subst e
    exact br_t (nI_le (Nat.le_refl _) (by omega)) h
  | succ d ih =>
    intro i hi
    have c : (nI (t * 16 + i)).toNatClampNeg = t * 16 + i := nI_clamp (by omega)
    have v : vp_in (nI (t * 16 + i)) 64 := vp_in_nI (by omega) (by decide)
    exact br_f (nI_ge (by omega) (by omega)) (xa_en ⟨v, v, nm_r (e' := mw_row sh (fun j => vp_nar .boolean (xd j)) (t * 16) (i + 1)) (by rw [c]; exact mw_row_s sh (fun j => vp_nar .boolean (xd j)) (t * 16) i) ⟨v, v, nm_r (e' := mw_row se de (t * 16) (i + 1)) (by rw [c]; exact mw_row_s se de (t * 16) i) ⟨v, v, nm_r (e' := mw_row sd dd (t * 16) (i + 1)) (by rw [c]; exact mw_row_s sd dd (t * 16) i) (nm_r (nI_1 i) (ih (i + 1) (by omega)))⟩⟩⟩)
theorem xa_cp {t : Nat} {post : SX → Prop} (ht : t < 4) (hW : W ≤ 16) (h : post (nI T, nI W, nI S, wv, wh, ds, xd, de, dd, ph, ra, mw_row sh (fun j => vp_nar .boolean (xd j)) (t * 16) W, mw_row se de (t * 16) W, mw_row sd dd (t * 16) W, ak, ao, ap, al, lo, lg)) : wpX_copyDraftToSwap post (nI T, nI W, nI S, wv, wh, ds, xd, de, dd, ph, ra, sh, se, sd, ak, ao, ap, al, lo, lg) (nI t) := by
  have q := xl_cp ht hW h W 0 (by omega)
  rw [mw_row_0, mw_row_0, mw_row_0] at q
  exact ⟨W + 1, q⟩
theorem xa_cl_y {s p : Nat} {post : SX → Prop} (hs : s < 4) (hp : p < 16) (h1 : wh p = -1) (h2 : wv p = se (s * 16 + p)) (h : post (nI T, nI W, nI S, wv, upd wh p (nI s), ds, xd, de, dd, ph, ra, sh, se, sd, ak, ao, ap, al, lo, lg)) : wpX_claim post (nI T, nI W, nI S, wv, wh, ds, xd, de, dd, ph, ra, sh, se, sd, ak, ao, ap, al, lo, lg) (nI s) (nI p) :=
  ⟨vp_in_nI hp (by decide), br_t (by rw [nI_clamp (by omega)]; exact h1) ⟨vp_in_nI hp (by decide), xa_en ⟨vp_in_nI (by omega) (by decide), br_t (by rw [nI_clamp (by omega), nI_clamp (by omega)]; exact h2) ⟨vp_in_nI hp (by decide), nm_r (mw_uc (by omega)) h⟩⟩⟩⟩
theorem xa_cl_n {s p : Nat} {post : SX → Prop} (hs : s < 4) (hp : p < 16) (h1 : ¬ (wh p = -1 ∧ wv p = se (s * 16 + p))) (h : post (nI T, nI W, nI S, wv, wh, ds, xd, de, dd, ph, ra, sh, se, sd, ak, ao, ap, al, lo, lg)) : wpX_claim post (nI T, nI W, nI S, wv, wh, ds, xd, de, dd, ph, ra, sh, se, sd, ak, ao, ap, al, lo, lg) (nI s) (nI p) := by
  by_cases z : wh p = -1
  · have z2 : ¬ wv p = se (s * 16 + p) := fun q => h1 ⟨z, q⟩
    exact ⟨vp_in_nI hp (by decide), br_t (by rw [nI_clamp (by omega)]; exact z) ⟨vp_in_nI hp (by decide), xa_en ⟨vp_in_nI (by omega) (by decide), br_f (by rw [nI_clamp (by omega), nI_clamp (by omega)]; exact z2) h⟩⟩⟩
  · exact ⟨vp_in_nI hp (by decide), br_f (by rw [nI_clamp (by omega)]; exact z) h⟩
theorem xl_sd {s : Nat} {post : SX → Prop} (hs : s < 4) (hW : W ≤ 16) (h : post (nI T, nI W, nI S, mw_st wv sh sd (s * 16) W, wh, ds, xd, de, dd, ph, ra, sh, se, sd, ak, ao, ap, al, lo, lg)) : ∀ d i, i + d = W → wX_storeDesired_2 post (nI s) (nI T) (nI W) (nI S) (d + 1) (nI i) (mw_st wv sh sd (s * 16) i) wh ds xd de dd ph ra sh se sd ak ao ap al lo lg := by
  intro d
  induction d with
  | zero =>
    intro i hi
    have e : i = W := by omega
    subst e
    exact br_t (nI_le (Nat.le_refl _) (by omega)) h
  | succ d ih =>
    intro i hi
    have c : (nI (s * 16 + i)).toNatClampNeg = s * 16 + i := nI_clamp (by omega)
    have v : vp_in (nI (s * 16 + i)) 64 := vp_in_nI (by omega) (by decide)
    have q := ih (i + 1) (by omega)
    by_cases z : sh (s * 16 + i) = 0
    · rw [← mw_st_n z] at q
      exact br_f (nI_ge (by omega) (by omega)) (xa_en ⟨v, br_t (by rw [c]; exact z) (nm_r (nI_1 i) q)⟩)
    · exact br_f (nI_ge (by omega) (by omega)) (xa_en ⟨v, br_f (by rw [c]; exact z) ⟨v, vp_in_nI (by omega) (by decide), nm_r (e' := mw_st wv sh sd (s * 16) (i + 1)) (by rw [c, nI_clamp (by omega)]; exact mw_st_y z) (nm_r (nI_1 i) q)⟩⟩)
theorem xa_sd {s : Nat} {post : SX → Prop} (hs : s < 4) (hW : W ≤ 16) (h : post (nI T, nI W, nI S, mw_st wv sh sd (s * 16) W, wh, ds, xd, de, dd, ph, ra, sh, se, sd, ak, ao, ap, al, lo, lg)) : wpX_storeDesired post (nI T, nI W, nI S, wv, wh, ds, xd, de, dd, ph, ra, sh, se, sd, ak, ao, ap, al, lo, lg) (nI s) := by
  have q := xl_sd hs hW h W 0 (by omega)
  rw [mw_st_0] at q
  exact ⟨W + 1, q⟩
theorem xl_de2 {s : Nat} {post : SX → Prop} (hT : T ≤ 4) (h : post (nI T, nI W, nI S, wv, wh, ds, xd, de, dd, ph, ra, sh, se, sd, ak, ao, ap, mw_mrk al ao s T, lo, lg)) : ∀ d i, i + d = T → wX_decide_42 post (nI s) (nI T) (nI W) (nI S) (d + 1) (nI i) wv wh ds xd de dd ph ra sh se sd ak ao ap (mw_mrk al ao s i) lo lg := by
  intro d
  induction d with
  | zero =>
    intro i hi
    have e : i = T := by omega
    subst e
    exact br_t (nI_le (Nat.le_refl _) (by omega)) h
  | succ d ih =>
    intro i hi
    have c : (nI i).toNatClampNeg = i := nI_clamp (by omega)
    have v : vp_in (nI i) 4 := vp_in_nI (by omega) (by decide)
    have q := ih (i + 1) (by omega)
    by_cases z : ao i = nI s
    · exact br_f (nI_ge (by omega) (by omega)) ⟨v, br_t (by rw [c]; exact z) ⟨v, nm_r (e' := mw_mrk al ao s (i + 1)) (by rw [c, mw_b1]; exact mw_mrk_y z) (nm_r (nI_1 i) q)⟩⟩
    · rw [← mw_mrk_n z] at q
      exact br_f (nI_ge (by omega) (by omega)) ⟨v, br_f (by rw [c]; exact z) (nm_r (nI_1 i) q)⟩
theorem xl_de {s : Nat} {post : SX → Prop} (hT : T ≤ 4) (hW : W ≤ 16) (h : post (nI T, nI W, nI S, wv, mw_rel wh s W, ds, xd, de, dd, ph, ra, sh, se, sd, ak, ao, ap, mw_mrk al ao s T, lo, lg)) : ∀ d i, i + d = W → wX_decide_9 post (nI s) (nI T) (nI W) (nI S) (d + 1) (nI i) wv (mw_rel wh s i) ds xd de dd ph ra sh se sd ak ao ap al lo lg := by
  intro d
  induction d with
  | zero =>
    intro i hi
    have e : i = W := by omega
    subst e
    have q := xl_de2 hT h T 0 (by omega)
    rw [mw_mrk_0] at q
    exact br_t (nI_le (Nat.le_refl _) (by omega)) ⟨T + 1, q⟩
  | succ d ih =>
    intro i hi
    have c : (nI i).toNatClampNeg = i := nI_clamp (by omega)
    have v : vp_in (nI i) 16 := vp_in_nI (by omega) (by decide)
    have q := ih (i + 1) (by omega)
    by_cases z : wh i = nI s
    · exact br_f (nI_ge (by omega) (by omega)) ⟨v, br_t (by rw [c, mw_rel_a]; exact z) ⟨v, nm_r (e' := mw_rel wh s (i + 1)) (by rw [c]; exact mw_rel_y z) (nm_r (nI_1 i) q)⟩⟩
    · rw [← mw_rel_n z] at q
      exact br_f (nI_ge (by omega) (by omega)) ⟨v, br_f (by rw [c, mw_rel_a]; exact z) (nm_r (nI_1 i) q)⟩
theorem xa_de {s : Nat} {x : Int32} {post : SX → Prop} (hs : s < 4) (hT : T ≤ 4) (hW : W ≤ 16) (h : post (nI T, nI W, nI S, wv, mw_rel wh s W, ds, xd, de, dd, upd ph s x, ra, sh, se, sd, ak, ao, ap, mw_mrk al ao s T, lo, lg)) : wpX_decide post (nI T, nI W, nI S, wv, wh, ds, xd, de, dd, ph, ra, sh, se, sd, ak, ao, ap, al, lo, lg) (nI s) x := by
  have q := xl_de hT hW h W 0 (by omega)
  rw [mw_rel_0] at q
  exact ⟨vp_in_nI hs (by decide), nm_r (mw_uc (by omega)) ⟨W + 1, q⟩⟩
theorem xl_lo {s m : Nat} {post : Int32 → Prop} (hs : s < 4) (hW : W ≤ 16) (h1 : m ≤ W) (h2 : ∀ b, b < m → sh (s * 16 + b) ≠ 0 → wh b = nI s) (h3 : m < W → sh (s * 16 + m) ≠ 0 ∧ wh m ≠ nI s) (h : post (if m < W then nI m else -1)) : ∀ d i, i + d = W → i ≤ m → wX_lowestNotHeld_2 post (nI s) (nI T) (nI W) (nI S) wv wh ds xd de dd ph ra sh se sd ak ao ap al lo lg (d + 1) (nI i) := by
  intro d
  induction d with
  | zero =>
    intro i hi hm
    have e : i = W := by omega
    subst e
    rw [if_neg (by omega)] at h
    exact br_t (nI_le (Nat.le_refl _) (by omega)) h
  | succ d ih =>
    intro i hi hm
    have c : (nI (s * 16 + i)).toNatClampNeg = s * 16 + i := nI_clamp (by omega)
    have c2 : (nI i).toNatClampNeg = i := nI_clamp (by omega)
    have v : vp_in (nI (s * 16 + i)) 64 := vp_in_nI (by omega) (by decide)
    have v2 : vp_in (nI i) 16 := vp_in_nI (by omega) (by decide)
    by_cases e : i = m
    · subst e
      have q := h3 (by omega)
      rw [if_pos (by omega)] at h
      exact br_f (nI_ge (by omega) (by omega)) (xa_en ⟨v, br_f (by rw [c]; exact q.1) ⟨v2, br_f (by rw [c2]; exact q.2) h⟩⟩)
    · have q := ih (i + 1) (by omega) (by omega)
      by_cases z : sh (s * 16 + i) = 0
      · exact br_f (nI_ge (by omega) (by omega)) (xa_en ⟨v, br_t (by rw [c]; exact z) (nm_r (nI_1 i) q)⟩)
      · exact br_f (nI_ge (by omega) (by omega)) (xa_en ⟨v, br_f (by rw [c]; exact z) ⟨v2, br_t (by rw [c2]; exact h2 i (by omega) z) (nm_r (nI_1 i) q)⟩⟩)
theorem xa_lo_y {s : Nat} {post : Int32 → Prop} (hs : s < 4) (hW : W ≤ 16) (hm : mw_low sh wh W s < W) (h : post (nI (mw_low sh wh W s))) : wpX_lowestNotHeld post (nI T, nI W, nI S, wv, wh, ds, xd, de, dd, ph, ra, sh, se, sd, ak, ao, ap, al, lo, lg) (nI s) := by
  obtain ⟨l1, l2, l3⟩ := mw_low_s sh wh W s
  exact ⟨W + 1, xl_lo hs hW l1 l2 l3 (by rw [if_pos hm]; exact h) W 0 (by omega) (by omega)⟩
theorem xa_lo_n {s : Nat} {post : Int32 → Prop} (hs : s < 4) (hW : W ≤ 16) (hm : ¬ mw_low sh wh W s < W) (h : post (-1)) : wpX_lowestNotHeld post (nI T, nI W, nI S, wv, wh, ds, xd, de, dd, ph, ra, sh, se, sd, ak, ao, ap, al, lo, lg) (nI s) := by
  obtain ⟨l1, l2, l3⟩ := mw_low_s sh wh W s
  exact ⟨W + 1, xl_lo hs hW l1 l2 l3 (by rw [if_neg hm]; exact h) W 0 (by omega) (by omega)⟩
end
end
section
/-! 05: Y's walks, one lemma a private method, with a general post -/
theorem mw_in {t a : Nat} (ht : t < 4) (ha : a < 16) : vp_in (nI t * 16 + nI a) 64 := by
  rw [mw_ix]
  exact vp_in_nI (by omega) (by decide)
theorem mw_cl {t a : Nat} (ht : t < 4) (ha : a < 16) : (nI t * 16 + nI a).toNatClampNeg = t * 16 + a := by
  rw [mw_ix]
  exact nI_clamp (by omega)
theorem mw_ux {f : Nat → Int32} {t a : Nat} {x : Int32} (ht : t < 4) (ha : a < 16) : upd f (nI t * 16 + nI a).toNatClampNeg x = upd f (t * 16 + a) x := by rw [mw_cl ht ha]
theorem mw_ub0 {f : Nat → Int32} {t a : Nat} (ht : t < 4) (ha : a < 16) : upd f (nI t * 16 + nI a).toNatClampNeg (vp_nar .boolean 0) = upd f (t * 16 + a) 0 := by rw [mw_cl ht ha, mw_b0]
theorem mw_ub1 {f : Nat → Int32} {t a : Nat} (ht : t < 4) (ha : a < 16) : upd f (nI t * 16 + nI a).toNatClampNeg (vp_nar .boolean 1) = upd f (t * 16 + a) 1 := by rw [mw_cl ht ha, mw_b1]
theorem mw_uL {f : Nat → Int64} {n : Nat} {x : Int64} (h : n < 64) : vp_updL f (nI n).toNatClampNeg x = vp_updL f n x := by rw [nI_clamp (by omega)]
section
variable {T W S K : Nat} {wv wh ds xd yd de dd ph ra sh lh se le sd ld hs ak ao ap al yo yp lo lg : Nat → Int32} {sr as : Nat → Int64}
theorem ya_bt0 {t : Nat} {post : Int32 → Prop} (ht : t < T) (hT : T ≤ 4) (h : post 0) : wpY_badThread post (nI T, nI W, nI S, lN K, wv, yd, de, dd, lh, le, ld, hs, ph, lo, lg, sr, ak, yo, as, yp) (nI t) :=
  br_f (nI_pos (by omega)) (br_t (nI_lt ht (by omega)) h)
theorem ya_bt1 {x : Int32} {post : Int32 → Prop} (hx : x < 0 ∨ nI T ≤ x) (h : post 1) : wpY_badThread post (nI T, nI W, nI S, lN K, wv, yd, de, dd, lh, le, ld, hs, ph, lo, lg, sr, ak, yo, as, yp) x := by
  by_cases h0 : x < 0
  · exact br_t h0 h
  · exact br_f h0 (br_f (Int32.not_lt.mpr (hx.resolve_left h0)) h)
theorem ya_bw0 {a : Nat} {post : Int32 → Prop} (ha : a < W) (hW : W ≤ 16) (h : post 0) : wpY_badWord post (nI T, nI W, nI S, lN K, wv, yd, de, dd, lh, le, ld, hs, ph, lo, lg, sr, ak, yo, as, yp) (nI a) :=
  br_f (nI_pos (by omega)) (br_t (nI_lt ha (by omega)) h)
theorem ya_bw1 {x : Int32} {post : Int32 → Prop} (hx : x < 0 ∨ nI W ≤ x) (h : post 1) : wpY_badWord post (nI T, nI W, nI S, lN K, wv, yd, de, dd, lh, le, ld, hs, ph, lo, lg, sr, ak, yo, as, yp) x := by
  by_cases h0 : x < 0
  · exact br_t h0 h
  · exact br_f h0 (br_f (Int32.not_lt.mpr (hx.resolve_left h0)) h)
theorem yl_ds {t : Nat} {post : Int32 → Prop} (ht : t < 4) (hW : W ≤ 16) (h : post (nI (mw_cnt yd (t * 16) W))) : ∀ d i, i + d = W → wY_draftSize_4 post (nI t) (nI T) (nI W) (nI S) (lN K) wv yd de dd lh le ld hs ph lo lg sr ak yo as yp (d + 1) (nI (mw_cnt yd (t * 16) i)) (nI i) := by
  intro d
  induction d with
  | zero =>
    intro i hi
    have e : i = W := by omega
    subst e
    exact br_t (nI_le (Nat.le_refl _) (by omega)) h
  | succ d ih =>
    intro i hi
    have hi2 : i < 16 := by omega
    have q := ih (i + 1) (by omega)
    by_cases z : yd (t * 16 + i) = 0
    · have e : mw_cnt yd (t * 16) (i + 1) = mw_cnt yd (t * 16) i := by
        show mw_cnt yd (t * 16) i + (if yd (t * 16 + i) = 0 then 0 else 1) = _
        rw [if_pos z, Nat.add_zero]
      rw [e] at q
      exact br_f (nI_ge (by omega) (by omega)) ⟨mw_in ht hi2, br_t (by rw [mw_cl ht hi2]; exact z) (nm_r (nI_1 i) q)⟩
    · have e : mw_cnt yd (t * 16) (i + 1) = mw_cnt yd (t * 16) i + 1 := by
        show mw_cnt yd (t * 16) i + (if yd (t * 16 + i) = 0 then 0 else 1) = _
        rw [if_neg z]
      rw [e] at q
      exact br_f (nI_ge (by omega) (by omega)) ⟨mw_in ht hi2, br_f (by rw [mw_cl ht hi2]; exact z) (nm_r (nI_1 _) (nm_r (nI_1 i) q))⟩
theorem ya_ds {t : Nat} {post : Int32 → Prop} (ht : t < 4) (hW : W ≤ 16) (h : post (nI (mw_cnt yd (t * 16) W))) : wpY_draftSize post (nI T, nI W, nI S, lN K, wv, yd, de, dd, lh, le, ld, hs, ph, lo, lg, sr, ak, yo, as, yp) (nI t) :=
  ⟨W + 1, yl_ds ht hW h W 0 (by omega)⟩
theorem ya_pu {t a : Nat} {x y : Int32} {post : Int32 → SY → Prop} (ht : t < 4) (ha : a < 16) (h : post 1 (nI T, nI W, nI S, lN K, wv, upd yd (t * 16 + a) 1, upd de (t * 16 + a) x, upd dd (t * 16 + a) y, lh, le, ld, hs, ph, lo, lg, sr, ak, yo, as, yp)) : wY_put_46 post (nI t) (nI a) x y (nI T) (nI W) (nI S) (lN K) wv yd de dd lh le ld hs ph lo lg sr ak yo as yp :=
  ⟨mw_in ht ha, nm_r (mw_ub1 ht ha) ⟨mw_in ht ha, nm_r (mw_ux ht ha) ⟨mw_in ht ha, nm_r (mw_ux ht ha) h⟩⟩⟩
theorem yl_dr {t : Nat} {ln : Int64} {post : Int32 → SY → Prop} (ht : t < 4) (h : post 1 (nI T, nI W, nI S, ln, wv, mw_row yd (fun _ => 0) (t * 16) 16, de, dd, lh, le, ld, hs, ph, lo, lg, sr, ak, yo, as, yp)) : ∀ d i, i + d = 16 → wY_drop_12 post (nI t) (nI T) (nI W) (nI S) ln (d + 1) (nI i) wv (mw_row yd (fun _ => 0) (t * 16) i) de dd lh le ld hs ph lo lg sr ak yo as yp := by
  intro d
  induction d with
  | zero =>
    intro i hi
    have e : i = 16 := by omega
    subst e
    exact br_t (nI_le (a := 16) (b := 16) (Nat.le_refl _) (by decide)) h
  | succ d ih =>
    intro i hi
    have hi2 : i < 16 := by omega
    exact br_f (nI_ge (b := 16) hi2 (by decide)) ⟨mw_in ht hi2, nm_r (e' := mw_row yd (fun _ => 0) (t * 16) (i + 1)) (by rw [mw_ub0 ht hi2]; exact mw_row_s yd (fun _ => 0) (t * 16) i) (nm_r (nI_1 i) (ih (i + 1) (by omega)))⟩
theorem ya_dr {t : Nat} {ln : Int64} {post : Int32 → SY → Prop} (ht : t < T) (hT : T ≤ 4) (h : post 1 (nI T, nI W, nI S, ln, wv, mw_row yd (fun _ => 0) (t * 16) 16, de, dd, lh, le, ld, hs, ph, lo, lg, sr, ak, yo, as, yp)) : wpY_drop post (nI T, nI W, nI S, ln, wv, yd, de, dd, lh, le, ld, hs, ph, lo, lg, sr, ak, yo, as, yp) (nI t) := by
  have q := yl_dr (t := t) (by omega) h 16 0 (by omega)
  rw [mw_row_0] at q
  have b : ∀ p : Int32 → Prop, p 0 → wpY_badThread p (nI T, nI W, nI S, ln, wv, yd, de, dd, lh, le, ld, hs, ph, lo, lg, sr, ak, yo, as, yp) (nI t) := fun p hp => br_f (nI_pos (by omega)) (br_t (nI_lt ht (by omega)) hp)
  unfold wpY_drop
  dsimp only
  exact b _ (br_t rfl ⟨17, q⟩)
theorem yl_la {t : Nat} {post : Int32 → SY → Prop} (ht : t < T) (hT : T ≤ 4) (h : post 1 (nI T, nI W, nI S, lN (K + 1), wv, mw_row yd (fun _ => 0) (t * 16) 16, de, dd, mw_row lh (fun j => vp_nar .boolean (yd j)) (t * 16) 16, mw_row le de (t * 16) 16, mw_row ld dd (t * 16) 16, hs, upd ph t 9, lo, lg, vp_updL sr t (lN (K + 1)), ak, yo, as, yp)) : ∀ d i, i + d = 16 → wY_launch_37 post (nI t) (nI T) (nI W) (nI S) (lN K) (d + 1) (nI (t * 16 + i)) wv yd de dd (mw_row lh (fun j => vp_nar .boolean (yd j)) (t * 16) i) (mw_row le de (t * 16) i) (mw_row ld dd (t * 16) i) hs ph lo lg sr ak yo as yp := by
  intro d
  have e16 : nI t * 16 + 16 = nI (t * 16 + 16) := mw_ix t 16
  induction d with
  | zero =>
    intro i hi
    have e : i = 16 := by omega
    subst e
    exact br_t (by rw [e16]; exact nI_le (Nat.le_refl _) (by omega)) (nm_r (lN_1 K) ⟨vp_in_nI (by omega) (by decide), nm_r (mw_uL (by omega)) ⟨vp_in_nI (by omega) (by decide), nm_r (mw_uc (by omega)) (ya_dr ht hT h)⟩⟩)
  | succ d ih =>
    intro i hi
    have c : (nI (t * 16 + i)).toNatClampNeg = t * 16 + i := nI_clamp (by omega)
    have v : vp_in (nI (t * 16 + i)) 64 := vp_in_nI (by omega) (by decide)
    exact br_f (by rw [e16]; exact nI_ge (by omega) (by omega)) ⟨v, v, nm_r (e' := mw_row lh (fun j => vp_nar .boolean (yd j)) (t * 16) (i + 1)) (by rw [c]; exact mw_row_s lh (fun j => vp_nar .boolean (yd j)) (t * 16) i) ⟨v, v, nm_r (e' := mw_row le de (t * 16) (i + 1)) (by rw [c]; exact mw_row_s le de (t * 16) i) ⟨v, v, nm_r (e' := mw_row ld dd (t * 16) (i + 1)) (by rw [c]; exact mw_row_s ld dd (t * 16) i) (nm_r (nI_1 (t * 16 + i)) (ih (i + 1) (by omega)))⟩⟩⟩
theorem yl_rd {t r : Nat} {post : Int32 → SY → Prop} (ht : t < 4) (hr : r < 16) (h : post 1 (nI T, nI W, nI S, lN K, wv, yd, de, dd, mw_row lh (fun j => if j = t * 16 + r then 1 else 0) (t * 16) 16, le, ld, hs, upd ph t 8, lo, lg, sr, ak, yo, as, yp)) : ∀ d i, i + d = 16 → wY_read_32 post (nI t) (nI r) (nI T) (nI W) (nI S) (lN K) (d + 1) (nI i) wv yd de dd (mw_row lh (fun j => if j = t * 16 + r then 1 else 0) (t * 16) i) le ld hs ph lo lg sr ak yo as yp := by
  intro d
  induction d with
  | zero =>
    intro i hi
    have e : i = 16 := by omega
    subst e
    exact br_t (nI_le (a := 16) (b := 16) (Nat.le_refl _) (by decide)) ⟨vp_in_nI ht (by decide), nm_r (mw_uc (by omega)) h⟩
  | succ d ih =>
    intro i hi
    have hi2 : i < 16 := by omega
    have q := ih (i + 1) (by omega)
    have k := mw_row_s lh (fun j => if j = t * 16 + r then 1 else 0) (t * 16) i
    by_cases e : i = r
    · have k2 : upd (mw_row lh (fun j => if j = t * 16 + r then 1 else 0) (t * 16) i) (t * 16 + i) 1 = mw_row lh (fun j => if j = t * 16 + r then 1 else 0) (t * 16) (i + 1) := by
        rw [← k]
        rw [if_pos (by omega)]
      exact br_f (nI_ge (b := 16) hi2 (by decide)) (br_t (by rw [e]) ⟨mw_in ht hi2, nm_r ((mw_ub1 ht hi2).trans k2) (nm_r (nI_1 i) q)⟩)
    · have k2 : upd (mw_row lh (fun j => if j = t * 16 + r then 1 else 0) (t * 16) i) (t * 16 + i) 0 = mw_row lh (fun j => if j = t * 16 + r then 1 else 0) (t * 16) (i + 1) := by
        rw [← k]
        rw [if_neg (by omega)]
      exact br_f (nI_ge (b := 16) hi2 (by decide)) (br_f (mw_ne (by omega) (by omega) e) ⟨mw_in ht hi2, nm_r ((mw_ub0 ht hi2).trans k2) (nm_r (nI_1 i) q)⟩)
theorem ya_lt14 {t : Nat} {post : Int32 → Prop} (ht : t < T) (hT : T ≤ 4) (h14 : ak t = 14) (h : post 0) : wpY_late post (nI T, nI W, nI S, lN K, wv, yd, de, dd, lh, le, ld, hs, ph, lo, lg, sr, ak, yo, as, yp) (nI t) := by
  unfold wpY_late
  dsimp only
  exact ya_bt0 ht hT (br_t rfl ⟨vp_in_nI (by omega) (by decide), br_t (by rw [nI_clamp (by omega)]; exact h14) h⟩)
theorem ya_lt0 {t s : Nat} {post : Int32 → Prop} (ht : t < T) (hT : T ≤ 4) (hk : ak t ≠ 14) (hs' : s < T) (ho : yo t = nI s) (h9 : ph s = 9) (he : sr s = as t) (h : post 0) : wpY_late post (nI T, nI W, nI S, lN K, wv, yd, de, dd, lh, le, ld, hs, ph, lo, lg, sr, ak, yo, as, yp) (nI t) := by
  have c : (nI t).toNatClampNeg = t := nI_clamp (by omega)
  have c2 : (nI s).toNatClampNeg = s := nI_clamp (by omega)
  have v : vp_in (nI t) 4 := vp_in_nI (by omega) (by decide)
  have v2 : vp_in (yo (nI t).toNatClampNeg) 4 := by rw [c, ho]; exact vp_in_nI (by omega) (by decide)
  unfold wpY_late
  dsimp only
  exact ya_bt0 ht hT (br_t rfl ⟨v, br_f (by rw [c]; exact hk) ⟨v, v2, br_t (by rw [c, ho, c2]; exact h9) ⟨v, v2, v, br_t (by rw [c, ho, c2]; exact he) h⟩⟩⟩)
theorem ya_lt1 {t s : Nat} {post : Int32 → Prop} (ht : t < T) (hT : T ≤ 4) (hk : ak t ≠ 14) (hs' : s < T) (ho : yo t = nI s) (hh : ph s ≠ 9 ∨ sr s ≠ as t) (h : post 1) : wpY_late post (nI T, nI W, nI S, lN K, wv, yd, de, dd, lh, le, ld, hs, ph, lo, lg, sr, ak, yo, as, yp) (nI t) := by
  have c : (nI t).toNatClampNeg = t := nI_clamp (by omega)
  have c2 : (nI s).toNatClampNeg = s := nI_clamp (by omega)
  have v : vp_in (nI t) 4 := vp_in_nI (by omega) (by decide)
  have v2 : vp_in (yo (nI t).toNatClampNeg) 4 := by rw [c, ho]; exact vp_in_nI (by omega) (by decide)
  unfold wpY_late
  dsimp only
  by_cases z : ph s = 9
  · exact ya_bt0 ht hT (br_t rfl ⟨v, br_f (by rw [c]; exact hk) ⟨v, v2, br_t (by rw [c, ho, c2]; exact z) ⟨v, v2, v, br_f (by rw [c, ho, c2]; exact hh.resolve_left (fun q => q z)) h⟩⟩⟩)
  · exact ya_bt0 ht hT (br_t rfl ⟨v, br_f (by rw [c]; exact hk) ⟨v, v2, br_f (by rw [c, ho, c2]; exact z) h⟩⟩)
theorem yl_ho {a : Nat} {r : Int32} {post : Int32 → Prop} (hT : T ≤ 4) (ha : a < W) (hW : W ≤ 16) (H : mw_H T W wh hs ph) (hr : wh a = r) (h : post r) : ∀ d i, i + d = T → (∀ t, t < i → wh a ≠ nI t) → wY_holder_12 post (nI a) (nI T) (nI W) (nI S) (lN K) wv yd de dd lh le ld hs ph lo lg sr ak yo as yp (d + 1) (nI i) := by
  intro d
  induction d with
  | zero =>
    intro i hi hn
    have e : i = T := by omega
    subst e
    have z : wh a = -1 := by
      rcases (H a ha).1 with z | ⟨s, h1, h2, _⟩
      · exact z
      · exact absurd h2 (hn s h1)
    rw [hr] at z
    rw [z] at h
    exact br_t (nI_le (Nat.le_refl _) (by omega)) h
  | succ d ih =>
    intro i hi hn
    have hi4 : i < 4 := by omega
    have ha2 : a < 16 := by omega
    have e := (H a ha).2 i (by omega)
    by_cases z : wh a = nI i
    · rw [if_pos z] at e
      rw [hr] at z
      rw [z] at h
      exact br_f (nI_ge (by omega) (by omega)) ⟨mw_in hi4 ha2, br_f (by rw [mw_cl hi4 ha2, e]; exact mw_10) h⟩
    · rw [if_neg z] at e
      exact br_f (nI_ge (by omega) (by omega)) ⟨mw_in hi4 ha2, br_t (by rw [mw_cl hi4 ha2]; exact e) (nm_r (nI_1 i) (ih (i + 1) (by omega) (fun t ht => if q : t = i then q ▸ z else hn t (by omega))))⟩
theorem ya_ho {a : Nat} {r : Int32} {post : Int32 → Prop} (hT : T ≤ 4) (ha : a < W) (hW : W ≤ 16) (H : mw_H T W wh hs ph) (hr : wh a = r) (h : post r) : wpY_holder post (nI T, nI W, nI S, lN K, wv, yd, de, dd, lh, le, ld, hs, ph, lo, lg, sr, ak, yo, as, yp) (nI a) := by
  unfold wpY_holder
  dsimp only
  exact ya_bw0 ha hW (br_t rfl ⟨T + 1, yl_ho hT ha hW H hr h T 0 (by omega) (fun t ht => absurd ht (Nat.not_lt_zero t))⟩)
theorem yl_lm {s m : Nat} {post : Int32 → Prop} (hs' : s < 4) (hW : W ≤ 16) (h1 : m ≤ W) (h2 : ∀ b, b < m → lh (s * 16 + b) ≠ 0 → hs (s * 16 + b) ≠ 0) (h3 : m < W → lh (s * 16 + m) ≠ 0 ∧ hs (s * 16 + m) = 0) (h : post (if m < W then nI m else -1)) : ∀ d i, i + d = W → i ≤ m → wY_lowestMissing_2 post (nI s) (nI T) (nI W) (nI S) (lN K) wv yd de dd lh le ld hs ph lo lg sr ak yo as yp (d + 1) (nI i) := by
  intro d
  induction d with
  | zero =>
    intro i hi hm
    have e : i = W := by omega
    subst e
    rw [if_neg (by omega)] at h
    exact br_t (nI_le (Nat.le_refl _) (by omega)) h
  | succ d ih =>
    intro i hi hm
    have hi2 : i < 16 := by omega
    have c := mw_cl hs' hi2
    have v := mw_in hs' hi2
    by_cases e : i = m
    · subst e
      have q := h3 (by omega)
      rw [if_pos (by omega)] at h
      exact br_f (nI_ge (by omega) (by omega)) ⟨v, br_f (by rw [c]; exact q.1) ⟨v, br_t (by rw [c]; exact q.2) h⟩⟩
    · have q := ih (i + 1) (by omega) (by omega)
      by_cases z : lh (s * 16 + i) = 0
      · exact br_f (nI_ge (by omega) (by omega)) ⟨v, br_t (by rw [c]; exact z) (nm_r (nI_1 i) q)⟩
      · exact br_f (nI_ge (by omega) (by omega)) ⟨v, br_f (by rw [c]; exact z) ⟨v, br_f (by rw [c]; exact h2 i (by omega) z) (nm_r (nI_1 i) q)⟩⟩
theorem ya_lm {s m : Nat} {post : Int32 → Prop} (hs' : s < 4) (hW : W ≤ 16) (h1 : m ≤ W) (h2 : ∀ b, b < m → lh (s * 16 + b) ≠ 0 → hs (s * 16 + b) ≠ 0) (h3 : m < W → lh (s * 16 + m) ≠ 0 ∧ hs (s * 16 + m) = 0) (h : post (if m < W then nI m else -1)) : wpY_lowestMissing post (nI T, nI W, nI S, lN K, wv, yd, de, dd, lh, le, ld, hs, ph, lo, lg, sr, ak, yo, as, yp) (nI s) :=
  ⟨W + 1, yl_lm hs' hW h1 h2 h3 h W 0 (by omega) (by omega)⟩
/-- the same, for a swap: its lowest entry that is not held -/
theorem ya_lmw {s : Nat} {post : Int32 → Prop} (hT : T ≤ 4) (hs' : s < T) (hW : W ≤ 16) (L : mw_L T W ph ra sh lh se le sd ld) (H : mw_H T W wh hs ph) (h9 : ph s = 9) (h : post (if mw_low sh wh W s < W then nI (mw_low sh wh W s) else -1)) : wpY_lowestMissing post (nI T, nI W, nI S, lN K, wv, yd, de, dd, lh, le, ld, hs, ph, lo, lg, sr, ak, yo, as, yp) (nI s) := by
  obtain ⟨l1, l2, l3⟩ := mw_low_s sh wh W s
  have q := mw_L_9 L hs' h9
  refine ya_lm (by omega) hW l1 (fun b hb hn => ?_) (fun hm => ?_) h
  · rw [(q b (by omega)).1] at hn
    rw [(H b (by omega)).2 s hs', if_pos (l2 b hb hn)]
    exact mw_10
  · rw [(q _ hm).1, (H _ hm).2 s hs', if_neg (l3 hm).2]
    exact ⟨(l3 hm).1, rfl⟩
theorem ya_va {a : Nat} {post : Int32 → Prop} (ha : a < W) (hW : W ≤ 16) (h : post (wv a)) : wpY_value post (nI T, nI W, nI S, lN K, wv, yd, de, dd, lh, le, ld, hs, ph, lo, lg, sr, ak, yo, as, yp) (nI a) := by
  unfold wpY_value
  dsimp only
  exact ya_bw0 ha hW (br_t rfl ⟨vp_in_nI (by omega) (by decide), by rw [nI_clamp (by omega)]; exact h⟩)
theorem ya_sa {t o : Nat} {kind p : Int32} {post : Int32 → SY → Prop} (ht : t < 4) (ho : o < 4) (h : post 0 (nI T, nI W, nI S, lN K, wv, yd, de, dd, lh, le, ld, hs, ph, lo, lg, sr, upd ak t kind, upd yo t (nI o), vp_updL as t (sr o), upd yp t p)) : wpY_setAim post (nI T, nI W, nI S, lN K, wv, yd, de, dd, lh, le, ld, hs, ph, lo, lg, sr, ak, yo, as, yp) (nI t) kind (nI o) p :=
  ⟨vp_in_nI ht (by decide), nm_r (mw_uc (by omega)) ⟨vp_in_nI ht (by decide), nm_r (mw_uc (by omega)) ⟨vp_in_nI ho (by decide), vp_in_nI ht (by decide), nm_r (e' := vp_updL as t (sr o)) (by rw [nI_clamp (by omega), nI_clamp (by omega)]) ⟨vp_in_nI ht (by decide), nm_r (mw_uc (by omega)) h⟩⟩⟩⟩
theorem ya_fi {t : Nat} {how : Int32} {post : Int32 → SY → Prop} (ht : t < 4) (h : post 1 (nI T, nI W, nI S, lN K, wv, yd, de, dd, lh, le, ld, hs, upd ph t 5, upd lo t how, lg, sr, upd ak t 14, yo, as, yp)) : wpY_finish post (nI T, nI W, nI S, lN K, wv, yd, de, dd, lh, le, ld, hs, ph, lo, lg, sr, ak, yo, as, yp) (nI t) how :=
  ⟨vp_in_nI ht (by decide), nm_r (mw_uc (by omega)) ⟨vp_in_nI ht (by decide), nm_r (mw_uc (by omega)) ⟨vp_in_nI ht (by decide), nm_r (mw_uc (by omega)) h⟩⟩⟩
theorem yl_ac1 {s : Nat} {post : SY → Prop} (hs' : s < 4) (hW : W ≤ 16) (h10 : ph s = 10) (h : post (nI T, nI W, nI S, lN K, mw_st wv lh ld (s * 16) W, yd, de, dd, lh, le, ld, mw_row hs (fun _ => 0) (s * 16) W, ph, lo, lg, sr, ak, yo, as, yp)) : ∀ d i, i + d = W → wY_act_113 post (nI s) (nI T) (nI W) (nI S) (lN K) (d + 1) (nI i) (mw_st wv lh ld (s * 16) i) yd de dd lh le ld (mw_row hs (fun _ => 0) (s * 16) i) ph lo lg sr ak yo as yp := by
  intro d
  induction d with
  | zero =>
    intro i hi
    have e : i = W := by omega
    subst e
    exact br_t (nI_le (Nat.le_refl _) (by omega)) h
  | succ d ih =>
    intro i hi
    have hi2 : i < 16 := by omega
    have c := mw_cl hs' hi2
    have v := mw_in hs' hi2
    have q := ih (i + 1) (by omega)
    have k := mw_row_s hs (fun _ => 0) (s * 16) i
    by_cases z : lh (s * 16 + i) = 0
    · rw [← mw_st_n z] at q
      exact br_f (nI_ge (by omega) (by omega)) ⟨vp_in_nI hs' (by decide), br_t (by rw [nI_clamp (by omega)]; exact h10) ⟨v, br_t (by rw [c]; exact z) ⟨v, nm_r ((mw_ub0 hs' hi2).trans k) (nm_r (nI_1 i) q)⟩⟩⟩
    · exact br_f (nI_ge (by omega) (by omega)) ⟨vp_in_nI hs' (by decide), br_t (by rw [nI_clamp (by omega)]; exact h10) ⟨v, br_f (by rw [c]; exact z) ⟨v, vp_in_nI hi2 (by decide), nm_r (e' := mw_st wv lh ld (s * 16) (i + 1)) (by rw [c, nI_clamp (by omega)]; exact mw_st_y z) ⟨v, nm_r ((mw_ub0 hs' hi2).trans k) (nm_r (nI_1 i) q)⟩⟩⟩⟩
theorem yl_ac2 {s : Nat} {post : SY → Prop} (hs' : s < 4) (hW : W ≤ 16) (h10 : ph s ≠ 10) (h : post (nI T, nI W, nI S, lN K, wv, yd, de, dd, lh, le, ld, mw_row hs (fun _ => 0) (s * 16) W, ph, lo, lg, sr, ak, yo, as, yp)) : ∀ d i, i + d = W → wY_act_113 post (nI s) (nI T) (nI W) (nI S) (lN K) (d + 1) (nI i) wv yd de dd lh le ld (mw_row hs (fun _ => 0) (s * 16) i) ph lo lg sr ak yo as yp := by
  intro d
  induction d with
  | zero =>
    intro i hi
    have e : i = W := by omega
    subst e
    exact br_t (nI_le (Nat.le_refl _) (by omega)) h
  | succ d ih =>
    intro i hi
    have hi2 : i < 16 := by omega
    have v := mw_in hs' hi2
    have q := ih (i + 1) (by omega)
    have k := mw_row_s hs (fun _ => 0) (s * 16) i
    exact br_f (nI_ge (by omega) (by omega)) ⟨vp_in_nI hs' (by decide), br_f (by rw [nI_clamp (by omega)]; exact h10) ⟨v, nm_r ((mw_ub0 hs' hi2).trans k) (nm_r (nI_1 i) q)⟩⟩
end
end
section
/-! 06: a turn, both sides at once: act, settle, look -/
theorem tn_act {T W S K : Nat} {u : SX} {v : SY} {t : Nat} (I : mw_I T W S K u v) (ht : t < T) (h5 : mw_ph u t ≠ 5) : ∃ (u' : SX) (v' : SY), mw_I T W S K u' v' ∧ mw_ph u' t ≠ 5 ∧ (∀ post : SX → Prop, post u' → wpX_act post u (nI t)) ∧ (∀ post : SY → Prop, post v' → wpY_act post v (nI t)) := by
  have I0 := I
  obtain ⟨wv, wh, ds, xd, yd, de, dd, ph, ra, sh, lh, se, le, sd, ld, hs, ak, ao, ap, al, yo, yp, lo, lg, sr, as, rfl, rfl, hB, hD, hL, hH, hP, hA, hS⟩ := I
  have hT : T ≤ 4 := hB.2.1
  have hW : W ≤ 16 := hB.2.2.2.1
  have h5' : ph t ≠ 5 := h5
  have c : (nI t).toNatClampNeg = t := nI_clamp (by omega)
  have v4 : vp_in (nI t) 4 := vp_in_nI (by omega) (by decide)
  rcases hA t ht with ⟨q1, _, _, _⟩ | ⟨s, m, hs', hm, hk, e1, e2, e3, e4, q⟩
  · exact ⟨_, _, I0, h5, fun post h => ⟨v4, br_t (by rw [c]; exact q1) h⟩, fun post h => ⟨v4, br_t (by rw [c]; exact q1) h⟩⟩
  · have k14 : ak t ≠ 14 := by
      rcases hk with z | z | z
      · rw [z]; decide
      · rw [z]; decide
      · rw [z]; decide
    rcases q with ⟨q1, q2, q3, q4⟩ | ⟨q1, q2⟩
    · have YL : ∀ post : Int32 → Prop, post 0 → wpY_late post (nI T, nI W, nI S, lN K, wv, yd, de, dd, lh, le, ld, hs, ph, lo, lg, sr, ak, yo, as, yp) (nI t) := fun post h => ya_lt0 ht hT k14 hs' e2 q2 (q3.trans e4.symm) h
      have hs4 : s < 4 := by omega
      have vs4 : vp_in (nI s) 4 := vp_in_nI hs4 (by decide)
      have L9 := mw_L_9 hL hs' q2
      by_cases z15 : ak t = 15
      · obtain ⟨p, hp, ep, pre⟩ := q4 z15
        have hp16 : p < 16 := by omega
        by_cases zc : wh p = -1 ∧ wv p = se (s * 16 + p)
        · refine ⟨(nI T, nI W, nI S, wv, upd wh p (nI s), ds, xd, de, dd, ph, ra, sh, se, sd, ak, ao, ap, al, lo, lg), (nI T, nI W, nI S, lN K, wv, yd, de, dd, lh, le, ld, upd hs (s * 16 + p) 1, ph, lo, lg, sr, ak, yo, as, yp), mw_mk hB hD hL (mw_H_cl hT hW hH hs' q2 hp zc.1) (mw_P_cl hT hP hs' zc.1 pre) (mw_A_cl hT hA zc.1) hS, h5, fun post h => ?_, fun post h => ?_⟩
          · exact ⟨v4, br_f (by rw [c]; exact k14) ⟨v4, br_t (by rw [c]; exact q1) ⟨v4, nm_r (e' := nI s) (by rw [c]; exact e1) ⟨v4, br_t (by rw [c]; exact z15) ⟨v4, by rw [c, ep]; exact xa_cl_y hs4 hp16 zc.1 zc.2 h⟩⟩⟩⟩⟩
          · exact ⟨v4, br_f (by rw [c]; exact k14) (YL _ (br_t rfl ⟨v4, nm_r (e' := nI s) (by rw [c]; exact e2) ⟨v4, br_t (by rw [c]; exact z15) ⟨v4, nm_r (e' := nI p) (by rw [c, e3]; exact ep) (ya_ho hT hp hW hH zc.1 (br_t rfl ⟨vp_in_nI hp16 (by decide), mw_in hs4 hp16, br_t (by rw [nI_clamp (by omega), mw_cl hs4 hp16, (L9 p hp).2.1]; exact zc.2) ⟨mw_in hs4 hp16, nm_r (mw_ub1 hs4 hp16) h⟩⟩))⟩⟩⟩))⟩
        · refine ⟨_, _, I0, h5, fun post h => ?_, fun post h => ?_⟩
          · exact ⟨v4, br_f (by rw [c]; exact k14) ⟨v4, br_t (by rw [c]; exact q1) ⟨v4, nm_r (e' := nI s) (by rw [c]; exact e1) ⟨v4, br_t (by rw [c]; exact z15) ⟨v4, by rw [c, ep]; exact xa_cl_n hs4 hp16 zc h⟩⟩⟩⟩⟩
          · by_cases zm : wh p = -1
            · have z2 : ¬ wv p = se (s * 16 + p) := fun q => zc ⟨zm, q⟩
              exact ⟨v4, br_f (by rw [c]; exact k14) (YL _ (br_t rfl ⟨v4, nm_r (e' := nI s) (by rw [c]; exact e2) ⟨v4, br_t (by rw [c]; exact z15) ⟨v4, nm_r (e' := nI p) (by rw [c, e3]; exact ep) (ya_ho hT hp hW hH zm (br_t rfl ⟨vp_in_nI hp16 (by decide), mw_in hs4 hp16, br_f (by rw [nI_clamp (by omega), mw_cl hs4 hp16, (L9 p hp).2.1]; exact z2) h⟩))⟩⟩⟩))⟩
            · exact ⟨v4, br_f (by rw [c]; exact k14) (YL _ (br_t rfl ⟨v4, nm_r (e' := nI s) (by rw [c]; exact e2) ⟨v4, br_t (by rw [c]; exact z15) ⟨v4, nm_r (e' := nI p) (by rw [c, e3]; exact ep) (ya_ho hT hp hW hH rfl (br_f zm h))⟩⟩⟩))⟩
      · by_cases z16 : ak t = 16
        · have p5 : upd ph s 10 t ≠ 5 := by
            by_cases e : t = s
            · rw [e, pk_us]; decide
            · rw [pk_un e]; exact h5'
          refine ⟨(nI T, nI W, nI S, mw_st wv sh sd (s * 16) W, mw_rel wh s W, ds, xd, de, dd, upd ph s 10, ra, sh, se, sd, ak, ao, ap, mw_mrk al ao s T, lo, lg), (nI T, nI W, nI S, lN K, mw_st wv sh sd (s * 16) W, yd, de, dd, lh, le, ld, mw_row hs (fun _ => 0) (s * 16) W, upd ph s 10, lo, lg, sr, ak, yo, as, yp), mw_mk hB hD (mw_L_dec hL q2 (Or.inl rfl)) (mw_H_dec hT hW hH hs') (mw_P_dec hT hP hs') (mw_A_dec hT hA hs' (by decide)) hS, p5, fun post h => ?_, fun post h => ?_⟩
          · exact ⟨v4, br_f (by rw [c]; exact k14) ⟨v4, br_t (by rw [c]; exact q1) ⟨v4, nm_r (e' := nI s) (by rw [c]; exact e1) ⟨v4, br_f (by rw [c]; exact z15) ⟨v4, br_t (by rw [c]; exact z16) (xa_sd hs4 hW (xa_de hs4 hT hW h))⟩⟩⟩⟩⟩
          · have q := yl_ac1 (T := T) (S := S) (K := K) (W := W) (wv := wv) (yd := yd) (de := de) (dd := dd) (lh := lh) (le := le) (ld := ld) (hs := hs) (ph := upd ph s 10) (lo := lo) (lg := lg) (sr := sr) (ak := ak) (yo := yo) (as := as) (yp := yp) (post := post) hs4 hW pk_us (by rw [mw_st_c (fun a ha => ⟨(L9 a ha).1, (L9 a ha).2.2⟩)]; exact h) W 0 (by omega)
            rw [mw_st_0, mw_row_0] at q
            exact ⟨v4, br_f (by rw [c]; exact k14) (YL _ (br_t rfl ⟨v4, nm_r (e' := nI s) (by rw [c]; exact e2) ⟨v4, br_f (by rw [c]; exact z15) ⟨v4, br_t (by rw [c]; exact z16) ⟨vs4, nm_r (mw_uc (by omega)) ⟨W + 1, q⟩⟩⟩⟩⟩))⟩
        · have p5 : upd ph s 11 t ≠ 5 := by
            by_cases e : t = s
            · rw [e, pk_us]; decide
            · rw [pk_un e]; exact h5'
          refine ⟨(nI T, nI W, nI S, wv, mw_rel wh s W, ds, xd, de, dd, upd ph s 11, ra, sh, se, sd, ak, ao, ap, mw_mrk al ao s T, lo, lg), (nI T, nI W, nI S, lN K, wv, yd, de, dd, lh, le, ld, mw_row hs (fun _ => 0) (s * 16) W, upd ph s 11, lo, lg, sr, ak, yo, as, yp), mw_mk hB hD (mw_L_dec hL q2 (Or.inr rfl)) (mw_H_dec hT hW hH hs') (mw_P_dec hT hP hs') (mw_A_dec hT hA hs' (by decide)) hS, p5, fun post h => ?_, fun post h => ?_⟩
          · exact ⟨v4, br_f (by rw [c]; exact k14) ⟨v4, br_t (by rw [c]; exact q1) ⟨v4, nm_r (e' := nI s) (by rw [c]; exact e1) ⟨v4, br_f (by rw [c]; exact z15) ⟨v4, br_f (by rw [c]; exact z16) (xa_de hs4 hT hW h)⟩⟩⟩⟩⟩
          · have q := yl_ac2 (T := T) (S := S) (K := K) (W := W) (wv := wv) (yd := yd) (de := de) (dd := dd) (lh := lh) (le := le) (ld := ld) (hs := hs) (ph := upd ph s 11) (lo := lo) (lg := lg) (sr := sr) (ak := ak) (yo := yo) (as := as) (yp := yp) (post := post) hs4 hW (by rw [pk_us]; decide) h W 0 (by omega)
            rw [mw_row_0] at q
            exact ⟨v4, br_f (by rw [c]; exact k14) (YL _ (br_t rfl ⟨v4, nm_r (e' := nI s) (by rw [c]; exact e2) ⟨v4, br_f (by rw [c]; exact z15) ⟨v4, br_f (by rw [c]; exact z16) ⟨vs4, nm_r (mw_uc (by omega)) ⟨W + 1, q⟩⟩⟩⟩⟩))⟩
    · have q3 : ¬ al t = 0 := by rw [q1]; decide
      have YL : ∀ post : Int32 → Prop, post 1 → wpY_late post (nI T, nI W, nI S, lN K, wv, yd, de, dd, lh, le, ld, hs, ph, lo, lg, sr, ak, yo, as, yp) (nI t) := fun post h => ya_lt1 ht hT k14 hs' e2 (by rw [e4]; exact q2) h
      exact ⟨_, _, I0, h5, fun post h => ⟨v4, br_f (by rw [c]; exact k14) ⟨v4, br_f (by rw [c]; exact q3) h⟩⟩, fun post h => ⟨v4, br_f (by rw [c]; exact k14) (YL _ (br_f mw_10 h))⟩⟩
section
variable {T W S K : Nat} {wv wh ds xd yd de dd ph ra sh lh se le sd ld hs ak ao ap al yo yp lo lg : Nat → Int32} {sr as : Nat → Int64}
theorem tn_set {t : Nat} (hT : T ≤ 4) (hW : W ≤ 16) (hL : mw_L T W ph ra sh lh se le sd ld) (hH : mw_H T W wh hs ph) (hP : mw_P T W wh sh) (ht : t < T) : ∀ d met w, met + d = T → w < T → ph w = 9 → mw_mu (mw_low sh wh W) T (mw_low sh wh W w) < d → ∃ (kind p : Int32) (s : Nat), mw_Ok T W ph wh sh kind p s ∧ (∀ post : SX → Prop, post (nI T, nI W, nI S, wv, wh, ds, xd, de, dd, ph, ra, sh, se, sd, upd ak t kind, upd ao t (nI s), upd ap t p, upd al t 0, lo, lg) → wX_settle_5 post (nI t) (nI T) (nI W) (nI S) wv wh ds xd de dd ph ra sh se sd ak ao ap al lo lg (d + 1) (nI w) (nI met)) ∧ (∀ post : Int32 → SY → Prop, post 0 (nI T, nI W, nI S, lN K, wv, yd, de, dd, lh, le, ld, hs, ph, lo, lg, sr, upd ak t kind, upd yo t (nI s), vp_updL as t (sr s), upd yp t p) → wY_look_85 post (nI t) (nI T) (nI W) (nI S) (lN K) wv yd de dd lh le ld hs ph lo lg sr ak yo as yp (d + 1) (nI w) (nI met)) := by
  intro d
  induction d with
  | zero => intro met w _ _ _ h; omega
  | succ d ih =>
    intro met w hd hw h9 hmu
    have ht4 : t < 4 := by omega
    have hw4 : w < 4 := by omega
    have cT : ¬ nI T ≤ nI met := nI_ge (by omega) (by omega)
    have c4 : ¬ (4 : Int32) ≤ nI met := nI_ge (b := 4) (by omega) (by decide)
    obtain ⟨l1, l2, l3⟩ := mw_low_s sh wh W w
    have L9 := mw_L_9 hL hw h9
    have YM : ∀ post : Int32 → Prop, post (if mw_low sh wh W w < W then nI (mw_low sh wh W w) else -1) → wpY_lowestMissing post (nI T, nI W, nI S, lN K, wv, yd, de, dd, lh, le, ld, hs, ph, lo, lg, sr, ak, yo, as, yp) (nI w) := fun post h => ya_lmw hT hw hW hL hH h9 h
    by_cases hm : mw_low sh wh W w < W
    · rw [if_pos hm] at YM
      have XM : ∀ post : Int32 → Prop, post (nI (mw_low sh wh W w)) → wpX_lowestNotHeld post (nI T, nI W, nI S, wv, wh, ds, xd, de, dd, ph, ra, sh, se, sd, ak, ao, ap, al, lo, lg) (nI w) := fun post h => xa_lo_y hw4 hW hm h
      have mupos : ∀ w' : Nat, w' < T → mw_low sh wh W w < mw_low sh wh W w' → mw_mu (mw_low sh wh W) T (mw_low sh wh W w') < mw_mu (mw_low sh wh W) T (mw_low sh wh W w) := fun w' h1 h2 => mw_mu_l (L := mw_low sh wh W) hT h1 h2
      generalize mw_low sh wh W w = m at *
      have hm16 : m < 16 := by omega
      have vm : vp_in (nI m) 16 := vp_in_nI hm16 (by decide)
      have cm : (nI m).toNatClampNeg = m := nI_clamp (by omega)
      have nm : ¬ nI m = -1 := mw_nm (by omega)
      rcases (hH m hm).1 with z | ⟨s', hs', z, h9'⟩
      · by_cases q : wv m = se (w * 16 + m)
        · refine ⟨15, nI m, w, ⟨hw, h9, Or.inr ⟨Or.inl rfl, m, hm, rfl, l2⟩⟩, fun post hp => ?_, fun post hp => ?_⟩
          · exact br_f cT (XM _ (br_f nm ⟨vm, br_t (by rw [cm]; exact z) ⟨vm, xa_en ⟨vp_in_nI (by omega) (by decide), br_t (by rw [cm, nI_clamp (by omega)]; exact q) (xa_sa ht4 hp)⟩⟩⟩))
          · exact br_f c4 (YM _ (br_f nm (ya_ho hT hm hW hH z (br_t rfl ⟨vm, mw_in hw4 hm16, br_t (by rw [cm, mw_cl hw4 hm16, (L9 m hm).2.1]; exact q) (ya_sa ht4 hw4 ⟨rfl, hp⟩)⟩))))
        · refine ⟨17, nI m, w, ⟨hw, h9, Or.inr ⟨Or.inr rfl, m, hm, rfl, l2⟩⟩, fun post hp => ?_, fun post hp => ?_⟩
          · exact br_f cT (XM _ (br_f nm ⟨vm, br_t (by rw [cm]; exact z) ⟨vm, xa_en ⟨vp_in_nI (by omega) (by decide), br_f (by rw [cm, nI_clamp (by omega)]; exact q) (xa_sa ht4 hp)⟩⟩⟩))
          · exact br_f c4 (YM _ (br_f nm (ya_ho hT hm hW hH z (br_t rfl ⟨vm, mw_in hw4 hm16, br_f (by rw [cm, mw_cl hw4 hm16, (L9 m hm).2.1]; exact q) (ya_sa ht4 hw4 ⟨rfl, hp⟩)⟩))))
      · have z1 : ¬ nI s' = -1 := mw_nm (by omega)
        have z2 : ¬ wh m = -1 := by rw [z]; exact z1
        have lt := mupos s' hs' (mw_P_low hP hm hs' z)
        obtain ⟨kind, p, s, ok, hX, hY⟩ := ih (met + 1) s' (by omega) hs' h9' (by omega)
        refine ⟨kind, p, s, ok, fun post hp => ?_, fun post hp => ?_⟩
        · exact br_f cT (XM _ (br_f nm ⟨vm, br_f (by rw [cm]; exact z2) ⟨vm, nm_r (e' := nI s') (by rw [cm]; exact z) (nm_r (nI_1 met) (hX post hp))⟩⟩))
        · exact br_f c4 (YM _ (br_f nm (ya_ho hT hm hW hH z (br_f z1 (nm_r (nI_1 met) (hY post hp))))))
    · rw [if_neg hm] at YM
      refine ⟨16, -1, w, ⟨hw, h9, Or.inl ⟨rfl, rfl⟩⟩, fun post hp => ?_, fun post hp => ?_⟩
      · exact br_f cT (xa_lo_n hw4 hW hm (br_t rfl (xa_sa ht4 hp)))
      · exact br_f c4 (YM _ (br_t rfl (ya_sa ht4 hw4 ⟨rfl, hp⟩)))
end
end
section
/-! 07: look, and the turn -/
section
variable {T W S K : Nat} {wv wh ds xd yd de dd ph ra sh lh se le sd ld hs ak ao ap al yo yp lo lg : Nat → Int32} {sr as : Nat → Int64}
theorem tn_x9 {t n : Nat} {post : SX → Prop} (ht : t < 4) (q : ph t = 9) (h : wX_settle_5 (fun u => post u) (nI t) (nI T) (nI W) (nI S) wv wh ds xd de dd ph ra sh se sd ak ao ap al lo lg n (nI t) (nI 0)) : wpX_look post (nI T, nI W, nI S, wv, wh, ds, xd, de, dd, ph, ra, sh, se, sd, ak, ao, ap, al, lo, lg) (nI t) := by
  have c : (nI t).toNatClampNeg = t := nI_clamp (by omega)
  have v4 : vp_in (nI t) 4 := vp_in_nI ht (by decide)
  exact ⟨v4, br_f (by rw [c, q]; decide) ⟨v4, br_t (by rw [c]; exact q) ⟨n, h⟩⟩⟩
theorem tn_y9 {t n : Nat} {post : Int32 → SY → Prop} (ht : t < 4) (q : ph t = 9) (h : wY_look_85 post (nI t) (nI T) (nI W) (nI S) (lN K) wv yd de dd lh le ld hs ph lo lg sr ak yo as yp n (nI t) (nI 0)) : wpY_look post (nI T, nI W, nI S, lN K, wv, yd, de, dd, lh, le, ld, hs, ph, lo, lg, sr, ak, yo, as, yp) (nI t) := by
  have c : (nI t).toNatClampNeg = t := nI_clamp (by omega)
  have v4 : vp_in (nI t) 4 := vp_in_nI ht (by decide)
  exact ⟨v4, br_f (by rw [c, q]; decide) ⟨v4, br_f (by rw [c, q]; decide) ⟨v4, br_f (by rw [c, q]; decide) ⟨n, h⟩⟩⟩⟩
theorem tn_xf {t : Nat} {post : SX → Prop} (ht : t < 4) (q : ph t = 10 ∨ ph t = 11) (h : post (nI T, nI W, nI S, wv, wh, ds, xd, de, dd, upd ph t 5, ra, sh, se, sd, upd ak t 14, upd ao t (-1), upd ap t (-1), upd al t 0, upd lo t (ph t), lg)) : wpX_look post (nI T, nI W, nI S, wv, wh, ds, xd, de, dd, ph, ra, sh, se, sd, ak, ao, ap, al, lo, lg) (nI t) := by
  have c : (nI t).toNatClampNeg = t := nI_clamp (by omega)
  have v4 : vp_in (nI t) 4 := vp_in_nI ht (by decide)
  have n9 : ¬ ph t = 9 := by rcases q with q | q <;> rw [q] <;> decide
  have n8 : ¬ ph t = 8 := by rcases q with q | q <;> rw [q] <;> decide
  exact ⟨v4, br_f (by rw [c]; exact n8) ⟨v4, br_f (by rw [c]; exact n9) ⟨v4, by rw [c]; exact xa_fi ht h⟩⟩⟩
theorem tn_yf {t : Nat} {post : Int32 → SY → Prop} (ht : t < 4) (q : ph t = 10 ∨ ph t = 11) (h : post 1 (nI T, nI W, nI S, lN K, wv, yd, de, dd, lh, le, ld, hs, upd ph t 5, upd lo t (ph t), lg, sr, upd ak t 14, yo, as, yp)) : wpY_look post (nI T, nI W, nI S, lN K, wv, yd, de, dd, lh, le, ld, hs, ph, lo, lg, sr, ak, yo, as, yp) (nI t) := by
  have c : (nI t).toNatClampNeg = t := nI_clamp (by omega)
  have v4 : vp_in (nI t) 4 := vp_in_nI ht (by decide)
  have F : wY_look_22 post (nI t) (nI T) (nI W) (nI S) (lN K) wv yd de dd lh le ld hs ph lo lg sr ak yo as yp := ⟨v4, by rw [c]; exact ya_fi ht ⟨rfl, h⟩⟩
  rcases q with q | q
  · exact ⟨v4, br_t (by rw [c]; exact q) F⟩
  · exact ⟨v4, br_f (by rw [c, q]; decide) ⟨v4, br_t (by rw [c]; exact q) F⟩⟩
theorem tn_x8n {t r : Nat} {post : SX → Prop} (ht : t < 4) (hr : r < 16) (q : ph t = 8) (er : ra t = nI r) (z : wh r = -1) (h : post (nI T, nI W, nI S, wv, wh, ds, xd, de, dd, upd ph t 5, ra, sh, se, sd, upd ak t 14, upd ao t (-1), upd ap t (-1), upd al t 0, upd lo t 13, upd lg t (wv r))) : wpX_look post (nI T, nI W, nI S, wv, wh, ds, xd, de, dd, ph, ra, sh, se, sd, ak, ao, ap, al, lo, lg) (nI t) := by
  have c : (nI t).toNatClampNeg = t := nI_clamp (by omega)
  have v4 : vp_in (nI t) 4 := vp_in_nI ht (by decide)
  have vr : vp_in (nI r) 16 := vp_in_nI hr (by decide)
  have cr : (nI r).toNatClampNeg = r := nI_clamp (by omega)
  exact ⟨v4, br_t (by rw [c]; exact q) ⟨v4, nm_r (e' := nI r) (by rw [c]; exact er) ⟨vr, nm_r (e' := -1) (by rw [cr]; exact z) (br_t rfl ⟨vr, v4, nm_r (e' := upd lg t (wv r)) (by rw [c, cr]) (xa_fi ht h)⟩)⟩⟩⟩
theorem tn_x8s {t r s n : Nat} {post : SX → Prop} (ht : t < 4) (hr : r < 16) (hs' : s < 4) (q : ph t = 8) (er : ra t = nI r) (z : wh r = nI s) (h : wX_settle_5 (fun u => post u) (nI t) (nI T) (nI W) (nI S) wv wh ds xd de dd ph ra sh se sd ak ao ap al lo lg n (nI s) (nI 0)) : wpX_look post (nI T, nI W, nI S, wv, wh, ds, xd, de, dd, ph, ra, sh, se, sd, ak, ao, ap, al, lo, lg) (nI t) := by
  have c : (nI t).toNatClampNeg = t := nI_clamp (by omega)
  have v4 : vp_in (nI t) 4 := vp_in_nI ht (by decide)
  have vr : vp_in (nI r) 16 := vp_in_nI hr (by decide)
  have cr : (nI r).toNatClampNeg = r := nI_clamp (by omega)
  exact ⟨v4, br_t (by rw [c]; exact q) ⟨v4, nm_r (e' := nI r) (by rw [c]; exact er) ⟨vr, nm_r (e' := nI s) (by rw [cr]; exact z) (br_f (mw_nm (by omega)) ⟨n, h⟩)⟩⟩⟩
theorem tn_ym {t r : Nat} {post : Int32 → Prop} (hT : T ≤ 4) (ht : t < T) (hW : W ≤ 16) (hr : r < W) (hH : mw_H T W wh hs ph) (q : ph t = 8) (q3 : ∀ a, a < W → lh (t * 16 + a) = if a = r then 1 else 0) (h : post (nI r)) : wpY_lowestMissing post (nI T, nI W, nI S, lN K, wv, yd, de, dd, lh, le, ld, hs, ph, lo, lg, sr, ak, yo, as, yp) (nI t) := by
  have n9 : ph t ≠ 9 := by rw [q]; decide
  have ne : wh r ≠ nI t := by
    intro z
    rcases (hH r hr).1 with y | ⟨s, h1, h2, h3⟩
    · exact mw_nm (a := t) (by omega) (z.symm.trans y)
    · have e : s = t := mw_inj (by omega) (by omega) (h2.symm.trans z)
      exact n9 (e ▸ h3)
  refine ya_lm (m := r) (by omega) hW (by omega) (fun b hb hn => ?_) (fun _ => ?_) (by rw [if_pos hr]; exact h)
  · rw [q3 b (by omega), if_neg (by omega)] at hn
    exact absurd rfl hn
  · rw [q3 r hr, if_pos rfl, (hH r hr).2 t ht, if_neg ne]
    exact ⟨mw_10, rfl⟩
theorem tn_y8n {t r : Nat} {post : Int32 → SY → Prop} (hT : T ≤ 4) (ht : t < T) (hW : W ≤ 16) (hr : r < W) (hH : mw_H T W wh hs ph) (q : ph t = 8) (q3 : ∀ a, a < W → lh (t * 16 + a) = if a = r then 1 else 0) (z : wh r = -1) (h : post 1 (nI T, nI W, nI S, lN K, wv, yd, de, dd, lh, le, ld, hs, upd ph t 5, upd lo t 13, upd lg t (wv r), sr, upd ak t 14, yo, as, yp)) : wpY_look post (nI T, nI W, nI S, lN K, wv, yd, de, dd, lh, le, ld, hs, ph, lo, lg, sr, ak, yo, as, yp) (nI t) := by
  have c : (nI t).toNatClampNeg = t := nI_clamp (by omega)
  have v4 : vp_in (nI t) 4 := vp_in_nI (by omega) (by decide)
  refine ⟨v4, br_f (by rw [c, q]; decide) ⟨v4, br_f (by rw [c, q]; decide) ⟨v4, br_t (by rw [c]; exact q) ?_⟩⟩⟩
  refine tn_ym hT ht hW hr hH q q3 ?_
  refine ya_ho hT hr hW hH z ?_
  refine br_t rfl ?_
  refine ya_va hr hW ?_
  refine ⟨v4, nm_r (mw_uc (by omega)) ?_⟩
  exact ya_fi (by omega) ⟨rfl, h⟩
theorem tn_y8s {t r s n : Nat} {post : Int32 → SY → Prop} (hT : T ≤ 4) (ht : t < T) (hW : W ≤ 16) (hr : r < W) (hs' : s < 4) (hH : mw_H T W wh hs ph) (q : ph t = 8) (q3 : ∀ a, a < W → lh (t * 16 + a) = if a = r then 1 else 0) (z : wh r = nI s) (h : wY_look_85 post (nI t) (nI T) (nI W) (nI S) (lN K) wv yd de dd lh le ld hs ph lo lg sr ak yo as yp n (nI s) (nI 0)) : wpY_look post (nI T, nI W, nI S, lN K, wv, yd, de, dd, lh, le, ld, hs, ph, lo, lg, sr, ak, yo, as, yp) (nI t) := by
  have c : (nI t).toNatClampNeg = t := nI_clamp (by omega)
  have v4 : vp_in (nI t) 4 := vp_in_nI (by omega) (by decide)
  refine ⟨v4, br_f (by rw [c, q]; decide) ⟨v4, br_f (by rw [c, q]; decide) ⟨v4, br_t (by rw [c]; exact q) ?_⟩⟩⟩
  refine tn_ym hT ht hW hr hH q q3 ?_
  refine ya_ho hT hr hW hH z ?_
  exact br_f (mw_nm (by omega)) ⟨n, h⟩
theorem tn_st {t w : Nat} (hT : T ≤ 4) (hW : W ≤ 16) (hL : mw_L T W ph ra sh lh se le sd ld) (hH : mw_H T W wh hs ph) (hP : mw_P T W wh sh) (ht : t < T) (hw : w < T) (h9 : ph w = 9) : ∃ (kind p : Int32) (s : Nat), mw_Ok T W ph wh sh kind p s ∧ (∀ post : SX → Prop, post (nI T, nI W, nI S, wv, wh, ds, xd, de, dd, ph, ra, sh, se, sd, upd ak t kind, upd ao t (nI s), upd ap t p, upd al t 0, lo, lg) → wX_settle_5 post (nI t) (nI T) (nI W) (nI S) wv wh ds xd de dd ph ra sh se sd ak ao ap al lo lg (T + 1) (nI w) (nI 0)) ∧ (∀ post : Int32 → SY → Prop, post 0 (nI T, nI W, nI S, lN K, wv, yd, de, dd, lh, le, ld, hs, ph, lo, lg, sr, upd ak t kind, upd yo t (nI s), vp_updL as t (sr s), upd yp t p) → wY_look_85 post (nI t) (nI T) (nI W) (nI S) (lN K) wv yd de dd lh le ld hs ph lo lg sr ak yo as yp (T + 1) (nI w) (nI 0)) :=
  tn_set hT hW hL hH hP ht T 0 w (by omega) hw h9 (by have := mw_mu_t (L := mw_low sh wh W) hT hw; omega)
end
end
section
/-! 08: look and the turn over the relation -/
section
variable {T W S K : Nat}
theorem tn_look {u : SX} {v : SY} {t : Nat} (I : mw_I T W S K u v) (ht : t < T) (h5 : mw_ph u t ≠ 5) : ∃ (r : Int32) (u' : SX) (v' : SY), mw_I T W S K u' v' ∧ ((r = 1 ∧ mw_ph u' t = 5) ∨ (r = 0 ∧ mw_ph u' t ≠ 5)) ∧ (∀ post : SX → Prop, post u' → wpX_look post u (nI t)) ∧ (∀ post : Int32 → SY → Prop, post r v' → wpY_look post v (nI t)) := by
  obtain ⟨wv, wh, ds, xd, yd, de, dd, ph, ra, sh, lh, se, le, sd, ld, hs, ak, ao, ap, al, yo, yp, lo, lg, sr, as, rfl, rfl, hB, hD, hL, hH, hP, hA, hS⟩ := I
  have hT : T ≤ 4 := hB.2.1
  have hW : W ≤ 16 := hB.2.2.2.1
  have h5' : ph t ≠ 5 := h5
  have ht4 : t < 4 := by omega
  rcases hL t ht with ⟨q | q, _⟩ | ⟨q, r, hr, er, q3⟩ | q
  · obtain ⟨kind, p, s, ok, hX, hY⟩ := tn_st (S := S) (K := K) (wv := wv) (wh := wh) (ds := ds) (xd := xd) (yd := yd) (de := de) (dd := dd) (ak := ak) (ao := ao) (ap := ap) (al := al) (yo := yo) (yp := yp) (lo := lo) (lg := lg) (sr := sr) (as := as) hT hW hL hH hP ht ht q
    exact ⟨0, (nI T, nI W, nI S, wv, wh, ds, xd, de, dd, ph, ra, sh, se, sd, upd ak t kind, upd ao t (nI s), upd ap t p, upd al t 0, lo, lg), (nI T, nI W, nI S, lN K, wv, yd, de, dd, lh, le, ld, hs, ph, lo, lg, sr, upd ak t kind, upd yo t (nI s), vp_updL as t (sr s), upd yp t p), mw_mk hB hD hL hH hP (mw_A_set hS hA ok) hS, Or.inr ⟨rfl, h5'⟩, fun post h => tn_x9 ht4 q (hX _ h), fun post h => tn_y9 ht4 q (hY _ h)⟩
  · have n9 : ph t ≠ 9 := by rcases q with q | q <;> rw [q] <;> decide
    exact ⟨1, (nI T, nI W, nI S, wv, wh, ds, xd, de, dd, upd ph t 5, ra, sh, se, sd, upd ak t 14, upd ao t (-1), upd ap t (-1), upd al t 0, upd lo t (ph t), lg), (nI T, nI W, nI S, lN K, wv, yd, de, dd, lh, le, ld, hs, upd ph t 5, upd lo t (ph t), lg, sr, upd ak t 14, yo, as, yp), mw_mk hB hD (mw_L_fin hL) (mw_H_ph hH n9) hP (mw_A_fin (mw_A_ph hA n9 (by decide))) hS, Or.inl ⟨rfl, pk_us⟩, fun post h => tn_xf ht4 q h, fun post h => tn_yf ht4 q h⟩
  · have n9 : ph t ≠ 9 := by rw [q]; decide
    have hr16 : r < 16 := by omega
    rcases (hH r hr).1 with z | ⟨s', hs', z, h9'⟩
    · exact ⟨1, (nI T, nI W, nI S, wv, wh, ds, xd, de, dd, upd ph t 5, ra, sh, se, sd, upd ak t 14, upd ao t (-1), upd ap t (-1), upd al t 0, upd lo t 13, upd lg t (wv r)), (nI T, nI W, nI S, lN K, wv, yd, de, dd, lh, le, ld, hs, upd ph t 5, upd lo t 13, upd lg t (wv r), sr, upd ak t 14, yo, as, yp), mw_mk hB hD (mw_L_fin hL) (mw_H_ph hH n9) hP (mw_A_fin (mw_A_ph hA n9 (by decide))) hS, Or.inl ⟨rfl, pk_us⟩, fun post h => tn_x8n ht4 hr16 q er z h, fun post h => tn_y8n hT ht hW hr hH q q3 z h⟩
    · obtain ⟨kind, p, s, ok, hX, hY⟩ := tn_st (S := S) (K := K) (wv := wv) (wh := wh) (ds := ds) (xd := xd) (yd := yd) (de := de) (dd := dd) (ak := ak) (ao := ao) (ap := ap) (al := al) (yo := yo) (yp := yp) (lo := lo) (lg := lg) (sr := sr) (as := as) hT hW hL hH hP ht hs' h9'
      exact ⟨0, (nI T, nI W, nI S, wv, wh, ds, xd, de, dd, ph, ra, sh, se, sd, upd ak t kind, upd ao t (nI s), upd ap t p, upd al t 0, lo, lg), (nI T, nI W, nI S, lN K, wv, yd, de, dd, lh, le, ld, hs, ph, lo, lg, sr, upd ak t kind, upd yo t (nI s), vp_updL as t (sr s), upd yp t p), mw_mk hB hD hL hH hP (mw_A_set hS hA ok) hS, Or.inr ⟨rfl, h5'⟩, fun post h => tn_x8s ht4 hr16 (by omega) q er z (hX _ h), fun post h => tn_y8s hT ht hW hr (by omega) hH q q3 z (hY _ h)⟩
  · exact absurd q h5'
theorem tn_turn {u : SX} {v : SY} {t : Nat} (I : mw_I T W S K u v) (ht : t < T) (h5 : mw_ph u t ≠ 5) : ∃ (r : Int32) (u' : SX) (v' : SY), mw_I T W S K u' v' ∧ ((r = 1 ∧ mw_ph u' t = 5) ∨ (r = 0 ∧ mw_ph u' t ≠ 5)) ∧ (∀ post : SX → Prop, post u' → wpX_takeTurn post u (nI t)) ∧ (∀ post : Int32 → SY → Prop, post r v' → wpY_turn post v (nI t)) := by
  obtain ⟨u1, v1, I1, p1, hX1, hY1⟩ := tn_act I ht h5
  obtain ⟨r, u2, v2, I2, hr, hX2, hY2⟩ := tn_look I1 ht p1
  refine ⟨r, u2, v2, I2, hr, fun post h => ?_, fun post h => ?_⟩
  · clear I I1 I2 hY1 hY2 hr h5 p1
    obtain ⟨a1, a2, a3, a4, a5, a6, a7, a8, a9, a10, a11, a12, a13, a14, a15, a16, a17, a18, a19, a20⟩ := u
    obtain ⟨b1, b2, b3, b4, b5, b6, b7, b8, b9, b10, b11, b12, b13, b14, b15, b16, b17, b18, b19, b20⟩ := u1
    obtain ⟨d1, d2, d3, d4, d5, d6, d7, d8, d9, d10, d11, d12, d13, d14, d15, d16, d17, d18, d19, d20⟩ := u2
    unfold wpX_takeTurn
    dsimp only
    exact hX1 _ (hX2 _ h)
  · have hn : narrow .boolean (.int r) = .int r := by
      rcases hr with ⟨e, _⟩ | ⟨e, _⟩
      · rw [e]; rfl
      · rw [e]; rfl
    clear I I1 I2 hX1 hX2 hr h5 p1
    obtain ⟨a1, a2, a3, a4, a5, a6, a7, a8, a9, a10, a11, a12, a13, a14, a15, a16, a17, a18, a19, a20⟩ := v
    obtain ⟨b1, b2, b3, b4, b5, b6, b7, b8, b9, b10, b11, b12, b13, b14, b15, b16, b17, b18, b19, b20⟩ := v1
    obtain ⟨d1, d2, d3, d4, d5, d6, d7, d8, d9, d10, d11, d12, d13, d14, d15, d16, d17, d18, d19, d20⟩ := v2
    unfold wpY_turn
    dsimp only
    exact hY1 _ (hY2 _ ⟨hn, h⟩)
end
end
section
/-! 09: run and weave, in lockstep -/
theorem rn_run {T W S K t n : Nat} {x : Int32} (hT : T ≤ 4) (ht : t < T) (hn : n ≤ 64) (hx : ∀ i, i < n → ¬ x ≤ nI i) (hx2 : x ≤ nI n ∨ n = 64) : ∀ (d i : Nat) (wv wh ds xd yd de dd ph ra sh lh se le sd ld hs ak ao ap al yo yp lo lg : Nat → Int32) (sr as : Nat → Int64), i + d = n → mw_I T W S K (nI T, nI W, nI S, wv, wh, ds, xd, de, dd, ph, ra, sh, se, sd, ak, ao, ap, al, lo, lg) (nI T, nI W, nI S, lN K, wv, yd, de, dd, lh, le, ld, hs, ph, lo, lg, sr, ak, yo, as, yp) → ph t ≠ 5 → ∃ (r : Int32) (u' : SX) (v' : SY), mw_I T W S K u' v' ∧ (∀ post : Int32 → SX → Prop, post r u' → wX_run_33 post (nI t) (nI n) (d + 1) (nI i) (nI T) (nI W) (nI S) wv wh ds xd de dd ph ra sh se sd ak ao ap al lo lg) ∧ (∀ post : Int32 → SY → Prop, post r v' → wY_run_24 post (nI t) x (d + 1) (nI i) (nI T) (nI W) (nI S) (lN K) wv yd de dd lh le ld hs ph lo lg sr ak yo as yp) := by
  intro d
  induction d with
  | zero =>
    intro i wv wh ds xd yd de dd ph ra sh lh se le sd ld hs ak ao ap al yo yp lo lg sr as hi I h5
    have e : i = n := by omega
    subst e
    refine ⟨6, _, _, I, fun post h => br_t (nI_le (Nat.le_refl _) (by omega)) h, fun post h => ?_⟩
    by_cases z : x ≤ nI i
    · exact br_t z h
    · have e2 : i = 64 := hx2.resolve_left z
      subst e2
      exact br_f z (br_t (nI_le (a := 64) (b := 64) (Nat.le_refl _) (by decide)) h)
  | succ d ih =>
    intro i wv wh ds xd yd de dd ph ra sh lh se le sd ld hs ak ao ap al yo yp lo lg sr as hi I h5
    have c : (nI t).toNatClampNeg = t := nI_clamp (by omega)
    have v4 : vp_in (nI t) 4 := vp_in_nI (by omega) (by decide)
    have cn : ¬ nI n ≤ nI i := nI_ge (by omega) (by omega)
    have c64 : ¬ (64 : Int32) ≤ nI i := nI_ge (b := 64) (by omega) (by decide)
    have cx : ¬ x ≤ nI i := hx i (by omega)
    obtain ⟨r, u', v', I', hr, hX, hY⟩ := tn_turn I ht h5
    have I1 := I'
    obtain ⟨wv', wh', ds', xd', yd', de', dd', ph', ra', sh', lh', se', le', sd', ld', hs', ak', ao', ap', al', yo', yp', lo', lg', sr', as', rfl, rfl, _⟩ := I'
    rcases hr with ⟨r1, p5⟩ | ⟨r0, p5⟩
    · have p6 : ph' t = 5 := p5
      have r2 : ¬ r = 0 := by rw [r1]; exact mw_10
      exact ⟨7, _, _, I1, fun post h => br_f cn (hX _ ⟨v4, br_t (by rw [c]; exact p6) h⟩), fun post h => br_f cx (br_f c64 (hY _ (br_f r2 h)))⟩
    · have p6 : ph' t ≠ 5 := p5
      obtain ⟨r2, u2, v2, I2, hX2, hY2⟩ := ih (i + 1) wv' wh' ds' xd' yd' de' dd' ph' ra' sh' lh' se' le' sd' ld' hs' ak' ao' ap' al' yo' yp' lo' lg' sr' as' (by omega) I1 p6
      exact ⟨r2, u2, v2, I2, fun post h => br_f cn (hX _ ⟨v4, br_f (by rw [c]; exact p6) (nm_r (nI_1 i) (hX2 post h))⟩), fun post h => br_f cx (br_f c64 (hY _ (br_t r0 (nm_r (nI_1 i) (hY2 post h)))))⟩
theorem rn_wea {T W S K n : Nat} {x y : Int32} (hT : T ≤ 4) (hn : n ≤ 16) (hx : ∀ i, i < n → ¬ x ≤ nI i) (hx2 : x ≤ nI n ∨ n = 16) : ∀ (d i : Nat) (f : Int32) (wv wh ds xd yd de dd ph ra sh lh se le sd ld hs ak ao ap al yo yp lo lg : Nat → Int32) (sr as : Nat → Int64), i + d = n → mw_I T W S K (nI T, nI W, nI S, wv, wh, ds, xd, de, dd, ph, ra, sh, se, sd, ak, ao, ap, al, lo, lg) (nI T, nI W, nI S, lN K, wv, yd, de, dd, lh, le, ld, hs, ph, lo, lg, sr, ak, yo, as, yp) → ∃ (r : Int32) (u' : SX) (v' : SY), mw_I T W S K u' v' ∧ (∀ post : Int32 → SX → Prop, post r u' → wX_weave_14 post y (nI n) (d + 1) f (nI i) (nI T) (nI W) (nI S) wv wh ds xd de dd ph ra sh se sd ak ao ap al lo lg) ∧ (∀ post : Int32 → SY → Prop, post r v' → wY_weave_5 post y x (d + 1) f (nI i) (nI T) (nI W) (nI S) (lN K) wv yd de dd lh le ld hs ph lo lg sr ak yo as yp) := by
  intro d
  induction d with
  | zero =>
    intro i f wv wh ds xd yd de dd ph ra sh lh se le sd ld hs ak ao ap al yo yp lo lg sr as hi I
    have e : i = n := by omega
    subst e
    refine ⟨f, _, _, I, fun post h => br_t (nI_le (Nat.le_refl _) (by omega)) h, fun post h => ?_⟩
    by_cases z : x ≤ nI i
    · exact br_t z h
    · have e2 : i = 16 := hx2.resolve_left z
      subst e2
      exact br_f z (br_t (nI_le (a := 16) (b := 16) (Nat.le_refl _) (by decide)) h)
  | succ d ih =>
    intro i f wv wh ds xd yd de dd ph ra sh lh se le sd ld hs ak ao ap al yo yp lo lg sr as hi I
    have cn : ¬ nI n ≤ nI i := nI_ge (by omega) (by omega)
    have c16 : ¬ (16 : Int32) ≤ nI i := nI_ge (b := 16) (by omega) (by decide)
    have cx : ¬ x ≤ nI i := hx i (by omega)
    obtain ⟨j, hj, ej⟩ := pk_andE ((y.toUInt32 >>> ((2 * nI i).toUInt32 &&& Int32.toUInt32 31)).toInt32) (m := 3) 2 (by decide)
    have hj4 : j < 4 := hj
    have c : (nI j).toNatClampNeg = j := nI_clamp (by omega)
    have v4 : vp_in (nI j) 4 := vp_in_nI hj4 (by decide)
    by_cases hjT : j < T
    · have cT : ¬ nI T ≤ nI j := nI_ge hjT (by omega)
      by_cases h5 : ph j = 5
      · obtain ⟨r2, u2, v2, I2, hX2, hY2⟩ := ih (i + 1) f wv wh ds xd yd de dd ph ra sh lh se le sd ld hs ak ao ap al yo yp lo lg sr as (by omega) I
        exact ⟨r2, u2, v2, I2, fun post h => br_f cn (nm_r ej (br_f cT ⟨v4, br_t (by rw [c]; exact h5) (nm_r (nI_1 i) (hX2 post h))⟩)), fun post h => br_f cx (br_f c16 (nm_r ej (br_f cT ⟨v4, br_t (by rw [c]; exact h5) (nm_r (nI_1 i) (hY2 post h))⟩)))⟩
      · obtain ⟨r, u', v', I', hr, hX, hY⟩ := tn_turn I hjT h5
        have I1 := I'
        obtain ⟨wv', wh', ds', xd', yd', de', dd', ph', ra', sh', lh', se', le', sd', ld', hs', ak', ao', ap', al', yo', yp', lo', lg', sr', as', rfl, rfl, _⟩ := I'
        rcases hr with ⟨r1, p5⟩ | ⟨r0, p5⟩
        · have p6 : ph' j = 5 := p5
          have r2 : ¬ r = 0 := by rw [r1]; exact mw_10
          obtain ⟨r3, u2, v2, I2, hX2, hY2⟩ := ih (i + 1) (f + 1) wv' wh' ds' xd' yd' de' dd' ph' ra' sh' lh' se' le' sd' ld' hs' ak' ao' ap' al' yo' yp' lo' lg' sr' as' (by omega) I1
          exact ⟨r3, u2, v2, I2, fun post h => br_f cn (nm_r ej (br_f cT ⟨v4, br_f (by rw [c]; exact h5) (hX _ ⟨v4, br_t (by rw [c]; exact p6) (nm_e (nm_r (nI_1 i) (hX2 post h)))⟩)⟩)), fun post h => br_f cx (br_f c16 (nm_r ej (br_f cT ⟨v4, br_f (by rw [c]; exact h5) (hY _ (br_f r2 (nm_e (nm_r (nI_1 i) (hY2 post h)))))⟩)))⟩
        · have p6 : ph' j ≠ 5 := p5
          obtain ⟨r3, u2, v2, I2, hX2, hY2⟩ := ih (i + 1) f wv' wh' ds' xd' yd' de' dd' ph' ra' sh' lh' se' le' sd' ld' hs' ak' ao' ap' al' yo' yp' lo' lg' sr' as' (by omega) I1
          exact ⟨r3, u2, v2, I2, fun post h => br_f cn (nm_r ej (br_f cT ⟨v4, br_f (by rw [c]; exact h5) (hX _ ⟨v4, br_f (by rw [c]; exact p6) (nm_r (nI_1 i) (hX2 post h))⟩)⟩)), fun post h => br_f cx (br_f c16 (nm_r ej (br_f cT ⟨v4, br_f (by rw [c]; exact h5) (hY _ (br_t r0 (nm_r (nI_1 i) (hY2 post h))))⟩)))⟩
    · have cT : nI T ≤ nI j := nI_le (by omega) (by omega)
      obtain ⟨r2, u2, v2, I2, hX2, hY2⟩ := ih (i + 1) f wv wh ds xd yd de dd ph ra sh lh se le sd ld hs ak ao ap al yo yp lo lg sr as (by omega) I
      exact ⟨r2, u2, v2, I2, fun post h => br_f cn (nm_r ej (br_t cT (nm_r (nI_1 i) (hX2 post h)))), fun post h => br_f cx (br_f c16 (nm_r ej (br_t cT (nm_r (nI_1 i) (hY2 post h)))))⟩
end
section
/-! 10: the constructors -/
section
variable {T W S K : Nat} {wv wh ds xd yd de dd ph ra sh lh se le sd ld hs ak ao ap al yo yp lo lg : Nat → Int32} {sr as : Nat → Int64}
theorem in_x2 {post : SX → Prop} (h : post (nI T, nI W, nI S, wv, wh, ds, xd, de, dd, mw_row ph (fun _ => 5) 0 4, ra, sh, se, sd, mw_row ak (fun _ => 14) 0 4, mw_row ao (fun _ => -1) 0 4, mw_row ap (fun _ => -1) 0 4, mw_row al (fun _ => 0) 0 4, mw_row lo (fun _ => 12) 0 4, lg)) : ∀ d i, i + d = 4 → wX_init_190 post (d + 1) (nI i) (nI T) (nI W) (nI S) wv wh ds xd de dd (mw_row ph (fun _ => 5) 0 i) ra sh se sd (mw_row ak (fun _ => 14) 0 i) (mw_row ao (fun _ => -1) 0 i) (mw_row ap (fun _ => -1) 0 i) (mw_row al (fun _ => 0) 0 i) (mw_row lo (fun _ => 12) 0 i) lg := by
  intro d
  induction d with
  | zero =>
    intro i hi
    have e : i = 4 := by omega
    subst e
    exact br_t (nI_le (a := 4) (b := 4) (Nat.le_refl _) (by decide)) h
  | succ d ih =>
    intro i hi
    have hi4 : i < 4 := by omega
    have v4 : vp_in (nI i) 4 := vp_in_nI hi4 (by decide)
    have q := ih (i + 1) (by omega)
    rw [← mw_row_s0 ph, ← mw_row_s0 lo, ← mw_row_s0 ak, ← mw_row_s0 ao, ← mw_row_s0 ap, ← mw_row_s0 al] at q
    exact br_f (nI_ge (b := 4) hi4 (by decide)) ⟨v4, nm_r (mw_uc (by omega)) ⟨v4, nm_r (mw_uc (by omega)) (xa_sa hi4 (nm_r (nI_1 i) q))⟩⟩
theorem in_x1 {post : SX → Prop} (h : post (nI T, nI W, nI S, wv, mw_row wh (fun _ => -1) 0 16, ds, xd, de, dd, mw_row ph (fun _ => 5) 0 4, ra, sh, se, sd, mw_row ak (fun _ => 14) 0 4, mw_row ao (fun _ => -1) 0 4, mw_row ap (fun _ => -1) 0 4, mw_row al (fun _ => 0) 0 4, mw_row lo (fun _ => 12) 0 4, lg)) : ∀ d i, i + d = 16 → wX_init_166 post (nI T) (nI W) (nI S) (d + 1) (nI i) wv (mw_row wh (fun _ => -1) 0 i) ds xd de dd ph ra sh se sd ak ao ap al lo lg := by
  intro d
  induction d with
  | zero =>
    intro i hi
    have e : i = 16 := by omega
    subst e
    have q := in_x2 h 4 0 (by omega)
    rw [mw_row_0, mw_row_0, mw_row_0, mw_row_0, mw_row_0, mw_row_0] at q
    exact br_t (nI_le (a := 16) (b := 16) (Nat.le_refl _) (by decide)) ⟨5, q⟩
  | succ d ih =>
    intro i hi
    have hi4 : i < 16 := by omega
    have q := ih (i + 1) (by omega)
    rw [← mw_row_s0 wh] at q
    exact br_f (nI_ge (b := 16) hi4 (by decide)) ⟨vp_in_nI hi4 (by decide), nm_r (mw_uc (by omega)) (nm_r (nI_1 i) q)⟩
theorem in_y {post : SY → Prop} (h : post (nI T, nI W, nI S, lN K, wv, yd, de, dd, lh, le, ld, hs, mw_row ph (fun _ => 5) 0 4, mw_row lo (fun _ => 12) 0 4, lg, sr, mw_row ak (fun _ => 14) 0 4, yo, as, yp)) : ∀ d i, i + d = 4 → wY_init_162 post (nI T) (nI W) (nI S) (lN K) (d + 1) (nI i) wv yd de dd lh le ld hs (mw_row ph (fun _ => 5) 0 i) (mw_row lo (fun _ => 12) 0 i) lg sr (mw_row ak (fun _ => 14) 0 i) yo as yp := by
  intro d
  induction d with
  | zero =>
    intro i hi
    have e : i = 4 := by omega
    subst e
    exact br_t (nI_le (a := 4) (b := 4) (Nat.le_refl _) (by decide)) h
  | succ d ih =>
    intro i hi
    have hi4 : i < 4 := by omega
    have v4 : vp_in (nI i) 4 := vp_in_nI hi4 (by decide)
    have q := ih (i + 1) (by omega)
    rw [← mw_row_s0 ph, ← mw_row_s0 lo, ← mw_row_s0 ak] at q
    exact br_f (nI_ge (b := 4) hi4 (by decide)) ⟨v4, nm_r (mw_uc (by omega)) ⟨v4, nm_r (mw_uc (by omega)) ⟨v4, nm_r (mw_uc (by omega)) (nm_r (nI_1 i) q)⟩⟩⟩
end
def in_z : Nat → Int32 := fun _ => 0
def in_zl : Nat → Int64 := fun _ => 0
theorem in_rel {T W S : Nat} (hB : mw_B T W S) : mw_I T W S 0 (nI T, nI W, nI S, in_z, mw_row in_z (fun _ => -1) 0 16, in_z, in_z, in_z, in_z, mw_row in_z (fun _ => 5) 0 4, in_z, in_z, in_z, in_z, mw_row in_z (fun _ => 14) 0 4, mw_row in_z (fun _ => -1) 0 4, mw_row in_z (fun _ => -1) 0 4, mw_row in_z (fun _ => 0) 0 4, mw_row in_z (fun _ => 12) 0 4, in_z) (nI T, nI W, nI S, lN 0, in_z, in_z, in_z, in_z, in_z, in_z, in_z, in_z, mw_row in_z (fun _ => 5) 0 4, mw_row in_z (fun _ => 12) 0 4, in_z, in_zl, mw_row in_z (fun _ => 14) 0 4, in_z, in_zl, in_z) := by
  have hT : T ≤ 4 := hB.2.1
  have hW : W ≤ 16 := hB.2.2.2.1
  have r4 : ∀ (x : Int32) (t : Nat), t < T → mw_row in_z (fun _ => x) 0 4 t = x := fun x t ht => mw_row_i (g := fun _ => x) (Nat.zero_le t) (by omega)
  have r16 : ∀ (a : Nat), a < W → mw_row in_z (fun _ => -1) 0 16 a = -1 := fun a ha => mw_row_i (g := fun _ => -1) (Nat.zero_le a) (by omega)
  refine mw_mk hB (fun t ht => ⟨fun a ha => ⟨rfl, Or.inl rfl⟩, ?_⟩) (fun t ht => Or.inr (Or.inr (r4 5 t ht))) (fun a ha => ⟨Or.inl (r16 a ha), fun t ht => ?_⟩) (fun a s ha hs hh => ?_) (fun t ht => Or.inl ⟨r4 14 t ht, r4 (-1) t ht, r4 (-1) t ht, r4 0 t ht⟩) (fun s hs => ⟨0, Nat.le_refl 0, rfl⟩)
  · have e : mw_cnt in_z (t * 16) W = 0 := mw_cnt_0 (fun a ha => rfl)
    rw [e]
    exact nI_0.symm
  · rw [r16 a ha, if_neg (mw_nm' (by omega))]
    rfl
  · rw [r16 a ha] at hh
    exact absurd hh (mw_nm' (by omega))
theorem i_vc0 (k0 : Int32) (k1 : Int32) (k2 : Int32) : wpX_init (fun u => wpY_init (fun v => i_Rel 3 u v) k0 k1 k2) k0 k1 k2 := by
  obtain ⟨T, t1, t2, tX, tY⟩ := xa_clampT k0 2 4 (by decide) (by decide)
  obtain ⟨W, w1, w2, wX, wY⟩ := xa_clampT k1 4 16 (by decide) (by decide)
  obtain ⟨S, s1, s2, sX, sY⟩ := xa_clampT k2 1 8 (by decide) (by decide)
  have hB : mw_B T W S := ⟨t1, t2, w1, w2, s1, s2⟩
  have R := in_rel hB
  have Y : wpY_init (fun v => i_Rel 3 (nI T, nI W, nI S, in_z, mw_row in_z (fun _ => -1) 0 16, in_z, in_z, in_z, in_z, mw_row in_z (fun _ => 5) 0 4, in_z, in_z, in_z, in_z, mw_row in_z (fun _ => 14) 0 4, mw_row in_z (fun _ => -1) 0 4, mw_row in_z (fun _ => -1) 0 4, mw_row in_z (fun _ => 0) 0 4, mw_row in_z (fun _ => 12) 0 4, in_z) v) k0 k1 k2 := by
    have q := in_y (post := fun v => i_Rel 3 (nI T, nI W, nI S, in_z, mw_row in_z (fun _ => -1) 0 16, in_z, in_z, in_z, in_z, mw_row in_z (fun _ => 5) 0 4, in_z, in_z, in_z, in_z, mw_row in_z (fun _ => 14) 0 4, mw_row in_z (fun _ => -1) 0 4, mw_row in_z (fun _ => -1) 0 4, mw_row in_z (fun _ => 0) 0 4, mw_row in_z (fun _ => 12) 0 4, in_z) v) (T := T) (W := W) (S := S) (K := 0) (wv := in_z) (yd := in_z) (de := in_z) (dd := in_z) (lh := in_z) (le := in_z) (ld := in_z) (hs := in_z) (ph := in_z) (lo := in_z) (lg := in_z) (sr := in_zl) (ak := in_z) (yo := in_z) (as := in_zl) (yp := in_z) ⟨T, W, S, 0, by decide, R⟩ 4 0 (by decide)
    rw [mw_row_0, mw_row_0, mw_row_0] at q
    unfold wpY_init
    refine tY _ _ ?_
    refine wY _ _ ?_
    refine sY _ _ ?_
    exact ⟨5, q⟩
  have q := in_x1 (post := fun u => wpY_init (fun v => i_Rel 3 u v) k0 k1 k2) (T := T) (W := W) (S := S) (wv := in_z) (wh := in_z) (ds := in_z) (xd := in_z) (de := in_z) (dd := in_z) (ph := in_z) (ra := in_z) (sh := in_z) (se := in_z) (sd := in_z) (ak := in_z) (ao := in_z) (ap := in_z) (al := in_z) (lo := in_z) (lg := in_z) Y 16 0 (by decide)
  rw [mw_row_0] at q
  unfold wpX_init
  refine tX _ ?_
  refine wX _ ?_
  refine sX _ ?_
  exact ⟨17, q⟩
end
section
/-! 11: term on both sides, and the refused calls of Y's methods that open with a check -/
section
variable {T W S K : Nat} {wv wh ds xd yd de dd ph ra sh lh se le sd ld hs ak ao ap al yo yp lo lg : Nat → Int32} {sr as : Nat → Int64} {t a : Nat} {x : Int32} {post : Int32 → Prop}
theorem ya_ho1 (hx : x < 0 ∨ nI W ≤ x) (h : post (-1)) : wpY_holder post (nI T, nI W, nI S, lN K, wv, yd, de, dd, lh, le, ld, hs, ph, lo, lg, sr, ak, yo, as, yp) x := by
  unfold wpY_holder
  dsimp only
  exact ya_bw1 hx (br_f mw_10 h)
theorem ya_dr1 {post : Int32 → SY → Prop} (hx : x < 0 ∨ nI T ≤ x) (h : post 0 (nI T, nI W, nI S, lN K, wv, yd, de, dd, lh, le, ld, hs, ph, lo, lg, sr, ak, yo, as, yp)) : wpY_drop post (nI T, nI W, nI S, lN K, wv, yd, de, dd, lh, le, ld, hs, ph, lo, lg, sr, ak, yo, as, yp) x := by
  unfold wpY_drop
  dsimp only
  exact ya_bt1 hx (br_f mw_10 h)
theorem ya_lt9 (hx : x < 0 ∨ nI T ≤ x) (h : post 0) : wpY_late post (nI T, nI W, nI S, lN K, wv, yd, de, dd, lh, le, ld, hs, ph, lo, lg, sr, ak, yo, as, yp) x := by
  unfold wpY_late
  dsimp only
  exact ya_bt1 hx (br_f mw_10 h)
theorem yt_d0 (hT : T ≤ 4) (hW : W ≤ 16) (ht : t < T) (ha : a < W) (z : yd (t * 16 + a) = 0) (hx : x = 0 ∨ x = 1 ∨ x = 2) (h : post 0) : wpY_term post (nI T, nI W, nI S, lN K, wv, yd, de, dd, lh, le, ld, hs, ph, lo, lg, sr, ak, yo, as, yp) (nI t) (nI a) x := by
  have c : (nI (t * 16 + a)).toNatClampNeg = t * 16 + a := nI_clamp (by omega)
  have v : vp_in (nI (t * 16 + a)) 64 := vp_in_nI (by omega) (by decide)
  unfold wpY_term
  dsimp only
  rcases hx with rfl | rfl | rfl
  · exact ya_bt0 ht hT (br_t rfl (ya_bw0 ha hW (br_t rfl (nm_r (mw_ix t a) (br_t rfl ⟨v, br_t (by rw [c]; exact z) h⟩)))))
  · exact ya_bt0 ht hT (br_t rfl (ya_bw0 ha hW (br_t rfl (nm_r (mw_ix t a) (br_f (by decide) (br_t rfl ⟨v, br_t (by rw [c]; exact z) h⟩))))))
  · exact ya_bt0 ht hT (br_t rfl (ya_bw0 ha hW (br_t rfl (nm_r (mw_ix t a) (br_f (by decide) (br_f (by decide) (br_t rfl ⟨v, br_t (by rw [c]; exact z) h⟩)))))))
theorem yt_d1 (hT : T ≤ 4) (hW : W ≤ 16) (ht : t < T) (ha : a < W) (z : ¬ yd (t * 16 + a) = 0) (h : post 1) : wpY_term post (nI T, nI W, nI S, lN K, wv, yd, de, dd, lh, le, ld, hs, ph, lo, lg, sr, ak, yo, as, yp) (nI t) (nI a) 0 := by
  have c : (nI (t * 16 + a)).toNatClampNeg = t * 16 + a := nI_clamp (by omega)
  have v : vp_in (nI (t * 16 + a)) 64 := vp_in_nI (by omega) (by decide)
  unfold wpY_term
  dsimp only
  exact ya_bt0 ht hT (br_t rfl (ya_bw0 ha hW (br_t rfl (nm_r (mw_ix t a) (br_t rfl ⟨v, br_f (by rw [c]; exact z) h⟩)))))
theorem yt_d2 (hT : T ≤ 4) (hW : W ≤ 16) (ht : t < T) (ha : a < W) (z : ¬ yd (t * 16 + a) = 0) (h : post (de (t * 16 + a))) : wpY_term post (nI T, nI W, nI S, lN K, wv, yd, de, dd, lh, le, ld, hs, ph, lo, lg, sr, ak, yo, as, yp) (nI t) (nI a) 1 := by
  have c : (nI (t * 16 + a)).toNatClampNeg = t * 16 + a := nI_clamp (by omega)
  have v : vp_in (nI (t * 16 + a)) 64 := vp_in_nI (by omega) (by decide)
  unfold wpY_term
  dsimp only
  exact ya_bt0 ht hT (br_t rfl (ya_bw0 ha hW (br_t rfl (nm_r (mw_ix t a) (br_f (by decide) (br_t rfl ⟨v, br_f (by rw [c]; exact z) ⟨v, by rw [c]; exact h⟩⟩))))))
theorem yt_d3 (hT : T ≤ 4) (hW : W ≤ 16) (ht : t < T) (ha : a < W) (z : ¬ yd (t * 16 + a) = 0) (h : post (dd (t * 16 + a))) : wpY_term post (nI T, nI W, nI S, lN K, wv, yd, de, dd, lh, le, ld, hs, ph, lo, lg, sr, ak, yo, as, yp) (nI t) (nI a) 2 := by
  have c : (nI (t * 16 + a)).toNatClampNeg = t * 16 + a := nI_clamp (by omega)
  have v : vp_in (nI (t * 16 + a)) 64 := vp_in_nI (by omega) (by decide)
  unfold wpY_term
  dsimp only
  exact ya_bt0 ht hT (br_t rfl (ya_bw0 ha hW (br_t rfl (nm_r (mw_ix t a) (br_f (by decide) (br_f (by decide) (br_t rfl ⟨v, br_f (by rw [c]; exact z) ⟨v, by rw [c]; exact h⟩⟩)))))))
/-- beyond the draft's parts: what is left is a hypothesis -/
theorem yt_in (hT : T ≤ 4) (hW : W ≤ 16) (ht : t < T) (ha : a < W) (n0 : ¬ x = 0) (n1 : ¬ x = 1) (n2 : ¬ x = 2) (h : (ph t = 5 → post 0) ∧ (¬ ph t = 5 → (lh (t * 16 + a) = 0 → post 0) ∧ (¬ lh (t * 16 + a) = 0 → (x = 3 → post 1) ∧ (¬ x = 3 → (ph t = 8 → post 0) ∧ (¬ ph t = 8 → (x = 4 → post (le (t * 16 + a))) ∧ (¬ x = 4 → (x = 5 → post (ld (t * 16 + a))) ∧ (¬ x = 5 → post 0))))))) : wpY_term post (nI T, nI W, nI S, lN K, wv, yd, de, dd, lh, le, ld, hs, ph, lo, lg, sr, ak, yo, as, yp) (nI t) (nI a) x := by
  have c : (nI (t * 16 + a)).toNatClampNeg = t * 16 + a := nI_clamp (by omega)
  have c4 : (nI t).toNatClampNeg = t := nI_clamp (by omega)
  have v : vp_in (nI (t * 16 + a)) 64 := vp_in_nI (by omega) (by decide)
  have v4 : vp_in (nI t) 4 := vp_in_nI (by omega) (by decide)
  unfold wpY_term
  dsimp only
  refine ya_bt0 ht hT (br_t rfl (ya_bw0 ha hW (br_t rfl (nm_r (mw_ix t a) (br_f n0 (br_f n1 (br_f n2 ?_)))))))
  rw [c, c4]
  refine ⟨v4, br_c h.1 (fun n5 => ⟨v, br_c (h.2 n5).1 (fun nl => br_c ((h.2 n5).2 nl).1 (fun n3 => ⟨v4, br_c (((h.2 n5).2 nl).2 n3).1 (fun n8 => ?_)⟩))⟩)⟩
  have H := (((h.2 n5).2 nl).2 n3).2 n8
  exact ⟨fun e => ⟨v, H.1 e⟩, fun n4 => ⟨fun e => ⟨v, (H.2 n4).1 e⟩, (H.2 n4).2⟩⟩
theorem xt_li (hT : T ≤ 4) (hW : W ≤ 16) (ht : t < T) (ha : a < W) (hx : x = 3 ∨ x = 4 ∨ x = 5) (h : (ph t = 8 → (x = 3 → (ra t = nI a → post 1) ∧ (¬ ra t = nI a → post 0)) ∧ (¬ x = 3 → post 0)) ∧ (¬ ph t = 8 → (ph t = 5 → post 0) ∧ (¬ ph t = 5 → (sh (t * 16 + a) = 0 → post 0) ∧ (¬ sh (t * 16 + a) = 0 → (x = 3 → post 1) ∧ (¬ x = 3 → (x = 4 → post (se (t * 16 + a))) ∧ (¬ x = 4 → post (sd (t * 16 + a)))))))) : wpX_term post (nI T, nI W, nI S, wv, wh, ds, xd, de, dd, ph, ra, sh, se, sd, ak, ao, ap, al, lo, lg) (nI t) (nI a) x := by
  have c : (nI (t * 16 + a)).toNatClampNeg = t * 16 + a := nI_clamp (by omega)
  have c4 : (nI t).toNatClampNeg = t := nI_clamp (by omega)
  have v : vp_in (nI (t * 16 + a)) 64 := vp_in_nI (by omega) (by decide)
  have v4 : vp_in (nI t) 4 := vp_in_nI (by omega) (by decide)
  have LT : wpX_liveTerm (fun r => post r) (nI T, nI W, nI S, wv, wh, ds, xd, de, dd, ph, ra, sh, se, sd, ak, ao, ap, al, lo, lg) (nI t) (nI a) x := by
    unfold wpX_liveTerm
    dsimp only
    rw [c4]
    refine ⟨v4, fun e8 => ⟨fun e3 => ⟨v4, (h.1 e8).1 e3⟩, (h.1 e8).2⟩, fun n8 => xa_en ?_⟩
    rw [c]
    refine ⟨v4, (h.2 n8).1, fun n5 => ⟨v, ((h.2 n8).2 n5).1, fun nz => ⟨(((h.2 n8).2 n5).2 nz).1, fun n3 => ?_⟩⟩⟩
    have H := (((h.2 n8).2 n5).2 nz).2 n3
    exact ⟨fun e => ⟨v, H.1 e⟩, fun e => ⟨v, H.2 e⟩⟩
  unfold wpX_term
  dsimp only
  refine xa_bt0 ht hT (br_t rfl (xa_ba0 ha hW (br_t rfl ?_)))
  rcases hx with rfl | rfl | rfl
  · exact br_t rfl LT
  · exact br_f (by decide) (br_t rfl LT)
  · exact br_f (by decide) (br_f (by decide) (br_t rfl LT))
theorem xt_dr (hT : T ≤ 4) (hW : W ≤ 16) (ht : t < T) (ha : a < W) (n3 : ¬ x = 3) (n4 : ¬ x = 4) (n5 : ¬ x = 5) (h : (xd (t * 16 + a) = 0 → post 0) ∧ (¬ xd (t * 16 + a) = 0 → (x < 0 → post 0) ∧ (¬ x < 0 → (2 < x → post 0) ∧ (¬ 2 < x → (x = 0 → post 1) ∧ (¬ x = 0 → (x = 1 → post (de (t * 16 + a))) ∧ (¬ x = 1 → (x = 2 → post (dd (t * 16 + a))) ∧ (¬ x = 2 → True))))))) : wpX_term post (nI T, nI W, nI S, wv, wh, ds, xd, de, dd, ph, ra, sh, se, sd, ak, ao, ap, al, lo, lg) (nI t) (nI a) x := by
  have c : (nI (t * 16 + a)).toNatClampNeg = t * 16 + a := nI_clamp (by omega)
  have v : vp_in (nI (t * 16 + a)) 64 := vp_in_nI (by omega) (by decide)
  unfold wpX_term
  dsimp only
  refine xa_bt0 ht hT (br_t rfl (xa_ba0 ha hW (br_t rfl (br_f n3 (br_f n4 (br_f n5 (xa_en ?_)))))))
  rw [c]
  refine ⟨v, h.1, fun nz => ⟨(h.2 nz).1, fun a1 => ⟨((h.2 nz).2 a1).1, fun a2 => ⟨(((h.2 nz).2 a1).2 a2).1, fun a3 => ?_⟩⟩⟩⟩
  have H := (((h.2 nz).2 a1).2 a2).2 a3
  exact ⟨fun e => ⟨v, H.1 e⟩, fun e => ⟨fun e2 => ⟨v, (H.2 e).1 e2⟩, (H.2 e).2⟩⟩
end
end
section
/-! 12: what is owed -/
theorem i_vc_value {k : Nat} {u : SX} {v : SY} (I : i_Rel k u v) (hk : k + 5 ≤ 2563) (v1 : Int32) : wpX_value (fun r => wpY_value (fun r' => r' = r ∧ i_Rel (k + 5) u v) v v1) u v1 := by
  have J := i_up I
  obtain ⟨T, W, S, K, hK, I⟩ := I
  have I0 := I
  obtain ⟨wv, wh, ds, xd, yd, de, dd, ph, ra, sh, lh, se, le, sd, ld, hs, ak, ao, ap, al, yo, yp, lo, lg, sr, as, rfl, rfl, hB, hD, hL, hH, hP, hA, hS⟩ := I
  have hT : T ≤ 4 := hB.2.1
  have hW : W ≤ 16 := hB.2.2.2.1
  unfold wpX_value wpY_value
  dsimp only
  rcases pk_ix v1 (n := W) (by omega) with z | z | ⟨a, ha, rfl⟩
  · exact xa_ba1 (Or.inl z) (br_f mw_10 (ya_bw1 (Or.inl z) (br_f mw_10 ⟨rfl, J⟩)))
  · exact xa_ba1 (Or.inr z) (br_f mw_10 (ya_bw1 (Or.inr z) (br_f mw_10 ⟨rfl, J⟩)))
  · exact xa_ba0 ha hW (br_t rfl ⟨vp_in_nI (by omega) (by decide), ya_bw0 ha hW (br_t rfl ⟨vp_in_nI (by omega) (by decide), ⟨rfl, J⟩⟩)⟩)
theorem i_vc_holder {k : Nat} {u : SX} {v : SY} (I : i_Rel k u v) (hk : k + 5 ≤ 2563) (v1 : Int32) : wpX_holder (fun r => wpY_holder (fun r' => r' = r ∧ i_Rel (k + 5) u v) v v1) u v1 := by
  have J := i_up I
  obtain ⟨T, W, S, K, hK, I⟩ := I
  have I0 := I
  obtain ⟨wv, wh, ds, xd, yd, de, dd, ph, ra, sh, lh, se, le, sd, ld, hs, ak, ao, ap, al, yo, yp, lo, lg, sr, as, rfl, rfl, hB, hD, hL, hH, hP, hA, hS⟩ := I
  have hT : T ≤ 4 := hB.2.1
  have hW : W ≤ 16 := hB.2.2.2.1
  unfold wpX_holder
  dsimp only
  rcases pk_ix v1 (n := W) (by omega) with z | z | ⟨a, ha, rfl⟩
  · exact xa_ba1 (Or.inl z) (br_f mw_10 (ya_ho1 (Or.inl z) ⟨rfl, J⟩))
  · exact xa_ba1 (Or.inr z) (br_f mw_10 (ya_ho1 (Or.inr z) ⟨rfl, J⟩))
  · exact xa_ba0 ha hW (br_t rfl ⟨vp_in_nI (by omega) (by decide), ya_ho hT ha hW hH rfl ⟨by rw [nI_clamp (by omega)], J⟩⟩)
theorem i_vc_state {k : Nat} {u : SX} {v : SY} (I : i_Rel k u v) (hk : k + 5 ≤ 2563) (v1 : Int32) : wpX_state (fun r => wpY_state (fun r' => r' = r ∧ i_Rel (k + 5) u v) v v1) u v1 := by
  have J := i_up I
  obtain ⟨T, W, S, K, hK, I⟩ := I
  have I0 := I
  obtain ⟨wv, wh, ds, xd, yd, de, dd, ph, ra, sh, lh, se, le, sd, ld, hs, ak, ao, ap, al, yo, yp, lo, lg, sr, as, rfl, rfl, hB, hD, hL, hH, hP, hA, hS⟩ := I
  have hT : T ≤ 4 := hB.2.1
  have hW : W ≤ 16 := hB.2.2.2.1
  unfold wpX_state wpY_state
  dsimp only
  rcases pk_ix v1 (n := T) (by omega) with z | z | ⟨t, ht, rfl⟩
  · exact xa_bt1 (Or.inl z) (br_f mw_10 (ya_bt1 (Or.inl z) (br_f mw_10 ⟨rfl, J⟩)))
  · exact xa_bt1 (Or.inr z) (br_f mw_10 (ya_bt1 (Or.inr z) (br_f mw_10 ⟨rfl, J⟩)))
  · exact xa_bt0 ht hT (br_t rfl ⟨vp_in_nI (by omega) (by decide), ya_bt0 ht hT (br_t rfl ⟨vp_in_nI (by omega) (by decide), ⟨rfl, J⟩⟩)⟩)
theorem i_vc_aim {k : Nat} {u : SX} {v : SY} (I : i_Rel k u v) (hk : k + 5 ≤ 2563) (v1 : Int32) : wpX_aim (fun r => wpY_aim (fun r' => r' = r ∧ i_Rel (k + 5) u v) v v1) u v1 := by
  have J := i_up I
  obtain ⟨T, W, S, K, hK, I⟩ := I
  have I0 := I
  obtain ⟨wv, wh, ds, xd, yd, de, dd, ph, ra, sh, lh, se, le, sd, ld, hs, ak, ao, ap, al, yo, yp, lo, lg, sr, as, rfl, rfl, hB, hD, hL, hH, hP, hA, hS⟩ := I
  have hT : T ≤ 4 := hB.2.1
  have hW : W ≤ 16 := hB.2.2.2.1
  unfold wpX_aim wpY_aim
  dsimp only
  rcases pk_ix v1 (n := T) (by omega) with z | z | ⟨t, ht, rfl⟩
  · exact xa_bt1 (Or.inl z) (br_f mw_10 (ya_bt1 (Or.inl z) (br_f mw_10 ⟨rfl, J⟩)))
  · exact xa_bt1 (Or.inr z) (br_f mw_10 (ya_bt1 (Or.inr z) (br_f mw_10 ⟨rfl, J⟩)))
  · exact xa_bt0 ht hT (br_t rfl ⟨vp_in_nI (by omega) (by decide), ya_bt0 ht hT (br_t rfl ⟨vp_in_nI (by omega) (by decide), ⟨rfl, J⟩⟩)⟩)
theorem i_vc_outcome {k : Nat} {u : SX} {v : SY} (I : i_Rel k u v) (hk : k + 5 ≤ 2563) (v1 : Int32) : wpX_outcome (fun r => wpY_outcome (fun r' => r' = r ∧ i_Rel (k + 5) u v) v v1) u v1 := by
  have J := i_up I
  obtain ⟨T, W, S, K, hK, I⟩ := I
  have I0 := I
  obtain ⟨wv, wh, ds, xd, yd, de, dd, ph, ra, sh, lh, se, le, sd, ld, hs, ak, ao, ap, al, yo, yp, lo, lg, sr, as, rfl, rfl, hB, hD, hL, hH, hP, hA, hS⟩ := I
  have hT : T ≤ 4 := hB.2.1
  have hW : W ≤ 16 := hB.2.2.2.1
  unfold wpX_outcome wpY_outcome
  dsimp only
  rcases pk_ix v1 (n := T) (by omega) with z | z | ⟨t, ht, rfl⟩
  · exact xa_bt1 (Or.inl z) (br_f mw_10 (ya_bt1 (Or.inl z) (br_f mw_10 ⟨rfl, J⟩)))
  · exact xa_bt1 (Or.inr z) (br_f mw_10 (ya_bt1 (Or.inr z) (br_f mw_10 ⟨rfl, J⟩)))
  · exact xa_bt0 ht hT (br_t rfl ⟨vp_in_nI (by omega) (by decide), ya_bt0 ht hT (br_t rfl ⟨vp_in_nI (by omega) (by decide), ⟨rfl, J⟩⟩)⟩)
theorem i_vc_got {k : Nat} {u : SX} {v : SY} (I : i_Rel k u v) (hk : k + 5 ≤ 2563) (v1 : Int32) : wpX_got (fun r => wpY_got (fun r' => r' = r ∧ i_Rel (k + 5) u v) v v1) u v1 := by
  have J := i_up I
  obtain ⟨T, W, S, K, hK, I⟩ := I
  have I0 := I
  obtain ⟨wv, wh, ds, xd, yd, de, dd, ph, ra, sh, lh, se, le, sd, ld, hs, ak, ao, ap, al, yo, yp, lo, lg, sr, as, rfl, rfl, hB, hD, hL, hH, hP, hA, hS⟩ := I
  have hT : T ≤ 4 := hB.2.1
  have hW : W ≤ 16 := hB.2.2.2.1
  unfold wpX_got wpY_got
  dsimp only
  rcases pk_ix v1 (n := T) (by omega) with z | z | ⟨t, ht, rfl⟩
  · exact xa_bt1 (Or.inl z) (br_f mw_10 (ya_bt1 (Or.inl z) (br_f mw_10 ⟨rfl, J⟩)))
  · exact xa_bt1 (Or.inr z) (br_f mw_10 (ya_bt1 (Or.inr z) (br_f mw_10 ⟨rfl, J⟩)))
  · exact xa_bt0 ht hT (br_t rfl ⟨vp_in_nI (by omega) (by decide), ya_bt0 ht hT (br_t rfl ⟨vp_in_nI (by omega) (by decide), ⟨rfl, J⟩⟩)⟩)
theorem i_vc_target {k : Nat} {u : SX} {v : SY} (I : i_Rel k u v) (hk : k + 5 ≤ 2563) (v1 : Int32) : wpX_target (fun r => wpY_target (fun r' => r' = r ∧ i_Rel (k + 5) u v) v v1) u v1 := by
  have J := i_up I
  obtain ⟨T, W, S, K, hK, I⟩ := I
  have I0 := I
  obtain ⟨wv, wh, ds, xd, yd, de, dd, ph, ra, sh, lh, se, le, sd, ld, hs, ak, ao, ap, al, yo, yp, lo, lg, sr, as, rfl, rfl, hB, hD, hL, hH, hP, hA, hS⟩ := I
  have hT : T ≤ 4 := hB.2.1
  have hW : W ≤ 16 := hB.2.2.2.1
  unfold wpX_target wpY_target
  dsimp only
  rcases pk_ix v1 (n := T) (by omega) with z | z | ⟨t, ht, rfl⟩
  · exact xa_bt1 (Or.inl z) (br_f mw_10 (ya_bt1 (Or.inl z) (br_f mw_10 ⟨rfl, J⟩)))
  · exact xa_bt1 (Or.inr z) (br_f mw_10 (ya_bt1 (Or.inr z) (br_f mw_10 ⟨rfl, J⟩)))
  · have c : (nI t).toNatClampNeg = t := nI_clamp (by omega)
    have v4 : vp_in (nI t) 4 := vp_in_nI (by omega) (by decide)
    rcases hA t ht with ⟨q1, q2, q3, _⟩ | ⟨s, m, hs', hm, hk', e1, e2, e3, e4, _⟩
    · exact xa_bt0 ht hT (br_t rfl ⟨v4, ya_bt0 ht hT (br_t rfl ⟨v4, br_t (by rw [c]; exact q1) ⟨by rw [c]; exact q2.symm, J⟩⟩)⟩)
    · have k14 : ¬ ak t = 14 := by
        rcases hk' with z | z | z
        · rw [z]; decide
        · rw [z]; decide
        · rw [z]; decide
      exact xa_bt0 ht hT (br_t rfl ⟨v4, ya_bt0 ht hT (br_t rfl ⟨v4, br_f (by rw [c]; exact k14) ⟨v4, ⟨by rw [c]; exact e2.trans e1.symm, J⟩⟩⟩)⟩)
theorem i_vc_place {k : Nat} {u : SX} {v : SY} (I : i_Rel k u v) (hk : k + 5 ≤ 2563) (v1 : Int32) : wpX_place (fun r => wpY_place (fun r' => r' = r ∧ i_Rel (k + 5) u v) v v1) u v1 := by
  have J := i_up I
  obtain ⟨T, W, S, K, hK, I⟩ := I
  have I0 := I
  obtain ⟨wv, wh, ds, xd, yd, de, dd, ph, ra, sh, lh, se, le, sd, ld, hs, ak, ao, ap, al, yo, yp, lo, lg, sr, as, rfl, rfl, hB, hD, hL, hH, hP, hA, hS⟩ := I
  have hT : T ≤ 4 := hB.2.1
  have hW : W ≤ 16 := hB.2.2.2.1
  unfold wpX_place wpY_place
  dsimp only
  rcases pk_ix v1 (n := T) (by omega) with z | z | ⟨t, ht, rfl⟩
  · exact xa_bt1 (Or.inl z) (br_f mw_10 (ya_bt1 (Or.inl z) (br_f mw_10 ⟨rfl, J⟩)))
  · exact xa_bt1 (Or.inr z) (br_f mw_10 (ya_bt1 (Or.inr z) (br_f mw_10 ⟨rfl, J⟩)))
  · have c : (nI t).toNatClampNeg = t := nI_clamp (by omega)
    have v4 : vp_in (nI t) 4 := vp_in_nI (by omega) (by decide)
    rcases hA t ht with ⟨q1, q2, q3, _⟩ | ⟨s, m, hs', hm, hk', e1, e2, e3, e4, _⟩
    · exact xa_bt0 ht hT (br_t rfl ⟨v4, ya_bt0 ht hT (br_t rfl ⟨v4, br_t (by rw [c]; exact q1) ⟨by rw [c]; exact q3.symm, J⟩⟩)⟩)
    · have k14 : ¬ ak t = 14 := by
        rcases hk' with z | z | z
        · rw [z]; decide
        · rw [z]; decide
        · rw [z]; decide
      exact xa_bt0 ht hT (br_t rfl ⟨v4, ya_bt0 ht hT (br_t rfl ⟨v4, br_f (by rw [c]; exact k14) ⟨v4, ⟨by rw [c]; exact e3, J⟩⟩⟩)⟩)
theorem i_vc_late {k : Nat} {u : SX} {v : SY} (I : i_Rel k u v) (hk : k + 5 ≤ 2563) (v1 : Int32) : wpX_late (fun r => wpY_late (fun r' => r' = r ∧ i_Rel (k + 5) u v) v v1) u v1 := by
  have J := i_up I
  obtain ⟨T, W, S, K, hK, I⟩ := I
  have I0 := I
  obtain ⟨wv, wh, ds, xd, yd, de, dd, ph, ra, sh, lh, se, le, sd, ld, hs, ak, ao, ap, al, yo, yp, lo, lg, sr, as, rfl, rfl, hB, hD, hL, hH, hP, hA, hS⟩ := I
  have hT : T ≤ 4 := hB.2.1
  have hW : W ≤ 16 := hB.2.2.2.1
  unfold wpX_late
  dsimp only
  rcases pk_ix v1 (n := T) (by omega) with z | z | ⟨t, ht, rfl⟩
  · exact xa_bt1 (Or.inl z) (br_f mw_10 (ya_lt9 (Or.inl z) ⟨rfl, J⟩))
  · exact xa_bt1 (Or.inr z) (br_f mw_10 (ya_lt9 (Or.inr z) ⟨rfl, J⟩))
  · have c : (nI t).toNatClampNeg = t := nI_clamp (by omega)
    have v4 : vp_in (nI t) 4 := vp_in_nI (by omega) (by decide)
    rcases hA t ht with ⟨q1, _, _, q4⟩ | ⟨s, m, hs', hm, hk', e1, e2, e3, e4, q⟩
    · exact xa_bt0 ht hT (br_t rfl ⟨v4, br_t (by rw [c]; exact q4) (ya_lt14 ht hT q1 ⟨rfl, J⟩)⟩)
    · have k14 : ak t ≠ 14 := by
        rcases hk' with z | z | z
        · rw [z]; decide
        · rw [z]; decide
        · rw [z]; decide
      rcases q with ⟨q1, q2, q3, _⟩ | ⟨q1, q2⟩
      · exact xa_bt0 ht hT (br_t rfl ⟨v4, br_t (by rw [c]; exact q1) (ya_lt0 ht hT k14 hs' e2 q2 (q3.trans e4.symm) ⟨rfl, J⟩)⟩)
      · exact xa_bt0 ht hT (br_t rfl ⟨v4, br_f (by rw [c, q1]; decide) (ya_lt1 ht hT k14 hs' e2 (by rw [e4]; exact q2) ⟨rfl, J⟩)⟩)
end
section
/-! 13: put, drop, launch, read, run, weave -/
theorem i_vc_put {k : Nat} {u : SX} {v : SY} (I : i_Rel k u v) (hk : k + 5 ≤ 2563) (v1 : Int32) (v2 : Int32) (v3 : Int32) (v4 : Int32) : wpX_put (fun r u' => wpY_put (fun r' v' => r' = r ∧ i_Rel (k + 5) u' v') v v1 v2 v3 v4) u v1 v2 v3 v4 := by
  have J := i_up I
  obtain ⟨T, W, S, K, hK, I⟩ := I
  have I0 := I
  obtain ⟨wv, wh, ds, xd, yd, de, dd, ph, ra, sh, lh, se, le, sd, ld, hs, ak, ao, ap, al, yo, yp, lo, lg, sr, as, rfl, rfl, hB, hD, hL, hH, hP, hA, hS⟩ := I
  have hT : T ≤ 4 := hB.2.1
  have hW : W ≤ 16 := hB.2.2.2.1
  unfold wpX_put wpY_put
  dsimp only
  rcases pk_ix v1 (n := T) (by omega) with z | z | ⟨t, ht, rfl⟩
  · exact xa_bt1 (Or.inl z) (br_f mw_10 (ya_bt1 (Or.inl z) (br_f mw_10 ⟨rfl, J⟩)))
  · exact xa_bt1 (Or.inr z) (br_f mw_10 (ya_bt1 (Or.inr z) (br_f mw_10 ⟨rfl, J⟩)))
  · rcases pk_ix v2 (n := W) (by omega) with z | z | ⟨a, ha, rfl⟩
    · exact xa_bt0 ht hT (br_t rfl (xa_ba1 (Or.inl z) (br_f mw_10 (ya_bt0 ht hT (br_t rfl (ya_bw1 (Or.inl z) (br_f mw_10 ⟨rfl, J⟩)))))))
    · exact xa_bt0 ht hT (br_t rfl (xa_ba1 (Or.inr z) (br_f mw_10 (ya_bt0 ht hT (br_t rfl (ya_bw1 (Or.inr z) (br_f mw_10 ⟨rfl, J⟩)))))))
    · have ht4 : t < 4 := by omega
      have ha16 : a < 16 := by omega
      have hS8 : S ≤ 8 := hB.2.2.2.2.2
      have c : (nI (t * 16 + a)).toNatClampNeg = t * 16 + a := nI_clamp (by omega)
      have c4 : (nI t).toNatClampNeg = t := nI_clamp (by omega)
      have v : vp_in (nI (t * 16 + a)) 64 := vp_in_nI (by omega) (by decide)
      have v4 : vp_in (nI t) 4 := vp_in_nI ht4 (by decide)
      have hY : yd (t * 16 + a) = xd (t * 16 + a) := ((hD t ht).1 a ha).1
      have eC : mw_cnt yd (t * 16) W = mw_cnt xd (t * 16) W := mw_cnt_c (fun b hb => ((hD t ht).1 b hb).1)
      have cle := mw_cnt_le xd (t * 16) W
      by_cases z : xd (t * 16 + a) = 0
      · by_cases zs : mw_cnt xd (t * 16) W < S
        · have lt : nI (mw_cnt xd (t * 16) W) < nI S := nI_lt zs (by omega)
          refine xa_bt0 ht hT (br_t rfl (xa_ba0 ha hW (br_t rfl (xa_en ⟨v, br_t (by rw [c]; exact z) ⟨v4, br_t (by rw [c4, (hD t ht).2]; exact lt) ⟨v, nm_r (mw_ucb1 (by omega)) ⟨v4, v4, nm_r (e' := upd ds t (nI (mw_cnt xd (t * 16) W + 1))) (by rw [c4, (hD t ht).2, nI_1]) ⟨v, nm_r (mw_uc (by omega)) ⟨v, nm_r (mw_uc (by omega)) ?_⟩⟩⟩⟩⟩⟩))))
          refine ya_bt0 ht hT (br_t rfl (ya_bw0 ha hW (br_t rfl ⟨mw_in ht4 ha16, br_t (by rw [mw_cl ht4 ha16, hY]; exact z) (ya_ds ht4 hW (br_t (by rw [eC]; exact lt) (ya_pu ht4 ha16 ⟨rfl, ?_⟩)))⟩)))
          exact ⟨T, W, S, K, by omega, mw_mk hB (mw_D_put hW hD ht ha z) hL hH hP hA hS⟩
        · have lt : ¬ nI (mw_cnt xd (t * 16) W) < nI S := nI_nlt (by omega) (by omega)
          refine xa_bt0 ht hT (br_t rfl (xa_ba0 ha hW (br_t rfl (xa_en ⟨v, br_t (by rw [c]; exact z) ⟨v4, br_f (by rw [c4, (hD t ht).2]; exact lt) ?_⟩⟩))))
          exact ya_bt0 ht hT (br_t rfl (ya_bw0 ha hW (br_t rfl ⟨mw_in ht4 ha16, br_t (by rw [mw_cl ht4 ha16, hY]; exact z) (ya_ds ht4 hW (br_f (by rw [eC]; exact lt) ⟨rfl, J⟩))⟩)))
      · refine xa_bt0 ht hT (br_t rfl (xa_ba0 ha hW (br_t rfl (xa_en ⟨v, br_f (by rw [c]; exact z) ⟨v, nm_r (mw_uc (by omega)) ⟨v, nm_r (mw_uc (by omega)) ?_⟩⟩⟩))))
        refine ya_bt0 ht hT (br_t rfl (ya_bw0 ha hW (br_t rfl ⟨mw_in ht4 ha16, br_f (by rw [mw_cl ht4 ha16, hY]; exact z) (ya_pu ht4 ha16 ⟨rfl, ?_⟩)⟩)))
        exact ⟨T, W, S, K, by omega, mw_mk hB (mw_D_put2 hD z) hL hH hP hA hS⟩
theorem i_vc_drop {k : Nat} {u : SX} {v : SY} (I : i_Rel k u v) (hk : k + 5 ≤ 2563) (v1 : Int32) : wpX_drop (fun r u' => wpY_drop (fun r' v' => r' = r ∧ i_Rel (k + 5) u' v') v v1) u v1 := by
  have J := i_up I
  obtain ⟨T, W, S, K, hK, I⟩ := I
  have I0 := I
  obtain ⟨wv, wh, ds, xd, yd, de, dd, ph, ra, sh, lh, se, le, sd, ld, hs, ak, ao, ap, al, yo, yp, lo, lg, sr, as, rfl, rfl, hB, hD, hL, hH, hP, hA, hS⟩ := I
  have hT : T ≤ 4 := hB.2.1
  have hW : W ≤ 16 := hB.2.2.2.1
  unfold wpX_drop
  dsimp only
  rcases pk_ix v1 (n := T) (by omega) with z | z | ⟨t, ht, rfl⟩
  · exact xa_bt1 (Or.inl z) (br_f mw_10 (ya_dr1 (Or.inl z) ⟨rfl, J⟩))
  · exact xa_bt1 (Or.inr z) (br_f mw_10 (ya_dr1 (Or.inr z) ⟨rfl, J⟩))
  · exact xa_bt0 ht hT (br_t rfl (xa_ed (by omega) hW (ya_dr ht hT ⟨rfl, ⟨T, W, S, K, by omega, mw_mk hB (mw_D_drop hW hD) hL hH hP hA hS⟩⟩)))
theorem i_vc_launch {k : Nat} {u : SX} {v : SY} (I : i_Rel k u v) (hk : k + 5 ≤ 2563) (v1 : Int32) : wpX_launch (fun r u' => wpY_launch (fun r' v' => r' = r ∧ i_Rel (k + 5) u' v') v v1) u v1 := by
  have J := i_up I
  obtain ⟨T, W, S, K, hK, I⟩ := I
  have I0 := I
  obtain ⟨wv, wh, ds, xd, yd, de, dd, ph, ra, sh, lh, se, le, sd, ld, hs, ak, ao, ap, al, yo, yp, lo, lg, sr, as, rfl, rfl, hB, hD, hL, hH, hP, hA, hS⟩ := I
  have hT : T ≤ 4 := hB.2.1
  have hW : W ≤ 16 := hB.2.2.2.1
  unfold wpX_launch wpY_launch
  dsimp only
  rcases pk_ix v1 (n := T) (by omega) with z | z | ⟨t, ht, rfl⟩
  · exact xa_bt1 (Or.inl z) (br_f mw_10 (ya_bt1 (Or.inl z) (br_f mw_10 ⟨rfl, J⟩)))
  · exact xa_bt1 (Or.inr z) (br_f mw_10 (ya_bt1 (Or.inr z) (br_f mw_10 ⟨rfl, J⟩)))
  · have ht4 : t < 4 := by omega
    have c4 : (nI t).toNatClampNeg = t := nI_clamp (by omega)
    have v4 : vp_in (nI t) 4 := vp_in_nI ht4 (by decide)
    have eC : mw_cnt yd (t * 16) W = mw_cnt xd (t * 16) W := mw_cnt_c (fun b hb => ((hD t ht).1 b hb).1)
    have cle := mw_cnt_le xd (t * 16) W
    by_cases h5 : ph t = 5
    · have n9 : ph t ≠ 9 := by rw [h5]; decide
      by_cases z : mw_cnt xd (t * 16) W = 0
      · refine xa_bt0 ht hT (br_t rfl ⟨v4, br_t (by rw [c4]; exact h5) ⟨v4, br_t (by rw [c4, (hD t ht).2, z]; exact nI_0) ?_⟩⟩)
        exact ya_bt0 ht hT (br_t rfl ⟨v4, br_t (by rw [c4]; exact h5) (ya_ds ht4 hW (br_t (by rw [eC, z]; exact nI_0) ⟨rfl, J⟩))⟩)
      · have z0 : ¬ nI (mw_cnt xd (t * 16) W) = 0 := nI_ne0 (by omega) (by omega)
        refine xa_bt0 ht hT (br_t rfl ⟨v4, br_t (by rw [c4]; exact h5) ⟨v4, br_f (by rw [c4, (hD t ht).2]; exact z0) (xa_cp ht4 hW (xa_ed ht4 hW ⟨v4, nm_r (mw_uc (by omega)) ?_⟩))⟩⟩)
        have R : i_Rel (k + 5) (nI T, nI W, nI S, wv, wh, upd ds t 0, mw_row xd (fun _ => 0) (t * 16) W, de, dd, upd ph t 9, ra, mw_row sh (fun j => vp_nar .boolean (xd j)) (t * 16) W, mw_row se de (t * 16) W, mw_row sd dd (t * 16) W, ak, ao, ap, al, lo, lg) (nI T, nI W, nI S, lN (K + 1), wv, mw_row yd (fun _ => 0) (t * 16) 16, de, dd, mw_row lh (fun j => vp_nar .boolean (yd j)) (t * 16) 16, mw_row le de (t * 16) 16, mw_row ld dd (t * 16) 16, hs, upd ph t 9, lo, lg, vp_updL sr t (lN (K + 1)), ak, yo, as, yp) :=
          ⟨T, W, S, K + 1, by omega, mw_mk hB (mw_D_drop hW hD) (mw_L_la hW hL hD) (mw_H_ph hH n9) (mw_P_row hT hW hW hH n9 hP) (mw_A_la hW hW (by omega) hA n9) (mw_S_la hS)⟩
        have q := yl_la (post := fun r' v' => r' = 1 ∧ i_Rel (k + 5) (nI T, nI W, nI S, wv, wh, upd ds t 0, mw_row xd (fun _ => 0) (t * 16) W, de, dd, upd ph t 9, ra, mw_row sh (fun j => vp_nar .boolean (xd j)) (t * 16) W, mw_row se de (t * 16) W, mw_row sd dd (t * 16) W, ak, ao, ap, al, lo, lg) v') (T := T) (W := W) (S := S) (K := K) (wv := wv) (yd := yd) (de := de) (dd := dd) (lh := lh) (le := le) (ld := ld) (hs := hs) (ph := ph) (lo := lo) (lg := lg) (sr := sr) (ak := ak) (yo := yo) (as := as) (yp := yp) ht hT ⟨rfl, R⟩ 16 0 (by decide)
        rw [mw_row_0, mw_row_0, mw_row_0] at q
        exact ya_bt0 ht hT (br_t rfl ⟨v4, br_t (by rw [c4]; exact h5) (ya_ds ht4 hW (br_f (by rw [eC]; exact z0) (nm_r (e' := nI (t * 16 + 0)) (pk_mul t 16) ⟨17, q⟩)))⟩)
    · refine xa_bt0 ht hT (br_t rfl ⟨v4, br_f (by rw [c4]; exact h5) ?_⟩)
      exact ya_bt0 ht hT (br_t rfl ⟨v4, br_f (by rw [c4]; exact h5) ⟨rfl, J⟩⟩)
theorem i_vc_read {k : Nat} {u : SX} {v : SY} (I : i_Rel k u v) (hk : k + 5 ≤ 2563) (v1 : Int32) (v2 : Int32) : wpX_read (fun r u' => wpY_read (fun r' v' => r' = r ∧ i_Rel (k + 5) u' v') v v1 v2) u v1 v2 := by
  have J := i_up I
  obtain ⟨T, W, S, K, hK, I⟩ := I
  have I0 := I
  obtain ⟨wv, wh, ds, xd, yd, de, dd, ph, ra, sh, lh, se, le, sd, ld, hs, ak, ao, ap, al, yo, yp, lo, lg, sr, as, rfl, rfl, hB, hD, hL, hH, hP, hA, hS⟩ := I
  have hT : T ≤ 4 := hB.2.1
  have hW : W ≤ 16 := hB.2.2.2.1
  unfold wpX_read wpY_read
  dsimp only
  rcases pk_ix v1 (n := T) (by omega) with z | z | ⟨t, ht, rfl⟩
  · exact xa_bt1 (Or.inl z) (br_f mw_10 (ya_bt1 (Or.inl z) (br_f mw_10 ⟨rfl, J⟩)))
  · exact xa_bt1 (Or.inr z) (br_f mw_10 (ya_bt1 (Or.inr z) (br_f mw_10 ⟨rfl, J⟩)))
  · rcases pk_ix v2 (n := W) (by omega) with z | z | ⟨a, ha, rfl⟩
    · exact xa_bt0 ht hT (br_t rfl (xa_ba1 (Or.inl z) (br_f mw_10 (ya_bt0 ht hT (br_t rfl (ya_bw1 (Or.inl z) (br_f mw_10 ⟨rfl, J⟩)))))))
    · exact xa_bt0 ht hT (br_t rfl (xa_ba1 (Or.inr z) (br_f mw_10 (ya_bt0 ht hT (br_t rfl (ya_bw1 (Or.inr z) (br_f mw_10 ⟨rfl, J⟩)))))))
    · have ht4 : t < 4 := by omega
      have c4 : (nI t).toNatClampNeg = t := nI_clamp (by omega)
      have v4 : vp_in (nI t) 4 := vp_in_nI ht4 (by decide)
      by_cases h5 : ph t = 5
      · have n9 : ph t ≠ 9 := by rw [h5]; decide
        refine xa_bt0 ht hT (br_t rfl (xa_ba0 ha hW (br_t rfl ⟨v4, br_t (by rw [c4]; exact h5) ⟨v4, nm_r (mw_uc (by omega)) ⟨v4, nm_r (mw_uc (by omega)) ?_⟩⟩⟩)))
        have R : i_Rel (k + 5) (nI T, nI W, nI S, wv, wh, ds, xd, de, dd, upd ph t 8, upd ra t (nI a), sh, se, sd, ak, ao, ap, al, lo, lg) (nI T, nI W, nI S, lN K, wv, yd, de, dd, mw_row lh (fun j => if j = t * 16 + a then 1 else 0) (t * 16) 16, le, ld, hs, upd ph t 8, lo, lg, sr, ak, yo, as, yp) :=
          ⟨T, W, S, K, by omega, mw_mk hB hD (mw_L_rd hW hL ha) (mw_H_ph hH n9) hP (mw_A_ph hA n9 (by decide)) hS⟩
        have q := yl_rd (post := fun r' v' => r' = 1 ∧ i_Rel (k + 5) (nI T, nI W, nI S, wv, wh, ds, xd, de, dd, upd ph t 8, upd ra t (nI a), sh, se, sd, ak, ao, ap, al, lo, lg) v') (T := T) (W := W) (S := S) (K := K) (wv := wv) (yd := yd) (de := de) (dd := dd) (lh := lh) (le := le) (ld := ld) (hs := hs) (ph := ph) (lo := lo) (lg := lg) (sr := sr) (ak := ak) (yo := yo) (as := as) (yp := yp) ht4 (by omega) ⟨rfl, R⟩ 16 0 (by decide)
        rw [mw_row_0] at q
        exact ya_bt0 ht hT (br_t rfl (ya_bw0 ha hW (br_t rfl ⟨v4, br_t (by rw [c4]; exact h5) ⟨17, q⟩⟩)))
      · refine xa_bt0 ht hT (br_t rfl (xa_ba0 ha hW (br_t rfl ⟨v4, br_f (by rw [c4]; exact h5) ?_⟩)))
        exact ya_bt0 ht hT (br_t rfl (ya_bw0 ha hW (br_t rfl ⟨v4, br_f (by rw [c4]; exact h5) ⟨rfl, J⟩⟩)))
theorem i_vc_run {k : Nat} {u : SX} {v : SY} (I : i_Rel k u v) (hk : k + 5 ≤ 2563) (v1 : Int32) (v2 : Int32) : wpX_run (fun r u' => wpY_run (fun r' v' => r' = r ∧ i_Rel (k + 5) u' v') v v1 v2) u v1 v2 := by
  have J := i_up I
  obtain ⟨T, W, S, K, hK, I⟩ := I
  have I0 := I
  obtain ⟨wv, wh, ds, xd, yd, de, dd, ph, ra, sh, lh, se, le, sd, ld, hs, ak, ao, ap, al, yo, yp, lo, lg, sr, as, rfl, rfl, hB, hD, hL, hH, hP, hA, hS⟩ := I
  have hT : T ≤ 4 := hB.2.1
  have hW : W ≤ 16 := hB.2.2.2.1
  unfold wpX_run wpY_run
  dsimp only
  rcases pk_ix v1 (n := T) (by omega) with z | z | ⟨t, ht, rfl⟩
  · exact xa_bt1 (Or.inl z) (br_f mw_10 (ya_bt1 (Or.inl z) (br_f mw_10 ⟨rfl, J⟩)))
  · exact xa_bt1 (Or.inr z) (br_f mw_10 (ya_bt1 (Or.inr z) (br_f mw_10 ⟨rfl, J⟩)))
  · have c4 : (nI t).toNatClampNeg = t := nI_clamp (by omega)
    have v4 : vp_in (nI t) 4 := vp_in_nI (by omega) (by decide)
    by_cases h5 : ph t = 5
    · refine xa_bt0 ht hT (br_t rfl ⟨v4, br_t (by rw [c4]; exact h5) ?_⟩)
      exact ya_bt0 ht hT (br_t rfl ⟨v4, br_t (by rw [c4]; exact h5) ⟨rfl, J⟩⟩)
    · obtain ⟨n, hn, cX, hx, hx2⟩ := xa_clamp0 v2 64 (by decide)
      obtain ⟨r, u', v', I', hX, hY⟩ := rn_run hT ht hn hx hx2 n 0 wv wh ds xd yd de dd ph ra sh lh se le sd ld hs ak ao ap al yo yp lo lg sr as (by omega) I0 h5
      refine xa_bt0 ht hT (br_t rfl ⟨v4, br_f (by rw [c4]; exact h5) (cX _ ⟨n + 1, hX _ ?_⟩)⟩)
      exact ya_bt0 ht hT (br_t rfl ⟨v4, br_f (by rw [c4]; exact h5) ⟨n + 1, hY _ ⟨rfl, ⟨T, W, S, K, by omega, I'⟩⟩⟩⟩)
theorem i_vc_weave {k : Nat} {u : SX} {v : SY} (I : i_Rel k u v) (hk : k + 5 ≤ 2563) (v1 : Int32) (v2 : Int32) : wpX_weave (fun r u' => wpY_weave (fun r' v' => r' = r ∧ i_Rel (k + 5) u' v') v v1 v2) u v1 v2 := by
  have J := i_up I
  obtain ⟨T, W, S, K, hK, I⟩ := I
  have I0 := I
  obtain ⟨wv, wh, ds, xd, yd, de, dd, ph, ra, sh, lh, se, le, sd, ld, hs, ak, ao, ap, al, yo, yp, lo, lg, sr, as, rfl, rfl, hB, hD, hL, hH, hP, hA, hS⟩ := I
  have hT : T ≤ 4 := hB.2.1
  have hW : W ≤ 16 := hB.2.2.2.1
  unfold wpX_weave wpY_weave
  dsimp only
  obtain ⟨n, hn, cX, hx, hx2⟩ := xa_clamp0 v2 16 (by decide)
  obtain ⟨r, u', v', I', hX, hY⟩ := rn_wea (y := v1) hT hn hx hx2 n 0 0 wv wh ds xd yd de dd ph ra sh lh se le sd ld hs ak ao ap al yo yp lo lg sr as (by omega) I0
  refine cX _ ⟨n + 1, hX _ ?_⟩
  exact ⟨n + 1, hY _ ⟨rfl, ⟨T, W, S, K, by omega, I'⟩⟩⟩
end
section
/-! 14: term -/
theorem i_vc_term {k : Nat} {u : SX} {v : SY} (I : i_Rel k u v) (hk : k + 5 ≤ 2563) (v1 : Int32) (v2 : Int32) (v3 : Int32) : wpX_term (fun r => wpY_term (fun r' => r' = r ∧ i_Rel (k + 5) u v) v v1 v2 v3) u v1 v2 v3 := by
  have J := i_up I
  obtain ⟨T, W, S, K, hK, I⟩ := I
  have I0 := I
  obtain ⟨wv, wh, ds, xd, yd, de, dd, ph, ra, sh, lh, se, le, sd, ld, hs, ak, ao, ap, al, yo, yp, lo, lg, sr, as, rfl, rfl, hB, hD, hL, hH, hP, hA, hS⟩ := I
  have hT : T ≤ 4 := hB.2.1
  have hW : W ≤ 16 := hB.2.2.2.1
  rcases pk_ix v1 (n := T) (by omega) with z | z | ⟨t, ht, rfl⟩
  · unfold wpX_term wpY_term
    dsimp only
    exact xa_bt1 (Or.inl z) (br_f mw_10 (ya_bt1 (Or.inl z) (br_f mw_10 ⟨rfl, J⟩)))
  · unfold wpX_term wpY_term
    dsimp only
    exact xa_bt1 (Or.inr z) (br_f mw_10 (ya_bt1 (Or.inr z) (br_f mw_10 ⟨rfl, J⟩)))
  · rcases pk_ix v2 (n := W) (by omega) with z | z | ⟨a, ha, rfl⟩
    · unfold wpX_term wpY_term
      dsimp only
      exact xa_bt0 ht hT (br_t rfl (xa_ba1 (Or.inl z) (br_f mw_10 (ya_bt0 ht hT (br_t rfl (ya_bw1 (Or.inl z) (br_f mw_10 ⟨rfl, J⟩)))))))
    · unfold wpX_term wpY_term
      dsimp only
      exact xa_bt0 ht hT (br_t rfl (xa_ba1 (Or.inr z) (br_f mw_10 (ya_bt0 ht hT (br_t rfl (ya_bw1 (Or.inr z) (br_f mw_10 ⟨rfl, J⟩)))))))
    · have hY : yd (t * 16 + a) = xd (t * 16 + a) := ((hD t ht).1 a ha).1
      by_cases hx : v3 = 3 ∨ v3 = 4 ∨ v3 = 5
      · have m0 : ¬ v3 = 0 := by rcases hx with e | e | e <;> rw [e] <;> decide
        have m1 : ¬ v3 = 1 := by rcases hx with e | e | e <;> rw [e] <;> decide
        have m2 : ¬ v3 = 2 := by rcases hx with e | e | e <;> rw [e] <;> decide
        rcases hL t ht with ⟨q, q2⟩ | ⟨q, r, hr, er, q3⟩ | q
        · have n5 : ¬ ph t = 5 := by rcases q with e | e | e <;> rw [e] <;> decide
          have n8 : ¬ ph t = 8 := by rcases q with e | e | e <;> rw [e] <;> decide
          obtain ⟨l1, l2, l3⟩ := q2 a ha
          by_cases z : sh (t * 16 + a) = 0
          · have z' : lh (t * 16 + a) = 0 := l1.trans z
            exact xt_li hT hW ht ha hx ⟨fun q => absurd q n8, fun _ => ⟨fun q => absurd q n5, fun _ => ⟨fun _ => yt_in hT hW ht ha m0 m1 m2 ⟨fun q => absurd q n5, fun _ => ⟨fun _ => ⟨rfl, J⟩, fun q => absurd z' q⟩⟩, fun q => absurd z q⟩⟩⟩
          · have z' : ¬ lh (t * 16 + a) = 0 := by rw [l1]; exact z
            rcases hx with rfl | rfl | rfl
            · exact xt_li hT hW ht ha (Or.inl rfl) ⟨fun q => absurd q n8, fun _ => ⟨fun q => absurd q n5, fun _ => ⟨fun q => absurd q z, fun _ => ⟨fun _ => yt_in hT hW ht ha m0 m1 m2 ⟨fun q => absurd q n5, fun _ => ⟨fun q => absurd q z', fun _ => ⟨fun _ => ⟨rfl, J⟩, fun q => absurd rfl q⟩⟩⟩, fun q => absurd rfl q⟩⟩⟩⟩
            · exact xt_li hT hW ht ha (Or.inr (Or.inl rfl)) ⟨fun q => absurd q n8, fun _ => ⟨fun q => absurd q n5, fun _ => ⟨fun q => absurd q z, fun _ => ⟨fun q => absurd q (by decide), fun _ => ⟨fun _ => yt_in hT hW ht ha m0 m1 m2 ⟨fun q => absurd q n5, fun _ => ⟨fun q => absurd q z', fun _ => ⟨fun q => absurd q (by decide), fun _ => ⟨fun q => absurd q n8, fun _ => ⟨fun _ => ⟨l2, J⟩, fun q => absurd rfl q⟩⟩⟩⟩⟩, fun q => absurd rfl q⟩⟩⟩⟩⟩
            · exact xt_li hT hW ht ha (Or.inr (Or.inr rfl)) ⟨fun q => absurd q n8, fun _ => ⟨fun q => absurd q n5, fun _ => ⟨fun q => absurd q z, fun _ => ⟨fun q => absurd q (by decide), fun _ => ⟨fun q => absurd q (by decide), fun _ => yt_in hT hW ht ha m0 m1 m2 ⟨fun q => absurd q n5, fun _ => ⟨fun q => absurd q z', fun _ => ⟨fun q => absurd q (by decide), fun _ => ⟨fun q => absurd q n8, fun _ => ⟨fun q => absurd q (by decide), fun _ => ⟨fun _ => ⟨l3, J⟩, fun q => absurd rfl q⟩⟩⟩⟩⟩⟩⟩⟩⟩⟩⟩
        · have n5 : ¬ ph t = 5 := by rw [q]; decide
          have l1 := q3 a ha
          by_cases e : a = r
          · subst e
            rw [if_pos rfl] at l1
            have z' : ¬ lh (t * 16 + a) = 0 := by rw [l1]; exact mw_10
            exact xt_li hT hW ht ha hx ⟨fun _ => ⟨fun e3 => ⟨fun _ => yt_in hT hW ht ha m0 m1 m2 ⟨fun q => absurd q n5, fun _ => ⟨fun q => absurd q z', fun _ => ⟨fun _ => ⟨rfl, J⟩, fun n3 => absurd e3 n3⟩⟩⟩, fun n => absurd er n⟩, fun n3 => yt_in hT hW ht ha m0 m1 m2 ⟨fun q => absurd q n5, fun _ => ⟨fun q => absurd q z', fun _ => ⟨fun e3 => absurd e3 n3, fun _ => ⟨fun _ => ⟨rfl, J⟩, fun n => absurd q n⟩⟩⟩⟩⟩, fun n => absurd q n⟩
          · rw [if_neg e] at l1
            have ne : ¬ ra t = nI a := by rw [er]; exact mw_ne (by omega) (by omega) (fun y => e y.symm)
            have Y0 := fun (P : Int32 → Prop) (hp : P 0) => yt_in (S := S) (K := K) (wv := wv) (yd := yd) (de := de) (dd := dd) (lh := lh) (le := le) (ld := ld) (hs := hs) (ph := ph) (lo := lo) (lg := lg) (sr := sr) (ak := ak) (yo := yo) (as := as) (yp := yp) (post := P) hT hW ht ha m0 m1 m2 ⟨fun q => absurd q n5, fun _ => ⟨fun _ => hp, fun n => absurd l1 n⟩⟩
            exact xt_li hT hW ht ha hx ⟨fun _ => ⟨fun _ => ⟨fun y => absurd y ne, fun _ => Y0 _ ⟨rfl, J⟩⟩, fun _ => Y0 _ ⟨rfl, J⟩⟩, fun n => absurd q n⟩
        · have n8 : ¬ ph t = 8 := by rw [q]; decide
          exact xt_li hT hW ht ha hx ⟨fun e => absurd e n8, fun _ => ⟨fun _ => yt_in hT hW ht ha m0 m1 m2 ⟨fun _ => ⟨rfl, J⟩, fun n => absurd q n⟩, fun n => absurd q n⟩⟩
      · have n3 : ¬ v3 = 3 := fun e => hx (Or.inl e)
        have n4 : ¬ v3 = 4 := fun e => hx (Or.inr (Or.inl e))
        have n5 : ¬ v3 = 5 := fun e => hx (Or.inr (Or.inr e))
        by_cases n0 : v3 = 0
        · subst n0
          by_cases z : xd (t * 16 + a) = 0
          · exact xt_dr hT hW ht ha n3 n4 n5 ⟨fun _ => yt_d0 hT hW ht ha (hY.trans z) (Or.inl rfl) ⟨rfl, J⟩, fun n => absurd z n⟩
          · exact xt_dr hT hW ht ha n3 n4 n5 ⟨fun e => absurd e z, fun _ => ⟨fun e => absurd e (by decide), fun _ => ⟨fun e => absurd e (by decide), fun _ => ⟨fun _ => yt_d1 hT hW ht ha (by rw [hY]; exact z) ⟨rfl, J⟩, fun n => absurd rfl n⟩⟩⟩⟩
        · by_cases n1 : v3 = 1
          · subst n1
            by_cases z : xd (t * 16 + a) = 0
            · exact xt_dr hT hW ht ha n3 n4 n5 ⟨fun _ => yt_d0 hT hW ht ha (hY.trans z) (Or.inr (Or.inl rfl)) ⟨rfl, J⟩, fun n => absurd z n⟩
            · exact xt_dr hT hW ht ha n3 n4 n5 ⟨fun e => absurd e z, fun _ => ⟨fun e => absurd e (by decide), fun _ => ⟨fun e => absurd e (by decide), fun _ => ⟨fun e => absurd e n0, fun _ => ⟨fun _ => yt_d2 hT hW ht ha (by rw [hY]; exact z) ⟨rfl, J⟩, fun n => absurd rfl n⟩⟩⟩⟩⟩
          · by_cases n2 : v3 = 2
            · subst n2
              by_cases z : xd (t * 16 + a) = 0
              · exact xt_dr hT hW ht ha n3 n4 n5 ⟨fun _ => yt_d0 hT hW ht ha (hY.trans z) (Or.inr (Or.inr rfl)) ⟨rfl, J⟩, fun n => absurd z n⟩
              · exact xt_dr hT hW ht ha n3 n4 n5 ⟨fun e => absurd e z, fun _ => ⟨fun e => absurd e (by decide), fun _ => ⟨fun e => absurd e (by decide), fun _ => ⟨fun e => absurd e n0, fun _ => ⟨fun e => absurd e n1, fun _ => ⟨fun _ => yt_d3 hT hW ht ha (by rw [hY]; exact z) ⟨rfl, J⟩, fun n => absurd rfl n⟩⟩⟩⟩⟩⟩
            · have Y0 := fun (P : Int32 → Prop) (hp : P 0) => yt_in (S := S) (K := K) (wv := wv) (yd := yd) (de := de) (dd := dd) (lh := lh) (le := le) (ld := ld) (hs := hs) (ph := ph) (lo := lo) (lg := lg) (sr := sr) (ak := ak) (yo := yo) (as := as) (yp := yp) (post := P) hT hW ht ha n0 n1 n2 ⟨fun _ => hp, fun _ => ⟨fun _ => hp, fun _ => ⟨fun e => absurd e n3, fun _ => ⟨fun _ => hp, fun _ => ⟨fun e => absurd e n4, fun _ => ⟨fun e => absurd e n5, fun _ => hp⟩⟩⟩⟩⟩⟩
              exact xt_dr hT hW ht ha n3 n4 n5 ⟨fun _ => Y0 _ ⟨rfl, J⟩, fun _ => ⟨fun _ => Y0 _ ⟨rfl, J⟩, fun _ => ⟨fun _ => Y0 _ ⟨rfl, J⟩, fun _ => ⟨fun e => absurd e n0, fun _ => ⟨fun e => absurd e n1, fun _ => ⟨fun e => absurd e n2, fun _ => trivial⟩⟩⟩⟩⟩⟩
end
