section
theorem pk_us {f : Nat → Int32} {k : Nat} {x : Int32} : upd f k x k = x := if_pos rfl
theorem pk_un {f : Nat → Int32} {k j : Nat} {x : Int32} (h : j ≠ k) : upd f k x j = f j := if_neg h
theorem pk_mul (a b : Nat) : nI a * nI b = nI (a * b) := (Int32.ofNat_mul a b).symm
theorem pk_ix (x : Int32) {n : Nat} (hn : n < 2 ^ 31) : x < 0 ∨ nI n ≤ x ∨ ∃ j : Nat, j < n ∧ x = nI j := by
  by_cases h : x < 0
  · exact Or.inl h
  · obtain ⟨j, hj, rfl⟩ := nI_of h
    by_cases h2 : j < n
    · exact Or.inr (Or.inr ⟨j, h2, rfl⟩)
    · exact Or.inr (Or.inl (nI_le (by omega) hj))
theorem pk_and (x : Int32) {m : Int32} (k : Nat) (hm : m.toBitVec.toNat = 2 ^ k - 1) : x &&& m = nI (x.toBitVec.toNat % 2 ^ k) := by
  apply Int32.toBitVec_inj.mp
  apply BitVec.eq_of_toNat_eq
  rw [Int32.toBitVec_and, BitVec.toNat_and, hm, Nat.and_two_pow_sub_one_eq_mod]
  show _ = (BitVec.ofNat 32 _).toNat
  rw [BitVec.toNat_ofNat]
  exact (Nat.mod_eq_of_lt (Nat.lt_of_le_of_lt (Nat.mod_le _ _) x.toBitVec.isLt)).symm
theorem sc_m24 (n : Nat) : nI n * 24 = nI (n * 24) := pk_mul n 24
theorem sc_m8 (n : Nat) : nI n * 8 = nI (n * 8) := pk_mul n 8
theorem sc_m16 (n : Nat) : nI n * 16 = nI (n * 16) := pk_mul n 16
theorem sc_10 : ¬ (1 : Int32) = 0 := by decide
theorem sc_20 : ¬ (2 : Int32) = 0 := by decide
theorem sc_30 : ¬ (3 : Int32) = 0 := by decide
theorem sc_40 : ¬ (4 : Int32) = 0 := by decide
theorem sc_a7 (x : Int32) : ∃ j : Nat, j < 8 ∧ x &&& 7 = nI j := ⟨_, Nat.mod_lt _ (by decide), pk_and x 3 (by decide)⟩
theorem sc_lt24 {n : Nat} (h : n < 24) : nI n < 24 := nI_lt (b := 24) h (by decide)
theorem sc_nlt24 {n : Nat} (h : 24 ≤ n) (hn : n ≤ 24) : ¬ nI n < 24 := nI_nlt (b := 24) h (by omega)
theorem sc_le15 {n : Nat} (h : n < 16) : nI n ≤ 15 := nI_le (b := 15) (by omega) (by decide)
theorem sc_n16 {n : Nat} (h : n < 16) : ¬ (16 : Int32) ≤ nI n := nI_ge (b := 16) h (by decide)
theorem sc_le7 {n : Nat} (h : n < 8) : nI n ≤ 7 := nI_le (b := 7) (by omega) (by decide)
theorem sc_n8 {n : Nat} (h : n < 8) : ¬ (8 : Int32) ≤ nI n := nI_ge (b := 8) h (by decide)
theorem sc_16n15 {x : Int32} (h : (16 : Int32) ≤ x) : ¬ x ≤ 15 := fun z => absurd (Int32.le_trans h z) (by decide)
theorem sc_8n7 {x : Int32} (h : (8 : Int32) ≤ x) : ¬ x ≤ 7 := fun z => absurd (Int32.le_trans h z) (by decide)
theorem sc_pn {x : Int32} {k : Nat} (h : nI k ≤ x) (hk : k < 2 ^ 31) : ¬ x < 0 := fun z => absurd (Int32.lt_of_le_of_lt h z) (nI_pos hk)
theorem sc_nl {x y : Int32} (h : x ≤ y) : ¬ y < x := Int32.not_lt.mpr h
/-- no more than four threads; each operation is 0 to 15; no code is longer than 24 -/
def sc_Inv (T : Nat) (co sz : Nat → Int32) : Prop := T ≤ 4 ∧ (∀ i, ∃ o : Nat, o < 16 ∧ co i = nI o) ∧ (∀ t, ∃ n : Nat, n ≤ 24 ∧ sz t = nI n)
theorem sc_i0 {T : Nat} (h : T ≤ 4) : sc_Inv T (fun _ => 0) (fun _ => 0) := ⟨h, fun _ => ⟨0, by omega, rfl⟩, fun _ => ⟨0, by omega, rfl⟩⟩
theorem sc_iO {T : Nat} {co sz : Nat → Int32} (J : sc_Inv T co sz) (k o : Nat) (ho : o < 16) : sc_Inv T (upd co k (nI o)) sz := by
  refine ⟨J.1, fun i => ?_, J.2.2⟩
  by_cases e : i = k
  · exact ⟨o, ho, by rw [e, pk_us]⟩
  · rw [pk_un e]; exact J.2.1 i
theorem sc_iS {T : Nat} {co sz : Nat → Int32} (J : sc_Inv T co sz) (k o : Nat) (ho : o ≤ 24) : sc_Inv T co (upd sz k (nI o)) := by
  refine ⟨J.1, J.2.1, fun i => ?_⟩
  by_cases e : i = k
  · exact ⟨o, ho, by rw [e, pk_us]⟩
  · rw [pk_un e]; exact J.2.2 i
/-- the two states hold the same arrays; the component's three further numbers are free -/
def i_Rel (_ : Nat) (u : SX) (v : SY) : Prop := ∃ (T : Nat) (wa wb wc : Int32) (co cr ci rg me sz pc st rc dg : Nat → Int32), u = (nI T, wa, wb, wc, co, cr, ci, rg, me, sz, pc, st, rc, dg) ∧ v = (nI T, co, cr, ci, sz, rg, me, pc, st, rc, dg) ∧ sc_Inv T co sz
theorem sc_rel {k T : Nat} {wa wb wc : Int32} {co cr ci rg me sz pc st rc dg : Nat → Int32} (J : sc_Inv T co sz) : i_Rel k (nI T, wa, wb, wc, co, cr, ci, rg, me, sz, pc, st, rc, dg) (nI T, co, cr, ci, sz, rg, me, pc, st, rc, dg) := ⟨T, wa, wb, wc, co, cr, ci, rg, me, sz, pc, st, rc, dg, rfl, rfl, J⟩
theorem sc_th {T : Nat} {co sz : Nat → Int32} (J : sc_Inv T co sz) (x : Int32) : (x < 0 ∨ nI T ≤ x) ∨ ∃ t : Nat, t < T ∧ t < 4 ∧ x = nI t := by
  have hT := J.1
  rcases pk_ix x (n := T) (by omega) with h | h | ⟨j, hj, e⟩
  · exact Or.inl (Or.inl h)
  · exact Or.inl (Or.inr h)
  · exact Or.inr ⟨j, hj, by omega, e⟩
section
variable {T t : Nat} {wa wb wc x : Int32} {co cr ci rg me sz pc st rc dg : Nat → Int32} {post : Int32 → Prop}
theorem sc_xT (ht : t < T) (h4 : T ≤ 4) (h : post 1) : wpX_isThread post (nI T, wa, wb, wc, co, cr, ci, rg, me, sz, pc, st, rc, dg) (nI t) := br_f (nI_pos (by omega)) (br_f (nI_ge ht (by omega)) h)
theorem sc_yT (ht : t < T) (h4 : T ≤ 4) (h : post 1) : wpY_good post (nI T, co, cr, ci, sz, rg, me, pc, st, rc, dg) (nI t) := br_f (nI_pos (by omega)) (br_f (nI_ge ht (by omega)) h)
theorem sc_xF (hb : x < 0 ∨ nI T ≤ x) (h : post 0) : wpX_isThread post (nI T, wa, wb, wc, co, cr, ci, rg, me, sz, pc, st, rc, dg) x := br_c (fun _ => h) (fun n => br_t (hb.resolve_left n) h)
theorem sc_yF (hb : x < 0 ∨ nI T ≤ x) (h : post 0) : wpY_good post (nI T, co, cr, ci, sz, rg, me, pc, st, rc, dg) x := br_c (fun _ => h) (fun n => br_t (hb.resolve_left n) h)
end
end
section
section
variable {T t p n ja jb jd q : Nat} {wa wb wc o a b im : Int32} {co cr ci rg me sz pc st rc dg : Nat → Int32} {post : Int32 → Prop} {postX : SX → Prop} {postY : SY → Prop}
/-- what is known of a thread whose counter is at an instruction -/
def sc_At (t p n ja jb jd : Nat) (o a b im : Int32) (co cr ci rg sz pc : Nat → Int32) : Prop :=
  t < 4 ∧ p < n ∧ n ≤ 24 ∧ ja < 8 ∧ jb < 8 ∧ jd < 8 ∧ pc t = nI p ∧ sz t = nI n ∧ co (t * 24 + p) = o ∧ (cr (t * 24 + p) >>> ((3 : Int32) &&& 31)) &&& 7 = nI ja ∧ (cr (t * 24 + p) >>> ((6 : Int32) &&& 31)) &&& 7 = nI jb ∧ cr (t * 24 + p) &&& 7 = nI jd ∧ rg (t * 8 + ja) = a ∧ rg (t * 8 + jb) = b ∧ ci (t * 24 + p) = im
theorem sc_o0 : (¬ (0 : Int32) = 1) ∧ (¬ (0 : Int32) = 2) ∧ (¬ (0 : Int32) = 3) ∧ (¬ (0 : Int32) = 4) ∧ (¬ (0 : Int32) = 5) ∧ (¬ (0 : Int32) = 6) ∧ (¬ (0 : Int32) = 7) ∧ (¬ (0 : Int32) = 8) ∧ (¬ (0 : Int32) = 9) ∧ (¬ (0 : Int32) = 10) ∧ (¬ (0 : Int32) = 11) ∧ (¬ (0 : Int32) = 12) ∧ (¬ (0 : Int32) = 13) ∧ (¬ (0 : Int32) = 14) ∧ (¬ (0 : Int32) = 15) ∧ (((0 : Int32) < 12)) ∧ (¬ (15 < (0 : Int32))) ∧ (((0 : Int32) < 1)) ∧ (¬ (14 < (0 : Int32))) ∧ (((0 : Int32) ≤ 10)) := ⟨by decide, by decide, by decide, by decide, by decide, by decide, by decide, by decide, by decide, by decide, by decide, by decide, by decide, by decide, by decide, by decide, by decide, by decide, by decide, by decide⟩
theorem sc_o1 : (¬ (1 : Int32) = 0) ∧ (¬ (1 : Int32) = 2) ∧ (¬ (1 : Int32) = 3) ∧ (¬ (1 : Int32) = 4) ∧ (¬ (1 : Int32) = 5) ∧ (¬ (1 : Int32) = 6) ∧ (¬ (1 : Int32) = 7) ∧ (¬ (1 : Int32) = 8) ∧ (¬ (1 : Int32) = 9) ∧ (¬ (1 : Int32) = 10) ∧ (¬ (1 : Int32) = 11) ∧ (¬ (1 : Int32) = 12) ∧ (¬ (1 : Int32) = 13) ∧ (¬ (1 : Int32) = 14) ∧ (¬ (1 : Int32) = 15) ∧ (((1 : Int32) < 12)) ∧ (¬ (15 < (1 : Int32))) ∧ (¬ ((1 : Int32) < 1)) ∧ (¬ (14 < (1 : Int32))) ∧ (((1 : Int32) ≤ 10)) := ⟨by decide, by decide, by decide, by decide, by decide, by decide, by decide, by decide, by decide, by decide, by decide, by decide, by decide, by decide, by decide, by decide, by decide, by decide, by decide, by decide⟩
theorem sc_o2 : (¬ (2 : Int32) = 0) ∧ (¬ (2 : Int32) = 1) ∧ (¬ (2 : Int32) = 3) ∧ (¬ (2 : Int32) = 4) ∧ (¬ (2 : Int32) = 5) ∧ (¬ (2 : Int32) = 6) ∧ (¬ (2 : Int32) = 7) ∧ (¬ (2 : Int32) = 8) ∧ (¬ (2 : Int32) = 9) ∧ (¬ (2 : Int32) = 10) ∧ (¬ (2 : Int32) = 11) ∧ (¬ (2 : Int32) = 12) ∧ (¬ (2 : Int32) = 13) ∧ (¬ (2 : Int32) = 14) ∧ (¬ (2 : Int32) = 15) ∧ (((2 : Int32) < 12)) ∧ (¬ (15 < (2 : Int32))) ∧ (¬ ((2 : Int32) < 1)) ∧ (¬ (14 < (2 : Int32))) ∧ (((2 : Int32) ≤ 10)) := ⟨by decide, by decide, by decide, by decide, by decide, by decide, by decide, by decide, by decide, by decide, by decide, by decide, by decide, by decide, by decide, by decide, by decide, by decide, by decide, by decide⟩
theorem sc_o3 : (¬ (3 : Int32) = 0) ∧ (¬ (3 : Int32) = 1) ∧ (¬ (3 : Int32) = 2) ∧ (¬ (3 : Int32) = 4) ∧ (¬ (3 : Int32) = 5) ∧ (¬ (3 : Int32) = 6) ∧ (¬ (3 : Int32) = 7) ∧ (¬ (3 : Int32) = 8) ∧ (¬ (3 : Int32) = 9) ∧ (¬ (3 : Int32) = 10) ∧ (¬ (3 : Int32) = 11) ∧ (¬ (3 : Int32) = 12) ∧ (¬ (3 : Int32) = 13) ∧ (¬ (3 : Int32) = 14) ∧ (¬ (3 : Int32) = 15) ∧ (((3 : Int32) < 12)) ∧ (¬ (15 < (3 : Int32))) ∧ (¬ ((3 : Int32) < 1)) ∧ (¬ (14 < (3 : Int32))) ∧ (((3 : Int32) ≤ 10)) := ⟨by decide, by decide, by decide, by decide, by decide, by decide, by decide, by decide, by decide, by decide, by decide, by decide, by decide, by decide, by decide, by decide, by decide, by decide, by decide, by decide⟩
theorem sc_o4 : (¬ (4 : Int32) = 0) ∧ (¬ (4 : Int32) = 1) ∧ (¬ (4 : Int32) = 2) ∧ (¬ (4 : Int32) = 3) ∧ (¬ (4 : Int32) = 5) ∧ (¬ (4 : Int32) = 6) ∧ (¬ (4 : Int32) = 7) ∧ (¬ (4 : Int32) = 8) ∧ (¬ (4 : Int32) = 9) ∧ (¬ (4 : Int32) = 10) ∧ (¬ (4 : Int32) = 11) ∧ (¬ (4 : Int32) = 12) ∧ (¬ (4 : Int32) = 13) ∧ (¬ (4 : Int32) = 14) ∧ (¬ (4 : Int32) = 15) ∧ (((4 : Int32) < 12)) ∧ (¬ (15 < (4 : Int32))) ∧ (¬ ((4 : Int32) < 1)) ∧ (¬ (14 < (4 : Int32))) ∧ (((4 : Int32) ≤ 10)) := ⟨by decide, by decide, by decide, by decide, by decide, by decide, by decide, by decide, by decide, by decide, by decide, by decide, by decide, by decide, by decide, by decide, by decide, by decide, by decide, by decide⟩
theorem sc_o5 : (¬ (5 : Int32) = 0) ∧ (¬ (5 : Int32) = 1) ∧ (¬ (5 : Int32) = 2) ∧ (¬ (5 : Int32) = 3) ∧ (¬ (5 : Int32) = 4) ∧ (¬ (5 : Int32) = 6) ∧ (¬ (5 : Int32) = 7) ∧ (¬ (5 : Int32) = 8) ∧ (¬ (5 : Int32) = 9) ∧ (¬ (5 : Int32) = 10) ∧ (¬ (5 : Int32) = 11) ∧ (¬ (5 : Int32) = 12) ∧ (¬ (5 : Int32) = 13) ∧ (¬ (5 : Int32) = 14) ∧ (¬ (5 : Int32) = 15) ∧ (((5 : Int32) < 12)) ∧ (¬ (15 < (5 : Int32))) ∧ (¬ ((5 : Int32) < 1)) ∧ (¬ (14 < (5 : Int32))) ∧ (((5 : Int32) ≤ 10)) := ⟨by decide, by decide, by decide, by decide, by decide, by decide, by decide, by decide, by decide, by decide, by decide, by decide, by decide, by decide, by decide, by decide, by decide, by decide, by decide, by decide⟩
theorem sc_o6 : (¬ (6 : Int32) = 0) ∧ (¬ (6 : Int32) = 1) ∧ (¬ (6 : Int32) = 2) ∧ (¬ (6 : Int32) = 3) ∧ (¬ (6 : Int32) = 4) ∧ (¬ (6 : Int32) = 5) ∧ (¬ (6 : Int32) = 7) ∧ (¬ (6 : Int32) = 8) ∧ (¬ (6 : Int32) = 9) ∧ (¬ (6 : Int32) = 10) ∧ (¬ (6 : Int32) = 11) ∧ (¬ (6 : Int32) = 12) ∧ (¬ (6 : Int32) = 13) ∧ (¬ (6 : Int32) = 14) ∧ (¬ (6 : Int32) = 15) ∧ (((6 : Int32) < 12)) ∧ (¬ (15 < (6 : Int32))) ∧ (¬ ((6 : Int32) < 1)) ∧ (¬ (14 < (6 : Int32))) ∧ (((6 : Int32) ≤ 10)) := ⟨by decide, by decide, by decide, by decide, by decide, by decide, by decide, by decide, by decide, by decide, by decide, by decide, by decide, by decide, by decide, by decide, by decide, by decide, by decide, by decide⟩
theorem sc_o7 : (¬ (7 : Int32) = 0) ∧ (¬ (7 : Int32) = 1) ∧ (¬ (7 : Int32) = 2) ∧ (¬ (7 : Int32) = 3) ∧ (¬ (7 : Int32) = 4) ∧ (¬ (7 : Int32) = 5) ∧ (¬ (7 : Int32) = 6) ∧ (¬ (7 : Int32) = 8) ∧ (¬ (7 : Int32) = 9) ∧ (¬ (7 : Int32) = 10) ∧ (¬ (7 : Int32) = 11) ∧ (¬ (7 : Int32) = 12) ∧ (¬ (7 : Int32) = 13) ∧ (¬ (7 : Int32) = 14) ∧ (¬ (7 : Int32) = 15) ∧ (((7 : Int32) < 12)) ∧ (¬ (15 < (7 : Int32))) ∧ (¬ ((7 : Int32) < 1)) ∧ (¬ (14 < (7 : Int32))) ∧ (((7 : Int32) ≤ 10)) := ⟨by decide, by decide, by decide, by decide, by decide, by decide, by decide, by decide, by decide, by decide, by decide, by decide, by decide, by decide, by decide, by decide, by decide, by decide, by decide, by decide⟩
theorem sc_o8 : (¬ (8 : Int32) = 0) ∧ (¬ (8 : Int32) = 1) ∧ (¬ (8 : Int32) = 2) ∧ (¬ (8 : Int32) = 3) ∧ (¬ (8 : Int32) = 4) ∧ (¬ (8 : Int32) = 5) ∧ (¬ (8 : Int32) = 6) ∧ (¬ (8 : Int32) = 7) ∧ (¬ (8 : Int32) = 9) ∧ (¬ (8 : Int32) = 10) ∧ (¬ (8 : Int32) = 11) ∧ (¬ (8 : Int32) = 12) ∧ (¬ (8 : Int32) = 13) ∧ (¬ (8 : Int32) = 14) ∧ (¬ (8 : Int32) = 15) ∧ (((8 : Int32) < 12)) ∧ (¬ (15 < (8 : Int32))) ∧ (¬ ((8 : Int32) < 1)) ∧ (¬ (14 < (8 : Int32))) ∧ (((8 : Int32) ≤ 10)) := ⟨by decide, by decide, by decide, by decide, by decide, by decide, by decide, by decide, by decide, by decide, by decide, by decide, by decide, by decide, by decide, by decide, by decide, by decide, by decide, by decide⟩
theorem sc_o9 : (¬ (9 : Int32) = 0) ∧ (¬ (9 : Int32) = 1) ∧ (¬ (9 : Int32) = 2) ∧ (¬ (9 : Int32) = 3) ∧ (¬ (9 : Int32) = 4) ∧ (¬ (9 : Int32) = 5) ∧ (¬ (9 : Int32) = 6) ∧ (¬ (9 : Int32) = 7) ∧ (¬ (9 : Int32) = 8) ∧ (¬ (9 : Int32) = 10) ∧ (¬ (9 : Int32) = 11) ∧ (¬ (9 : Int32) = 12) ∧ (¬ (9 : Int32) = 13) ∧ (¬ (9 : Int32) = 14) ∧ (¬ (9 : Int32) = 15) ∧ (((9 : Int32) < 12)) ∧ (¬ (15 < (9 : Int32))) ∧ (¬ ((9 : Int32) < 1)) ∧ (¬ (14 < (9 : Int32))) ∧ (((9 : Int32) ≤ 10)) := ⟨by decide, by decide, by decide, by decide, by decide, by decide, by decide, by decide, by decide, by decide, by decide, by decide, by decide, by decide, by decide, by decide, by decide, by decide, by decide, by decide⟩
theorem sc_o10 : (¬ (10 : Int32) = 0) ∧ (¬ (10 : Int32) = 1) ∧ (¬ (10 : Int32) = 2) ∧ (¬ (10 : Int32) = 3) ∧ (¬ (10 : Int32) = 4) ∧ (¬ (10 : Int32) = 5) ∧ (¬ (10 : Int32) = 6) ∧ (¬ (10 : Int32) = 7) ∧ (¬ (10 : Int32) = 8) ∧ (¬ (10 : Int32) = 9) ∧ (¬ (10 : Int32) = 11) ∧ (¬ (10 : Int32) = 12) ∧ (¬ (10 : Int32) = 13) ∧ (¬ (10 : Int32) = 14) ∧ (¬ (10 : Int32) = 15) ∧ (((10 : Int32) < 12)) ∧ (¬ (15 < (10 : Int32))) ∧ (¬ ((10 : Int32) < 1)) ∧ (¬ (14 < (10 : Int32))) ∧ (((10 : Int32) ≤ 10)) := ⟨by decide, by decide, by decide, by decide, by decide, by decide, by decide, by decide, by decide, by decide, by decide, by decide, by decide, by decide, by decide, by decide, by decide, by decide, by decide, by decide⟩
theorem sc_o11 : (¬ (11 : Int32) = 0) ∧ (¬ (11 : Int32) = 1) ∧ (¬ (11 : Int32) = 2) ∧ (¬ (11 : Int32) = 3) ∧ (¬ (11 : Int32) = 4) ∧ (¬ (11 : Int32) = 5) ∧ (¬ (11 : Int32) = 6) ∧ (¬ (11 : Int32) = 7) ∧ (¬ (11 : Int32) = 8) ∧ (¬ (11 : Int32) = 9) ∧ (¬ (11 : Int32) = 10) ∧ (¬ (11 : Int32) = 12) ∧ (¬ (11 : Int32) = 13) ∧ (¬ (11 : Int32) = 14) ∧ (¬ (11 : Int32) = 15) ∧ (((11 : Int32) < 12)) ∧ (¬ (15 < (11 : Int32))) ∧ (¬ ((11 : Int32) < 1)) ∧ (¬ (14 < (11 : Int32))) ∧ (¬ ((11 : Int32) ≤ 10)) := ⟨by decide, by decide, by decide, by decide, by decide, by decide, by decide, by decide, by decide, by decide, by decide, by decide, by decide, by decide, by decide, by decide, by decide, by decide, by decide, by decide⟩
theorem sc_o12 : (¬ (12 : Int32) = 0) ∧ (¬ (12 : Int32) = 1) ∧ (¬ (12 : Int32) = 2) ∧ (¬ (12 : Int32) = 3) ∧ (¬ (12 : Int32) = 4) ∧ (¬ (12 : Int32) = 5) ∧ (¬ (12 : Int32) = 6) ∧ (¬ (12 : Int32) = 7) ∧ (¬ (12 : Int32) = 8) ∧ (¬ (12 : Int32) = 9) ∧ (¬ (12 : Int32) = 10) ∧ (¬ (12 : Int32) = 11) ∧ (¬ (12 : Int32) = 13) ∧ (¬ (12 : Int32) = 14) ∧ (¬ (12 : Int32) = 15) ∧ (¬ ((12 : Int32) < 12)) ∧ (¬ (15 < (12 : Int32))) ∧ (¬ ((12 : Int32) < 1)) ∧ (¬ (14 < (12 : Int32))) ∧ (¬ ((12 : Int32) ≤ 10)) := ⟨by decide, by decide, by decide, by decide, by decide, by decide, by decide, by decide, by decide, by decide, by decide, by decide, by decide, by decide, by decide, by decide, by decide, by decide, by decide, by decide⟩
theorem sc_o13 : (¬ (13 : Int32) = 0) ∧ (¬ (13 : Int32) = 1) ∧ (¬ (13 : Int32) = 2) ∧ (¬ (13 : Int32) = 3) ∧ (¬ (13 : Int32) = 4) ∧ (¬ (13 : Int32) = 5) ∧ (¬ (13 : Int32) = 6) ∧ (¬ (13 : Int32) = 7) ∧ (¬ (13 : Int32) = 8) ∧ (¬ (13 : Int32) = 9) ∧ (¬ (13 : Int32) = 10) ∧ (¬ (13 : Int32) = 11) ∧ (¬ (13 : Int32) = 12) ∧ (¬ (13 : Int32) = 14) ∧ (¬ (13 : Int32) = 15) ∧ (¬ ((13 : Int32) < 12)) ∧ (¬ (15 < (13 : Int32))) ∧ (¬ ((13 : Int32) < 1)) ∧ (¬ (14 < (13 : Int32))) ∧ (¬ ((13 : Int32) ≤ 10)) := ⟨by decide, by decide, by decide, by decide, by decide, by decide, by decide, by decide, by decide, by decide, by decide, by decide, by decide, by decide, by decide, by decide, by decide, by decide, by decide, by decide⟩
theorem sc_o14 : (¬ (14 : Int32) = 0) ∧ (¬ (14 : Int32) = 1) ∧ (¬ (14 : Int32) = 2) ∧ (¬ (14 : Int32) = 3) ∧ (¬ (14 : Int32) = 4) ∧ (¬ (14 : Int32) = 5) ∧ (¬ (14 : Int32) = 6) ∧ (¬ (14 : Int32) = 7) ∧ (¬ (14 : Int32) = 8) ∧ (¬ (14 : Int32) = 9) ∧ (¬ (14 : Int32) = 10) ∧ (¬ (14 : Int32) = 11) ∧ (¬ (14 : Int32) = 12) ∧ (¬ (14 : Int32) = 13) ∧ (¬ (14 : Int32) = 15) ∧ (¬ ((14 : Int32) < 12)) ∧ (¬ (15 < (14 : Int32))) ∧ (¬ ((14 : Int32) < 1)) ∧ (¬ (14 < (14 : Int32))) ∧ (¬ ((14 : Int32) ≤ 10)) := ⟨by decide, by decide, by decide, by decide, by decide, by decide, by decide, by decide, by decide, by decide, by decide, by decide, by decide, by decide, by decide, by decide, by decide, by decide, by decide, by decide⟩
theorem sc_o15 : (¬ (15 : Int32) = 0) ∧ (¬ (15 : Int32) = 1) ∧ (¬ (15 : Int32) = 2) ∧ (¬ (15 : Int32) = 3) ∧ (¬ (15 : Int32) = 4) ∧ (¬ (15 : Int32) = 5) ∧ (¬ (15 : Int32) = 6) ∧ (¬ (15 : Int32) = 7) ∧ (¬ (15 : Int32) = 8) ∧ (¬ (15 : Int32) = 9) ∧ (¬ (15 : Int32) = 10) ∧ (¬ (15 : Int32) = 11) ∧ (¬ (15 : Int32) = 12) ∧ (¬ (15 : Int32) = 13) ∧ (¬ (15 : Int32) = 14) ∧ (¬ ((15 : Int32) < 12)) ∧ (¬ (15 < (15 : Int32))) ∧ (¬ ((15 : Int32) < 1)) ∧ ((14 < (15 : Int32))) ∧ (¬ ((15 : Int32) ≤ 10)) := ⟨by decide, by decide, by decide, by decide, by decide, by decide, by decide, by decide, by decide, by decide, by decide, by decide, by decide, by decide, by decide, by decide, by decide, by decide, by decide, by decide⟩
theorem sc_fa (h : sc_At t p n ja jb jd o a b im co cr ci rg sz pc) : vp_in (nI t) 4 ∧ (nI t).toNatClampNeg = t ∧ vp_in (nI (t * 24 + p)) 96 ∧ (nI (t * 24 + p)).toNatClampNeg = t * 24 + p ∧ vp_in (nI (t * 8 + ja)) 32 ∧ (nI (t * 8 + ja)).toNatClampNeg = t * 8 + ja ∧ vp_in (nI (t * 8 + jb)) 32 ∧ (nI (t * 8 + jb)).toNatClampNeg = t * 8 + jb ∧ vp_in (nI (t * 8 + jd)) 32 ∧ (nI (t * 8 + jd)).toNatClampNeg = t * 8 + jd ∧ ¬ nI p < 0 ∧ ¬ nI n ≤ nI p ∧ nI p < nI n ∧ pc t = nI p ∧ sz t = nI n ∧ co (t * 24 + p) = o ∧ (cr (t * 24 + p) >>> ((3 : Int32) &&& 31)) &&& 7 = nI ja ∧ (cr (t * 24 + p) >>> ((6 : Int32) &&& 31)) &&& 7 = nI jb ∧ cr (t * 24 + p) &&& 7 = nI jd ∧ rg (t * 8 + ja) = a ∧ rg (t * 8 + jb) = b ∧ ci (t * 24 + p) = im := by
  obtain ⟨ht, hpn, hn, hja, hjb, hjd, e⟩ := h
  exact ⟨vp_in_nI ht (by decide), nI_clamp (by omega), vp_in_nI (by omega) (by decide), nI_clamp (by omega), vp_in_nI (by omega) (by decide), nI_clamp (by omega), vp_in_nI (by omega) (by decide), nI_clamp (by omega), vp_in_nI (by omega) (by decide), nI_clamp (by omega), nI_pos (by omega), nI_ge hpn (by omega), nI_lt hpn (by omega), e⟩
theorem sc_fq (h : sc_At t p n ja jb jd o a b im co cr ci rg sz pc) (hq : q < 16) : vp_in (nI (t * 16 + q)) 64 ∧ (nI (t * 16 + q)).toNatClampNeg = t * 16 + q ∧ ¬ nI q < 0 ∧ ¬ (16 : Int32) ≤ nI q ∧ nI q ≤ 15 := by
  have ht := h.1
  exact ⟨vp_in_nI (by omega) (by decide), nI_clamp (by omega), nI_pos (by omega), sc_n16 hq, sc_le15 hq⟩
theorem sc_p0 (h : sc_At t p n ja jb jd 0 a b im co cr ci rg sz pc) (k : post 1) : wpX_stopAtCounter post (nI T, wa, wb, wc, co, cr, ci, rg, me, sz, pc, st, rc, dg) (nI t) := by
  have f := sc_fa h
  simp only [wpX_stopAtCounter, wpX_isInstruction, wpX_readA, wpX_readB, wX_stopAtCounter_57, wX_stopAtCounter_71, wpX_isCell, sc_o0, f, forall_eq, nI_add, sc_m24, sc_m8, sc_m16, sc_10, true_implies, forall_const, not_true_eq_false, not_false_eq_true, false_implies, and_true, true_and, implies_true, and_self]
  exact k
theorem sc_x0 (h : sc_At t p n ja jb jd 0 a b im co cr ci rg sz pc) (k : postX (nI T, wa, wb, wc, co, cr, ci, rg, me, sz, pc, upd st t 1, rc, dg)) : wpX_step postX (nI T, wa, wb, wc, co, cr, ci, rg, me, sz, pc, st, rc, dg) (nI t) := by
  unfold wpX_step
  dsimp only
  refine sc_p0 h  (br_f (by decide) ⟨vp_in_nI h.1 (by decide), nm_e ?_⟩)
  rw [nI_clamp (Nat.lt_trans h.1 (by decide))]
  exact k
theorem sc_y0 (h : sc_At t p n ja jb jd 0 a b im co cr ci rg sz pc) (k : postY (nI T, co, cr, ci, sz, rg, me, pc, upd st t 1, rc, dg)) : wpY_step postY (nI T, co, cr, ci, sz, rg, me, pc, st, rc, dg) (nI t) := by
  have f := sc_fa h
  simp only [wpY_step, wY_step_150, wY_step_162, wY_step_182, wY_step_204, wY_step_221, wY_step_231, wY_step_241, wY_step_274, wY_step_286, wY_step_309, wY_step_339, wpY_written, sc_o0, f, forall_eq, nI_add, sc_m24, sc_m8, sc_m16, sc_10, true_implies, forall_const, not_true_eq_false, not_false_eq_true, false_implies, and_true, true_and, implies_true, and_self]
  exact k
theorem sc_p5z (h : sc_At t p n ja jb jd 5 a b im co cr ci rg sz pc) (z : b = 0) (k : post 2) : wpX_stopAtCounter post (nI T, wa, wb, wc, co, cr, ci, rg, me, sz, pc, st, rc, dg) (nI t) := by
  have f := sc_fa h
  simp only [wpX_stopAtCounter, wpX_isInstruction, wpX_readA, wpX_readB, wX_stopAtCounter_57, wX_stopAtCounter_71, wpX_isCell, sc_o5, f, forall_eq, nI_add, sc_m24, sc_m8, sc_m16, sc_10, true_implies, forall_const, not_true_eq_false, not_false_eq_true, false_implies, and_true, true_and, implies_true, and_self, z]
  exact k
theorem sc_x5z (h : sc_At t p n ja jb jd 5 a b im co cr ci rg sz pc) (z : b = 0) (k : postX (nI T, wa, wb, wc, co, cr, ci, rg, me, sz, pc, upd st t 2, rc, dg)) : wpX_step postX (nI T, wa, wb, wc, co, cr, ci, rg, me, sz, pc, st, rc, dg) (nI t) := by
  unfold wpX_step
  dsimp only
  refine sc_p5z h z (br_f (by decide) ⟨vp_in_nI h.1 (by decide), nm_e ?_⟩)
  rw [nI_clamp (Nat.lt_trans h.1 (by decide))]
  exact k
theorem sc_y5z (h : sc_At t p n ja jb jd 5 a b im co cr ci rg sz pc) (z : b = 0) (k : postY (nI T, co, cr, ci, sz, rg, me, pc, upd st t 2, rc, dg)) : wpY_step postY (nI T, co, cr, ci, sz, rg, me, pc, st, rc, dg) (nI t) := by
  have f := sc_fa h
  simp only [wpY_step, wY_step_150, wY_step_162, wY_step_182, wY_step_204, wY_step_221, wY_step_231, wY_step_241, wY_step_274, wY_step_286, wY_step_309, wY_step_339, wpY_written, sc_o5, f, forall_eq, nI_add, sc_m24, sc_m8, sc_m16, sc_10, true_implies, forall_const, not_true_eq_false, not_false_eq_true, false_implies, and_true, true_and, implies_true, and_self, z]
  exact k
theorem sc_p10n (h : sc_At t p n ja jb jd 10 a b im co cr ci rg sz pc) (z : a + im < 0) (k : post 3) : wpX_stopAtCounter post (nI T, wa, wb, wc, co, cr, ci, rg, me, sz, pc, st, rc, dg) (nI t) := by
  have f := sc_fa h
  simp only [wpX_stopAtCounter, wpX_isInstruction, wpX_readA, wpX_readB, wX_stopAtCounter_57, wX_stopAtCounter_71, wpX_isCell, sc_o10, f, forall_eq, nI_add, sc_m24, sc_m8, sc_m16, sc_10, true_implies, forall_const, not_true_eq_false, not_false_eq_true, false_implies, and_true, true_and, implies_true, and_self, z]
  exact k
theorem sc_x10n (h : sc_At t p n ja jb jd 10 a b im co cr ci rg sz pc) (z : a + im < 0) (k : postX (nI T, wa, wb, wc, co, cr, ci, rg, me, sz, pc, upd st t 3, rc, dg)) : wpX_step postX (nI T, wa, wb, wc, co, cr, ci, rg, me, sz, pc, st, rc, dg) (nI t) := by
  unfold wpX_step
  dsimp only
  refine sc_p10n h z (br_f (by decide) ⟨vp_in_nI h.1 (by decide), nm_e ?_⟩)
  rw [nI_clamp (Nat.lt_trans h.1 (by decide))]
  exact k
theorem sc_y10n (h : sc_At t p n ja jb jd 10 a b im co cr ci rg sz pc) (z : a + im < 0) (k : postY (nI T, co, cr, ci, sz, rg, me, pc, upd st t 3, rc, dg)) : wpY_step postY (nI T, co, cr, ci, sz, rg, me, pc, st, rc, dg) (nI t) := by
  have f := sc_fa h
  simp only [wpY_step, wY_step_150, wY_step_162, wY_step_182, wY_step_204, wY_step_221, wY_step_231, wY_step_241, wY_step_274, wY_step_286, wY_step_309, wY_step_339, wpY_written, sc_o10, f, forall_eq, nI_add, sc_m24, sc_m8, sc_m16, sc_10, true_implies, forall_const, not_true_eq_false, not_false_eq_true, false_implies, and_true, true_and, implies_true, and_self, z]
  exact k
theorem sc_p10m (h : sc_At t p n ja jb jd 10 a b im co cr ci rg sz pc) (z1 : ¬ a + im < 0) (z2 : (16 : Int32) ≤ a + im) (z3 : ¬ a + im ≤ 15) (k : post 3) : wpX_stopAtCounter post (nI T, wa, wb, wc, co, cr, ci, rg, me, sz, pc, st, rc, dg) (nI t) := by
  have f := sc_fa h
  simp only [wpX_stopAtCounter, wpX_isInstruction, wpX_readA, wpX_readB, wX_stopAtCounter_57, wX_stopAtCounter_71, wpX_isCell, sc_o10, f, forall_eq, nI_add, sc_m24, sc_m8, sc_m16, sc_10, true_implies, forall_const, not_true_eq_false, not_false_eq_true, false_implies, and_true, true_and, implies_true, and_self, z1, z2, z3]
  exact k
theorem sc_x10m (h : sc_At t p n ja jb jd 10 a b im co cr ci rg sz pc) (z1 : ¬ a + im < 0) (z2 : (16 : Int32) ≤ a + im) (z3 : ¬ a + im ≤ 15) (k : postX (nI T, wa, wb, wc, co, cr, ci, rg, me, sz, pc, upd st t 3, rc, dg)) : wpX_step postX (nI T, wa, wb, wc, co, cr, ci, rg, me, sz, pc, st, rc, dg) (nI t) := by
  unfold wpX_step
  dsimp only
  refine sc_p10m h z1 z2 z3 (br_f (by decide) ⟨vp_in_nI h.1 (by decide), nm_e ?_⟩)
  rw [nI_clamp (Nat.lt_trans h.1 (by decide))]
  exact k
theorem sc_y10m (h : sc_At t p n ja jb jd 10 a b im co cr ci rg sz pc) (z1 : ¬ a + im < 0) (z2 : (16 : Int32) ≤ a + im) (z3 : ¬ a + im ≤ 15) (k : postY (nI T, co, cr, ci, sz, rg, me, pc, upd st t 3, rc, dg)) : wpY_step postY (nI T, co, cr, ci, sz, rg, me, pc, st, rc, dg) (nI t) := by
  have f := sc_fa h
  simp only [wpY_step, wY_step_150, wY_step_162, wY_step_182, wY_step_204, wY_step_221, wY_step_231, wY_step_241, wY_step_274, wY_step_286, wY_step_309, wY_step_339, wpY_written, sc_o10, f, forall_eq, nI_add, sc_m24, sc_m8, sc_m16, sc_10, true_implies, forall_const, not_true_eq_false, not_false_eq_true, false_implies, and_true, true_and, implies_true, and_self, z1, z2, z3]
  exact k
theorem sc_p11n (h : sc_At t p n ja jb jd 11 a b im co cr ci rg sz pc) (z : a + im < 0) (k : post 3) : wpX_stopAtCounter post (nI T, wa, wb, wc, co, cr, ci, rg, me, sz, pc, st, rc, dg) (nI t) := by
  have f := sc_fa h
  simp only [wpX_stopAtCounter, wpX_isInstruction, wpX_readA, wpX_readB, wX_stopAtCounter_57, wX_stopAtCounter_71, wpX_isCell, sc_o11, f, forall_eq, nI_add, sc_m24, sc_m8, sc_m16, sc_10, true_implies, forall_const, not_true_eq_false, not_false_eq_true, false_implies, and_true, true_and, implies_true, and_self, z]
  exact k
theorem sc_x11n (h : sc_At t p n ja jb jd 11 a b im co cr ci rg sz pc) (z : a + im < 0) (k : postX (nI T, wa, wb, wc, co, cr, ci, rg, me, sz, pc, upd st t 3, rc, dg)) : wpX_step postX (nI T, wa, wb, wc, co, cr, ci, rg, me, sz, pc, st, rc, dg) (nI t) := by
  unfold wpX_step
  dsimp only
  refine sc_p11n h z (br_f (by decide) ⟨vp_in_nI h.1 (by decide), nm_e ?_⟩)
  rw [nI_clamp (Nat.lt_trans h.1 (by decide))]
  exact k
theorem sc_y11n (h : sc_At t p n ja jb jd 11 a b im co cr ci rg sz pc) (z : a + im < 0) (k : postY (nI T, co, cr, ci, sz, rg, me, pc, upd st t 3, rc, dg)) : wpY_step postY (nI T, co, cr, ci, sz, rg, me, pc, st, rc, dg) (nI t) := by
  have f := sc_fa h
  simp only [wpY_step, wY_step_150, wY_step_162, wY_step_182, wY_step_204, wY_step_221, wY_step_231, wY_step_241, wY_step_274, wY_step_286, wY_step_309, wY_step_339, wpY_written, sc_o11, f, forall_eq, nI_add, sc_m24, sc_m8, sc_m16, sc_10, true_implies, forall_const, not_true_eq_false, not_false_eq_true, false_implies, and_true, true_and, implies_true, and_self, z]
  exact k
theorem sc_p11m (h : sc_At t p n ja jb jd 11 a b im co cr ci rg sz pc) (z1 : ¬ a + im < 0) (z2 : (16 : Int32) ≤ a + im) (z3 : ¬ a + im ≤ 15) (k : post 3) : wpX_stopAtCounter post (nI T, wa, wb, wc, co, cr, ci, rg, me, sz, pc, st, rc, dg) (nI t) := by
  have f := sc_fa h
  simp only [wpX_stopAtCounter, wpX_isInstruction, wpX_readA, wpX_readB, wX_stopAtCounter_57, wX_stopAtCounter_71, wpX_isCell, sc_o11, f, forall_eq, nI_add, sc_m24, sc_m8, sc_m16, sc_10, true_implies, forall_const, not_true_eq_false, not_false_eq_true, false_implies, and_true, true_and, implies_true, and_self, z1, z2, z3]
  exact k
theorem sc_x11m (h : sc_At t p n ja jb jd 11 a b im co cr ci rg sz pc) (z1 : ¬ a + im < 0) (z2 : (16 : Int32) ≤ a + im) (z3 : ¬ a + im ≤ 15) (k : postX (nI T, wa, wb, wc, co, cr, ci, rg, me, sz, pc, upd st t 3, rc, dg)) : wpX_step postX (nI T, wa, wb, wc, co, cr, ci, rg, me, sz, pc, st, rc, dg) (nI t) := by
  unfold wpX_step
  dsimp only
  refine sc_p11m h z1 z2 z3 (br_f (by decide) ⟨vp_in_nI h.1 (by decide), nm_e ?_⟩)
  rw [nI_clamp (Nat.lt_trans h.1 (by decide))]
  exact k
theorem sc_y11m (h : sc_At t p n ja jb jd 11 a b im co cr ci rg sz pc) (z1 : ¬ a + im < 0) (z2 : (16 : Int32) ≤ a + im) (z3 : ¬ a + im ≤ 15) (k : postY (nI T, co, cr, ci, sz, rg, me, pc, upd st t 3, rc, dg)) : wpY_step postY (nI T, co, cr, ci, sz, rg, me, pc, st, rc, dg) (nI t) := by
  have f := sc_fa h
  simp only [wpY_step, wY_step_150, wY_step_162, wY_step_182, wY_step_204, wY_step_221, wY_step_231, wY_step_241, wY_step_274, wY_step_286, wY_step_309, wY_step_339, wpY_written, sc_o11, f, forall_eq, nI_add, sc_m24, sc_m8, sc_m16, sc_10, true_implies, forall_const, not_true_eq_false, not_false_eq_true, false_implies, and_true, true_and, implies_true, and_self, z1, z2, z3]
  exact k
theorem sc_p1 (h : sc_At t p n ja jb jd 1 a b im co cr ci rg sz pc) (k : post 0) : wpX_stopAtCounter post (nI T, wa, wb, wc, co, cr, ci, rg, me, sz, pc, st, rc, dg) (nI t) := by
  have f := sc_fa h
  simp only [wpX_stopAtCounter, wpX_isInstruction, wpX_readA, wpX_readB, wX_stopAtCounter_57, wX_stopAtCounter_71, wpX_isCell, sc_o1, f, forall_eq, nI_add, sc_m24, sc_m8, sc_m16, sc_10, true_implies, forall_const, not_true_eq_false, not_false_eq_true, false_implies, and_true, true_and, implies_true, and_self]
  exact k
theorem sc_r1 (h : sc_At t p n ja jb jd 1 a b im co cr ci rg sz pc) (k : postX (nI T, wa, wb, wc, co, cr, ci, upd rg (t * 8 + jd) im, me, sz, upd pc t (nI p + 1), st, upd rc t (rc t + 1), upd dg t (dg t * 31 + 7 * nI p + im))) : wpX_retire postX (nI T, wa, wb, wc, co, cr, ci, rg, me, sz, pc, st, rc, dg) (nI t) := by
  have f := sc_fa h
  simp only [wpX_retire, wpX_readA, wpX_readB, wpX_nextCounter, wpX_result, wX_retire_185, wX_retire_121, wX_retire_162, sc_o1, f, forall_eq, nI_add, sc_m24, sc_m8, sc_m16, sc_10, true_implies, forall_const, not_true_eq_false, not_false_eq_true, false_implies, and_true, true_and, implies_true, and_self]
  exact k
theorem sc_x1 (h : sc_At t p n ja jb jd 1 a b im co cr ci rg sz pc) (k : postX (nI T, wa, wb, wc, co, cr, ci, upd rg (t * 8 + jd) im, me, sz, upd pc t (nI p + 1), st, upd rc t (rc t + 1), upd dg t (dg t * 31 + 7 * nI p + im))) : wpX_step postX (nI T, wa, wb, wc, co, cr, ci, rg, me, sz, pc, st, rc, dg) (nI t) := by
  unfold wpX_step
  dsimp only
  exact sc_p1 h  (br_t rfl (sc_r1 h  k))
theorem sc_y1 (h : sc_At t p n ja jb jd 1 a b im co cr ci rg sz pc) (k : postY (nI T, co, cr, ci, sz, upd rg (t * 8 + jd) im, me, upd pc t (nI p + 1), st, upd rc t (rc t + 1), upd dg t (dg t * 31 + 7 * nI p + im))) : wpY_step postY (nI T, co, cr, ci, sz, rg, me, pc, st, rc, dg) (nI t) := by
  have f := sc_fa h
  simp only [wpY_step, wY_step_150, wY_step_162, wY_step_182, wY_step_204, wY_step_221, wY_step_231, wY_step_241, wY_step_274, wY_step_286, wY_step_309, wY_step_339, wpY_written, sc_o1, f, forall_eq, nI_add, sc_m24, sc_m8, sc_m16, sc_10, true_implies, forall_const, not_true_eq_false, not_false_eq_true, false_implies, and_true, true_and, implies_true, and_self]
  exact k
theorem sc_p2 (h : sc_At t p n ja jb jd 2 a b im co cr ci rg sz pc) (k : post 0) : wpX_stopAtCounter post (nI T, wa, wb, wc, co, cr, ci, rg, me, sz, pc, st, rc, dg) (nI t) := by
  have f := sc_fa h
  simp only [wpX_stopAtCounter, wpX_isInstruction, wpX_readA, wpX_readB, wX_stopAtCounter_57, wX_stopAtCounter_71, wpX_isCell, sc_o2, f, forall_eq, nI_add, sc_m24, sc_m8, sc_m16, sc_10, true_implies, forall_const, not_true_eq_false, not_false_eq_true, false_implies, and_true, true_and, implies_true, and_self]
  exact k
theorem sc_r2 (h : sc_At t p n ja jb jd 2 a b im co cr ci rg sz pc) (k : postX (nI T, wa, wb, wc, co, cr, ci, upd rg (t * 8 + jd) (a + b), me, sz, upd pc t (nI p + 1), st, upd rc t (rc t + 1), upd dg t (dg t * 31 + 7 * nI p + (a + b)))) : wpX_retire postX (nI T, wa, wb, wc, co, cr, ci, rg, me, sz, pc, st, rc, dg) (nI t) := by
  have f := sc_fa h
  simp only [wpX_retire, wpX_readA, wpX_readB, wpX_nextCounter, wpX_result, wX_retire_185, wX_retire_121, wX_retire_162, sc_o2, f, forall_eq, nI_add, sc_m24, sc_m8, sc_m16, sc_10, true_implies, forall_const, not_true_eq_false, not_false_eq_true, false_implies, and_true, true_and, implies_true, and_self]
  exact k
theorem sc_x2 (h : sc_At t p n ja jb jd 2 a b im co cr ci rg sz pc) (k : postX (nI T, wa, wb, wc, co, cr, ci, upd rg (t * 8 + jd) (a + b), me, sz, upd pc t (nI p + 1), st, upd rc t (rc t + 1), upd dg t (dg t * 31 + 7 * nI p + (a + b)))) : wpX_step postX (nI T, wa, wb, wc, co, cr, ci, rg, me, sz, pc, st, rc, dg) (nI t) := by
  unfold wpX_step
  dsimp only
  exact sc_p2 h  (br_t rfl (sc_r2 h  k))
theorem sc_y2 (h : sc_At t p n ja jb jd 2 a b im co cr ci rg sz pc) (k : postY (nI T, co, cr, ci, sz, upd rg (t * 8 + jd) (a + b), me, upd pc t (nI p + 1), st, upd rc t (rc t + 1), upd dg t (dg t * 31 + 7 * nI p + (a + b)))) : wpY_step postY (nI T, co, cr, ci, sz, rg, me, pc, st, rc, dg) (nI t) := by
  have f := sc_fa h
  simp only [wpY_step, wY_step_150, wY_step_162, wY_step_182, wY_step_204, wY_step_221, wY_step_231, wY_step_241, wY_step_274, wY_step_286, wY_step_309, wY_step_339, wpY_written, sc_o2, f, forall_eq, nI_add, sc_m24, sc_m8, sc_m16, sc_10, true_implies, forall_const, not_true_eq_false, not_false_eq_true, false_implies, and_true, true_and, implies_true, and_self]
  exact k
theorem sc_p3 (h : sc_At t p n ja jb jd 3 a b im co cr ci rg sz pc) (k : post 0) : wpX_stopAtCounter post (nI T, wa, wb, wc, co, cr, ci, rg, me, sz, pc, st, rc, dg) (nI t) := by
  have f := sc_fa h
  simp only [wpX_stopAtCounter, wpX_isInstruction, wpX_readA, wpX_readB, wX_stopAtCounter_57, wX_stopAtCounter_71, wpX_isCell, sc_o3, f, forall_eq, nI_add, sc_m24, sc_m8, sc_m16, sc_10, true_implies, forall_const, not_true_eq_false, not_false_eq_true, false_implies, and_true, true_and, implies_true, and_self]
  exact k
theorem sc_r3 (h : sc_At t p n ja jb jd 3 a b im co cr ci rg sz pc) (k : postX (nI T, wa, wb, wc, co, cr, ci, upd rg (t * 8 + jd) (a - b), me, sz, upd pc t (nI p + 1), st, upd rc t (rc t + 1), upd dg t (dg t * 31 + 7 * nI p + (a - b)))) : wpX_retire postX (nI T, wa, wb, wc, co, cr, ci, rg, me, sz, pc, st, rc, dg) (nI t) := by
  have f := sc_fa h
  simp only [wpX_retire, wpX_readA, wpX_readB, wpX_nextCounter, wpX_result, wX_retire_185, wX_retire_121, wX_retire_162, sc_o3, f, forall_eq, nI_add, sc_m24, sc_m8, sc_m16, sc_10, true_implies, forall_const, not_true_eq_false, not_false_eq_true, false_implies, and_true, true_and, implies_true, and_self]
  exact k
theorem sc_x3 (h : sc_At t p n ja jb jd 3 a b im co cr ci rg sz pc) (k : postX (nI T, wa, wb, wc, co, cr, ci, upd rg (t * 8 + jd) (a - b), me, sz, upd pc t (nI p + 1), st, upd rc t (rc t + 1), upd dg t (dg t * 31 + 7 * nI p + (a - b)))) : wpX_step postX (nI T, wa, wb, wc, co, cr, ci, rg, me, sz, pc, st, rc, dg) (nI t) := by
  unfold wpX_step
  dsimp only
  exact sc_p3 h  (br_t rfl (sc_r3 h  k))
theorem sc_y3 (h : sc_At t p n ja jb jd 3 a b im co cr ci rg sz pc) (k : postY (nI T, co, cr, ci, sz, upd rg (t * 8 + jd) (a - b), me, upd pc t (nI p + 1), st, upd rc t (rc t + 1), upd dg t (dg t * 31 + 7 * nI p + (a - b)))) : wpY_step postY (nI T, co, cr, ci, sz, rg, me, pc, st, rc, dg) (nI t) := by
  have f := sc_fa h
  simp only [wpY_step, wY_step_150, wY_step_162, wY_step_182, wY_step_204, wY_step_221, wY_step_231, wY_step_241, wY_step_274, wY_step_286, wY_step_309, wY_step_339, wpY_written, sc_o3, f, forall_eq, nI_add, sc_m24, sc_m8, sc_m16, sc_10, true_implies, forall_const, not_true_eq_false, not_false_eq_true, false_implies, and_true, true_and, implies_true, and_self]
  exact k
theorem sc_p4 (h : sc_At t p n ja jb jd 4 a b im co cr ci rg sz pc) (k : post 0) : wpX_stopAtCounter post (nI T, wa, wb, wc, co, cr, ci, rg, me, sz, pc, st, rc, dg) (nI t) := by
  have f := sc_fa h
  simp only [wpX_stopAtCounter, wpX_isInstruction, wpX_readA, wpX_readB, wX_stopAtCounter_57, wX_stopAtCounter_71, wpX_isCell, sc_o4, f, forall_eq, nI_add, sc_m24, sc_m8, sc_m16, sc_10, true_implies, forall_const, not_true_eq_false, not_false_eq_true, false_implies, and_true, true_and, implies_true, and_self]
  exact k
theorem sc_r4 (h : sc_At t p n ja jb jd 4 a b im co cr ci rg sz pc) (k : postX (nI T, wa, wb, wc, co, cr, ci, upd rg (t * 8 + jd) (a * b), me, sz, upd pc t (nI p + 1), st, upd rc t (rc t + 1), upd dg t (dg t * 31 + 7 * nI p + (a * b)))) : wpX_retire postX (nI T, wa, wb, wc, co, cr, ci, rg, me, sz, pc, st, rc, dg) (nI t) := by
  have f := sc_fa h
  simp only [wpX_retire, wpX_readA, wpX_readB, wpX_nextCounter, wpX_result, wX_retire_185, wX_retire_121, wX_retire_162, sc_o4, f, forall_eq, nI_add, sc_m24, sc_m8, sc_m16, sc_10, true_implies, forall_const, not_true_eq_false, not_false_eq_true, false_implies, and_true, true_and, implies_true, and_self]
  exact k
theorem sc_x4 (h : sc_At t p n ja jb jd 4 a b im co cr ci rg sz pc) (k : postX (nI T, wa, wb, wc, co, cr, ci, upd rg (t * 8 + jd) (a * b), me, sz, upd pc t (nI p + 1), st, upd rc t (rc t + 1), upd dg t (dg t * 31 + 7 * nI p + (a * b)))) : wpX_step postX (nI T, wa, wb, wc, co, cr, ci, rg, me, sz, pc, st, rc, dg) (nI t) := by
  unfold wpX_step
  dsimp only
  exact sc_p4 h  (br_t rfl (sc_r4 h  k))
theorem sc_y4 (h : sc_At t p n ja jb jd 4 a b im co cr ci rg sz pc) (k : postY (nI T, co, cr, ci, sz, upd rg (t * 8 + jd) (a * b), me, upd pc t (nI p + 1), st, upd rc t (rc t + 1), upd dg t (dg t * 31 + 7 * nI p + (a * b)))) : wpY_step postY (nI T, co, cr, ci, sz, rg, me, pc, st, rc, dg) (nI t) := by
  have f := sc_fa h
  simp only [wpY_step, wY_step_150, wY_step_162, wY_step_182, wY_step_204, wY_step_221, wY_step_231, wY_step_241, wY_step_274, wY_step_286, wY_step_309, wY_step_339, wpY_written, sc_o4, f, forall_eq, nI_add, sc_m24, sc_m8, sc_m16, sc_10, true_implies, forall_const, not_true_eq_false, not_false_eq_true, false_implies, and_true, true_and, implies_true, and_self]
  exact k
theorem sc_p6 (h : sc_At t p n ja jb jd 6 a b im co cr ci rg sz pc) (k : post 0) : wpX_stopAtCounter post (nI T, wa, wb, wc, co, cr, ci, rg, me, sz, pc, st, rc, dg) (nI t) := by
  have f := sc_fa h
  simp only [wpX_stopAtCounter, wpX_isInstruction, wpX_readA, wpX_readB, wX_stopAtCounter_57, wX_stopAtCounter_71, wpX_isCell, sc_o6, f, forall_eq, nI_add, sc_m24, sc_m8, sc_m16, sc_10, true_implies, forall_const, not_true_eq_false, not_false_eq_true, false_implies, and_true, true_and, implies_true, and_self]
  exact k
theorem sc_r6 (h : sc_At t p n ja jb jd 6 a b im co cr ci rg sz pc) (k : postX (nI T, wa, wb, wc, co, cr, ci, upd rg (t * 8 + jd) (a &&& b), me, sz, upd pc t (nI p + 1), st, upd rc t (rc t + 1), upd dg t (dg t * 31 + 7 * nI p + (a &&& b)))) : wpX_retire postX (nI T, wa, wb, wc, co, cr, ci, rg, me, sz, pc, st, rc, dg) (nI t) := by
  have f := sc_fa h
  simp only [wpX_retire, wpX_readA, wpX_readB, wpX_nextCounter, wpX_result, wX_retire_185, wX_retire_121, wX_retire_162, sc_o6, f, forall_eq, nI_add, sc_m24, sc_m8, sc_m16, sc_10, true_implies, forall_const, not_true_eq_false, not_false_eq_true, false_implies, and_true, true_and, implies_true, and_self]
  exact k
theorem sc_x6 (h : sc_At t p n ja jb jd 6 a b im co cr ci rg sz pc) (k : postX (nI T, wa, wb, wc, co, cr, ci, upd rg (t * 8 + jd) (a &&& b), me, sz, upd pc t (nI p + 1), st, upd rc t (rc t + 1), upd dg t (dg t * 31 + 7 * nI p + (a &&& b)))) : wpX_step postX (nI T, wa, wb, wc, co, cr, ci, rg, me, sz, pc, st, rc, dg) (nI t) := by
  unfold wpX_step
  dsimp only
  exact sc_p6 h  (br_t rfl (sc_r6 h  k))
theorem sc_y6 (h : sc_At t p n ja jb jd 6 a b im co cr ci rg sz pc) (k : postY (nI T, co, cr, ci, sz, upd rg (t * 8 + jd) (a &&& b), me, upd pc t (nI p + 1), st, upd rc t (rc t + 1), upd dg t (dg t * 31 + 7 * nI p + (a &&& b)))) : wpY_step postY (nI T, co, cr, ci, sz, rg, me, pc, st, rc, dg) (nI t) := by
  have f := sc_fa h
  simp only [wpY_step, wY_step_150, wY_step_162, wY_step_182, wY_step_204, wY_step_221, wY_step_231, wY_step_241, wY_step_274, wY_step_286, wY_step_309, wY_step_339, wpY_written, sc_o6, f, forall_eq, nI_add, sc_m24, sc_m8, sc_m16, sc_10, true_implies, forall_const, not_true_eq_false, not_false_eq_true, false_implies, and_true, true_and, implies_true, and_self]
  exact k
theorem sc_p7 (h : sc_At t p n ja jb jd 7 a b im co cr ci rg sz pc) (k : post 0) : wpX_stopAtCounter post (nI T, wa, wb, wc, co, cr, ci, rg, me, sz, pc, st, rc, dg) (nI t) := by
  have f := sc_fa h
  simp only [wpX_stopAtCounter, wpX_isInstruction, wpX_readA, wpX_readB, wX_stopAtCounter_57, wX_stopAtCounter_71, wpX_isCell, sc_o7, f, forall_eq, nI_add, sc_m24, sc_m8, sc_m16, sc_10, true_implies, forall_const, not_true_eq_false, not_false_eq_true, false_implies, and_true, true_and, implies_true, and_self]
  exact k
theorem sc_r7 (h : sc_At t p n ja jb jd 7 a b im co cr ci rg sz pc) (k : postX (nI T, wa, wb, wc, co, cr, ci, upd rg (t * 8 + jd) (a ^^^ b), me, sz, upd pc t (nI p + 1), st, upd rc t (rc t + 1), upd dg t (dg t * 31 + 7 * nI p + (a ^^^ b)))) : wpX_retire postX (nI T, wa, wb, wc, co, cr, ci, rg, me, sz, pc, st, rc, dg) (nI t) := by
  have f := sc_fa h
  simp only [wpX_retire, wpX_readA, wpX_readB, wpX_nextCounter, wpX_result, wX_retire_185, wX_retire_121, wX_retire_162, sc_o7, f, forall_eq, nI_add, sc_m24, sc_m8, sc_m16, sc_10, true_implies, forall_const, not_true_eq_false, not_false_eq_true, false_implies, and_true, true_and, implies_true, and_self]
  exact k
theorem sc_x7 (h : sc_At t p n ja jb jd 7 a b im co cr ci rg sz pc) (k : postX (nI T, wa, wb, wc, co, cr, ci, upd rg (t * 8 + jd) (a ^^^ b), me, sz, upd pc t (nI p + 1), st, upd rc t (rc t + 1), upd dg t (dg t * 31 + 7 * nI p + (a ^^^ b)))) : wpX_step postX (nI T, wa, wb, wc, co, cr, ci, rg, me, sz, pc, st, rc, dg) (nI t) := by
  unfold wpX_step
  dsimp only
  exact sc_p7 h  (br_t rfl (sc_r7 h  k))
theorem sc_y7 (h : sc_At t p n ja jb jd 7 a b im co cr ci rg sz pc) (k : postY (nI T, co, cr, ci, sz, upd rg (t * 8 + jd) (a ^^^ b), me, upd pc t (nI p + 1), st, upd rc t (rc t + 1), upd dg t (dg t * 31 + 7 * nI p + (a ^^^ b)))) : wpY_step postY (nI T, co, cr, ci, sz, rg, me, pc, st, rc, dg) (nI t) := by
  have f := sc_fa h
  simp only [wpY_step, wY_step_150, wY_step_162, wY_step_182, wY_step_204, wY_step_221, wY_step_231, wY_step_241, wY_step_274, wY_step_286, wY_step_309, wY_step_339, wpY_written, sc_o7, f, forall_eq, nI_add, sc_m24, sc_m8, sc_m16, sc_10, true_implies, forall_const, not_true_eq_false, not_false_eq_true, false_implies, and_true, true_and, implies_true, and_self]
  exact k
theorem sc_p8 (h : sc_At t p n ja jb jd 8 a b im co cr ci rg sz pc) (k : post 0) : wpX_stopAtCounter post (nI T, wa, wb, wc, co, cr, ci, rg, me, sz, pc, st, rc, dg) (nI t) := by
  have f := sc_fa h
  simp only [wpX_stopAtCounter, wpX_isInstruction, wpX_readA, wpX_readB, wX_stopAtCounter_57, wX_stopAtCounter_71, wpX_isCell, sc_o8, f, forall_eq, nI_add, sc_m24, sc_m8, sc_m16, sc_10, true_implies, forall_const, not_true_eq_false, not_false_eq_true, false_implies, and_true, true_and, implies_true, and_self]
  exact k
theorem sc_r8 (h : sc_At t p n ja jb jd 8 a b im co cr ci rg sz pc) (k : postX (nI T, wa, wb, wc, co, cr, ci, upd rg (t * 8 + jd) (a <<< ((im &&& 31) &&& 31)), me, sz, upd pc t (nI p + 1), st, upd rc t (rc t + 1), upd dg t (dg t * 31 + 7 * nI p + (a <<< ((im &&& 31) &&& 31))))) : wpX_retire postX (nI T, wa, wb, wc, co, cr, ci, rg, me, sz, pc, st, rc, dg) (nI t) := by
  have f := sc_fa h
  simp only [wpX_retire, wpX_readA, wpX_readB, wpX_nextCounter, wpX_result, wX_retire_185, wX_retire_121, wX_retire_162, sc_o8, f, forall_eq, nI_add, sc_m24, sc_m8, sc_m16, sc_10, true_implies, forall_const, not_true_eq_false, not_false_eq_true, false_implies, and_true, true_and, implies_true, and_self]
  exact k
theorem sc_x8 (h : sc_At t p n ja jb jd 8 a b im co cr ci rg sz pc) (k : postX (nI T, wa, wb, wc, co, cr, ci, upd rg (t * 8 + jd) (a <<< ((im &&& 31) &&& 31)), me, sz, upd pc t (nI p + 1), st, upd rc t (rc t + 1), upd dg t (dg t * 31 + 7 * nI p + (a <<< ((im &&& 31) &&& 31))))) : wpX_step postX (nI T, wa, wb, wc, co, cr, ci, rg, me, sz, pc, st, rc, dg) (nI t) := by
  unfold wpX_step
  dsimp only
  exact sc_p8 h  (br_t rfl (sc_r8 h  k))
theorem sc_y8 (h : sc_At t p n ja jb jd 8 a b im co cr ci rg sz pc) (k : postY (nI T, co, cr, ci, sz, upd rg (t * 8 + jd) (a <<< ((im &&& 31) &&& 31)), me, upd pc t (nI p + 1), st, upd rc t (rc t + 1), upd dg t (dg t * 31 + 7 * nI p + (a <<< ((im &&& 31) &&& 31))))) : wpY_step postY (nI T, co, cr, ci, sz, rg, me, pc, st, rc, dg) (nI t) := by
  have f := sc_fa h
  simp only [wpY_step, wY_step_150, wY_step_162, wY_step_182, wY_step_204, wY_step_221, wY_step_231, wY_step_241, wY_step_274, wY_step_286, wY_step_309, wY_step_339, wpY_written, sc_o8, f, forall_eq, nI_add, sc_m24, sc_m8, sc_m16, sc_10, true_implies, forall_const, not_true_eq_false, not_false_eq_true, false_implies, and_true, true_and, implies_true, and_self]
  exact k
theorem sc_p9 (h : sc_At t p n ja jb jd 9 a b im co cr ci rg sz pc) (k : post 0) : wpX_stopAtCounter post (nI T, wa, wb, wc, co, cr, ci, rg, me, sz, pc, st, rc, dg) (nI t) := by
  have f := sc_fa h
  simp only [wpX_stopAtCounter, wpX_isInstruction, wpX_readA, wpX_readB, wX_stopAtCounter_57, wX_stopAtCounter_71, wpX_isCell, sc_o9, f, forall_eq, nI_add, sc_m24, sc_m8, sc_m16, sc_10, true_implies, forall_const, not_true_eq_false, not_false_eq_true, false_implies, and_true, true_and, implies_true, and_self]
  exact k
theorem sc_r9 (h : sc_At t p n ja jb jd 9 a b im co cr ci rg sz pc) (k : postX (nI T, wa, wb, wc, co, cr, ci, upd rg (t * 8 + jd) (a + im), me, sz, upd pc t (nI p + 1), st, upd rc t (rc t + 1), upd dg t (dg t * 31 + 7 * nI p + (a + im)))) : wpX_retire postX (nI T, wa, wb, wc, co, cr, ci, rg, me, sz, pc, st, rc, dg) (nI t) := by
  have f := sc_fa h
  simp only [wpX_retire, wpX_readA, wpX_readB, wpX_nextCounter, wpX_result, wX_retire_185, wX_retire_121, wX_retire_162, sc_o9, f, forall_eq, nI_add, sc_m24, sc_m8, sc_m16, sc_10, true_implies, forall_const, not_true_eq_false, not_false_eq_true, false_implies, and_true, true_and, implies_true, and_self]
  exact k
theorem sc_x9 (h : sc_At t p n ja jb jd 9 a b im co cr ci rg sz pc) (k : postX (nI T, wa, wb, wc, co, cr, ci, upd rg (t * 8 + jd) (a + im), me, sz, upd pc t (nI p + 1), st, upd rc t (rc t + 1), upd dg t (dg t * 31 + 7 * nI p + (a + im)))) : wpX_step postX (nI T, wa, wb, wc, co, cr, ci, rg, me, sz, pc, st, rc, dg) (nI t) := by
  unfold wpX_step
  dsimp only
  exact sc_p9 h  (br_t rfl (sc_r9 h  k))
theorem sc_y9 (h : sc_At t p n ja jb jd 9 a b im co cr ci rg sz pc) (k : postY (nI T, co, cr, ci, sz, upd rg (t * 8 + jd) (a + im), me, upd pc t (nI p + 1), st, upd rc t (rc t + 1), upd dg t (dg t * 31 + 7 * nI p + (a + im)))) : wpY_step postY (nI T, co, cr, ci, sz, rg, me, pc, st, rc, dg) (nI t) := by
  have f := sc_fa h
  simp only [wpY_step, wY_step_150, wY_step_162, wY_step_182, wY_step_204, wY_step_221, wY_step_231, wY_step_241, wY_step_274, wY_step_286, wY_step_309, wY_step_339, wpY_written, sc_o9, f, forall_eq, nI_add, sc_m24, sc_m8, sc_m16, sc_10, true_implies, forall_const, not_true_eq_false, not_false_eq_true, false_implies, and_true, true_and, implies_true, and_self]
  exact k
theorem sc_p14 (h : sc_At t p n ja jb jd 14 a b im co cr ci rg sz pc) (k : post 0) : wpX_stopAtCounter post (nI T, wa, wb, wc, co, cr, ci, rg, me, sz, pc, st, rc, dg) (nI t) := by
  have f := sc_fa h
  simp only [wpX_stopAtCounter, wpX_isInstruction, wpX_readA, wpX_readB, wX_stopAtCounter_57, wX_stopAtCounter_71, wpX_isCell, sc_o14, f, forall_eq, nI_add, sc_m24, sc_m8, sc_m16, sc_10, true_implies, forall_const, not_true_eq_false, not_false_eq_true, false_implies, and_true, true_and, implies_true, and_self]
  exact k
theorem sc_r14 (h : sc_At t p n ja jb jd 14 a b im co cr ci rg sz pc) (k : postX (nI T, wa, wb, wc, co, cr, ci, upd rg (t * 8 + jd) (nI p + 1), me, sz, upd pc t (im), st, upd rc t (rc t + 1), upd dg t (dg t * 31 + 7 * nI p + (nI p + 1)))) : wpX_retire postX (nI T, wa, wb, wc, co, cr, ci, rg, me, sz, pc, st, rc, dg) (nI t) := by
  have f := sc_fa h
  simp only [wpX_retire, wpX_readA, wpX_readB, wpX_nextCounter, wpX_result, wX_retire_185, wX_retire_121, wX_retire_162, sc_o14, f, forall_eq, nI_add, sc_m24, sc_m8, sc_m16, sc_10, true_implies, forall_const, not_true_eq_false, not_false_eq_true, false_implies, and_true, true_and, implies_true, and_self]
  exact k
theorem sc_x14 (h : sc_At t p n ja jb jd 14 a b im co cr ci rg sz pc) (k : postX (nI T, wa, wb, wc, co, cr, ci, upd rg (t * 8 + jd) (nI p + 1), me, sz, upd pc t (im), st, upd rc t (rc t + 1), upd dg t (dg t * 31 + 7 * nI p + (nI p + 1)))) : wpX_step postX (nI T, wa, wb, wc, co, cr, ci, rg, me, sz, pc, st, rc, dg) (nI t) := by
  unfold wpX_step
  dsimp only
  exact sc_p14 h  (br_t rfl (sc_r14 h  k))
theorem sc_y14 (h : sc_At t p n ja jb jd 14 a b im co cr ci rg sz pc) (k : postY (nI T, co, cr, ci, sz, upd rg (t * 8 + jd) (nI p + 1), me, upd pc t (im), st, upd rc t (rc t + 1), upd dg t (dg t * 31 + 7 * nI p + (nI p + 1)))) : wpY_step postY (nI T, co, cr, ci, sz, rg, me, pc, st, rc, dg) (nI t) := by
  have f := sc_fa h
  simp only [wpY_step, wY_step_150, wY_step_162, wY_step_182, wY_step_204, wY_step_221, wY_step_231, wY_step_241, wY_step_274, wY_step_286, wY_step_309, wY_step_339, wpY_written, sc_o14, f, forall_eq, nI_add, sc_m24, sc_m8, sc_m16, sc_10, true_implies, forall_const, not_true_eq_false, not_false_eq_true, false_implies, and_true, true_and, implies_true, and_self]
  exact k
theorem sc_p5 (h : sc_At t p n ja jb jd 5 a b im co cr ci rg sz pc) (z : ¬ b = 0) (k : post 0) : wpX_stopAtCounter post (nI T, wa, wb, wc, co, cr, ci, rg, me, sz, pc, st, rc, dg) (nI t) := by
  have f := sc_fa h
  simp only [wpX_stopAtCounter, wpX_isInstruction, wpX_readA, wpX_readB, wX_stopAtCounter_57, wX_stopAtCounter_71, wpX_isCell, sc_o5, f, forall_eq, nI_add, sc_m24, sc_m8, sc_m16, sc_10, true_implies, forall_const, not_true_eq_false, not_false_eq_true, false_implies, and_true, true_and, implies_true, and_self, z]
  exact k
theorem sc_r5 (h : sc_At t p n ja jb jd 5 a b im co cr ci rg sz pc) (z : ¬ b = 0) (k : postX (nI T, wa, wb, wc, co, cr, ci, upd rg (t * 8 + jd) (a / b), me, sz, upd pc t (nI p + 1), st, upd rc t (rc t + 1), upd dg t (dg t * 31 + 7 * nI p + (a / b)))) : wpX_retire postX (nI T, wa, wb, wc, co, cr, ci, rg, me, sz, pc, st, rc, dg) (nI t) := by
  have f := sc_fa h
  simp only [wpX_retire, wpX_readA, wpX_readB, wpX_nextCounter, wpX_result, wX_retire_185, wX_retire_121, wX_retire_162, sc_o5, f, forall_eq, nI_add, sc_m24, sc_m8, sc_m16, sc_10, true_implies, forall_const, not_true_eq_false, not_false_eq_true, false_implies, and_true, true_and, implies_true, and_self, z]
  exact k
theorem sc_x5 (h : sc_At t p n ja jb jd 5 a b im co cr ci rg sz pc) (z : ¬ b = 0) (k : postX (nI T, wa, wb, wc, co, cr, ci, upd rg (t * 8 + jd) (a / b), me, sz, upd pc t (nI p + 1), st, upd rc t (rc t + 1), upd dg t (dg t * 31 + 7 * nI p + (a / b)))) : wpX_step postX (nI T, wa, wb, wc, co, cr, ci, rg, me, sz, pc, st, rc, dg) (nI t) := by
  unfold wpX_step
  dsimp only
  exact sc_p5 h z (br_t rfl (sc_r5 h z k))
theorem sc_y5 (h : sc_At t p n ja jb jd 5 a b im co cr ci rg sz pc) (z : ¬ b = 0) (k : postY (nI T, co, cr, ci, sz, upd rg (t * 8 + jd) (a / b), me, upd pc t (nI p + 1), st, upd rc t (rc t + 1), upd dg t (dg t * 31 + 7 * nI p + (a / b)))) : wpY_step postY (nI T, co, cr, ci, sz, rg, me, pc, st, rc, dg) (nI t) := by
  have f := sc_fa h
  simp only [wpY_step, wY_step_150, wY_step_162, wY_step_182, wY_step_204, wY_step_221, wY_step_231, wY_step_241, wY_step_274, wY_step_286, wY_step_309, wY_step_339, wpY_written, sc_o5, f, forall_eq, nI_add, sc_m24, sc_m8, sc_m16, sc_10, true_implies, forall_const, not_true_eq_false, not_false_eq_true, false_implies, and_true, true_and, implies_true, and_self, z]
  exact k
theorem sc_p10 (h : sc_At t p n ja jb jd 10 a b im co cr ci rg sz pc) (hq : q < 16) (z : a + im = nI q) (k : post 0) : wpX_stopAtCounter post (nI T, wa, wb, wc, co, cr, ci, rg, me, sz, pc, st, rc, dg) (nI t) := by
  have f := sc_fa h
  simp only [wpX_stopAtCounter, wpX_isInstruction, wpX_readA, wpX_readB, wX_stopAtCounter_57, wX_stopAtCounter_71, wpX_isCell, sc_o10, f, forall_eq, nI_add, sc_m24, sc_m8, sc_m16, sc_10, true_implies, forall_const, not_true_eq_false, not_false_eq_true, false_implies, and_true, true_and, implies_true, and_self, z, sc_fq h hq]
  exact k
theorem sc_r10 (h : sc_At t p n ja jb jd 10 a b im co cr ci rg sz pc) (hq : q < 16) (z : a + im = nI q) (k : postX (nI T, wa, wb, wc, co, cr, ci, upd rg (t * 8 + jd) (me (t * 16 + q)), me, sz, upd pc t (nI p + 1), st, upd rc t (rc t + 1), upd dg t (dg t * 31 + 7 * nI p + (me (t * 16 + q))))) : wpX_retire postX (nI T, wa, wb, wc, co, cr, ci, rg, me, sz, pc, st, rc, dg) (nI t) := by
  have f := sc_fa h
  simp only [wpX_retire, wpX_readA, wpX_readB, wpX_nextCounter, wpX_result, wX_retire_185, wX_retire_121, wX_retire_162, sc_o10, f, forall_eq, nI_add, sc_m24, sc_m8, sc_m16, sc_10, true_implies, forall_const, not_true_eq_false, not_false_eq_true, false_implies, and_true, true_and, implies_true, and_self, z, sc_fq h hq]
  exact k
theorem sc_x10 (h : sc_At t p n ja jb jd 10 a b im co cr ci rg sz pc) (hq : q < 16) (z : a + im = nI q) (k : postX (nI T, wa, wb, wc, co, cr, ci, upd rg (t * 8 + jd) (me (t * 16 + q)), me, sz, upd pc t (nI p + 1), st, upd rc t (rc t + 1), upd dg t (dg t * 31 + 7 * nI p + (me (t * 16 + q))))) : wpX_step postX (nI T, wa, wb, wc, co, cr, ci, rg, me, sz, pc, st, rc, dg) (nI t) := by
  unfold wpX_step
  dsimp only
  exact sc_p10 h hq z (br_t rfl (sc_r10 h hq z k))
theorem sc_y10 (h : sc_At t p n ja jb jd 10 a b im co cr ci rg sz pc) (hq : q < 16) (z : a + im = nI q) (k : postY (nI T, co, cr, ci, sz, upd rg (t * 8 + jd) (me (t * 16 + q)), me, upd pc t (nI p + 1), st, upd rc t (rc t + 1), upd dg t (dg t * 31 + 7 * nI p + (me (t * 16 + q))))) : wpY_step postY (nI T, co, cr, ci, sz, rg, me, pc, st, rc, dg) (nI t) := by
  have f := sc_fa h
  simp only [wpY_step, wY_step_150, wY_step_162, wY_step_182, wY_step_204, wY_step_221, wY_step_231, wY_step_241, wY_step_274, wY_step_286, wY_step_309, wY_step_339, wpY_written, sc_o10, f, forall_eq, nI_add, sc_m24, sc_m8, sc_m16, sc_10, true_implies, forall_const, not_true_eq_false, not_false_eq_true, false_implies, and_true, true_and, implies_true, and_self, z, sc_fq h hq]
  exact k
theorem sc_p11 (h : sc_At t p n ja jb jd 11 a b im co cr ci rg sz pc) (hq : q < 16) (z : a + im = nI q) (k : post 0) : wpX_stopAtCounter post (nI T, wa, wb, wc, co, cr, ci, rg, me, sz, pc, st, rc, dg) (nI t) := by
  have f := sc_fa h
  simp only [wpX_stopAtCounter, wpX_isInstruction, wpX_readA, wpX_readB, wX_stopAtCounter_57, wX_stopAtCounter_71, wpX_isCell, sc_o11, f, forall_eq, nI_add, sc_m24, sc_m8, sc_m16, sc_10, true_implies, forall_const, not_true_eq_false, not_false_eq_true, false_implies, and_true, true_and, implies_true, and_self, z, sc_fq h hq]
  exact k
theorem sc_r11 (h : sc_At t p n ja jb jd 11 a b im co cr ci rg sz pc) (hq : q < 16) (z : a + im = nI q) (k : postX (nI T, wa, wb, wc, co, cr, ci, rg, upd me (t * 16 + q) b, sz, upd pc t (nI p + 1), st, upd rc t (rc t + 1), upd dg t (dg t * 31 + 7 * nI p + (5 * nI q + b)))) : wpX_retire postX (nI T, wa, wb, wc, co, cr, ci, rg, me, sz, pc, st, rc, dg) (nI t) := by
  have f := sc_fa h
  simp only [wpX_retire, wpX_readA, wpX_readB, wpX_nextCounter, wpX_result, wX_retire_185, wX_retire_121, wX_retire_162, sc_o11, f, forall_eq, nI_add, sc_m24, sc_m8, sc_m16, sc_10, true_implies, forall_const, not_true_eq_false, not_false_eq_true, false_implies, and_true, true_and, implies_true, and_self, z, sc_fq h hq]
  exact k
theorem sc_x11 (h : sc_At t p n ja jb jd 11 a b im co cr ci rg sz pc) (hq : q < 16) (z : a + im = nI q) (k : postX (nI T, wa, wb, wc, co, cr, ci, rg, upd me (t * 16 + q) b, sz, upd pc t (nI p + 1), st, upd rc t (rc t + 1), upd dg t (dg t * 31 + 7 * nI p + (5 * nI q + b)))) : wpX_step postX (nI T, wa, wb, wc, co, cr, ci, rg, me, sz, pc, st, rc, dg) (nI t) := by
  unfold wpX_step
  dsimp only
  exact sc_p11 h hq z (br_t rfl (sc_r11 h hq z k))
theorem sc_y11 (h : sc_At t p n ja jb jd 11 a b im co cr ci rg sz pc) (hq : q < 16) (z : a + im = nI q) (k : postY (nI T, co, cr, ci, sz, rg, upd me (t * 16 + q) b, upd pc t (nI p + 1), st, upd rc t (rc t + 1), upd dg t (dg t * 31 + 7 * nI p + (5 * nI q + b)))) : wpY_step postY (nI T, co, cr, ci, sz, rg, me, pc, st, rc, dg) (nI t) := by
  have f := sc_fa h
  simp only [wpY_step, wY_step_150, wY_step_162, wY_step_182, wY_step_204, wY_step_221, wY_step_231, wY_step_241, wY_step_274, wY_step_286, wY_step_309, wY_step_339, wpY_written, sc_o11, f, forall_eq, nI_add, sc_m24, sc_m8, sc_m16, sc_10, true_implies, forall_const, not_true_eq_false, not_false_eq_true, false_implies, and_true, true_and, implies_true, and_self, z, sc_fq h hq]
  exact k
theorem sc_p12e (h : sc_At t p n ja jb jd 12 a b im co cr ci rg sz pc) (z : a = b) (k : post 0) : wpX_stopAtCounter post (nI T, wa, wb, wc, co, cr, ci, rg, me, sz, pc, st, rc, dg) (nI t) := by
  have f := sc_fa h
  simp only [wpX_stopAtCounter, wpX_isInstruction, wpX_readA, wpX_readB, wX_stopAtCounter_57, wX_stopAtCounter_71, wpX_isCell, sc_o12, f, forall_eq, nI_add, sc_m24, sc_m8, sc_m16, sc_10, true_implies, forall_const, not_true_eq_false, not_false_eq_true, false_implies, and_true, true_and, implies_true, and_self, z]
  exact k
theorem sc_r12e (h : sc_At t p n ja jb jd 12 a b im co cr ci rg sz pc) (z : a = b) (k : postX (nI T, wa, wb, wc, co, cr, ci, rg, me, sz, upd pc t (im), st, upd rc t (rc t + 1), upd dg t (dg t * 31 + 7 * nI p + im))) : wpX_retire postX (nI T, wa, wb, wc, co, cr, ci, rg, me, sz, pc, st, rc, dg) (nI t) := by
  have f := sc_fa h
  simp only [wpX_retire, wpX_readA, wpX_readB, wpX_nextCounter, wpX_result, wX_retire_185, wX_retire_121, wX_retire_162, sc_o12, f, forall_eq, nI_add, sc_m24, sc_m8, sc_m16, sc_10, true_implies, forall_const, not_true_eq_false, not_false_eq_true, false_implies, and_true, true_and, implies_true, and_self, z]
  exact k
theorem sc_x12e (h : sc_At t p n ja jb jd 12 a b im co cr ci rg sz pc) (z : a = b) (k : postX (nI T, wa, wb, wc, co, cr, ci, rg, me, sz, upd pc t (im), st, upd rc t (rc t + 1), upd dg t (dg t * 31 + 7 * nI p + im))) : wpX_step postX (nI T, wa, wb, wc, co, cr, ci, rg, me, sz, pc, st, rc, dg) (nI t) := by
  unfold wpX_step
  dsimp only
  exact sc_p12e h z (br_t rfl (sc_r12e h z k))
theorem sc_y12e (h : sc_At t p n ja jb jd 12 a b im co cr ci rg sz pc) (z : a = b) (k : postY (nI T, co, cr, ci, sz, rg, me, upd pc t (im), st, upd rc t (rc t + 1), upd dg t (dg t * 31 + 7 * nI p + im))) : wpY_step postY (nI T, co, cr, ci, sz, rg, me, pc, st, rc, dg) (nI t) := by
  have f := sc_fa h
  simp only [wpY_step, wY_step_150, wY_step_162, wY_step_182, wY_step_204, wY_step_221, wY_step_231, wY_step_241, wY_step_274, wY_step_286, wY_step_309, wY_step_339, wpY_written, sc_o12, f, forall_eq, nI_add, sc_m24, sc_m8, sc_m16, sc_10, true_implies, forall_const, not_true_eq_false, not_false_eq_true, false_implies, and_true, true_and, implies_true, and_self, z]
  exact k
theorem sc_p12n (h : sc_At t p n ja jb jd 12 a b im co cr ci rg sz pc) (z : ¬ a = b) (k : post 0) : wpX_stopAtCounter post (nI T, wa, wb, wc, co, cr, ci, rg, me, sz, pc, st, rc, dg) (nI t) := by
  have f := sc_fa h
  simp only [wpX_stopAtCounter, wpX_isInstruction, wpX_readA, wpX_readB, wX_stopAtCounter_57, wX_stopAtCounter_71, wpX_isCell, sc_o12, f, forall_eq, nI_add, sc_m24, sc_m8, sc_m16, sc_10, true_implies, forall_const, not_true_eq_false, not_false_eq_true, false_implies, and_true, true_and, implies_true, and_self, z]
  exact k
theorem sc_r12n (h : sc_At t p n ja jb jd 12 a b im co cr ci rg sz pc) (z : ¬ a = b) (k : postX (nI T, wa, wb, wc, co, cr, ci, rg, me, sz, upd pc t (nI p + 1), st, upd rc t (rc t + 1), upd dg t (dg t * 31 + 7 * nI p + (nI p + 1)))) : wpX_retire postX (nI T, wa, wb, wc, co, cr, ci, rg, me, sz, pc, st, rc, dg) (nI t) := by
  have f := sc_fa h
  simp only [wpX_retire, wpX_readA, wpX_readB, wpX_nextCounter, wpX_result, wX_retire_185, wX_retire_121, wX_retire_162, sc_o12, f, forall_eq, nI_add, sc_m24, sc_m8, sc_m16, sc_10, true_implies, forall_const, not_true_eq_false, not_false_eq_true, false_implies, and_true, true_and, implies_true, and_self, z]
  exact k
theorem sc_x12n (h : sc_At t p n ja jb jd 12 a b im co cr ci rg sz pc) (z : ¬ a = b) (k : postX (nI T, wa, wb, wc, co, cr, ci, rg, me, sz, upd pc t (nI p + 1), st, upd rc t (rc t + 1), upd dg t (dg t * 31 + 7 * nI p + (nI p + 1)))) : wpX_step postX (nI T, wa, wb, wc, co, cr, ci, rg, me, sz, pc, st, rc, dg) (nI t) := by
  unfold wpX_step
  dsimp only
  exact sc_p12n h z (br_t rfl (sc_r12n h z k))
theorem sc_y12n (h : sc_At t p n ja jb jd 12 a b im co cr ci rg sz pc) (z : ¬ a = b) (k : postY (nI T, co, cr, ci, sz, rg, me, upd pc t (nI p + 1), st, upd rc t (rc t + 1), upd dg t (dg t * 31 + 7 * nI p + (nI p + 1)))) : wpY_step postY (nI T, co, cr, ci, sz, rg, me, pc, st, rc, dg) (nI t) := by
  have f := sc_fa h
  simp only [wpY_step, wY_step_150, wY_step_162, wY_step_182, wY_step_204, wY_step_221, wY_step_231, wY_step_241, wY_step_274, wY_step_286, wY_step_309, wY_step_339, wpY_written, sc_o12, f, forall_eq, nI_add, sc_m24, sc_m8, sc_m16, sc_10, true_implies, forall_const, not_true_eq_false, not_false_eq_true, false_implies, and_true, true_and, implies_true, and_self, z]
  exact k
theorem sc_p13n (h : sc_At t p n ja jb jd 13 a b im co cr ci rg sz pc) (z : b ≤ a) (k : post 0) : wpX_stopAtCounter post (nI T, wa, wb, wc, co, cr, ci, rg, me, sz, pc, st, rc, dg) (nI t) := by
  have f := sc_fa h
  simp only [wpX_stopAtCounter, wpX_isInstruction, wpX_readA, wpX_readB, wX_stopAtCounter_57, wX_stopAtCounter_71, wpX_isCell, sc_o13, f, forall_eq, nI_add, sc_m24, sc_m8, sc_m16, sc_10, true_implies, forall_const, not_true_eq_false, not_false_eq_true, false_implies, and_true, true_and, implies_true, and_self, z]
  exact k
theorem sc_r13n (h : sc_At t p n ja jb jd 13 a b im co cr ci rg sz pc) (z : b ≤ a) (k : postX (nI T, wa, wb, wc, co, cr, ci, rg, me, sz, upd pc t (nI p + 1), st, upd rc t (rc t + 1), upd dg t (dg t * 31 + 7 * nI p + (nI p + 1)))) : wpX_retire postX (nI T, wa, wb, wc, co, cr, ci, rg, me, sz, pc, st, rc, dg) (nI t) := by
  have f := sc_fa h
  simp only [wpX_retire, wpX_readA, wpX_readB, wpX_nextCounter, wpX_result, wX_retire_185, wX_retire_121, wX_retire_162, sc_o13, f, forall_eq, nI_add, sc_m24, sc_m8, sc_m16, sc_10, true_implies, forall_const, not_true_eq_false, not_false_eq_true, false_implies, and_true, true_and, implies_true, and_self, z]
  exact k
theorem sc_x13n (h : sc_At t p n ja jb jd 13 a b im co cr ci rg sz pc) (z : b ≤ a) (k : postX (nI T, wa, wb, wc, co, cr, ci, rg, me, sz, upd pc t (nI p + 1), st, upd rc t (rc t + 1), upd dg t (dg t * 31 + 7 * nI p + (nI p + 1)))) : wpX_step postX (nI T, wa, wb, wc, co, cr, ci, rg, me, sz, pc, st, rc, dg) (nI t) := by
  unfold wpX_step
  dsimp only
  exact sc_p13n h z (br_t rfl (sc_r13n h z k))
theorem sc_y13n (h : sc_At t p n ja jb jd 13 a b im co cr ci rg sz pc) (z : b ≤ a) (k : postY (nI T, co, cr, ci, sz, rg, me, upd pc t (nI p + 1), st, upd rc t (rc t + 1), upd dg t (dg t * 31 + 7 * nI p + (nI p + 1)))) : wpY_step postY (nI T, co, cr, ci, sz, rg, me, pc, st, rc, dg) (nI t) := by
  have f := sc_fa h
  simp only [wpY_step, wY_step_150, wY_step_162, wY_step_182, wY_step_204, wY_step_221, wY_step_231, wY_step_241, wY_step_274, wY_step_286, wY_step_309, wY_step_339, wpY_written, sc_o13, f, forall_eq, nI_add, sc_m24, sc_m8, sc_m16, sc_10, true_implies, forall_const, not_true_eq_false, not_false_eq_true, false_implies, and_true, true_and, implies_true, and_self, z]
  exact k
theorem sc_p13l (h : sc_At t p n ja jb jd 13 a b im co cr ci rg sz pc) (z : ¬ b ≤ a) (k : post 0) : wpX_stopAtCounter post (nI T, wa, wb, wc, co, cr, ci, rg, me, sz, pc, st, rc, dg) (nI t) := by
  have f := sc_fa h
  simp only [wpX_stopAtCounter, wpX_isInstruction, wpX_readA, wpX_readB, wX_stopAtCounter_57, wX_stopAtCounter_71, wpX_isCell, sc_o13, f, forall_eq, nI_add, sc_m24, sc_m8, sc_m16, sc_10, true_implies, forall_const, not_true_eq_false, not_false_eq_true, false_implies, and_true, true_and, implies_true, and_self, z]
  exact k
theorem sc_r13l (h : sc_At t p n ja jb jd 13 a b im co cr ci rg sz pc) (z : ¬ b ≤ a) (k : postX (nI T, wa, wb, wc, co, cr, ci, rg, me, sz, upd pc t (im), st, upd rc t (rc t + 1), upd dg t (dg t * 31 + 7 * nI p + im))) : wpX_retire postX (nI T, wa, wb, wc, co, cr, ci, rg, me, sz, pc, st, rc, dg) (nI t) := by
  have f := sc_fa h
  simp only [wpX_retire, wpX_readA, wpX_readB, wpX_nextCounter, wpX_result, wX_retire_185, wX_retire_121, wX_retire_162, sc_o13, f, forall_eq, nI_add, sc_m24, sc_m8, sc_m16, sc_10, true_implies, forall_const, not_true_eq_false, not_false_eq_true, false_implies, and_true, true_and, implies_true, and_self, z]
  exact k
theorem sc_x13l (h : sc_At t p n ja jb jd 13 a b im co cr ci rg sz pc) (z : ¬ b ≤ a) (k : postX (nI T, wa, wb, wc, co, cr, ci, rg, me, sz, upd pc t (im), st, upd rc t (rc t + 1), upd dg t (dg t * 31 + 7 * nI p + im))) : wpX_step postX (nI T, wa, wb, wc, co, cr, ci, rg, me, sz, pc, st, rc, dg) (nI t) := by
  unfold wpX_step
  dsimp only
  exact sc_p13l h z (br_t rfl (sc_r13l h z k))
theorem sc_y13l (h : sc_At t p n ja jb jd 13 a b im co cr ci rg sz pc) (z : ¬ b ≤ a) (k : postY (nI T, co, cr, ci, sz, rg, me, upd pc t (im), st, upd rc t (rc t + 1), upd dg t (dg t * 31 + 7 * nI p + im))) : wpY_step postY (nI T, co, cr, ci, sz, rg, me, pc, st, rc, dg) (nI t) := by
  have f := sc_fa h
  simp only [wpY_step, wY_step_150, wY_step_162, wY_step_182, wY_step_204, wY_step_221, wY_step_231, wY_step_241, wY_step_274, wY_step_286, wY_step_309, wY_step_339, wpY_written, sc_o13, f, forall_eq, nI_add, sc_m24, sc_m8, sc_m16, sc_10, true_implies, forall_const, not_true_eq_false, not_false_eq_true, false_implies, and_true, true_and, implies_true, and_self, z]
  exact k
theorem sc_p15 (h : sc_At t p n ja jb jd 15 a b im co cr ci rg sz pc) (k : post 0) : wpX_stopAtCounter post (nI T, wa, wb, wc, co, cr, ci, rg, me, sz, pc, st, rc, dg) (nI t) := by
  have f := sc_fa h
  simp only [wpX_stopAtCounter, wpX_isInstruction, wpX_readA, wpX_readB, wX_stopAtCounter_57, wX_stopAtCounter_71, wpX_isCell, sc_o15, f, forall_eq, nI_add, sc_m24, sc_m8, sc_m16, sc_10, true_implies, forall_const, not_true_eq_false, not_false_eq_true, false_implies, and_true, true_and, implies_true, and_self]
  exact k
theorem sc_r15 (h : sc_At t p n ja jb jd 15 a b im co cr ci rg sz pc) (k : postX (nI T, wa, wb, wc, co, cr, ci, rg, me, sz, upd pc t (a), st, upd rc t (rc t + 1), upd dg t (dg t * 31 + 7 * nI p + a))) : wpX_retire postX (nI T, wa, wb, wc, co, cr, ci, rg, me, sz, pc, st, rc, dg) (nI t) := by
  have f := sc_fa h
  simp only [wpX_retire, wpX_readA, wpX_readB, wpX_nextCounter, wpX_result, wX_retire_185, wX_retire_121, wX_retire_162, sc_o15, f, forall_eq, nI_add, sc_m24, sc_m8, sc_m16, sc_10, true_implies, forall_const, not_true_eq_false, not_false_eq_true, false_implies, and_true, true_and, implies_true, and_self]
  exact k
theorem sc_x15 (h : sc_At t p n ja jb jd 15 a b im co cr ci rg sz pc) (k : postX (nI T, wa, wb, wc, co, cr, ci, rg, me, sz, upd pc t (a), st, upd rc t (rc t + 1), upd dg t (dg t * 31 + 7 * nI p + a))) : wpX_step postX (nI T, wa, wb, wc, co, cr, ci, rg, me, sz, pc, st, rc, dg) (nI t) := by
  unfold wpX_step
  dsimp only
  exact sc_p15 h  (br_t rfl (sc_r15 h  k))
theorem sc_y15 (h : sc_At t p n ja jb jd 15 a b im co cr ci rg sz pc) (k : postY (nI T, co, cr, ci, sz, rg, me, upd pc t (a), st, upd rc t (rc t + 1), upd dg t (dg t * 31 + 7 * nI p + a))) : wpY_step postY (nI T, co, cr, ci, sz, rg, me, pc, st, rc, dg) (nI t) := by
  have f := sc_fa h
  simp only [wpY_step, wY_step_150, wY_step_162, wY_step_182, wY_step_204, wY_step_221, wY_step_231, wY_step_241, wY_step_274, wY_step_286, wY_step_309, wY_step_339, wpY_written, sc_o15, f, forall_eq, nI_add, sc_m24, sc_m8, sc_m16, sc_10, true_implies, forall_const, not_true_eq_false, not_false_eq_true, false_implies, and_true, true_and, implies_true, and_self]
  exact k
end
end
section
section
variable {T t : Nat} {wa wb wc : Int32} {co cr ci sz : Nat → Int32}
theorem sc_step (J : sc_Inv T co sz) (ht : t < T) (rg me pc st rc dg : Nat → Int32) : ∃ rg' me' pc' st' rc' dg' : Nat → Int32, (∀ post : SX → Prop, post (nI T, wa, wb, wc, co, cr, ci, rg', me', sz, pc', st', rc', dg') → wpX_step post (nI T, wa, wb, wc, co, cr, ci, rg, me, sz, pc, st, rc, dg) (nI t)) ∧ (∀ post : SY → Prop, post (nI T, co, cr, ci, sz, rg', me', pc', st', rc', dg') → wpY_step post (nI T, co, cr, ci, sz, rg, me, pc, st, rc, dg) (nI t)) := by
  have h4 : t < 4 := by have := J.1; omega
  have hcl : (nI t).toNatClampNeg = t := nI_clamp (by omega)
  have hin : vp_in (nI t) 4 := vp_in_nI h4 (by decide)
  obtain ⟨n, hn, en⟩ := J.2.2 t
  rcases pk_ix (pc t) (n := n) (by omega) with hb | hb | ⟨p, hp, ep⟩
  · refine ⟨rg, me, pc, upd st t 4, rc, dg, fun post k => ?_, fun post k => ?_⟩
    · simp only [wpX_step, wpX_stopAtCounter, wpX_isInstruction, hcl, hin, hb, sc_40, forall_eq, true_implies, forall_const, not_true_eq_false, not_false_eq_true, false_implies, and_true, true_and, implies_true, and_self]
      exact k
    · simp only [wpY_step, hcl, hin, hb, forall_eq, true_implies, forall_const, not_true_eq_false, not_false_eq_true, false_implies, and_true, true_and, implies_true, and_self]
      exact k
  · have hb0 : ¬ pc t < 0 := sc_pn hb (by omega)
    have hb1 : ¬ pc t < nI n := sc_nl hb
    refine ⟨rg, me, pc, upd st t 4, rc, dg, fun post k => ?_, fun post k => ?_⟩
    · simp only [wpX_step, wpX_stopAtCounter, wpX_isInstruction, hcl, hin, hb, hb0, en, sc_40, forall_eq, true_implies, forall_const, not_true_eq_false, not_false_eq_true, false_implies, and_true, true_and, implies_true, and_self]
      exact k
    · simp only [wpY_step, hcl, hin, hb0, hb1, en, forall_eq, true_implies, forall_const, not_true_eq_false, not_false_eq_true, false_implies, and_true, true_and, implies_true, and_self]
      exact k
  · obtain ⟨ja, hja, ea⟩ := sc_a7 (cr (t * 24 + p) >>> ((3 : Int32) &&& 31))
    obtain ⟨jb, hjb, eb⟩ := sc_a7 (cr (t * 24 + p) >>> ((6 : Int32) &&& 31))
    obtain ⟨jd, hjd, ed⟩ := sc_a7 (cr (t * 24 + p))
    have A : ∀ o : Int32, co (t * 24 + p) = o → sc_At t p n ja jb jd o (rg (t * 8 + ja)) (rg (t * 8 + jb)) (ci (t * 24 + p)) co cr ci rg sz pc := fun o eo => ⟨h4, hp, hn, hja, hjb, hjd, ep, en, eo, ea, eb, ed, rfl, rfl, rfl⟩
    obtain ⟨o, ho, eo⟩ := J.2.1 (t * 24 + p)
    have ho' : o = 0 ∨ o = 1 ∨ o = 2 ∨ o = 3 ∨ o = 4 ∨ o = 5 ∨ o = 6 ∨ o = 7 ∨ o = 8 ∨ o = 9 ∨ o = 10 ∨ o = 11 ∨ o = 12 ∨ o = 13 ∨ o = 14 ∨ o = 15 := by omega
    rcases ho' with rfl | rfl | rfl | rfl | rfl | rfl | rfl | rfl | rfl | rfl | rfl | rfl | rfl | rfl | rfl | rfl
    · have h := A 0 eo
      exact ⟨_, _, _, _, _, _, fun post k => sc_x0 h  k, fun post k => sc_y0 h  k⟩
    · have h := A 1 eo
      exact ⟨_, _, _, _, _, _, fun post k => sc_x1 h  k, fun post k => sc_y1 h  k⟩
    · have h := A 2 eo
      exact ⟨_, _, _, _, _, _, fun post k => sc_x2 h  k, fun post k => sc_y2 h  k⟩
    · have h := A 3 eo
      exact ⟨_, _, _, _, _, _, fun post k => sc_x3 h  k, fun post k => sc_y3 h  k⟩
    · have h := A 4 eo
      exact ⟨_, _, _, _, _, _, fun post k => sc_x4 h  k, fun post k => sc_y4 h  k⟩
    · have h := A 5 eo
      by_cases z : rg (t * 8 + jb) = 0
      · exact ⟨_, _, _, _, _, _, fun post k => sc_x5z h z k, fun post k => sc_y5z h z k⟩
      · exact ⟨_, _, _, _, _, _, fun post k => sc_x5 h z k, fun post k => sc_y5 h z k⟩
    · have h := A 6 eo
      exact ⟨_, _, _, _, _, _, fun post k => sc_x6 h  k, fun post k => sc_y6 h  k⟩
    · have h := A 7 eo
      exact ⟨_, _, _, _, _, _, fun post k => sc_x7 h  k, fun post k => sc_y7 h  k⟩
    · have h := A 8 eo
      exact ⟨_, _, _, _, _, _, fun post k => sc_x8 h  k, fun post k => sc_y8 h  k⟩
    · have h := A 9 eo
      exact ⟨_, _, _, _, _, _, fun post k => sc_x9 h  k, fun post k => sc_y9 h  k⟩
    · have h := A 10 eo
      rcases pk_ix (rg (t * 8 + ja) + ci (t * 24 + p)) (n := 16) (by decide) with z | z | ⟨q, hq, z⟩
      · exact ⟨_, _, _, _, _, _, fun post k => sc_x10n h z k, fun post k => sc_y10n h z k⟩
      · exact ⟨_, _, _, _, _, _, fun post k => sc_x10m h (sc_pn z (by decide)) z (sc_16n15 z) k, fun post k => sc_y10m h (sc_pn z (by decide)) z (sc_16n15 z) k⟩
      · exact ⟨_, _, _, _, _, _, fun post k => sc_x10 h hq z k, fun post k => sc_y10 h hq z k⟩
    · have h := A 11 eo
      rcases pk_ix (rg (t * 8 + ja) + ci (t * 24 + p)) (n := 16) (by decide) with z | z | ⟨q, hq, z⟩
      · exact ⟨_, _, _, _, _, _, fun post k => sc_x11n h z k, fun post k => sc_y11n h z k⟩
      · exact ⟨_, _, _, _, _, _, fun post k => sc_x11m h (sc_pn z (by decide)) z (sc_16n15 z) k, fun post k => sc_y11m h (sc_pn z (by decide)) z (sc_16n15 z) k⟩
      · exact ⟨_, _, _, _, _, _, fun post k => sc_x11 h hq z k, fun post k => sc_y11 h hq z k⟩
    · have h := A 12 eo
      by_cases z : rg (t * 8 + ja) = rg (t * 8 + jb)
      · exact ⟨_, _, _, _, _, _, fun post k => sc_x12e h z k, fun post k => sc_y12e h z k⟩
      · exact ⟨_, _, _, _, _, _, fun post k => sc_x12n h z k, fun post k => sc_y12n h z k⟩
    · have h := A 13 eo
      by_cases z : rg (t * 8 + jb) ≤ rg (t * 8 + ja)
      · exact ⟨_, _, _, _, _, _, fun post k => sc_x13n h z k, fun post k => sc_y13n h z k⟩
      · exact ⟨_, _, _, _, _, _, fun post k => sc_x13l h z k, fun post k => sc_y13l h z k⟩
    · have h := A 14 eo
      exact ⟨_, _, _, _, _, _, fun post k => sc_x14 h  k, fun post k => sc_y14 h  k⟩
    · have h := A 15 eo
      exact ⟨_, _, _, _, _, _, fun post k => sc_x15 h  k, fun post k => sc_y15 h  k⟩
theorem sc_idle {rg me pc st rc dg : Nat → Int32} {x2 bf : Int32} (h4 : t < 4) (post : Int32 → SY → Prop) : ∀ d k : Nat, k + d = 40 → ((∀ j, k ≤ j → j < 40 → x2 ≤ nI j) ∨ ¬ st t = 0) → post (rc (nI t).toNatClampNeg - bf) (nI T, co, cr, ci, sz, rg, me, pc, st, rc, dg) → wY_steps_10 post (nI t) x2 bf (d + 1) (nI k) (nI T) co cr ci sz rg me pc st rc dg := by
  intro d
  induction d with
  | zero =>
    intro k hk _ hp
    have hk' : k = 40 := by omega
    subst hk'
    exact br_t (nI_le (a := 40) (b := 40) (Nat.le_refl _) (by decide)) ⟨vp_in_nI h4 (by decide), hp⟩
  | succ d ih =>
    intro k hk hi hp
    have hnk : ¬ (40 : Int32) ≤ nI k := nI_ge (b := 40) (by omega) (by decide)
    have hi' : (∀ j, k + 1 ≤ j → j < 40 → x2 ≤ nI j) ∨ ¬ st t = 0 := hi.imp (fun f j a b => f j (by omega) b) id
    refine br_f hnk (br_c (fun _ => nm_r (nI_1 k) (ih (k + 1) (by omega) hi' hp)) (fun hx => ⟨vp_in_nI h4 (by decide), br_f ?_ (nm_r (nI_1 k) (ih (k + 1) (by omega) hi' hp))⟩))
    rw [nI_clamp (by omega)]
    exact hi.resolve_left (fun f => hx (f k (Nat.le_refl _) (by omega)))
theorem sc_lock {x2 bf : Int32} {M : Nat} (J : sc_Inv T co sz) (ht : t < T) (hM : M ≤ 40) (hx : ∀ j, j < 40 → (x2 ≤ nI j ↔ M ≤ j)) : ∀ d k : Nat, k + d = 40 → ∀ rg me pc st rc dg : Nat → Int32, ∃ rg' me' pc' st' rc' dg' : Nat → Int32, (∀ post : Int32 → SX → Prop, post (rc' (nI t).toNatClampNeg - bf) (nI T, wa, wb, wc, co, cr, ci, rg', me', sz, pc', st', rc', dg') → wX_makeSteps_19 post (nI t) (nI M) bf (d + 1) (nI k) (nI T) wa wb wc co cr ci rg me sz pc st rc dg) ∧ (∀ post : Int32 → SY → Prop, post (rc' (nI t).toNatClampNeg - bf) (nI T, co, cr, ci, sz, rg', me', pc', st', rc', dg') → wY_steps_10 post (nI t) x2 bf (d + 1) (nI k) (nI T) co cr ci sz rg me pc st rc dg) := by
  have h4 : t < 4 := by have := J.1; omega
  have hcl : (nI t).toNatClampNeg = t := nI_clamp (by omega)
  have hin : vp_in (nI t) 4 := vp_in_nI h4 (by decide)
  intro d
  induction d with
  | zero =>
    intro k hk rg me pc st rc dg
    refine ⟨rg, me, pc, st, rc, dg, fun post hp => ?_, fun post hp => sc_idle h4 post 0 k hk (Or.inl fun j a b => by omega) hp⟩
    exact br_t (nI_le (by omega) (by omega)) ⟨hin, hp⟩
  | succ d ih =>
    intro k hk rg me pc st rc dg
    by_cases hMk : M ≤ k
    · refine ⟨rg, me, pc, st, rc, dg, fun post hp => ?_, fun post hp => sc_idle h4 post (d + 1) k hk (Or.inl fun j a b => (hx j b).mpr (by omega)) hp⟩
      exact br_t (nI_le hMk (by omega)) ⟨hin, hp⟩
    · by_cases hs : st t = 0
      · obtain ⟨rg1, me1, pc1, st1, rc1, dg1, sx, sy⟩ := sc_step (wa := wa) (wb := wb) (wc := wc) (cr := cr) (ci := ci) J ht rg me pc st rc dg
        obtain ⟨rg2, me2, pc2, st2, rc2, dg2, ix, iy⟩ := ih (k + 1) (by omega) rg1 me1 pc1 st1 rc1 dg1
        refine ⟨rg2, me2, pc2, st2, rc2, dg2, fun post hp => ?_, fun post hp => ?_⟩
        · refine br_f (nI_ge (by omega) (by omega)) ⟨hin, br_t ?_ (sx _ (nm_r (nI_1 k) (ix post hp)))⟩
          rw [hcl]; exact hs
        · refine br_f (nI_ge (b := 40) (by omega) (by decide)) (br_f (fun z => hMk ((hx k (by omega)).mp z)) ⟨hin, br_t ?_ (sy _ (nm_r (nI_1 k) (iy post hp)))⟩)
          rw [hcl]; exact hs
      · refine ⟨rg, me, pc, st, rc, dg, fun post hp => ?_, fun post hp => sc_idle h4 post (d + 1) k hk (Or.inr hs) hp⟩
        refine br_f (nI_ge (by omega) (by omega)) ⟨hin, br_f ?_ ⟨hin, hp⟩⟩
        rw [hcl]; exact hs
theorem sc_M (x : Int32) : ∃ M : Nat, M ≤ 40 ∧ (∀ j, j < 40 → (x ≤ nI j ↔ M ≤ j)) ∧ ∀ post : Int32 → Prop, post (nI M) → wpX_clamp post x 0 40 := by
  by_cases h0 : 0 ≤ x
  · obtain ⟨m, hm, rfl⟩ := nI_of (x := x) (Int32.not_lt.mpr h0)
    by_cases h40 : m ≤ 40
    · exact ⟨m, h40, fun j hj => nI_leI hm (by omega), fun post hp => br_t h0 (br_t (nI_le (b := 40) h40 (by decide)) hp)⟩
    · refine ⟨40, by omega, fun j hj => ⟨fun z => ?_, fun z => by omega⟩, fun post hp => br_t h0 (br_f (nI_ge (a := 40) (by omega) hm) hp)⟩
      rw [nI_leI hm (by omega)] at z
      omega
  · refine ⟨0, by omega, fun j hj => ⟨fun _ => Nat.zero_le _, fun _ => ?_⟩, fun post hp => br_f h0 hp⟩
    exact Int32.le_of_lt (Int32.lt_of_lt_of_le (Int32.not_le.mp h0) (nI_pos' (by omega)))
theorem sc_steps (J : sc_Inv T co sz) (ht : t < T) (x : Int32) (rg me pc st rc dg : Nat → Int32) : ∃ (r : Int32) (rg' me' pc' st' rc' dg' : Nat → Int32), (∀ post : Int32 → SX → Prop, post r (nI T, wa, wb, wc, co, cr, ci, rg', me', sz, pc', st', rc', dg') → wpX_makeSteps post (nI T, wa, wb, wc, co, cr, ci, rg, me, sz, pc, st, rc, dg) (nI t) x) ∧ (∀ post : Int32 → SY → Prop, post r (nI T, co, cr, ci, sz, rg', me', pc', st', rc', dg') → wpY_steps post (nI T, co, cr, ci, sz, rg, me, pc, st, rc, dg) (nI t) x) := by
  have h4 : t < 4 := by have := J.1; omega
  have hin : vp_in (nI t) 4 := vp_in_nI h4 (by decide)
  obtain ⟨M, hM, hx, hc⟩ := sc_M x
  obtain ⟨rg1, me1, pc1, st1, rc1, dg1, ix, iy⟩ := sc_lock (wa := wa) (wb := wb) (wc := wc) (cr := cr) (ci := ci) (bf := rc (nI t).toNatClampNeg) J ht hM hx 40 0 rfl rg me pc st rc dg
  refine ⟨rc1 (nI t).toNatClampNeg - rc (nI t).toNatClampNeg, rg1, me1, pc1, st1, rc1, dg1, fun post hp => ?_, fun post hp => ?_⟩
  · unfold wpX_makeSteps
    dsimp only
    exact hc _ ⟨hin, nm_e ⟨41, ix post hp⟩⟩
  · exact ⟨hin, nm_e ⟨41, iy post hp⟩⟩
theorem sc_run (J : sc_Inv T co sz) (x : Int32) : ∀ d i : Nat, i + d = T → ∀ (s : Int32) (rg me pc st rc dg : Nat → Int32), ∃ (r : Int32) (rg' me' pc' st' rc' dg' : Nat → Int32), (∀ post : Int32 → SX → Prop, post r (nI T, wa, wb, wc, co, cr, ci, rg', me', sz, pc', st', rc', dg') → wX_run_4 post x (d + 1) s (nI i) (nI T) wa wb wc co cr ci rg me sz pc st rc dg) ∧ (∀ post : Int32 → SY → Prop, post r (nI T, co, cr, ci, sz, rg', me', pc', st', rc', dg') → wY_run_4 post x (d + 1) s (nI i) (nI T) co cr ci sz rg me pc st rc dg) := by
  have hT := J.1
  intro d
  induction d with
  | zero =>
    intro i hi s rg me pc st rc dg
    exact ⟨s, rg, me, pc, st, rc, dg, fun post hp => br_t (nI_le (by omega) (by omega)) hp, fun post hp => br_t (nI_le (by omega) (by omega)) hp⟩
  | succ d ih =>
    intro i hi s rg me pc st rc dg
    obtain ⟨r1, rg1, me1, pc1, st1, rc1, dg1, sx, sy⟩ := sc_steps (t := i) (wa := wa) (wb := wb) (wc := wc) (cr := cr) (ci := ci) J (by omega) x rg me pc st rc dg
    obtain ⟨r2, rg2, me2, pc2, st2, rc2, dg2, ix, iy⟩ := ih (i + 1) (by omega) (s + r1) rg1 me1 pc1 st1 rc1 dg1
    refine ⟨r2, rg2, me2, pc2, st2, rc2, dg2, fun post hp => ?_, fun post hp => ?_⟩
    · exact br_f (nI_ge (by omega) (by omega)) (sx _ (nm_e (nm_r (nI_1 i) (ix post hp))))
    · exact br_f (nI_ge (by omega) (by omega)) (sy _ (nm_e (nm_r (nI_1 i) (iy post hp))))
end
end
section
section
variable {T t : Nat} {wa wb wc : Int32} {co cr ci rg me sz pc st rc dg : Nat → Int32} {postX : Int32 → SX → Prop} {postY : Int32 → SY → Prop}
/-- the array with noughts at b, b + 1, .. , i of them -/
def sc_z (a : Nat → Int32) (b : Nat) : Nat → Nat → Int32
  | 0 => a
  | i + 1 => upd (sc_z a b i) (b + i) 0
theorem sc_e8 (h4 : t < 4) {i : Nat} (hi : i < 8) : vp_in (nI t * 8 + nI i) 32 ∧ (nI t * 8 + nI i).toNatClampNeg = t * 8 + i := by
  rw [sc_m8, nI_add]
  exact ⟨vp_in_nI (by omega) (by decide), nI_clamp (by omega)⟩
theorem sc_e16 (h4 : t < 4) {i : Nat} (hi : i < 16) : vp_in (nI t * 16 + nI i) 64 ∧ (nI t * 16 + nI i).toNatClampNeg = t * 16 + i := by
  rw [sc_m16, nI_add]
  exact ⟨vp_in_nI (by omega) (by decide), nI_clamp (by omega)⟩
theorem sc_u {f : Nat → Int32} {x : Int32} (h4 : t < 4) : upd f (nI t).toNatClampNeg x = upd f t x := by rw [nI_clamp (by omega)]
theorem sc_i4 (h4 : t < 4) : vp_in (nI t) 4 := vp_in_nI h4 (by decide)
theorem sc_x45 (h4 : t < 4) (k : postX 0 (nI T, wa, wb, wc, co, cr, ci, rg, sc_z me (t * 16) 16, sz, upd pc t 0, upd st t 0, upd rc t 0, upd dg t 0)) : ∀ d i : Nat, i + d = 16 → wX_reset_45 postX (nI t) (nI T) wa wb wc (d + 1) (nI i) co cr ci rg (sc_z me (t * 16) i) sz pc st rc dg := by
  intro d
  induction d with
  | zero =>
    intro i hi
    have e : i = 16 := by omega
    subst e
    exact br_t (nI_le (a := 16) (b := 16) (Nat.le_refl _) (by decide)) ⟨sc_i4 h4, nm_r (sc_u h4) ⟨sc_i4 h4, nm_r (sc_u h4) ⟨sc_i4 h4, nm_r (sc_u h4) ⟨sc_i4 h4, nm_r (sc_u h4) k⟩⟩⟩⟩
  | succ d ih =>
    intro i hi
    have e := sc_e16 h4 (i := i) (by omega)
    exact br_f (sc_n16 (by omega)) ⟨e.1, nm_r (e' := sc_z me (t * 16) (i + 1)) (by rw [e.2, sc_z]) (nm_r (nI_1 i) (ih (i + 1) (by omega)))⟩
theorem sc_x19 (h4 : t < 4) (k : ∃ n45 : Nat, wX_reset_45 postX (nI t) (nI T) wa wb wc n45 0 co cr ci (sc_z rg (t * 8) 8) me sz pc st rc dg) : ∀ d i : Nat, i + d = 8 → wX_reset_19 postX (nI t) (nI T) wa wb wc (d + 1) (nI i) co cr ci (sc_z rg (t * 8) i) me sz pc st rc dg := by
  intro d
  induction d with
  | zero =>
    intro i hi
    have e : i = 8 := by omega
    subst e
    exact br_t (nI_le (a := 8) (b := 8) (Nat.le_refl _) (by decide)) k
  | succ d ih =>
    intro i hi
    have e := sc_e8 h4 (i := i) (by omega)
    exact br_f (sc_n8 (by omega)) ⟨e.1, nm_r (e' := sc_z rg (t * 8) (i + 1)) (by rw [e.2, sc_z]) (nm_r (nI_1 i) (ih (i + 1) (by omega)))⟩
theorem sc_y38 (h4 : t < 4) (k : postY 0 (nI T, co, cr, ci, upd sz t 0, rg, sc_z me (t * 16) 16, upd pc t 0, upd st t 0, upd rc t 0, upd dg t 0)) : ∀ d i : Nat, i + d = 16 → wY_reset_38 postY (nI t) (nI T) (d + 1) (nI i) co cr ci sz rg (sc_z me (t * 16) i) pc st rc dg := by
  intro d
  induction d with
  | zero =>
    intro i hi
    have e : i = 16 := by omega
    subst e
    exact br_t (nI_le (a := 16) (b := 16) (Nat.le_refl _) (by decide)) ⟨sc_i4 h4, nm_r (sc_u h4) ⟨sc_i4 h4, nm_r (sc_u h4) ⟨sc_i4 h4, nm_r (sc_u h4) ⟨sc_i4 h4, nm_r (sc_u h4) ⟨sc_i4 h4, nm_r (sc_u h4) k⟩⟩⟩⟩⟩
  | succ d ih =>
    intro i hi
    have e := sc_e16 h4 (i := i) (by omega)
    exact br_f (sc_n16 (by omega)) ⟨e.1, nm_r (e' := sc_z me (t * 16) (i + 1)) (by rw [e.2, sc_z]) (nm_r (nI_1 i) (ih (i + 1) (by omega)))⟩
theorem sc_y12 (h4 : t < 4) (k : ∃ n38 : Nat, wY_reset_38 postY (nI t) (nI T) n38 0 co cr ci sz (sc_z rg (t * 8) 8) me pc st rc dg) : ∀ d i : Nat, i + d = 8 → wY_reset_12 postY (nI t) (nI T) (d + 1) (nI i) co cr ci sz (sc_z rg (t * 8) i) me pc st rc dg := by
  intro d
  induction d with
  | zero =>
    intro i hi
    have e : i = 8 := by omega
    subst e
    exact br_t (nI_le (a := 8) (b := 8) (Nat.le_refl _) (by decide)) k
  | succ d ih =>
    intro i hi
    have e := sc_e8 h4 (i := i) (by omega)
    exact br_f (sc_n8 (by omega)) ⟨e.1, nm_r (e' := sc_z rg (t * 8) (i + 1)) (by rw [e.2, sc_z]) (nm_r (nI_1 i) (ih (i + 1) (by omega)))⟩
end
theorem i_vc_reset {k : Nat} {u : SX} {v : SY} (I : i_Rel k u v) (hk : k + 5 ≤ 2564) (v1 : Int32) : wpX_reset (fun r u' => wpY_reset (fun r' v' => r' = r ∧ i_Rel (k + 5) u' v') v v1) u v1 := by
  obtain ⟨T, wa, wb, wc, co, cr, ci, rg, me, sz, pc, st, rc, dg, rfl, rfl, J⟩ := I
  unfold wpX_reset wpY_reset
  dsimp only
  rcases sc_th J v1 with hb | ⟨t, ht, h4, rfl⟩
  · exact sc_xF hb (br_t rfl (sc_yF hb (br_t rfl ⟨rfl, sc_rel J⟩)))
  · refine sc_xT ht J.1 (br_f sc_10 ⟨sc_i4 h4, nm_r (sc_u h4) ⟨9, sc_x19 h4 ⟨17, sc_x45 h4 ?_ 16 0 rfl⟩ 8 0 rfl⟩⟩)
    exact sc_yT ht J.1 (br_f sc_10 ⟨9, sc_y12 h4 ⟨17, sc_y38 h4 ⟨rfl, sc_rel (sc_iS J t 0 (by omega))⟩ 16 0 rfl⟩ 8 0 rfl⟩)
end
section
section
variable {T t n j : Nat} {wa wb wc x : Int32} {co cr ci rg me sz pc st rc dg : Nat → Int32} {post : Int32 → Prop}
theorem sc_ix8 (x : Int32) : (x < 0 ∨ (8 : Int32) ≤ x) ∨ ∃ j : Nat, j < 8 ∧ x = nI j := by
  rcases pk_ix x (n := 8) (by decide) with h | h | h
  · exact Or.inl (Or.inl h)
  · exact Or.inl (Or.inr h)
  · exact Or.inr h
theorem sc_ix16 (x : Int32) : (x < 0 ∨ (16 : Int32) ≤ x) ∨ ∃ j : Nat, j < 16 ∧ x = nI j := by
  rcases pk_ix x (n := 16) (by decide) with h | h | h
  · exact Or.inl (Or.inl h)
  · exact Or.inl (Or.inr h)
  · exact Or.inr h
theorem sc_rgT (hj : j < 8) (h : post 1) : wpX_isRegister post (nI j) := br_f (nI_pos (by omega)) (br_f (sc_n8 hj) h)
theorem sc_rgF (hb : x < 0 ∨ (8 : Int32) ≤ x) (h : post 0) : wpX_isRegister post x := br_c (fun _ => h) (fun z => br_t (hb.resolve_left z) h)
theorem sc_clT (hj : j < 16) (h : post 1) : wpX_isCell post (nI j) := br_f (nI_pos (by omega)) (br_f (sc_n16 hj) h)
theorem sc_clF (hb : x < 0 ∨ (16 : Int32) ≤ x) (h : post 0) : wpX_isCell post x := br_c (fun _ => h) (fun z => br_t (hb.resolve_left z) h)
theorem sc_inT (h4 : t < 4) (e : sz (nI t).toNatClampNeg = nI n) (hj : j < n) (hn : n ≤ 24) (h : post 1) : wpX_isInstruction post (nI T, wa, wb, wc, co, cr, ci, rg, me, sz, pc, st, rc, dg) (nI t) (nI j) := by
  refine br_f (nI_pos (by omega)) ⟨sc_i4 h4, br_f ?_ h⟩
  rw [e]
  exact nI_ge hj (by omega)
theorem sc_inF (h4 : t < 4) (e : sz (nI t).toNatClampNeg = nI n) (hb : x < 0 ∨ nI n ≤ x) (h : post 0) : wpX_isInstruction post (nI T, wa, wb, wc, co, cr, ci, rg, me, sz, pc, st, rc, dg) (nI t) x := by
  refine br_c (fun _ => h) (fun z => ⟨sc_i4 h4, br_t ?_ h⟩)
  rw [e]
  exact hb.resolve_left z
end
theorem i_up {k : Nat} {u : SX} {v : SY} (h : i_Rel k u v) : i_Rel (k + 5) u v := h
theorem sc_any {post : Int32 → Prop} {x lo hi : Int32} (h : ∀ r, post r) : wpX_clamp post x lo hi := br_c (fun _ => br_c (fun _ => h _) (fun _ => h _)) (fun _ => h _)
theorem i_vc0 (k0 : Int32) (k1 : Int32) (k2 : Int32) (k3 : Int32) : wpX_init (fun u => wpY_init (fun v => i_Rel 4 u v) k0 k1 k2 k3) k0 k1 k2 k3 := by
  unfold wpX_init wpY_init
  by_cases h1 : 1 ≤ k0
  · by_cases h4 : k0 ≤ 4
    · have h0 : ¬ k0 < 0 := fun z => absurd (Int32.lt_of_le_of_lt h1 z) (by decide)
      obtain ⟨T, hT, rfl⟩ := nI_of2 (M := 4) (n := 4) (by decide) h0 h4
      exact br_t h1 (br_t h4 (sc_any fun _ => sc_any fun _ => sc_any fun _ => br_t h1 (br_t h4 (sc_rel (sc_i0 hT)))))
    · exact br_t h1 (br_f h4 (sc_any fun _ => sc_any fun _ => sc_any fun _ => br_t h1 (br_f h4 (sc_rel (T := 4) (sc_i0 (by decide))))))
  · exact br_f h1 (sc_any fun _ => sc_any fun _ => sc_any fun _ => br_f h1 (br_t (by decide) (sc_rel (T := 1) (sc_i0 (by decide)))))
theorem i_vc_emit {k : Nat} {u : SX} {v : SY} (I : i_Rel k u v) (hk : k + 5 ≤ 2564) (v1 : Int32) (v2 : Int32) (v3 : Int32) (v4 : Int32) : wpX_emit (fun r u' => wpY_emit (fun r' v' => r' = r ∧ i_Rel (k + 5) u' v') v v1 v2 v3 v4) u v1 v2 v3 v4 := by
  obtain ⟨T, wa, wb, wc, co, cr, ci, rg, me, sz, pc, st, rc, dg, rfl, rfl, J⟩ := I
  unfold wpX_emit wpY_emit
  dsimp only
  rcases sc_th J v1 with hb | ⟨t, ht, h4, rfl⟩
  · exact sc_xF hb (br_t rfl (sc_yF hb (br_t rfl ⟨rfl, sc_rel J⟩)))
  · refine sc_xT ht J.1 (br_f sc_10 ?_)
    by_cases o0 : v2 < 0
    · exact br_t o0 (sc_yT ht J.1 (br_f sc_10 (br_t o0 ⟨rfl, sc_rel J⟩)))
    · refine br_f o0 ?_
      by_cases o1 : v2 ≤ 15
      · refine br_t o1 ?_
        by_cases r0 : v3 < 0
        · exact br_t r0 (sc_yT ht J.1 (br_f sc_10 (br_f o0 (br_t o1 (br_t r0 ⟨rfl, sc_rel J⟩)))))
        · refine br_f r0 ?_
          by_cases r1 : v3 ≤ 511
          · obtain ⟨o, ho, rfl⟩ : ∃ o : Nat, o < 16 ∧ v2 = nI o := by
              rcases sc_ix16 v2 with (h | h) | h
              · exact absurd h o0
              · exact absurd o1 (sc_16n15 h)
              · exact h
            obtain ⟨n, hn, e⟩ := J.2.2 (nI t).toNatClampNeg
            have hi := sc_i4 h4
            refine br_t r1 ⟨hi, nm_r e ?_⟩
            by_cases hf : n < 24
            · have h96 : vp_in (nI t * 24 + nI n) 96 := by
                rw [sc_m24, nI_add]
                exact vp_in_nI (by omega) (by decide)
              refine br_t (sc_lt24 hf) (nm_e ⟨h96, nm_e ⟨h96, nm_e ⟨h96, nm_e ⟨hi, nm_e ?_⟩⟩⟩⟩)
              refine sc_yT ht J.1 (br_f sc_10 (br_f o0 (br_t o1 (br_f r0 (br_t r1 ⟨hi, nm_r e (br_t (sc_lt24 hf) ⟨h96, nm_e ⟨h96, nm_e ⟨h96, nm_e ⟨hi, nm_e ⟨rfl, ?_⟩⟩⟩⟩⟩)⟩)))))
              rw [nI_1]
              exact sc_rel (sc_iS (sc_iO J _ o ho) _ (n + 1) (by omega))
            · have hq := sc_nlt24 (n := n) (by omega) hn
              exact br_f hq (sc_yT ht J.1 (br_f sc_10 (br_f o0 (br_t o1 (br_f r0 (br_t r1 ⟨hi, nm_r e (br_f hq ⟨rfl, sc_rel J⟩)⟩))))))
          · exact br_f r1 (sc_yT ht J.1 (br_f sc_10 (br_f o0 (br_t o1 (br_f r0 (br_f r1 ⟨rfl, sc_rel J⟩))))))
      · exact br_f o1 (sc_yT ht J.1 (br_f sc_10 (br_f o0 (br_f o1 ⟨rfl, sc_rel J⟩))))
theorem i_vc_retarget {k : Nat} {u : SX} {v : SY} (I : i_Rel k u v) (hk : k + 5 ≤ 2564) (v1 : Int32) (v2 : Int32) (v3 : Int32) : wpX_retarget (fun r u' => wpY_retarget (fun r' v' => r' = r ∧ i_Rel (k + 5) u' v') v v1 v2 v3) u v1 v2 v3 := by
  obtain ⟨T, wa, wb, wc, co, cr, ci, rg, me, sz, pc, st, rc, dg, rfl, rfl, J⟩ := I
  unfold wpX_retarget wpY_retarget
  dsimp only
  rcases sc_th J v1 with hb | ⟨t, ht, h4, rfl⟩
  · exact sc_xF hb (br_t rfl (sc_yF hb (br_t rfl ⟨rfl, sc_rel J⟩)))
  · refine sc_xT ht J.1 (br_f sc_10 ?_)
    obtain ⟨n, hn, e⟩ := J.2.2 (nI t).toNatClampNeg
    have hi := sc_i4 h4
    rcases pk_ix v2 (n := n) (by omega) with h | h | ⟨j, hj, rfl⟩
    · exact sc_inF h4 e (Or.inl h) (br_t rfl (sc_yT ht J.1 (br_f sc_10 (br_t h ⟨rfl, sc_rel J⟩))))
    · refine sc_inF h4 e (Or.inr h) (br_t rfl (sc_yT ht J.1 (br_f sc_10 (br_f (sc_pn h (by omega)) ⟨hi, br_f ?_ ⟨rfl, sc_rel J⟩⟩))))
      rw [e]
      exact sc_nl h
    · have h96 : vp_in (nI t * 24 + nI j) 96 := by
        rw [sc_m24, nI_add]
        exact vp_in_nI (by omega) (by decide)
      refine sc_inT h4 e hj hn (br_f sc_10 ⟨h96, nm_e (sc_yT ht J.1 (br_f sc_10 (br_f (nI_pos (by omega)) ⟨hi, br_t ?_ ⟨h96, nm_e ⟨rfl, sc_rel J⟩⟩⟩)))⟩)
      rw [e]
      exact nI_lt hj (by omega)
theorem i_vc_restart {k : Nat} {u : SX} {v : SY} (I : i_Rel k u v) (hk : k + 5 ≤ 2564) (v1 : Int32) (v2 : Int32) : wpX_restart (fun r u' => wpY_restart (fun r' v' => r' = r ∧ i_Rel (k + 5) u' v') v v1 v2) u v1 v2 := by
  obtain ⟨T, wa, wb, wc, co, cr, ci, rg, me, sz, pc, st, rc, dg, rfl, rfl, J⟩ := I
  unfold wpX_restart wpY_restart
  dsimp only
  rcases sc_th J v1 with hb | ⟨t, ht, h4, rfl⟩
  · exact sc_xF hb (br_t rfl (sc_yF hb (br_t rfl ⟨rfl, sc_rel J⟩)))
  · have hi := sc_i4 h4
    exact sc_xT ht J.1 (br_f sc_10 ⟨hi, nm_e ⟨hi, nm_e (sc_yT ht J.1 (br_f sc_10 ⟨hi, nm_e ⟨hi, nm_e ⟨rfl, sc_rel J⟩⟩⟩))⟩⟩)
theorem i_vc_setReg {k : Nat} {u : SX} {v : SY} (I : i_Rel k u v) (hk : k + 5 ≤ 2564) (v1 : Int32) (v2 : Int32) (v3 : Int32) : wpX_setReg (fun r u' => wpY_setReg (fun r' v' => r' = r ∧ i_Rel (k + 5) u' v') v v1 v2 v3) u v1 v2 v3 := by
  obtain ⟨T, wa, wb, wc, co, cr, ci, rg, me, sz, pc, st, rc, dg, rfl, rfl, J⟩ := I
  unfold wpX_setReg wpY_setReg
  dsimp only
  rcases sc_th J v1 with hb | ⟨t, ht, h4, rfl⟩
  · exact sc_xF hb (br_t rfl (sc_yF hb (br_t rfl ⟨rfl, sc_rel J⟩)))
  · refine sc_xT ht J.1 (br_f sc_10 ?_)
    rcases sc_ix8 v2 with hb | ⟨j, hj, rfl⟩
    · exact sc_rgF hb (br_t rfl (sc_yT ht J.1 (br_f sc_10 (br_c (fun _ => ⟨rfl, sc_rel J⟩) (fun z => br_f (sc_8n7 (hb.resolve_left z)) ⟨rfl, sc_rel J⟩)))))
    · have e := (sc_e8 h4 hj).1
      exact sc_rgT hj (br_f sc_10 ⟨e, nm_e (sc_yT ht J.1 (br_f sc_10 (br_f (nI_pos (by omega)) (br_t (sc_le7 hj) ⟨e, nm_e ⟨rfl, sc_rel J⟩⟩))))⟩)
theorem i_vc_setMem {k : Nat} {u : SX} {v : SY} (I : i_Rel k u v) (hk : k + 5 ≤ 2564) (v1 : Int32) (v2 : Int32) (v3 : Int32) : wpX_setMem (fun r u' => wpY_setMem (fun r' v' => r' = r ∧ i_Rel (k + 5) u' v') v v1 v2 v3) u v1 v2 v3 := by
  obtain ⟨T, wa, wb, wc, co, cr, ci, rg, me, sz, pc, st, rc, dg, rfl, rfl, J⟩ := I
  unfold wpX_setMem wpY_setMem
  dsimp only
  rcases sc_th J v1 with hb | ⟨t, ht, h4, rfl⟩
  · exact sc_xF hb (br_t rfl (sc_yF hb (br_t rfl ⟨rfl, sc_rel J⟩)))
  · refine sc_xT ht J.1 (br_f sc_10 ?_)
    rcases sc_ix16 v2 with hb | ⟨j, hj, rfl⟩
    · exact sc_clF hb (br_t rfl (sc_yT ht J.1 (br_f sc_10 (br_c (fun _ => ⟨rfl, sc_rel J⟩) (fun z => br_f (sc_16n15 (hb.resolve_left z)) ⟨rfl, sc_rel J⟩)))))
    · have e := (sc_e16 h4 hj).1
      exact sc_clT hj (br_f sc_10 ⟨e, nm_e (sc_yT ht J.1 (br_f sc_10 (br_f (nI_pos (by omega)) (br_t (sc_le15 hj) ⟨e, nm_e ⟨rfl, sc_rel J⟩⟩))))⟩)
theorem i_vc_reg {k : Nat} {u : SX} {v : SY} (I : i_Rel k u v) (hk : k + 5 ≤ 2564) (v1 : Int32) (v2 : Int32) : wpX_reg (fun r => wpY_reg (fun r' => r' = r ∧ i_Rel (k + 5) u v) v v1 v2) u v1 v2 := by
  obtain ⟨T, wa, wb, wc, co, cr, ci, rg, me, sz, pc, st, rc, dg, rfl, rfl, J⟩ := I
  unfold wpX_reg wpY_reg
  dsimp only
  rcases sc_th J v1 with hb | ⟨t, ht, h4, rfl⟩
  · exact sc_xF hb (br_t rfl (sc_yF hb (br_t rfl ⟨rfl, sc_rel J⟩)))
  · refine sc_xT ht J.1 (br_f sc_10 ?_)
    rcases sc_ix8 v2 with hb | ⟨j, hj, rfl⟩
    · exact sc_rgF hb (br_t rfl (sc_yT ht J.1 (br_f sc_10 (br_c (fun _ => ⟨rfl, sc_rel J⟩) (fun z => br_f (sc_8n7 (hb.resolve_left z)) ⟨rfl, sc_rel J⟩)))))
    · have e := (sc_e8 h4 hj).1
      exact sc_rgT hj (br_f sc_10 ⟨e, sc_yT ht J.1 (br_f sc_10 (br_f (nI_pos (by omega)) (br_t (sc_le7 hj) ⟨e, rfl, sc_rel J⟩)))⟩)
theorem i_vc_mem {k : Nat} {u : SX} {v : SY} (I : i_Rel k u v) (hk : k + 5 ≤ 2564) (v1 : Int32) (v2 : Int32) : wpX_mem (fun r => wpY_mem (fun r' => r' = r ∧ i_Rel (k + 5) u v) v v1 v2) u v1 v2 := by
  obtain ⟨T, wa, wb, wc, co, cr, ci, rg, me, sz, pc, st, rc, dg, rfl, rfl, J⟩ := I
  unfold wpX_mem wpY_mem
  dsimp only
  rcases sc_th J v1 with hb | ⟨t, ht, h4, rfl⟩
  · exact sc_xF hb (br_t rfl (sc_yF hb (br_t rfl ⟨rfl, sc_rel J⟩)))
  · refine sc_xT ht J.1 (br_f sc_10 ?_)
    rcases sc_ix16 v2 with hb | ⟨j, hj, rfl⟩
    · exact sc_clF hb (br_t rfl (sc_yT ht J.1 (br_f sc_10 (br_c (fun _ => ⟨rfl, sc_rel J⟩) (fun z => br_f (sc_16n15 (hb.resolve_left z)) ⟨rfl, sc_rel J⟩)))))
    · have e := (sc_e16 h4 hj).1
      exact sc_clT hj (br_f sc_10 ⟨e, sc_yT ht J.1 (br_f sc_10 (br_f (nI_pos (by omega)) (br_t (sc_le15 hj) ⟨e, rfl, sc_rel J⟩)))⟩)
theorem i_vc_pc {k : Nat} {u : SX} {v : SY} (I : i_Rel k u v) (hk : k + 5 ≤ 2564) (v1 : Int32) : wpX_pc (fun r => wpY_pc (fun r' => r' = r ∧ i_Rel (k + 5) u v) v v1) u v1 := by
  obtain ⟨T, wa, wb, wc, co, cr, ci, rg, me, sz, pc, st, rc, dg, rfl, rfl, J⟩ := I
  unfold wpX_pc wpY_pc
  dsimp only
  rcases sc_th J v1 with hb | ⟨t, ht, h4, rfl⟩
  · exact sc_xF hb (br_t rfl (sc_yF hb (br_t rfl ⟨rfl, sc_rel J⟩)))
  · exact sc_xT ht J.1 (br_f sc_10 ⟨sc_i4 h4, sc_yT ht J.1 (br_f sc_10 ⟨sc_i4 h4, rfl, sc_rel J⟩)⟩)
theorem i_vc_status {k : Nat} {u : SX} {v : SY} (I : i_Rel k u v) (hk : k + 5 ≤ 2564) (v1 : Int32) : wpX_status (fun r => wpY_status (fun r' => r' = r ∧ i_Rel (k + 5) u v) v v1) u v1 := by
  obtain ⟨T, wa, wb, wc, co, cr, ci, rg, me, sz, pc, st, rc, dg, rfl, rfl, J⟩ := I
  unfold wpX_status wpY_status
  dsimp only
  rcases sc_th J v1 with hb | ⟨t, ht, h4, rfl⟩
  · exact sc_xF hb (br_t rfl (sc_yF hb (br_t rfl ⟨rfl, sc_rel J⟩)))
  · exact sc_xT ht J.1 (br_f sc_10 ⟨sc_i4 h4, sc_yT ht J.1 (br_f sc_10 ⟨sc_i4 h4, rfl, sc_rel J⟩)⟩)
theorem i_vc_retired {k : Nat} {u : SX} {v : SY} (I : i_Rel k u v) (hk : k + 5 ≤ 2564) (v1 : Int32) : wpX_retired (fun r => wpY_retired (fun r' => r' = r ∧ i_Rel (k + 5) u v) v v1) u v1 := by
  obtain ⟨T, wa, wb, wc, co, cr, ci, rg, me, sz, pc, st, rc, dg, rfl, rfl, J⟩ := I
  unfold wpX_retired wpY_retired
  dsimp only
  rcases sc_th J v1 with hb | ⟨t, ht, h4, rfl⟩
  · exact sc_xF hb (br_t rfl (sc_yF hb (br_t rfl ⟨rfl, sc_rel J⟩)))
  · exact sc_xT ht J.1 (br_f sc_10 ⟨sc_i4 h4, sc_yT ht J.1 (br_f sc_10 ⟨sc_i4 h4, rfl, sc_rel J⟩)⟩)
theorem i_vc_digest {k : Nat} {u : SX} {v : SY} (I : i_Rel k u v) (hk : k + 5 ≤ 2564) (v1 : Int32) : wpX_digest (fun r => wpY_digest (fun r' => r' = r ∧ i_Rel (k + 5) u v) v v1) u v1 := by
  obtain ⟨T, wa, wb, wc, co, cr, ci, rg, me, sz, pc, st, rc, dg, rfl, rfl, J⟩ := I
  unfold wpX_digest wpY_digest
  dsimp only
  rcases sc_th J v1 with hb | ⟨t, ht, h4, rfl⟩
  · exact sc_xF hb (br_t rfl (sc_yF hb (br_t rfl ⟨rfl, sc_rel J⟩)))
  · exact sc_xT ht J.1 (br_f sc_10 ⟨sc_i4 h4, sc_yT ht J.1 (br_f sc_10 ⟨sc_i4 h4, rfl, sc_rel J⟩)⟩)
theorem i_vc_size {k : Nat} {u : SX} {v : SY} (I : i_Rel k u v) (hk : k + 5 ≤ 2564) (v1 : Int32) : wpX_size (fun r => wpY_size (fun r' => r' = r ∧ i_Rel (k + 5) u v) v v1) u v1 := by
  obtain ⟨T, wa, wb, wc, co, cr, ci, rg, me, sz, pc, st, rc, dg, rfl, rfl, J⟩ := I
  unfold wpX_size wpY_size
  dsimp only
  rcases sc_th J v1 with hb | ⟨t, ht, h4, rfl⟩
  · exact sc_xF hb (br_t rfl (sc_yF hb (br_t rfl ⟨rfl, sc_rel J⟩)))
  · exact sc_xT ht J.1 (br_f sc_10 ⟨sc_i4 h4, sc_yT ht J.1 (br_f sc_10 ⟨sc_i4 h4, rfl, sc_rel J⟩)⟩)
end
section
theorem i_vc_run {k : Nat} {u : SX} {v : SY} (I : i_Rel k u v) (hk : k + 5 ≤ 2564) (v1 : Int32) : wpX_run (fun r u' => wpY_run (fun r' v' => r' = r ∧ i_Rel (k + 5) u' v') v v1) u v1 := by
  obtain ⟨T, wa, wb, wc, co, cr, ci, rg, me, sz, pc, st, rc, dg, rfl, rfl, J⟩ := I
  obtain ⟨r1, rg1, me1, pc1, st1, rc1, dg1, ix, iy⟩ := sc_run (wa := wa) (wb := wb) (wc := wc) (cr := cr) (ci := ci) J v1 T 0 (by omega) 0 rg me pc st rc dg
  unfold wpX_run wpY_run
  dsimp only
  exact ⟨T + 1, ix _ ⟨T + 1, iy _ ⟨rfl, sc_rel J⟩⟩⟩
theorem i_vc_runOne {k : Nat} {u : SX} {v : SY} (I : i_Rel k u v) (hk : k + 5 ≤ 2564) (v1 : Int32) (v2 : Int32) : wpX_runOne (fun r u' => wpY_runOne (fun r' v' => r' = r ∧ i_Rel (k + 5) u' v') v v1 v2) u v1 v2 := by
  obtain ⟨T, wa, wb, wc, co, cr, ci, rg, me, sz, pc, st, rc, dg, rfl, rfl, J⟩ := I
  unfold wpX_runOne wpY_runOne
  dsimp only
  rcases sc_th J v1 with hb | ⟨t, ht, h4, rfl⟩
  · exact sc_xF hb (br_t rfl (sc_yF hb (br_t rfl ⟨rfl, sc_rel J⟩)))
  · obtain ⟨r1, rg1, me1, pc1, st1, rc1, dg1, ix, iy⟩ := sc_steps (wa := wa) (wb := wb) (wc := wc) (cr := cr) (ci := ci) J ht v2 rg me pc st rc dg
    exact sc_xT ht J.1 (br_f sc_10 (ix _ (sc_yT ht J.1 (br_f sc_10 (iy _ ⟨rfl, sc_rel J⟩)))))
end
