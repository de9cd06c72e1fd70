section
theorem pk_us {f : Nat → Int32} {k : Nat} {x : Int32} : upd f k x k = x := if_pos rfl
theorem pk_un {f : Nat → Int32} {k j : Nat} {x : Int32} (h : j ≠ k) : upd f k x j = f j := if_neg h
theorem pk_mul (a b : Nat) : nI a * nI b = nI (a * b) := (Int32.ofNat_mul a b).symm
theorem pk_ix (x : Int32) {n : Nat} (hn : n < 2 ^ 31) : x < 0 ∨ nI n ≤ x ∨ ∃ j : Nat, j < n ∧ x = nI j := by
  by_cases h : x < 0
  · exact Or.inl h
  · obtain ⟨j, hj, rfl⟩ := nI_of h
    by_cases h2 : j < n
    · exact Or.inr (Or.inr ⟨j, h2, rfl⟩)
    · exact Or.inr (Or.inl (nI_le (by omega) hj))
theorem pk_and (x : Int32) {m : Int32} (k : Nat) (hm : m.toBitVec.toNat = 2 ^ k - 1) : x &&& m = nI (x.toBitVec.toNat % 2 ^ k) := by
  apply Int32.toBitVec_inj.mp
  apply BitVec.eq_of_toNat_eq
  rw [Int32.toBitVec_and, BitVec.toNat_and, hm, Nat.and_two_pow_sub_one_eq_mod]
  show _ = (BitVec.ofNat 32 _).toNat
  rw [BitVec.toNat_ofNat]
  exact (Nat.mod_eq_of_lt (Nat.lt_of_le_of_lt (Nat.mod_le _ _) x.toBitVec.isLt)).symm
theorem sc_m24 (n : Nat) : nI n * 24 = nI (n * 24) := pk_mul n 24
theorem sc_m8 (n : Nat) : nI n * 8 = nI (n * 8) := pk_mul n 8
theorem sc_m16 (n : Nat) : nI n * 16 = nI (n * 16) := pk_mul n 16
theorem sc_10 : ¬ (1 : Int32) = 0 := by decide
theorem sc_20 : ¬ (2 : Int32) = 0 := by decide
theorem sc_30 : ¬ (3 : Int32) = 0 := by decide
theorem sc_40 : ¬ (4 : Int32) = 0 := by decide
theorem sc_a7 (x : Int32) : ∃ j : Nat, j < 8 ∧ x &&& 7 = nI j := ⟨_, Nat.mod_lt _ (by decide), pk_and x 3 (by decide)⟩
theorem sc_lt24 {n : Nat} (h : n < 24) : nI n < 24 := nI_lt (b := 24) h (by decide)
theorem sc_nlt24 {n : Nat} (h : 24 ≤ n) (hn : n ≤ 24) : ¬ nI n < 24 := nI_nlt (b := 24) h (by omega)
theorem sc_le15 {n : Nat} (h : n < 16) : nI n ≤ 15 := nI_le (b := 15) (by omega) (by decide)
theorem sc_n16 {n : Nat} (h : n < 16) : ¬ (16 : Int32) ≤ nI n := nI_ge (b := 16) h (by decide)
theorem sc_le7 {n : Nat} (h : n < 8) : nI n ≤ 7 := nI_le (b := 7) (by omega) (by decide)
theorem sc_n8 {n : Nat} (h : n < 8) : ¬ (8 : Int32) ≤ nI n := nI_ge (b := 8) h (by decide)
theorem sc_16n15 {x : Int32} (h : (16 : Int32) ≤ x) : ¬ x ≤ 15 := fun z => absurd (Int32.le_trans h z) (by decide)
theorem sc_8n7 {x : Int32} (h : (8 : Int32) ≤ x) : ¬ x ≤ 7 := fun z => absurd (Int32.le_trans h z) (by decide)
theorem sc_pn {x : Int32} {k : Nat} (h : nI k ≤ x) (hk : k < 2 ^ 31) : ¬ x < 0 := fun z => absurd (Int32.lt_of_le_of_lt h z) (nI_pos hk)
theorem sc_nl {x y : Int32} (h : x ≤ y) : ¬ y < x := Int32.not_lt.mpr h
/-- no more than four threads; each operation is 0 to 15; no code is longer than 24 -/
def sc_Inv (T : Nat) (co sz : Nat → Int32) : Prop := T ≤ 4 ∧ (∀ i, ∃ o : Nat, o < 16 ∧ co i = nI o) ∧ (∀ t, ∃ n : Nat, n ≤ 24 ∧ sz t = nI n)
theorem sc_i0 {T : Nat} (h : T ≤ 4) : sc_Inv T (fun _ => 0) (fun _ => 0) := ⟨h, fun _ => ⟨0, by omega, rfl⟩, fun _ => ⟨0, by omega, rfl⟩⟩
theorem sc_iO {T : Nat} {co sz : Nat → Int32} (J : sc_Inv T co sz) (k o : Nat) (ho : o < 16) : sc_Inv T (upd co k (nI o)) sz := by
  refine ⟨J.1, fun i => ?_, J.2.2⟩
  by_cases e : i = k
  · exact ⟨o, ho, by rw [e, pk_us]⟩
  · rw [pk_un e]; exact J.2.1 i
theorem sc_iS {T : Nat} {co sz : Nat → Int32} (J : sc_Inv T co sz) (k o : Nat) (ho : o ≤ 24) : sc_Inv T co (upd sz k (nI o)) := by
  refine ⟨J.1, J.2.1, fun i => ?_⟩
  by_cases e : i = k
  · exact ⟨o, ho, by rw [e, pk_us]⟩
  · rw [pk_un e]; exact J.2.2 i
/-- the two states hold the same arrays; the component's three further numbers are free -/
def i_Rel (_ : Nat) (u : SX) (v : SY) : Prop := ∃ (T : Nat) (wa wb wc : Int32) (co cr ci rg me sz pc st rc dg : Nat → Int32), u = (nI T, wa, wb, wc, co, cr, ci, rg, me, sz, pc, st, rc, dg) ∧ v = (nI T, co, cr, ci, sz, rg, me, pc, st, rc, dg) ∧ sc_Inv T co sz
theorem sc_rel {k T : Nat} {wa wb wc : Int32} {co cr ci rg me sz pc st rc dg : Nat → Int32} (J : sc_Inv T co sz) : i_Rel k (nI T, wa, wb, wc, co, cr, ci, rg, me, sz, pc, st, rc, dg) (nI T, co, cr, ci, sz, rg, me, pc, st, rc, dg) := ⟨T, wa, wb, wc, co, cr, ci, rg, me, sz, pc, st, rc, dg, rfl, rfl, J⟩
theorem sc_th {T : Nat} {co sz : Nat → Int32} (J : sc_Inv T co sz) (x : Int32) : (x < 0 ∨ nI T ≤ x) ∨ ∃ t : Nat, t < T ∧ t < 4 ∧ x = nI t := by
  have hT := J.1
  rcases pk_ix x (n := T) (by omega) with h | h | ⟨j, hj, e⟩
  · exact Or.inl (Or.inl h)
  · exact Or.inl (Or.inr h)
  · exact Or.inr ⟨j, hj, by omega, e⟩
section
variable {T t : Nat} {wa wb wc x : Int32} {co cr ci rg me sz pc st rc dg : Nat → Int32} {post : Int32 → Prop}
theorem sc_xT (ht : t < T) (h4 : T ≤ 4) (h : post 1) : wpX_isThread post (nI T, wa, wb, wc, co, cr, ci, rg, me, sz, pc, st, rc, dg) (nI t) := br_f (nI_pos (by omega)) (br_f (nI_ge ht (by omega)) h)
theorem sc_yT (ht : t < T) (h4 : T ≤ 4) (h : post 1) : wpY_good post (nI T, co, cr, ci, sz, rg, me, pc, st, rc, dg) (nI t) := br_f (nI_pos (by omega)) (br_f (nI_ge ht (by omega)) h)
theorem sc_xF (hb : x < 0 ∨ nI T ≤ x) (h : post 0) : wpX_isThread post (nI T, wa, wb, wc, co, cr, ci, rg, me, sz, pc, st, rc, dg) x := br_c (fun _ => h) (fun n => br_t (hb.resolve_left n) h)
theorem sc_yF (hb : x < 0 ∨ nI T ≤ x) (h : post 0) : wpY_good post (nI T, co, cr, ci, sz, rg, me, pc, st, rc, dg) x := br_c (fun _ => h) (fun n => br_t (hb.resolve_left n) h)
end
end
section
section
variable {T t p n ja jb jd q : Nat} {wa wb wc o a b im : Int32} {co cr ci rg me sz pc st rc dg : Nat → Int32} {post : Int32 → Prop} {postX : SX → Prop} {postY : SY → Prop}
/-- what is known of a thread whose counter is at an instruction -/
def sc_At (t p n ja jb jd : Nat) (o a b im : Int32) (co cr ci rg sz pc : Nat → Int32) : Prop :=
  t < 4 ∧ p < n ∧ n ≤ 24 ∧ ja < 8 ∧ jb < 8 ∧ jd < 8 ∧ pc t = nI p ∧ sz t = nI n ∧ co (t * 24 + p) = o ∧ (cr (t * 24 + p) >>> ((3 : Int32) &&& 31)) &&& 7 = nI ja ∧ (cr (t * 24 + p) >>> ((6 : Int32) &&& 31)) &&& 7 = nI jb ∧ cr (t * 24 + p) &&& 7 = nI jd ∧ rg (t * 8 + ja) = a ∧ rg (t * 8 + jb) = b ∧ ci (t * 24 + p) = im
theorem sc_o0 : (¬ (0 : Int32) = 1) ∧ (¬ (0 : Int32) = 2) ∧ (¬ (0 : Int32) = 3) ∧ (¬ (0 : Int32) = 4) ∧ (¬ (0 : Int32) = 5) ∧ (¬ (0 : Int32) = 6) ∧ (¬ (0 : Int32) = 7) ∧ (¬ (0 : Int32) = 8) ∧ (¬ (0 : Int32) = 9) ∧ (¬ (0 : Int32) = 10) ∧ (¬ (0 : Int32) = 11) ∧ (¬ (0 : Int32) = 12) ∧ (¬ (0 : Int32) = 13) ∧ (¬ (0 : Int32) = 14) ∧ (¬ (0 : Int32) = 15) ∧ (((0 : Int32) < 12)) ∧ (¬ (15 < (0 : Int32))) ∧ (((0 : Int32) < 1)) ∧ (¬ (14 < (0 : Int32))) ∧ (((0 : Int32) ≤ 10)) := ⟨by decide, by decide, by decide, by decide, by decide, by decide, by decide, by decide, by decide, by decide, by decide, by decide, by decide, by decide, by decide, by decide, by decide, by decide, by decide, by decide⟩
theorem sc_o1 : (¬ (1 : Int32) = 0) ∧ (¬ (1 : Int32) = 2) ∧ (¬ (1 : Int32) = 3) ∧ (¬ (1 : Int32) = 4) ∧ (¬ (1 : Int32) = 5) ∧ (¬ (1 : Int32) = 6) ∧ (¬ (1 : Int32) = 7) ∧ (¬ (1 : Int32) = 8) ∧ (¬ (1 : Int32) = 9) ∧ (¬ (1 : Int32) = 10) ∧ (¬ (1 : Int32) = 11) ∧ (¬ (1 : Int32) = 12) ∧ (¬ (1 : Int32) = 13) ∧ (¬ (1 : Int32) = 14) ∧ (¬ (1 : Int32) = 15) ∧ (((1 : Int32) < 12)) ∧ (¬ (15 < (1 : Int32))) ∧ (¬ ((1 : Int32) < 1)) ∧ (¬ (14 < (1 : Int32))) ∧ (((1 : Int32) ≤ 10)) := ⟨by decide, by decide, by decide, by decide, by decide, by decide, by decide, by decide, by decide, by decide, by decide, by decide, by decide, by decide, by decide, by decide, by decide, by decide, by decide, by decide⟩
theorem sc_o2 : (¬ (2 : Int32) = 0) ∧ (¬ (2 : Int32) = 1) ∧ (¬ (2 : Int32) = 3) ∧ (¬ (2 : Int32) = 4) ∧ (¬ (2 : Int32) = 5) ∧ (¬ (2 : Int32) = 6) ∧ (¬ (2 : Int32) = 7) ∧ (¬ (2 : Int32) = 8) ∧ (¬ (2 : Int32) = 9) ∧ (¬ (2 : Int32) = 10) ∧ (¬ (2 : Int32) = 11) ∧ (¬ (2 : Int32) = 12) ∧ (¬ (2 : Int32) = 13) ∧ (¬ (2 : Int32) = 14) ∧ (¬ (2 : Int32) = 15) ∧ (((2 : Int32) < 12)) ∧ (¬ (15 < (2 : Int32))) ∧ (¬ ((2 : Int32) < 1)) ∧ (¬ (14 < (2 : Int32))) ∧ (((2 : Int32) ≤ 10)) := ⟨by decide, by decide, by decide, by decide, by decide, by decide, by decide, by decide, by decide, by decide, by decide, by decide, by decide, by decide, by decide, by decide, by decide, by decide, by decide, by decide⟩
theorem sc_o3 : (¬ (3 : Int32) = 0) ∧ (¬ (3 : Int32) = 1) ∧ (¬ (3 : Int32) = 2) ∧ (¬ (3 : Int32) = 4) ∧ (¬ (3 : Int32) = 5) ∧ (¬ (3 : Int32) = 6) ∧ (¬ (3 : Int32) = 7) ∧ (¬ (3 : Int32) = 8) ∧ (¬ (3 : Int32) = 9) ∧ (¬ (3 : Int32) = 10) ∧ (¬ (3 : Int32) = 11) ∧ (¬ (3 : Int32) = 12) ∧ (¬ (3 : Int32) = 13) ∧ (¬ (3 : Int32) = 14) ∧ (¬ (3 : Int32) = 15) ∧ (((3 : Int32) < 12)) ∧ (¬ (15 < (3 : Int32))) ∧ (¬ ((3 : Int32) < 1)) ∧ (¬ (14 < (3 : Int32))) ∧ (((3 : Int32) ≤ 10)) := ⟨by decide, by decide, by decide, by decide, by decide, by decide, by decide, by decide, by decide, by decide, by decide, by decide, by decide, by decide, by decide, by decide, by decide, by decide, by decide, by decide⟩
theorem sc_o4 : (¬ (4 : Int32) = 0) ∧ (¬ (4 : Int32) = 1) ∧ (¬ (4 : Int32) = 2) ∧ (¬ (4 : Int32) = 3) ∧ (¬ (4 : Int32) = 5) ∧ (¬ (4 : Int32) = 6) ∧ (¬ (4 : Int32) = 7) ∧ (¬ (4 : Int32) = 8) ∧ (¬ (4 : Int32) = 9) ∧ (¬ (4 : Int32) = 10) ∧ (¬ (4 : Int32) = 11) ∧ (¬ (4 : Int32) = 12) ∧ (¬ (4 : Int32) = 13) ∧ (¬ (4 : Int32) = 14) ∧ (¬ (4 : Int32) = 15) ∧ (((4 : Int32) < 12)) ∧ (¬ (15 < (4 : Int32))) ∧ (¬ ((4 : Int32) < 1)) ∧ (¬ (14 < (4 : Int32))) ∧ (((4 : Int32) ≤ 10)) := ⟨by decide, by decide, by decide, by decide, by decide, by decide, by decide, by decide, by decide, by decide, by decide, by decide, by decide, by decide, by decide, by decide, by decide, by decide, by decide, by decide⟩
theorem sc_o5 : (¬ (5 : Int32) = 0) ∧ (¬ (5 : Int32) = 1) ∧ (¬ (5 : Int32) = 2) ∧ (¬ (5 : Int32) = 3) ∧ (¬ (5 : Int32) = 4) ∧ (¬ (5 : Int32) = 6) ∧ (¬ (5 : Int32) = 7) ∧ (¬ (5 : Int32) = 8) ∧ (¬ (5 : Int32) = 9) ∧ (¬ (5 : Int32) = 10) ∧ (¬ (5 : Int32) = 11) ∧ (¬ (5 : Int32) = 12) ∧ (¬ (5 : Int32) = 13) ∧ (¬ (5 : Int32) = 14) ∧ (¬ (5 : Int32) = 15) ∧ (((5 : Int32) < 12)) ∧ (¬ (15 < (5 : Int32))) ∧ (¬ ((5 : Int32) < 1)) ∧ (¬ (14 < (5 : Int32))) ∧ (((5 : Int32) ≤ 10)) := ⟨by decide, by decide, by decide, by decide, by decide, by decide, by decide, by decide, by decide, by decide, by decide, by decide, by decide, by decide, by decide, by decide, by decide, by decide, by decide, by decide⟩
theorem sc_o6 : (¬ (6 : Int32) = 0) ∧ (¬ (6 : Int32) = 1) ∧ (¬ (6 : Int32) = 2) ∧ (¬ (6 : Int32) = 3) ∧ (¬ (6 : Int32) = 4) ∧ (¬ (6 : Int32) = 5) ∧ (¬ (6 : Int32) = 7) ∧ (¬ (6 : Int32) = 8) ∧ (¬ (6 : Int32) = 9) ∧ (¬ (6 : Int32) = 10) ∧ (¬ (6 : Int32) = 11) ∧ (¬ (6 : Int32) = 12) ∧ (¬ (6 : Int32) = 13) ∧ (¬ (6 : Int32) = 14) ∧ (¬ (6 : Int32) = 15) ∧ (((6 : Int32) < 12)) ∧ (¬ (15 < (6 : Int32))) ∧ (¬ ((6 : Int32) < 1)) ∧ (¬ (14 < (6 : Int32))) ∧ (((6 : Int32) ≤ 10)) := ⟨by decide, by decide, by decide, by decide, by decide, by decide, by decide, by decide, by decide, by decide, by decide, by decide, by decide, by decide, by decide, by decide, by decide, by decide, by decide, by decide⟩
theorem sc_o7 : (¬ (7 : Int32) = 0) ∧ (¬ (7 : Int32) = 1) ∧ (¬ (7 : Int32) = 2) ∧ (¬ (7 : Int32) = 3) ∧ (¬ (7 : Int32) = 4) ∧ (¬ (7 : Int32) = 5) ∧ (¬ (7 : Int32) = 6) ∧ (¬ (7 : Int32) = 8) ∧ (¬ (7 : Int32) = 9) ∧ (¬ (7 : Int32) = 10) ∧ (¬ (7 : Int32) = 11) ∧ (¬ (7 : Int32) = 12) ∧ (¬ (7 : Int32) = 13) ∧ (¬ (7 : Int32) = 14) ∧ (¬ (7 : Int32) = 15) ∧ (((7 : Int32) < 12)) ∧ (¬ (15 < (7 : Int32))) ∧ (¬ ((7 : Int32) < 1)) ∧ (¬ (14 < (7 : Int32))) ∧ (((7 : Int32) ≤ 10)) := ⟨by decide, by decide, by decide, by decide, by decide, by decide, by decide, by decide, by decide, by decide, by decide, by decide, by decide, by decide, by decide, by decide, by decide, by decide, by decide, by decide⟩
theorem sc_o8 : (¬ (8 : Int32) = 0) ∧ (¬ (8 : Int32) = 1) ∧ (¬ (8 : Int32) = 2) ∧ (¬ (8 : Int32) = 3) ∧ (¬ (8 : Int32) = 4) ∧ (¬ (8 : Int32) = 5) ∧ (¬ (8 : Int32) = 6) ∧ (¬ (8 : Int32) = 7) ∧ (¬ (8 : Int32) = 9) ∧ (¬ (8 : Int32) = 10) ∧ (¬ (8 : Int32) = 11) ∧ (¬ (8 : Int32) = 12) ∧ (¬ (8 : Int32) = 13) ∧ (¬ (8 : Int32) = 14) ∧ (¬ (8 : Int32) = 15) ∧ (((8 : Int32) < 12)) ∧ (¬ (15 < (8 : Int32))) ∧ (¬ ((8 : Int32) < 1)) ∧ (¬ (14 < (8 : Int32))) ∧ (((8 : Int32) ≤ 10)) := ⟨by decide, by decide, by decide, by decide, by decide, by decide, by decide, by decide, by decide, by decide, by decide, by decide, by decide, by decide, by decide, by decide, by decide, by decide, by decide, by decide⟩
theorem sc_o9 : (¬ (9 : Int32) = 0) ∧ (¬ (9 : Int32) = 1) ∧ (¬ (9 : Int32) = 2) ∧ (¬ (9 : Int32) = 3) ∧ (¬ (9 : Int32) = 4) ∧ (¬ (9 : Int32) = 5) ∧ (¬ (9 : Int32) = 6) ∧ (¬ (9 : Int32) = 7) ∧ (¬ (9 : Int32) = 8) ∧ (¬ (9 : Int32) = 10) ∧ (¬ (9 : Int32) = 11) ∧ (¬ (9 : Int32) = 12) ∧ (¬ (9 : Int32) = 13) ∧ (¬ (9 : Int32) = 14) ∧ (¬ (9 : Int32) = 15) ∧ (((9 : Int32) < 12)) ∧ (¬ (15 < (9 : Int32))) ∧ (¬ ((9 : Int32) < 1)) ∧ (¬ (14 < (9 : Int32))) ∧ (((9 : Int32) ≤ 10)) := ⟨by decide, by decide, by decide, by decide, by decide, by decide, by decide, by decide, by decide, by decide, by decide, by decide, by decide, by decide, by decide, by decide, by decide, by decide, by decide, by decide⟩
theorem sc_o10 : (¬ (10 : Int32) = 0) ∧ (¬ (10 : Int32) = 1) ∧ (¬ (10 : Int32) = 2) ∧ (¬ (10 : Int32) = 3) ∧ (¬ (10 : Int32) = 4) ∧ (¬ (10 : Int32) = 5) ∧ (¬ (10 : Int32) = 6) ∧ (¬ (10 : Int32) = 7) ∧ (¬ (10 : Int32) = 8) ∧ (¬ (10 : Int32) = 9) ∧ (¬ (10 : Int32) = 11) ∧ (¬ (10 : Int32) = 12) ∧ (¬ (10 : Int32) = 13) ∧ (¬ (10 : Int32) = 14) ∧ (¬ (10 : Int32) = 15) ∧ (((10 : Int32) < 12)) ∧ (¬ (15 < (10 : Int32))) ∧ (¬ ((10 : Int32) < 1)) ∧ (¬ (14 < (10 : Int32))) ∧ (((10 : Int32) ≤ 10)) := ⟨by decide, by decide, by decide, by decide, by decide, by decide, by decide, by decide, by decide, by decide, by decide, by decide, by decide, by decide, by decide, by decide, by decide, by decide, by decide, by decide⟩
theorem sc_o11 : (¬ (11 : Int32) = 0) ∧ (¬ (11 : Int32) = 1) ∧ (¬ (11 : Int32) = 2) ∧ (¬ (11 : Int32) = 3) ∧ (¬ (11 : Int32) = 4) ∧ (¬ (11 : Int32) = 5) ∧ (¬ (11 : Int32) = 6) ∧ (¬ (11 : Int32) = 7) ∧ (¬ (11 : Int32) = 8) ∧ (¬ (11 : Int32) = 9) ∧ (¬ (11 : Int32) = 10) ∧ (¬ (11 : Int32) = 12) ∧ (¬ (11 : Int32) = 13) ∧ (¬ (11 : Int32) = 14) ∧ (¬ (11 : Int32) = 15) ∧ (((11 : Int32) < 12)) ∧ (¬ (15 < (11 : Int32))) ∧ (¬ ((11 : Int32) < 1)) ∧ (¬ (14 < (11 : Int32))) ∧ (¬ ((11 : Int32) ≤ 10)) := ⟨by decide, by decide, by decide, by decide, by decide, by decide, by decide, by decide, by decide, by decide, by decide, by decide, by decide, by decide, by decide, by decide, by decide, by decide, by decide, by decide⟩
theorem sc_o12 : (¬ (12 : Int32) = 0) ∧ (¬ (12 : Int32) = 1) ∧ (¬ (12 : Int32) = 2) ∧ (¬ (12 : Int32) = 3) ∧ (¬ (12 : Int32) = 4) ∧ (¬ (12 : Int32) = 5) ∧ (¬ (12 : Int32) = 6) ∧ (¬ (12 : Int32) = 7) ∧ (¬ (12 : Int32) = 8) ∧ (¬ (12 : Int32) = 9) ∧ (¬ (12 : Int32) = 10) ∧ (¬ (12 : Int32) = 11) ∧ (¬ (12 : Int32) = 13) ∧ (¬ (12 : Int32) = 14) ∧ (¬ (12 : Int32) = 15) ∧ (¬ ((12 : Int32) < 12)) ∧ (¬ (15 < (12 : Int32))) ∧ (¬ ((12 : Int32) < 1)) ∧ (¬ (14 < (12 : Int32))) ∧ (¬ ((12 : Int32) ≤ 10)) := ⟨by decide, by decide, by decide, by decide, by decide, by decide, by decide, by decide, by decide, by decide, by decide, by decide, by decide, by decide, by decide, by decide, by decide, by decide, by decide, by decide⟩
theorem sc_o13 : (¬ (13 : Int32) = 0) ∧ (¬ (13 : Int32) = 1) ∧ (¬ (13 : Int32) = 2) ∧ (¬ (13 : Int32) = 3) ∧ (¬ (13 : Int32) = 4) ∧ (¬ (13 : Int32) = 5) ∧ (¬ (13 : Int32) = 6) ∧ (¬ (13 : Int32) = 7) ∧ (¬ (13 : Int32) = 8) ∧ (¬ (13 : Int32) = 9) ∧ (¬ (13 : Int32) = 10) ∧ (¬ (13 : Int32) = 11) ∧ (¬ (13 : Int32) = 12) ∧ (¬ (13 : Int32) = 14) ∧ (¬ (13 : Int32) = 15) ∧ (¬ ((13 : Int32) < 12)) ∧ (¬ (15 < (13 : Int32))) ∧ (¬ ((13 : Int32) < 1)) ∧ (¬ (14 < (13 : Int32))) ∧ (¬ ((13 : Int32) ≤ 10)) := ⟨by decide, by decide, by decide, by decide, by decide, by decide, by decide, by decide, by decide, by decide, by decide, by decide, by decide, by decide, by decide, by decide, by decide, by decide, by decide, by decide⟩
theorem sc_o14 : (¬ (14 : Int32) = 0) ∧ (¬ (14 : Int32) = 1) ∧ (¬ (14 : Int32) = 2) ∧ (¬ (14 : Int32) = 3) ∧ (¬ (14 : Int32) = 4) ∧ (¬ (14 : Int32) = 5) ∧ (¬ (14 : Int32) = 6) ∧ (¬ (14 : Int32) = 7) ∧ (¬ (14 : Int32) = 8) ∧ (¬ (14 : Int32) = 9) ∧ (¬ (14 : Int32) = 10) ∧ (¬ (14 : Int32) = 11) ∧ (¬ (14 : Int32) = 12) ∧ (¬ (14 : Int32) = 13) ∧ (¬ (14 : Int32) = 15) ∧ (¬ ((14 : Int32) < 12)) ∧ (¬ (15 < (14 : Int32))) ∧ (¬ ((14 : Int32) < 1)) ∧ (¬ (14 < (14 : Int32))) ∧ (¬ ((14 : Int32) ≤ 10)) := ⟨by decide, by decide, by decide, by decide, by decide, by decide, by decide, by decide, by decide, by decide, by decide, by decide, by decide, by decide, by decide, by decide, by decide, by decide, by decide, by decide⟩
theorem sc_o15 : (¬ (15 : Int32) = 0) ∧ (¬ (15 : Int32) = 1) ∧ (¬ (15 : Int32) = 2) ∧ (¬ (15 : Int32) = 3) ∧ (¬ (15 : Int32) = 4) ∧ (¬ (15 : Int32) = 5) ∧ (¬ (15 : Int32) = 6) ∧ (¬ (15 : Int32) = 7) ∧ (¬ (15 : Int32) = 8) ∧ (¬ (15 : Int32) = 9) ∧ (¬ (15 : Int32) = 10) ∧ (¬ (15 : Int32) = 11) ∧ (¬ (15 : Int32) = 12) ∧ (¬ (15 : Int32) = 13) ∧ (¬ (15 : Int32) = 14) ∧ (¬ ((15 : Int32) < 12)) ∧ (¬ (15 < (15 : Int32))) ∧ (¬ ((15 : Int32) < 1)) ∧ ((14 < (15 : Int32))) ∧ (¬ ((15 : Int32) ≤ 10)) := ⟨by decide, by decide, by decide, by decide, by decide, by decide, by decide, by decide, by decide, by decide, by decide, by decide, by decide, by decide, by decide, by decide, by decide, by decide, by decide, by decide⟩
theorem sc_fa (h : sc_At t p n ja jb jd o a b im co cr ci rg sz pc) : vp_in (nI t) 4 ∧ (nI t).toNatClampNeg = t ∧ vp_in (nI (t * 24 + p)) 96 ∧ (nI (t * 24 + p)).toNatClampNeg = t * 24 + p ∧ vp_in (nI (t * 8 + ja)) 32 ∧ (nI (t * 8 + ja)).toNatClampNeg = t * 8 + ja ∧ vp_in (nI (t * 8 + jb)) 32 ∧ (nI (t * 8 + jb)).toNatClampNeg = t * 8 + jb ∧ vp_in (nI (t * 8 + jd)) 32 ∧ (nI (t * 8 + jd)).toNatClampNeg = t * 8 + jd ∧ ¬ nI p < 0 ∧ ¬ nI n ≤ nI p ∧ nI p < nI n ∧ pc t = nI p ∧ sz t = nI n ∧ co (t * 24 + p) = o ∧ (cr (t * 24 + p) >>> ((3 : Int32) &&& 31)) &&& 7 = nI ja ∧ (cr (t * 24 + p) >>> ((6 : Int32) &&& 31)) &&& 7 = nI jb ∧ cr (t * 24 + p) &&& 7 = nI jd ∧ rg (t * 8 + ja) = a ∧ rg (t * 8 + jb) = b ∧ ci (t * 24 + p) = im := by
  obtain ⟨ht, hpn, hn, hja, hjb, hjd, e⟩ := h
  exact ⟨vp_in_nI ht (by decide), nI_clamp (by omega), vp_in_nI (by omega) (by decide), nI_clamp (by omega), vp_in_nI (by omega) (by decide), nI_clamp (by omega), vp_in_nI (by omega) (by decide), nI_clamp (by omega), vp_in_nI (by omega) (by decide), nI_clamp (by omega), nI_pos (by omega), nI_ge hpn (by omega), nI_lt hpn (by omega), e⟩
theorem sc_fq (h : sc_At t p n ja jb jd o a b im co cr ci rg sz pc) (hq : q < 16) : vp_in (nI (t * 16 + q)) 64 ∧ (nI (t * 16 + q)).toNatClampNeg = t * 16 + q ∧ ¬ nI q < 0 ∧ ¬ (16 : Int32) ≤ nI q ∧ nI q ≤ 15 := by
  have ht := h.1
  exact ⟨vp_in_nI (by omega) (by decide), nI_clamp (by omega), nI_pos (by omega), sc_n16 hq, sc_le15 hq⟩
theorem sc_p0 (h : sc_At t p n ja jb jd 0 a b im co cr ci rg sz pc) (k : post 1) : wpX_stopAtCounter post (nI T, wa, wb, wc, co, cr, ci, rg, me, sz, pc, st, rc, dg) (nI t) := by
  have f := sc_fa h
  simp only [wpX_stopAtCounter, wpX_isInstruction, wpX_readA, wpX_readB, wX_stopAtCounter_57, wX_stopAtCounter_71, wpX_isCell, sc_o0, f, forall_eq, nI_add, sc_m24, sc_m8, sc_m16, sc_10, true_implies, forall_const, not_true_eq_false, not_false_eq_true, false_implies, and_true, true_and, implies_true, and_self]
  exact k
theorem sc_x0 (h : sc_At t p n ja jb jd 0 a b im co cr ci rg sz pc) (k : postX (nI T, wa, wb, wc, co, cr, ci, rg, me, sz, pc, upd st t 1, rc, dg)) : wpX_step postX (nI T, wa, wb, wc, co, cr, ci, rg, me, sz, pc, st, rc, dg) (nI t) := by
  unfold wpX_step
  dsimp only
  refine sc_p0 h  (br_f (by decide) ⟨vp_in_nI h.1 (by decide), nm_e ?_⟩)
  rw [nI_clamp (Nat.lt_trans h.1 (by decide))]
  exact k
theorem sc_y0 (h : sc_At t p n ja jb jd 0 a b im co cr ci rg sz pc) (k : postY (nI T, co, cr, ci, sz, rg, me, pc, upd st t 1, rc, dg)) : wpY_step postY (nI T, co, cr, ci, sz, rg, me, pc, st, rc, dg) (nI t) := by
  have f := sc_fa h
  simp only [wpY_step, wY_step_150, wY_step_162, wY_step_182, wY_step_204, wY_step_221, wY_step_231, wY_step_241, wY_step_274, wY_step_286, wY_step_309, wY_step_339, wpY_written, sc_o0, f, forall_eq, nI_add, sc_m24, sc_m8, sc_m16, sc_10, true_implies, forall_const, not_true_eq_false, not_false_eq_true, false_implies, and_true, true_and, implies_true, and_self]
  exact k
theorem sc_p5z (h : sc_At t p n ja jb jd 5 a b im co cr ci rg sz pc) (z : b = 0) (k : post 2) : wpX_stopAtCounter post (nI T, wa, wb, wc, co, cr, ci, rg, me, sz, pc, st, rc, dg) (nI t) := by
  have f := sc_fa h
  simp only [wpX_stopAtCounter, wpX_isInstruction, wpX_readA, wpX_readB, wX_stopAtCounter_57, wX_stopAtCounter_71, wpX_isCell, sc_o5, f, forall_eq, nI_add, sc_m24, sc_m8, sc_m16, sc_10, true_implies, forall_const, not_true_eq_false, not_false_eq_true, false_implies, and_true, true_and, implies_true, and_self, z]
  exact k
theorem sc_x5z (h : sc_At t p n ja jb jd 5 a b im co cr ci rg sz pc) (z : b = 0) (k : postX (nI T, wa, wb, wc, co, cr, ci, rg, me, sz, pc, upd st t 2, rc, dg)) : wpX_step postX (nI T, wa, wb, wc, co, cr, ci, rg, me, sz, pc, st, rc, dg) (nI t) := by
  unfold wpX_step
  dsimp only
  refine sc_p5z h z (br_f (by decide) ⟨vp_in_nI h.1 (by decide), nm_e ?_⟩)
  rw [nI_clamp (Nat.lt_trans h.1 (by decide))]
  exact k
theorem sc_y5z (h : sc_At t p n ja jb jd 5 a b im co cr ci rg sz pc) (z : b = 0) (k : postY (nI T, co, cr, ci, sz, rg, me, pc, upd st t 2, rc, dg)) : wpY_step postY (nI T, co, cr, ci, sz, rg, me, pc, st, rc, dg) (nI t) := by
  have f := sc_fa h
  simp only [wpY_step, wY_step_150, wY_step_162, wY_step_182, wY_step_204, wY_step_221, wY_step_231, wY_step_241, wY_step_274, wY_step_286, wY_step_309, wY_step_339, wpY_written, sc_o5, f, forall_eq, nI_add, sc_m24, sc_m8, sc_m16, sc_10, true_implies, forall_const, not_true_eq_false, not_false_eq_true, false_implies, and_true, true_and, implies_true, and_self, z]
  exact k
theorem sc_p10n (h : sc_At t p n ja jb jd 10 a b im co cr ci rg sz pc) (z : a + im < 0) (k : post 3) : wpX_stopAtCounter post (nI T, wa, wb, wc, co, cr, ci, rg, me, sz, pc, st, rc, dg) (nI t) := by
  have f := sc_fa h
  simp only [wpX_stopAtCounter, wpX_isInstruction, wpX_readA, wpX_readB, wX_stopAtCounter_57, wX_stopAtCounter_71, wpX_isCell, sc_o10, f, forall_eq, nI_add, sc_m24, sc_m8, sc_m16, sc_10, true_implies, forall_const, not_true_eq_false, not_false_eq_true, false_implies, and_true, true_and, implies_true, and_self, z]
  exact k
theorem sc_x10n (h : sc_At t p n ja jb jd 10 a b im co cr ci rg sz pc) (z : a + im < 0) (k : postX (nI T, wa, wb, wc, co, cr, ci, rg, me, sz, pc, upd st t 3, rc, dg)) : wpX_step postX (nI T, wa, wb, wc, co, cr, ci, rg, me, sz, pc, st, rc, dg) (nI t) := by
  unfold wpX_step
  dsimp only
  refine sc_p10n h z (br_f (by decide) ⟨vp_in_nI h.1 (by decide), nm_e ?_⟩)
  rw [nI_clamp (Nat.lt_trans h.1 (by decide))]
  exact k
theorem sc_y10n (h : sc_At t p n ja jb jd 10 a b im co cr ci rg sz pc) (z : a + im < 0) (k : postY (nI T, co, cr, ci, sz, rg, me, pc, upd st t 3, rc, dg)) : wpY_step postY (nI T, co, cr, ci, sz, rg, me, pc, st, rc, dg) (nI t) := by
  have f := sc_fa h
  simp only [wpY_step, wY_step_150, wY_step_162, wY_step_182, wY_step_204, wY_step_221, wY_step_231, wY_step_241, wY_step_274, wY_step_286, wY_step_309, wY_step_339, wpY_written, sc_o10, f, forall_eq, nI_add, sc_m24, sc_m8, sc_m16, sc_10, true_implies, forall_const, not_true_eq_false, not_false_eq_true, false_implies, and_true, true_and, implies_true, and_self, z]
  exact k
theorem sc_p10m (h : sc_At t p n ja jb jd 10 a b im co cr ci rg sz pc) (z1 : ¬ a + im < 0) (z2 : (16 : Int32) ≤ a + im) (z3 : ¬ a + im ≤ 15) (k : post 3) : wpX_stopAtCounter post (nI T, wa, wb, wc, co, cr, ci, rg, me, sz, pc, st, rc, dg) (nI t) := by
  have f := sc_fa h
  simp only [wpX_stopAtCounter, wpX_isInstruction, wpX_readA, wpX_readB, wX_stopAtCounter_57, wX_stopAtCounter_71, wpX_isCell, sc_o10, f, forall_eq, nI_add, sc_m24, sc_m8, sc_m16, sc_10, true_implies, forall_const, not_true_eq_false, not_false_eq_true, false_implies, and_true, true_and, implies_true, and_self, z1, z2, z3]
  exact k
theorem sc_x10m (h : sc_At t p n ja jb jd 10 a b im co cr ci rg sz pc) (z1 : ¬ a + im < 0) (z2 : (16 : Int32) ≤ a + im) (z3 : ¬ a + im ≤ 15) (k : postX (nI T, wa, wb, wc, co, cr, ci, rg, me, sz, pc, upd st t 3, rc, dg)) : wpX_step postX (nI T, wa, wb, wc, co, cr, ci, rg, me, sz, pc, st, rc, dg) (nI t) := by
  unfold wpX_step
  dsimp only
  refine sc_p10m h z1 z2 z3 (br_f (by decide) ⟨vp_in_nI h.1 (by decide), nm_e ?_⟩)
  rw [nI_clamp (Nat.lt_trans h.1 (by decide))]
  exact k
theorem sc_y10m (h : sc_At t p n ja jb jd 10 a b im co cr ci rg sz pc) (z1 : ¬ a + im < 0) (z2 : (16 : Int32) ≤ a + im) (z3 : ¬ a + im ≤ 15) (k : postY (nI T, co, cr, ci, sz, rg, me, pc, upd st t 3, rc, dg)) : wpY_step postY (nI T, co, cr, ci, sz, rg, me, pc, st, rc, dg) (nI t) := by
  have f := sc_fa h
  simp only [wpY_step, wY_step_150, wY_step_162, wY_step_182, wY_step_204, wY_step_221, wY_step_231, wY_step_241, wY_step_274, wY_step_286, wY_step_309, wY_step_339, wpY_written, sc_o10, f, forall_eq, nI_add, sc_m24, sc_m8, sc_m16, sc_10, true_implies, forall_const, not_true_eq_false, not_false_eq_true, false_implies, and_true, true_and, implies_true, and_self, z1, z2, z3]
  exact k
theorem sc_p11n (h : sc_At t p n ja jb jd 11 a b im co cr ci rg sz pc) (z : a + im < 0) (k : post 3) : wpX_stopAtCounter post (nI T, wa, wb, wc, co, cr, ci, rg, me, sz, pc, st, rc, dg) (nI t) := by
  have f := sc_fa h
  simp only [wpX_stopAtCounter, wpX_isInstruction, wpX_readA, wpX_readB, wX_stopAtCounter_57, wX_stopAtCounter_71, wpX_isCell, sc_o11, f, forall_eq, nI_add, sc_m24, sc_m8, sc_m16, sc_10, true_implies, forall_const, not_true_eq_false, not_false_eq_true, false_implies, and_true, true_and, implies_true, and_self, z]
  exact k
theorem sc_x11n (h : sc_At t p n ja jb jd 11 a b im co cr ci rg sz pc) (z : a + im < 0) (k : postX (nI T, wa, wb, wc, co, cr, ci, rg, me, sz, pc, upd st t 3, rc, dg)) : wpX_step postX (nI T, wa, wb, wc, co, cr, ci, rg, me, sz, pc, st, rc, dg) (nI t) := by
  unfold wpX_step
  dsimp only
  refine sc_p11n h z (br_f (by decide) ⟨vp_in_nI h.1 (by decide), nm_e ?_⟩)
  rw [nI_clamp (Nat.lt_trans h.1 (by decide))]
  exact k
theorem sc_y11n (h : sc_At t p n ja jb jd 11 a b im co cr ci rg sz pc) (z : a + im < 0) (k : postY (nI T, co, cr, ci, sz, rg, me, pc, upd st t 3, rc, dg)) : wpY_step postY (nI T, co, cr, ci, sz, rg, me, pc, st, rc, dg) (nI t) := by
  have f := sc_fa h
  simp only [wpY_step, wY_step_150, wY_step_162, wY_step_182, wY_step_204, wY_step_221, wY_step_231, wY_step_241, wY_step_274, wY_step_286, wY_step_309, wY_step_339, wpY_written, sc_o11, f, forall_eq, nI_add, sc_m24, sc_m8, sc_m16, sc_10, true_implies, forall_const, not_true_eq_false, not_false_eq_true, false_implies, and_true, true_and, implies_true, and_self, z]
  exact k
theorem sc_p11m (h : sc_At t p n ja jb jd 11 a b im co cr ci rg sz pc) (z1 : ¬ a + im < 0) (z2 : (16 : Int32) ≤ a + im) (z3 : ¬ a + im ≤ 15) (k : post 3) : wpX_stopAtCounter post (nI T, wa, wb, wc, co, cr, ci, rg, me, sz, pc, st, rc, dg) (nI t) := by
  have f := sc_fa h
  simp only [wpX_stopAtCounter, wpX_isInstruction, wpX_readA, wpX_readB, wX_stopAtCounter_57, wX_stopAtCounter_71, wpX_isCell, sc_o11, f, forall_eq, nI_add, sc_m24, sc_m8, sc_m16, sc_10, true_implies, forall_const, not_true_eq_false, not_false_eq_true, false_implies, and_true, true_and, implies_true, and_self, z1, z2, z3]
  exact k
theorem sc_x11m (h : sc_At t p n ja jb jd 11 a b im co cr ci rg sz pc) (z1 : ¬ a + im < 0) (z2 : (16 : Int32) ≤ a + im) (z3 : ¬ a + im ≤ 15) (k : postX (nI T, wa, wb, wc, co, cr, ci, rg, me, sz, pc, upd st t 3, rc, dg)) : wpX_step postX (nI T, wa, wb, wc, co, cr, ci, rg, me, sz, pc, st, rc, dg) (nI t) := by
  unfold wpX_step
  dsimp only
  refine sc_p11m h z1 z2 z3 (br_f (by decide) ⟨vp_in_nI h.1 (by decide), nm_e ?_⟩)
  rw [nI_clamp (Nat.lt_trans h.1 (by decide))]
  exact k
theorem sc_y11m (h : sc_At t p n ja jb jd 11 a b im co cr ci rg sz pc) (z1 : ¬ a + im < 0) (z2 : (16 : Int32) ≤ a + im) (z3 : ¬ a + im ≤ 15) (k : postY (nI T, co, cr, ci, sz, rg, me, pc, upd st t 3, rc, dg)) : wpY_step postY (nI T, co, cr, ci, sz, rg, me, pc, st, rc, dg) (nI t) := by
  have f := sc_fa h
  simp only [wpY_step, wY_step_150, wY_step_162, wY_step_182, wY_step_204, wY_step_221, wY_step_231, wY_step_241, wY_step_274, wY_step_286, wY_step_309, wY_step_339, wpY_written, sc_o11, f, forall_eq, nI_add, sc_m24, sc_m8, sc_m16, sc_10, true_implies, forall_const, not_true_eq_false, not_false_eq_true, false_implies, and_true, true_and, implies_true, and_self, z1, z2, z3]
  exact k
theorem sc_p1 (h : sc_At t p n ja jb jd 1 a b im co cr ci rg sz pc) (k : post 0) : wpX_stopAtCounter post (nI T, wa, wb, wc, co, cr, ci, rg, me, sz, pc, st, rc, dg) (nI t) := by
  have f := sc_fa h
  simp only [wpX_stopAtCounter, wpX_isInstruction, wpX_readA, wpX_readB, wX_stopAtCounter_57, wX_stopAtCounter_71, wpX_isCell, sc_o1, f, forall_eq, nI_add, sc_m24, sc_m8, sc_m16, sc_10, true_implies, forall_const, not_true_eq_false, not_false_eq_true, false_implies, and_true, true_and, implies_true, and_self]
  exact k
theorem sc_r1 (h : sc_At t p n ja jb jd 1 a b im co cr ci rg sz pc) (k : postX (nI T, wa, wb, wc, co, cr, ci, upd rg (t * 8 + jd) im, me, sz, upd pc t (nI p + 1), st, upd rc t (rc t + 1), upd dg t (dg t * 31 + 7 * nI p + im))) : wpX_retire postX (nI T, wa, wb, wc, co, cr, ci, rg, me, sz, pc, st, rc, dg) (nI t) := by
  have f := sc_fa h
  simp only [wpX_retire, wpX_readA, wpX_readB, wpX_nextCounter, wpX_result, wX_retire_185, wX_retire_121, wX_retire_162, sc_o1, f, forall_eq, nI_add, sc_m24, sc_m8, sc_m16, sc_10, true_implies, forall_const, not_true_eq_false, not_false_eq_true, false_implies, and_true, true_and, implies_true, and_self]
  exact k
theorem sc_x1 (h : sc_At t p n ja jb jd 1 a b im co cr ci rg sz pc) (k : postX (nI T, wa, wb, wc, co, cr, ci, upd rg (t * 8 + jd) im, me, sz, upd pc t (nI p + 1), st, upd rc t (rc t + 1), upd dg t (dg t * 31 + 7 * nI p + im))) : wpX_step postX (nI T, wa, wb, wc, co, cr, ci, rg, me, sz, pc, st, rc, dg) (nI t) := by
  unfold wpX_step
  dsimp only
  exact sc_p1 h  (br_t rfl (sc_r1 h  k))
theorem sc_y1 (h : sc_At t p n ja jb jd 1 a b im co cr ci rg sz pc) (k : postY (nI T, co, cr, ci, sz, upd rg (t * 8 + jd) im, me, upd pc t (nI p + 1), st, upd rc t (rc t + 1), upd dg t (dg t * 31 + 7 * nI p + im))) : wpY_step postY (nI T, co, cr, ci, sz, rg, me, pc, st, rc, dg) (nI t) := by
  have f := sc_fa h
  simp only [wpY_step, wY_step_150, wY_step_162, wY_step_182, wY_step_204, wY_step_221, wY_step_231, wY_step_241, wY_step_274, wY_step_286, wY_step_309, wY_step_339, wpY_written, sc_o1, f, forall_eq, nI_add, sc_m24, sc_m8, sc_m16, sc_10, true_implies, forall_const, not_true_eq_false, not_false_eq_true, false_implies, and_true, true_and, implies_true, and_self]
  exact k
theorem sc_p2 (h : sc_At t p n ja jb jd 2 a b im co cr ci rg sz pc) (k : post 0) : wpX_stopAtCounter post (nI T, wa, wb, wc, co, cr, ci, rg, me, sz, pc, st, rc, dg) (nI t) := by
  have f := sc_fa h
  simp only [wpX_stopAtCounter, wpX_isInstruction, wpX_readA, wpX_readB, wX_stopAtCounter_57, wX_stopAtCounter_71, wpX_isCell, sc_o2, f, forall_eq, nI_add, sc_m24, sc_m8, sc_m16, sc_10, true_implies, forall_const, not_true_eq_false, not_false_eq_true, false_implies, and_true, true_and, implies_true, and_self]
  exact k
theorem sc_r2 (h : sc_At t p n ja jb jd 2 a b im co cr ci rg sz pc) (k : postX (nI T, wa, wb, wc, co, cr, ci, upd rg (t * 8 + jd) (a + b), me, sz, upd pc t (nI p + 1), st, upd rc t (rc t + 1), upd dg t (dg t * 31 + 7 * nI p + (a + b)))) : wpX_retire postX (nI T, wa, wb, wc, co, cr, ci, rg, me, sz, pc, st, rc, dg) (nI t) := by
  have f := sc_fa h
  simp only [wpX_retire, wpX_readA, wpX_readB, wpX_nextCounter, wpX_result, wX_retire_185, wX_retire_121, wX_retire_162, sc_o2, f, forall_eq, nI_add, sc_m24, sc_m8, sc_m16, sc_10, true_implies, forall_const, not_true_eq_false, not_false_eq_true, false_implies, and_true, true_and, implies_true, and_self]
  exact k
theorem sc_x2 (h : sc_At t p n ja jb jd 2 a b im co cr ci rg sz pc) (k : postX (nI T, wa, wb, wc, co, cr, ci, upd rg (t * 8 + jd) (a + b), me, sz, upd pc t (nI p + 1), st, upd rc t (rc t + 1), upd dg t (dg t * 31 + 7 * nI p + (a + b)))) : wpX_step postX (nI T, wa, wb, wc, co, cr, ci, rg, me, sz, pc, st, rc, dg) (nI t) := by
  unfold wpX_step
  dsimp only
  exact sc_p2 h  (br_t rfl (sc_r2 h  k))
theorem sc_y2 (h : sc_At t p n ja jb jd 2 a b im co cr ci rg sz pc) (k : postY (nI T, co, cr, ci, sz, upd rg (t * 8 + jd) (a + b), me, upd pc t (nI p + 1), st, upd rc t (rc t + 1), upd dg t (dg t * 31 + 7 * nI p + (a + b)))) : wpY_step postY (nI T, co, cr, ci, sz, rg, me, pc, st, rc, dg) (nI t) := by
  have f := sc_fa h
  simp only [wpY_step, wY_step_150, wY_step_162, wY_step_182, wY_step_204, wY_step_221, wY_step_231, wY_step_241, wY_step_274, wY_step_286, wY_step_309, wY_step_339, wpY_written, sc_o2, f, forall_eq, nI_add, sc_m24, sc_m8, sc_m16, sc_10, true_implies, forall_const, not_true_eq_false, not_false_eq_true, false_implies, and_true, true_and, implies_true, and_self]
  exact k
theorem sc_p3 (h : sc_At t p n ja jb jd 3 a b im co cr ci rg sz pc) (k : post 0) : wpX_stopAtCounter post (nI T, wa, wb, wc, co, cr, ci, rg, me, sz, pc, st, rc, dg) (nI t) := by
  have f := sc_fa h
  simp only [wpX_stopAtCounter, wpX_isInstruction, wpX_readA, wpX_readB, wX_stopAtCounter_57, wX_stopAtCounter_71, wpX_isCell, sc_o3, f, forall_eq, nI_add, sc_m24, sc_m8, sc_m16, sc_10, true_implies, forall_const, not_true_eq_false, not_false_eq_true, false_implies, and_true, true_and, implies_true, and_self]
  exact k
theorem sc_r3 (h : sc_At t p n ja jb jd 3 a b im co cr ci rg sz pc) (k : postX (nI T, wa, wb, wc, co, cr, ci, upd rg (t * 8 + jd) (a - b), me, sz, upd pc t (nI p + 1), st, upd rc t (rc t + 1), upd dg t (dg t * 31 + 7 * nI p + (a - b)))) : wpX_retire postX (nI T, wa, wb, wc, co, cr, ci, rg, me, sz, pc, st, rc, dg) (nI t) := by
  have f := sc_fa h
  simp only [wpX_retire, wpX_readA, wpX_readB, wpX_nextCounter, wpX_result, wX_retire_185, wX_retire_121, wX_retire_162, sc_o3, f, forall_eq, nI_add, sc_m24, sc_m8, sc_m16, sc_10, true_implies, forall_const, not_true_eq_false, not_false_eq_true, false_implies, and_true, true_and, implies_true, and_self]
  exact k
theorem sc_x3 (h : sc_At t p n ja jb jd 3 a b im co cr ci rg sz pc) (k : postX (nI T, wa, wb, wc, co, cr, ci, upd rg (t * 8 + jd) (a - b), me, sz, upd pc t (nI p + 1), st, upd rc t (rc t + 1), upd dg t (dg t * 31 + 7 * nI p + (a - b)))) : wpX_step postX (nI T, wa, wb, wc, co, cr, ci, rg, me, sz, pc, st, rc, dg) (nI t) := by
  unfold wpX_step
  dsimp only
  exact sc_p3 h  (br_t rfl (sc_r3 h  k))
theorem sc_y3 (h : sc_At t p n ja jb jd 3 a b im co cr ci rg sz pc) (k : postY (nI T, co, cr, ci, sz, upd rg (t * 8 + jd) (a - b), me, upd pc t (nI p + 1), st, upd rc t (rc t + 1), upd dg t (dg t * 31 + 7 * nI p + (a - b)))) : wpY_step postY (nI T, co, cr, ci, sz, rg, me, pc, st, rc, dg) (nI t) := by
  have f := sc_fa h
  simp only [wpY_step, wY_step_150, wY_step_162, wY_step_182, wY_step_204, wY_step_221, wY_step_231, wY_step_241, wY_step_274, wY_step_286, wY_step_309, wY_step_339, wpY_written, sc_o3, f, forall_eq, nI_add, sc_m24, sc_m8, sc_m16, sc_10, true_implies, forall_const, not_true_eq_false, not_false_eq_true, false_implies, and_true, true_and, implies_true, and_self]
  exact k
theorem sc_p4 (h : sc_At t p n ja jb jd 4 a b im co cr ci rg sz pc) (k : post 0) : wpX_stopAtCounter post (nI T, wa, wb, wc, co, cr, ci, rg, me, sz, pc, st, rc, dg) (nI t) := by
  have f := sc_fa h
  simp only [wpX_stopAtCounter, wpX_isInstruction, wpX_readA, wpX_readB, wX_stopAtCounter_57, wX_stopAtCounter_71, wpX_isCell, sc_o4, f, forall_eq, nI_add, sc_m24, sc_m8, sc_m16, sc_10, true_implies, forall_const, not_true_eq_false, not_false_eq_true, false_implies, and_true, true_and, implies_true, and_self]
  exact k
theorem sc_r4 (h : sc_At t p n ja jb jd 4 a b im co cr ci rg sz pc) (k : postX (nI T, wa, wb, wc, co, cr, ci, upd rg (t * 8 + jd) (a * b), me, sz, upd pc t (nI p + 1), st, upd rc t (rc t + 1), upd dg t (dg t * 31 + 7 * nI p + (a * b)))) : wpX_retire postX (nI T, wa, wb, wc, co, cr, ci, rg, me, sz, pc, st, rc, dg) (nI t) := by
  have f := sc_fa h
  simp only [wpX_retire, wpX_readA, wpX_readB, wpX_nextCounter, wpX_result, wX_retire_185, wX_retire_121, wX_retire_162, sc_o4, f, forall_eq, nI_add, sc_m24, sc_m8, sc_m16, sc_10, true_implies, forall_const, not_true_eq_false, not_false_eq_true, false_implies, and_true, true_and, implies_true, and_self]
  exact k
theorem sc_x4 (h : sc_At t p n ja jb jd 4 a b im co cr ci rg sz pc) (k : postX (nI T, wa, wb, wc, co, cr, ci, upd rg (t * 8 + jd) (a * b), me, sz, upd pc t (nI p + 1), st, upd rc t (rc t + 1), upd dg t (dg t * 31 + 7 * nI p + (a * b)))) : wpX_step postX (nI T, wa, wb, wc, co, cr, ci, rg, me, sz, pc, st, rc, dg) (nI t) := by
  unfold wpX_step
  dsimp only
  exact sc_p4 h  (br_t rfl (sc_r4 h  k))
theorem sc_y4 (h : sc_At t p n ja jb jd 4 a b im co cr ci rg sz pc) (k : postY (nI T, co, cr, ci, sz, upd rg (t * 8 + jd) (a * b), me, upd pc t (nI p + 1), st, upd rc t (rc t + 1), upd dg t (dg t * 31 + 7 * nI p + (a * b)))) : wpY_step postY (nI T, co, cr, ci, sz, rg, me, pc, st, rc, dg) (nI t) := by
  have f := sc_fa h
  simp only [wpY_step, wY_step_150, wY_step_162, wY_step_182, wY_step_204, wY_step_221, wY_step_231, wY_step_241, wY_step_274, wY_step_286, wY_step_309, wY_step_339, wpY_written, sc_o4, f, forall_eq, nI_add, sc_m24, sc_m8, sc_m16, sc_10, true_implies, forall_const, not_true_eq_false, not_false_eq_true, false_implies, and_true, true_and, implies_true, and_self]
  exact k
theorem sc_p6 (h : sc_At t p n ja jb jd 6 a b im co cr ci rg sz pc) (k : post 0) : wpX_stopAtCounter post (nI T, wa, wb, wc, co, cr, ci, rg, me, sz, pc, st, rc, dg) (nI t) := by
  have f := sc_fa h
  simp only [wpX_stopAtCounter, wpX_isInstruction, wpX_readA, wpX_readB, wX_stopAtCounter_57, wX_stopAtCounter_71, wpX_isCell, sc_o6, f, forall_eq, nI_add, sc_m24, sc_m8, sc_m16, sc_10, true_implies, forall_const, not_true_eq_false, not_false_eq_true, false_implies, and_true, true_and, implies_true, and_self]
  exact k
theorem sc_r6 (h : sc_At t p n ja jb jd 6 a b im co cr ci rg sz pc) (k : postX (nI T, wa, wb, wc, co, cr, ci, upd rg (t * 8 + jd) (a &&& b), me, sz, upd pc t (nI p + 1), st, upd rc t (rc t + 1), upd dg t (dg t * 31 + 7 * nI p + (a &&& b)))) : wpX_retire postX (nI T, wa, wb, wc, co, cr, ci, rg, me, sz, pc, st, rc, dg) (nI t) := by
  have f := sc_fa h
  simp only [wpX_retire, wpX_readA, wpX_readB, wpX_nextCounter, wpX_result, wX_retire_185, wX_retire_121, wX_retire_162, sc_o6, f, forall_eq, nI_add, sc_m24, sc_m8, sc_m16, sc_10, true_implies, forall_const, not_true_eq_false, not_false_eq_true, false_implies, and_true, true_and, implies_true, and_self]
  exact k
theorem sc_x6 (h : sc_At t p n ja jb jd 6 a b im co cr ci rg sz pc) (k : postX (nI T, wa, wb, wc, co, cr, ci, upd rg (t * 8 + jd) (a &&& b), me, sz, upd pc t (nI p + 1), st, upd rc t (rc t + 1), upd dg t (dg t * 31 + 7 * nI p + (a &&& b)))) : wpX_step postX (nI T, wa, wb, wc, co, cr, ci, rg, me, sz, pc, st, rc, dg) (nI t) := by
  unfold wpX_step
  dsimp only
  exact sc_p6 h  (br_t rfl (sc_r6 h  k))
theorem sc_y6 (h : sc_At t p n ja jb jd 6 a b im co cr ci rg sz pc) (k : postY (nI T, co, cr, ci, sz, upd rg (t * 8 + jd) (a &&& b), me, upd pc t (nI p + 1), st, upd rc t (rc t + 1), upd dg t (dg t * 31 + 7 * nI p + (a &&& b)))) : wpY_step postY (nI T, co, cr, ci, sz, rg, me, pc, st, rc, dg) (nI t) := by
  have f := sc_fa h
  simp only [wpY_step, wY_step_150, wY_step_162, wY_step_182, wY_step_204, wY_step_221, wY_step_231, wY_step_241, wY_step_274, wY_step_286, wY_step_309, wY_step_339, wpY_written, sc_o6, f, forall_eq, nI_add, sc_m24, sc_m8, sc_m16, sc_10, true_implies, forall_const, not_true_eq_false, not_false_eq_true, false_implies, and_true, true_and, implies_true, and_self]
  exact k
theorem sc_p7 (h : sc_At t p n ja jb jd 7 a b im co cr ci rg sz pc) (k : post 0) : wpX_stopAtCounter post (nI T, wa, wb, wc, co, cr, ci, rg, me, sz, pc, st, rc, dg) (nI t) := by
  have f := sc_fa h
  simp only [wpX_stopAtCounter, wpX_isInstruction, wpX_readA, wpX_readB, wX_stopAtCounter_57, wX_stopAtCounter_71, wpX_isCell, sc_o7, f, forall_eq, nI_add, sc_m24, sc_m8, sc_m16, sc_10, true_implies, forall_const, not_true_eq_false, not_false_eq_true, false_implies, and_true, true_and, implies_true, and_self]
  exact k
theorem sc_r7 (h : sc_At t p n ja jb jd 7 a b im co cr ci rg sz pc) (k : postX (nI T, wa, wb, wc, co, cr, ci, upd rg (t * 8 + jd) (a ^^^ b), me, sz, upd pc t (nI p + 1), st, upd rc t (rc t + 1), upd dg t (dg t * 31 + 7 * nI p + (a ^^^ b)))) : wpX_retire postX (nI T, wa, wb, wc, co, cr, ci, rg, me, sz, pc, st, rc, dg) (nI t) := by
  have f := sc_fa h
  simp only [wpX_retire, wpX_readA, wpX_readB, wpX_nextCounter, wpX_result, wX_retire_185, wX_retire_121, wX_retire_162, sc_o7, f, forall_eq, nI_add, sc_m24, sc_m8, sc_m16, sc_10, true_implies, forall_const, not_true_eq_false, not_false_eq_true, false_implies, and_true, true_and, implies_true, and_self]
  exact k
theorem sc_x7 (h : sc_At t p n ja jb jd 7 a b im co cr ci rg sz pc) (k : postX (nI T, wa, wb, wc, co, cr, ci, upd rg (t * 8 + jd) (a ^^^ b), me, sz, upd pc t (nI p + 1), st, upd rc t (rc t + 1), upd dg t (dg t * 31 + 7 * nI p + (a ^^^ b)))) : wpX_step postX (nI T, wa, wb, wc, co, cr, ci, rg, me, sz, pc, st, rc, dg) (nI t) := by
  unfold wpX_step
  dsimp only
  exact sc_p7 h  (br_t rfl (sc_r7 h  k))
theorem sc_y7 (h : sc_At t p n ja jb jd 7 a b im co cr ci rg sz pc) (k : postY (nI T, co, cr, ci, sz, upd rg (t * 8 + jd) (a ^^^ b), me, upd pc t (nI p + 1), st, upd rc t (rc t + 1), upd dg t (dg t * 31 + 7 * nI p + (a ^^^ b)))) : wpY_step postY (nI T, co, cr, ci, sz, rg, me, pc, st, rc, dg) (nI t) := by
  have f := sc_fa h
  simp only [wpY_step, wY_step_150, wY_step_162, wY_step_182, wY_step_204, wY_step_221, wY_step_231, wY_step_241, wY_step_274, wY_step_286, wY_step_309, wY_step_339, wpY_written, sc_o7, f, forall_eq, nI_add, sc_m24, sc_m8, sc_m16, sc_10, true_implies, forall_const, not_true_eq_false, not_false_eq_true, false_implies, and_true, true_and, implies_true, and_self]
  exact k
theorem sc_p8 (h : sc_At t p n ja jb jd 8 a b im co cr ci rg sz pc) (k : post 0) : wpX_stopAtCounter post (nI T, wa, wb, wc, co, cr, ci, rg, me, sz, pc, st, rc, dg) (nI t) := by
  have f := sc_fa h
  simp only [wpX_stopAtCounter, wpX_isInstruction, wpX_readA, wpX_readB, wX_stopAtCounter_57, wX_stopAtCounter_71, wpX_isCell, sc_o8, f, forall_eq, nI_add, sc_m24, sc_m8, sc_m16, sc_10, true_implies, forall_const, not_true_eq_false, not_false_eq_true, false_implies, and_true, true_and, implies_true, and_self]
  exact k
theorem sc_r8 (h : sc_At t p n ja jb jd 8 a b im co cr ci rg sz pc) (k : postX (nI T, wa, wb, wc, co, cr, ci, upd rg (t * 8 + jd) (a <<< ((im &&& 31) &&& 31)), me, sz, upd pc t (nI p + 1), st, upd rc t (rc t + 1), upd dg t (dg t * 31 + 7 * nI p + (a <<< ((im &&& 31) &&& 31))))) : wpX_retire postX (nI T, wa, wb, wc, co, cr, ci, rg, me, sz, pc, st, rc, dg) (nI t) := by
  have f := sc_fa h
  simp only [wpX_retire, wpX_readA, wpX_readB, wpX_nextCounter, wpX_result, wX_retire_185, wX_retire_121, wX_retire_162, sc_o8, f, forall_eq, nI_add, sc_m24, sc_m8, sc_m16, sc_10, true_implies, forall_const, not_true_eq_false, not_false_eq_true, false_implies, and_true, true_and, implies_true, and_self]
  exact k
theorem sc_x8 (h : sc_At t p n ja jb jd 8 a b im co cr ci rg sz pc) (k : postX (nI T, wa, wb, wc, co, cr, ci, upd rg (t * 8 + jd) (a <<< ((im &&& 31) &&& 31)), me, sz, upd pc t (nI p + 1), st, upd rc t (rc t + 1), upd dg t (dg t * 31 + 7 * nI p + (a <<< ((im &&& 31) &&& 31))))) : wpX_step postX (nI T, wa, wb, wc, co, cr, ci, rg, me, sz, pc, st, rc, dg) (nI t) := by
  unfold wpX_step
  dsimp only
  exact sc_p8 h  (br_t rfl (sc_r8 h  k))
theorem sc_y8 (h : sc_At t p n ja jb jd 8 a b im co cr ci rg sz pc) (k : postY (nI T, co, cr, ci, sz, upd rg (t * 8 + jd) (a <<< ((im &&& 31) &&& 31)), me, upd pc t (nI p + 1), st, upd rc t (rc t + 1), upd dg t (dg t * 31 + 7 * nI p + (a <<< ((im &&& 31) &&& 31))))) : wpY_step postY (nI T, co, cr, ci, sz, rg, me, pc, st, rc, dg) (nI t) := by
  have f := sc_fa h
  simp only [wpY_step, wY_step_150, wY_step_162, wY_step_182, wY_step_204, wY_step_221, wY_step_231, wY_step_241, wY_step_274, wY_step_286, wY_step_309, wY_step_339, wpY_written, sc_o8, f, forall_eq, nI_add, sc_m24, sc_m8, sc_m16, sc_10, true_implies, forall_const, not_true_eq_false, not_false_eq_true, false_implies, and_true, true_and, implies_true, and_self]
  exact k
theorem sc_p9 (h : sc_At t p n ja jb jd 9 a b im co cr ci rg sz pc) (k : post 0) : wpX_stopAtCounter post (nI T, wa, wb, wc, co, cr, ci, rg, me, sz, pc, st, rc, dg) (nI t) := by
  have f := sc_fa h
  simp only [wpX_stopAtCounter, wpX_isInstruction, wpX_readA, wpX_readB, wX_stopAtCounter_57, wX_stopAtCounter_71, wpX_isCell, sc_o9, f, forall_eq, nI_add, sc_m24, sc_m8, sc_m16, sc_10, true_implies, forall_const, not_true_eq_false, not_false_eq_true, false_implies, and_true, true_and, implies_true, and_self]
  exact k
theorem sc_r9 (h : sc_At t p n ja jb jd 9 a b im co cr ci rg sz pc) (k : postX (nI T, wa, wb, wc, co, cr, ci, upd rg (t * 8 + jd) (a + im), me, sz, upd pc t (nI p + 1), st, upd rc t (rc t + 1), upd dg t (dg t * 31 + 7 * nI p + (a + im)))) : wpX_retire postX (nI T, wa, wb, wc, co, cr, ci, rg, me, sz, pc, st, rc, dg) (nI t) := by
  have f := sc_fa h
  simp only [wpX_retire, wpX_readA, wpX_readB, wpX_nextCounter, wpX_result, wX_retire_185, wX_retire_121, wX_retire_162, sc_o9, f, forall_eq, nI_add, sc_m24, sc_m8, sc_m16, sc_10, true_implies, forall_const, not_true_eq_false, not_false_eq_true, false_implies, and_true, true_and, implies_true, and_self]
  exact k
theorem sc_x9 (h : sc_At t p n ja jb jd 9 a b im co cr ci rg sz pc) (k : postX (nI T, wa, wb, wc, co, cr, ci, upd rg (t * 8 + jd) (a + im), me, sz, upd pc t (nI p + 1), st, upd rc t (rc t + 1), upd dg t (dg t * 31 + 7 * nI p + (a + im)))) : wpX_step postX (nI T, wa, wb, wc, co, cr, ci, rg, me, sz, pc, st, rc, dg) (nI t) := by
  unfold wpX_step
  dsimp only
  exact sc_p9 h  (br_t rfl (sc_r9 h  k))
theorem sc_y9 (h : sc_At t p n ja jb jd 9 a b im co cr ci rg sz pc) (k : postY (nI T, co, cr, ci, sz, upd rg (t * 8 + jd) (a + im), me, upd pc t (nI p + 1), st, upd rc t (rc t + 1), upd dg t (dg t * 31 + 7 * nI p + (a + im)))) : wpY_step postY (nI T, co, cr, ci, sz, rg, me, pc, st, rc, dg) (nI t) := by
  have f := sc_fa h
  simp only [wpY_step, wY_step_150, wY_step_162, wY_step_182, wY_step_204, wY_step_221, wY_step_231, wY_step_241, wY_step_274, wY_step_286, wY_step_309, wY_step_339, wpY_written, sc_o9, f, forall_eq, nI_add, sc_m24, sc_m8, sc_m16, sc_10, true_implies, forall_const, not_true_eq_false, not_false_eq_true, false_implies, and_true, true_and, implies_true, and_self]
  exact k
theorem sc_p14 (h : sc_At t p n ja jb jd 14 a b im co cr ci rg sz pc) (k : post 0) : wpX_stopAtCounter post (nI T, wa, wb, wc, co, cr, ci, rg, me, sz, pc, st, rc, dg) (nI t) := by
  have f := sc_fa h
  simp only [wpX_stopAtCounter, wpX_isInstruction, wpX_readA, wpX_readB, wX_stopAtCounter_57, wX_stopAtCounter_71, wpX_isCell, sc_o14, f, forall_eq, nI_add, sc_m24, sc_m8, sc_m16, sc_10, true_implies, forall_const, not_true_eq_false, not_false_eq_true, false_implies, and_true, true_and, implies_true, and_self]
  exact k
theorem sc_r14 (h : sc_At t p n ja jb jd 14 a b im co cr ci rg sz pc) (k : postX (nI T, wa, wb, wc, co, cr, ci, upd rg (t * 8 + jd) (nI p + 1), me, sz, upd pc t (im), st, upd rc t (rc t + 1), upd dg t (dg t * 31 + 7 * nI p + (nI p + 1)))) : wpX_retire postX (nI T, wa, wb, wc, co, cr, ci, rg, me, sz, pc, st, rc, dg) (nI t) := by
  have f := sc_fa h
  simp only [wpX_retire, wpX_readA, wpX_readB, wpX_nextCounter, wpX_result, wX_retire_185, wX_retire_121, wX_retire_162, sc_o14, f, forall_eq, nI_add, sc_m24, sc_m8, sc_m16, sc_10, true_implies, forall_const, not_true_eq_false, not_false_eq_true, false_implies, and_true, true_and, implies_true, and_self]
  exact k
theorem sc_x14 (h : sc_At t p n ja jb jd 14 a b im co cr ci rg sz pc) (k : postX (nI T, wa, wb, wc, co, cr, ci, upd rg (t * 8 + jd) (nI p + 1), me, sz, upd pc t (im), st, upd rc t (rc t + 1), upd dg t (dg t * 31 + 7 * nI p + (nI p + 1)))) : wpX_step postX (nI T, wa, wb, wc, co, cr, ci, rg, me, sz, pc, st, rc, dg) (nI t) := by
  unfold wpX_step
  dsimp only
  exact sc_p14 h  (br_t rfl (sc_r14 h  k))
theorem sc_y14 (h : sc_At t p n ja jb jd 14 a b im co cr ci rg sz pc) (k : postY (nI T, co, cr, ci, sz, upd rg (t * 8 + jd) (nI p + 1), me, upd pc t (im), st, upd rc t (rc t + 1), upd dg t (dg t * 31 + 7 * nI p + (nI p + 1)))) : wpY_step postY (nI T, co, cr, ci, sz, rg, me, pc, st, rc, dg) (nI t) := by
  have f := sc_fa h
  simp only [wpY_step, wY_step_150, wY_step_162, wY_step_182, wY_step_204, wY_step_221, wY_step_231, wY_step_241, wY_step_274, wY_step_286, wY_step_309, wY_step_339, wpY_written, sc_o14, f, forall_eq, nI_add, sc_m24, sc_m8, sc_m16, sc_10, true_implies, forall_const, not_true_eq_false, not_false_eq_true, false_implies, and_true, true_and, implies_true, and_self]
  exact k
theorem sc_p5 (h : sc_At t p n ja jb jd 5 a b im co cr ci rg sz pc) (z : ¬ b = 0) (k : post 0) : wpX_stopAtCounter post (nI T, wa, wb, wc, co, cr, ci, rg, me, sz, pc, st, rc, dg) (nI t) := by
  have f := sc_fa h
  simp only [wpX_stopAtCounter, wpX_isInstruction, wpX_readA, wpX_readB, wX_stopAtCounter_57, wX_stopAtCounter_71, wpX_isCell, sc_o5, f, forall_eq, nI_add, sc_m24, sc_m8, sc_m16, sc_10, true_implies, forall_const, not_true_eq_false, not_false_eq_true, false_implies, and_true, true_and, implies_true, and_self, z]
  exact k
theorem sc_r5 (h : sc_At t p n ja jb jd 5 a b im co cr ci rg sz pc) (z : ¬ b = 0) (k : postX (nI T, wa, wb, wc, co, cr, ci, upd rg (t * 8 + jd) (a / b), me, sz, upd pc t (nI p + 1), st, upd rc t (rc t + 1), upd dg t (dg t * 31 + 7 * nI p + (a / b)))) : wpX_retire postX (nI T, wa, wb, wc, co, cr, ci, rg, me, sz, pc, st, rc, dg) (nI t) := by
  have f := sc_fa h
  simp only [wpX_retire, wpX_readA, wpX_readB, wpX_nextCounter, wpX_result, wX_retire_185, wX_retire_121, wX_retire_162, sc_o5, f, forall_eq, nI_add, sc_m24, sc_m8, sc_m16, sc_10, true_implies, forall_const, not_true_eq_false, not_false_eq_true, false_implies, and_true, true_and, implies_true, and_self, z]
  exact k
theorem sc_x5 (h : sc_At t p n ja jb jd 5 a b im co cr ci rg sz pc) (z : ¬ b = 0) (k : postX (nI T, wa, wb, wc, co, cr, ci, upd rg (t * 8 + jd) (a / b), me, sz, upd pc t (nI p + 1), st, upd rc t (rc t + 1), upd dg t (dg t * 31 + 7 * nI p + (a / b)))) : wpX_step postX (nI T, wa, wb, wc, co, cr, ci, rg, me, sz, pc, st, rc, dg) (nI t) := by
  unfold wpX_step
  dsimp only
  exact sc_p5 h z (br_t rfl (sc_r5 h z k))
theorem sc_y5 (h : sc_At t p n ja jb jd 5 a b im co cr ci rg sz pc) (z : ¬ b = 0) (k : postY (nI T, co, cr, ci, sz, upd rg (t * 8 + jd) (a / b), me, upd pc t (nI p + 1), st, upd rc t (rc t + 1), upd dg t (dg t * 31 + 7 * nI p + (a / b)))) : wpY_step postY (nI T, co, cr, ci, sz, rg, me, pc, st, rc, dg) (nI t) := by
  have f := sc_fa h
  simp only [wpY_step, wY_step_150, wY_step_162, wY_step_182, wY_step_204, wY_step_221, wY_step_231, wY_step_241, wY_step_274, wY_step_286, wY_step_309, wY_step_339, wpY_written, sc_o5, f, forall_eq, nI_add, sc_m24, sc_m8, sc_m16, sc_10, true_implies, forall_const, not_true_eq_false, not_false_eq_true, false_implies, and_true, true_and, implies_true, and_self, z]
  exact k
theorem sc_p10 (h : sc_At t p n ja jb jd 10 a b im co cr ci rg sz pc) (hq : q < 16) (z : a + im = nI q) (k : post 0) : wpX_stopAtCounter post (nI T, wa, wb, wc, co, cr, ci, rg, me, sz, pc, st, rc, dg) (nI t) := by
  have f := sc_fa h
  simp only [wpX_stopAtCounter, wpX_isInstruction, wpX_readA, wpX_readB, wX_stopAtCounter_57, wX_stopAtCounter_71, wpX_isCell, sc_o10, f, forall_eq, nI_add, sc_m24, sc_m8, sc_m16, sc_10, true_implies, forall_const, not_true_eq_false, not_false_eq_true, false_implies, and_true, true_and, implies_true, and_self, z, sc_fq h hq]
  exact k
theorem sc_r10 (h : sc_At t p n ja jb jd 10 a b im co cr ci rg sz pc) (hq : q < 16) (z : a + im = nI q) (k : postX (nI T, wa, wb, wc, co, cr, ci, upd rg (t * 8 + jd) (me (t * 16 + q)), me, sz, upd pc t (nI p + 1), st, upd rc t (rc t + 1), upd dg t (dg t * 31 + 7 * nI p + (me (t * 16 + q))))) : wpX_retire postX (nI T, wa, wb, wc, co, cr, ci, rg, me, sz, pc, st, rc, dg) (nI t) := by
  have f := sc_fa h
  simp only [wpX_retire, wpX_readA, wpX_readB, wpX_nextCounter, wpX_result, wX_retire_185, wX_retire_121, wX_retire_162, sc_o10, f, forall_eq, nI_add, sc_m24, sc_m8, sc_m16, sc_10, true_implies, forall_const, not_true_eq_false, not_false_eq_true, false_implies, and_true, true_and, implies_true, and_self, z, sc_fq h hq]
  exact k
theorem sc_x10 (h : sc_At t p n ja jb jd 10 a b im co cr ci rg sz pc) (hq : q < 16) (z : a + im = nI q) (k : postX (nI T, wa, wb, wc, co, cr, ci, upd rg (t * 8 + jd) (me (t * 16 + q)), me, sz, upd pc t (nI p + 1), st, upd rc t (rc t + 1), upd dg t (dg t * 31 + 7 * nI p + (me (t * 16 + q))))) : wpX_step postX (nI T, wa, wb, wc, co, cr, ci, rg, me, sz, pc, st, rc, dg) (nI t) := by
  unfold wpX_step
  dsimp only
  exact sc_p10 h hq z (br_t rfl (sc_r10 h hq z k))
theorem sc_y10 (h : sc_At t p n ja jb jd 10 a b im co cr ci rg sz pc) (hq : q < 16) (z : a + im = nI q) (k : postY (nI T, co, cr, ci, sz, upd rg (t * 8 + jd) (me (t * 16 + q)), me, upd pc t (nI p + 1), st, upd rc t (rc t + 1), upd dg t (dg t * 31 + 7 * nI p + (me (t * 16 + q))))) : wpY_step postY (nI T, co, cr, ci, sz, rg, me, pc, st, rc, dg) (nI t) := by
  have f := sc_fa h
  simp only [wpY_step, wY_step_150, wY_step_162, wY_step_182, wY_step_204, wY_step_221, wY_step_231, wY_step_241, wY_step_274, wY_step_286, wY_step_309, wY_step_339, wpY_written, sc_o10, f, forall_eq, nI_add, sc_m24, sc_m8, sc_m16, sc_10, true_implies, forall_const, not_true_eq_false, not_false_eq_true, false_implies, and_true, true_and, implies_true, and_self, z, sc_fq h hq]
  exact k
theorem sc_p11 (h : sc_At t p n ja jb jd 11 a b im co cr ci rg sz pc) (hq : q < 16) (z : a + im = nI q) (k : post 0) : wpX_stopAtCounter post (nI T, wa, wb, wc, co, cr, ci, rg, me, sz, pc, st, rc, dg) (nI t) := by
  have f := sc_fa h
  simp only [wpX_stopAtCounter, wpX_isInstruction, wpX_readA, wpX_readB, wX_stopAtCounter_57, wX_stopAtCounter_71, wpX_isCell, sc_o11, f, forall_eq, nI_add, sc_m24, sc_m8, sc_m16, sc_10, true_implies, forall_const, not_true_eq_false, not_false_eq_true, false_implies, and_true, true_and, implies_true, and_self, z, sc_fq h hq]
  exact k
theorem sc_r11 (h : sc_At t p n ja jb jd 11 a b im co cr ci rg sz pc) (hq : q < 16) (z : a + im = nI q) (k : postX (nI T, wa, wb, wc, co, cr, ci, rg, upd me (t * 16 + q) b, sz, upd pc t (nI p + 1), st, upd rc t (rc t + 1), upd dg t (dg t * 31 + 7 * nI p + (5 * nI q + b)))) : wpX_retire postX (nI T, wa, wb, wc, co, cr, ci, rg, me, sz, pc, st, rc, dg) (nI t) := by
  have f := sc_fa h
  simp only [wpX_retire, wpX_readA, wpX_readB, wpX_nextCounter, wpX_result, wX_retire_185, wX_retire_121, wX_retire_162, sc_o11, f, forall_eq, nI_add, sc_m24, sc_m8, sc_m16, sc_10, true_implies, forall_const, not_true_eq_false, not_false_eq_true, false_implies, and_true, true_and, implies_true, and_self, z, sc_fq h hq]
  exact k
theorem sc_x11 (h : sc_At t p n ja jb jd 11 a b im co cr ci rg sz pc) (hq : q < 16) (z : a + im = nI q) (k : postX (nI T, wa, wb, wc, co, cr, ci, rg, upd me (t * 16 + q) b, sz, upd pc t (nI p + 1), st, upd rc t (rc t + 1), upd dg t (dg t * 31 + 7 * nI p + (5 * nI q + b)))) : wpX_step postX (nI T, wa, wb, wc, co, cr, ci, rg, me, sz, pc, st, rc, dg) (nI t) := by
  unfold wpX_step
  dsimp only
  exact sc_p11 h hq z (br_t rfl (sc_r11 h hq z k))
theorem sc_y11 (h : sc_At t p n ja jb jd 11 a b im co cr ci rg sz pc) (hq : q < 16) (z : a + im = nI q) (k : postY (nI T, co, cr, ci, sz, rg, upd me (t * 16 + q) b, upd pc t (nI p + 1), st, upd rc t (rc t + 1), upd dg t (dg t * 31 + 7 * nI p + (5 * nI q + b)))) : wpY_step postY (nI T, co, cr, ci, sz, rg, me, pc, st, rc, dg) (nI t) := by
  have f := sc_fa h
  simp only [wpY_step, wY_step_150, wY_step_162, wY_step_182, wY_step_204, wY_step_221, wY_step_231, wY_step_241, wY_step_274, wY_step_286, wY_step_309, wY_step_339, wpY_written, sc_o11, f, forall_eq, nI_add, sc_m24, sc_m8, sc_m16, sc_10, true_implies, forall_const, not_true_eq_false, not_false_eq_true, false_implies, and_true, true_and, implies_true, and_self, z, sc_fq h hq]
  exact k
theorem sc_p12e (h : sc_At t p n ja jb jd 12 a b im co cr ci rg sz pc) (z : a = b) (k : post 0) : wpX_stopAtCounter post (nI T, wa, wb, wc, co, cr, ci, rg, me, sz, pc, st, rc, dg) (nI t) := by
  have f := sc_fa h
  simp only [wpX_stopAtCounter, wpX_isInstruction, wpX_readA, wpX_readB, wX_stopAtCounter_57, wX_stopAtCounter_71, wpX_isCell, sc_o12, f, forall_eq, nI_add, sc_m24, sc_m8, sc_m16, sc_10, true_implies, forall_const, not_true_eq_false, not_false_eq_true, false_implies, and_true, true_and, implies_true, and_self, z]
  exact k
theorem sc_r12e (h : sc_At t p n ja jb jd 12 a b im co cr ci rg sz pc) (z : a = b) (k : postX (nI T, wa, wb, wc, co, cr, ci, rg, me, sz, upd pc t (im), st, upd rc t (rc t + 1), upd dg t (dg t * 31 + 7 * nI p + im))) : wpX_retire postX (nI T, wa, wb, wc, co, cr, ci, rg, me, sz, pc, st, rc, dg) (nI t) := by
  have f := sc_fa h
  simp only [wpX_retire, wpX_readA, wpX_readB, wpX_nextCounter, wpX_result, wX_retire_185, wX_retire_121, wX_retire_162, sc_o12, f, forall_eq, nI_add, sc_m24, sc_m8, sc_m16, sc_10, true_implies, forall_const, not_true_eq_false, not_false_eq_true, false_implies, and_true, true_and, implies_true, and_self, z]
  exact k
theorem sc_x12e (h : sc_At t p n ja jb jd 12 a b im co cr ci rg sz pc) (z : a = b) (k : postX (nI T, wa, wb, wc, co, cr, ci, rg, me, sz, upd pc t (im), st, upd rc t (rc t + 1), upd dg t (dg t * 31 + 7 * nI p + im))) : wpX_step postX (nI T, wa, wb, wc, co, cr, ci, rg, me, sz, pc, st, rc, dg) (nI t) := by
  unfold wpX_step
  dsimp only
  exact sc_p12e h z (br_t rfl (sc_r12e h z k))
theorem sc_y12e (h : sc_At t p n ja jb jd 12 a b im co cr ci rg sz pc) (z : a = b) (k : postY (nI T, co, cr, ci, sz, rg, me, upd pc t (im), st, upd rc t (rc t + 1), upd dg t (dg t * 31 + 7 * nI p + im))) : wpY_step postY (nI T, co, cr, ci, sz, rg, me, pc, st, rc, dg) (nI t) := by
  have f := sc_fa h
  simp only [wpY_step, wY_step_150, wY_step_162, wY_step_182, wY_step_204, wY_step_221, wY_step_231, wY_step_241, wY_step_274, wY_step_286, wY_step_309, wY_step_339, wpY_written, sc_o12, f, forall_eq, nI_add, sc_m24, sc_m8, sc_m16, sc_10, true_implies, forall_const, not_true_eq_false, not_false_eq_true, false_implies, and_true, true_and, implies_true, and_self, z]
  exact k
theorem sc_p12n (h : sc_At t p n ja jb jd 12 a b im co cr ci rg sz pc) (z : ¬ a = b) (k : post 0) : wpX_stopAtCounter post (nI T, wa, wb, wc, co, cr, ci, rg, me, sz, pc, st, rc, dg) (nI t) := by
  have f := sc_fa h
  simp only [wpX_stopAtCounter, wpX_isInstruction, wpX_readA, wpX_readB, wX_stopAtCounter_57, wX_stopAtCounter_71, wpX_isCell, sc_o12, f, forall_eq, nI_add, sc_m24, sc_m8, sc_m16, sc_10, true_implies, forall_const, not_true_eq_false, not_false_eq_true, false_implies, and_true, true_and, implies_true, and_self, z]
  exact k
theorem sc_r12n (h : sc_At t p n ja jb jd 12 a b im co cr ci rg sz pc) (z : ¬ a = b) (k : postX (nI T, wa, wb, wc, co, cr, ci, rg, me, sz, upd pc t (nI p + 1), st, upd rc t (rc t + 1), upd dg t (dg t * 31 + 7 * nI p + (nI p + 1)))) : wpX_retire postX (nI T, wa, wb, wc, co, cr, ci, rg, me, sz, pc, st, rc, dg) (nI t) := by
  have f := sc_fa h
  simp only [wpX_retire, wpX_readA, wpX_readB, wpX_nextCounter, wpX_result, wX_retire_185, wX_retire_121, wX_retire_162, sc_o12, f, forall_eq, nI_add, sc_m24, sc_m8, sc_m16, sc_10, true_implies, forall_const, not_true_eq_false, not_false_eq_true, false_implies, and_true, true_and, implies_true, and_self, z]
  exact k
theorem sc_x12n (h : sc_At t p n ja jb jd 12 a b im co cr ci rg sz pc) (z : ¬ a = b) (k : postX (nI T, wa, wb, wc, co, cr, ci, rg, me, sz, upd pc t (nI p + 1), st, upd rc t (rc t + 1), upd dg t (dg t * 31 + 7 * nI p + (nI p + 1)))) : wpX_step postX (nI T, wa, wb, wc, co, cr, ci, rg, me, sz, pc, st, rc, dg) (nI t) := by
  unfold wpX_step
  dsimp only
  exact sc_p12n h z (br_t rfl (sc_r12n h z k))
theorem sc_y12n (h : sc_At t p n ja jb jd 12 a b im co cr ci rg sz pc) (z : ¬ a = b) (k : postY (nI T, co, cr, ci, sz, rg, me, upd pc t (nI p + 1), st, upd rc t (rc t + 1), upd dg t (dg t * 31 + 7 * nI p + (nI p + 1)))) : wpY_step postY (nI T, co, cr, ci, sz, rg, me, pc, st, rc, dg) (nI t) := by
  have f := sc_fa h
  simp only [wpY_step, wY_step_150, wY_step_162, wY_step_182, wY_step_204, wY_step_221, wY_step_231, wY_step_241, wY_step_274, wY_step_286, wY_step_309, wY_step_339, wpY_written, sc_o12, f, forall_eq, nI_add, sc_m24, sc_m8, sc_m16, sc_10, true_implies, forall_const, not_true_eq_false, not_false_eq_true, false_implies, and_true, true_and, implies_true, and_self, z]
  exact k
theorem sc_p13n (h : sc_At t p n ja jb jd 13 a b im co cr ci rg sz pc) (z : b ≤ a) (k : post 0) : wpX_stopAtCounter post (nI T, wa, wb, wc, co, cr, ci, rg, me, sz, pc, st, rc, dg) (nI t) := by
  have f := sc_fa h
  simp only [wpX_stopAtCounter, wpX_isInstruction, wpX_readA, wpX_readB, wX_stopAtCounter_57, wX_stopAtCounter_71, wpX_isCell, sc_o13, f, forall_eq, nI_add, sc_m24, sc_m8, sc_m16, sc_10, true_implies, forall_const, not_true_eq_false, not_false_eq_true, false_implies, and_true, true_and, implies_true, and_self, z]
  exact k
theorem sc_r13n (h : sc_At t p n ja jb jd 13 a b im co cr ci rg sz pc) (z : b ≤ a) (k : postX (nI T, wa, wb, wc, co, cr, ci, rg, me, sz, upd pc t (nI p + 1), st, upd rc t (rc t + 1), upd dg t (dg t * 31 + 7 * nI p + (nI p + 1)))) : wpX_retire postX (nI T, wa, wb, wc, co, cr, ci, rg, me, sz, pc, st, rc, dg) (nI t) := by
  have f := sc_fa h
  simp only [wpX_retire, wpX_readA, wpX_readB, wpX_nextCounter, wpX_result, wX_retire_185, wX_retire_121, wX_retire_162, sc_o13, f, forall_eq, nI_add, sc_m24, sc_m8, sc_m16, sc_10, true_implies, forall_const, not_true_eq_false, not_false_eq_true, false_implies, and_true, true_and, implies_true, and_self, z]
  exact k
theorem sc_x13n (h : sc_At t p n ja jb jd 13 a b im co cr ci rg sz pc) (z : b ≤ a) (k : postX (nI T, wa, wb, wc, co, cr, ci, rg, me, sz, upd pc t (nI p + 1), st, upd rc t (rc t + 1), upd dg t (dg t * 31 + 7 * nI p + (nI p + 1)))) : wpX_step postX (nI T, wa, wb, wc, co, cr, ci, rg, me, sz, pc, st, rc, dg) (nI t) := by
  unfold wpX_step
  dsimp only
  exact sc_p13n h z (br_t rfl (sc_r13n h z k))
theorem sc_y13n (h : sc_At t p n ja jb jd 13 a b im co cr ci rg sz pc) (z : b ≤ a) (k : postY (nI T, co, cr, ci, sz, rg, me, upd pc t (nI p + 1), st, upd rc t (rc t + 1), upd dg t (dg t * 31 + 7 * nI p + (nI p + 1)))) : wpY_step postY (nI T, co, cr, ci, sz, rg, me, pc, st, rc, dg) (nI t) := by
  have f := sc_fa h
  simp only [wpY_step, wY_step_150, wY_step_162, wY_step_182, wY_step_204, wY_step_221, wY_step_231, wY_step_241, wY_step_274, wY_step_286, wY_step_309, wY_step_339, wpY_written, sc_o13, f, forall_eq, nI_add, sc_m24, sc_m8, sc_m16, sc_10, true_implies, forall_const, not_true_eq_false, not_false_eq_true, false_implies, and_true, true_and, implies_true, and_self, z]
  exact k
theorem sc_p13l (h : sc_At t p n ja jb jd 13 a b im co cr ci rg sz pc) (z : ¬ b ≤ a) (k : post 0) : wpX_stopAtCounter post (nI T, wa, wb, wc, co, cr, ci, rg, me, sz, pc, st, rc, dg) (nI t) := by
  have f := sc_fa h
  simp only [wpX_stopAtCounter, wpX_isInstruction, wpX_readA, wpX_readB, wX_stopAtCounter_57, wX_stopAtCounter_71, wpX_isCell, sc_o13, f, forall_eq, nI_add, sc_m24, sc_m8, sc_m16, sc_10, true_implies, forall_const, not_true_eq_false, not_false_eq_true, false_implies, and_true, true_and, implies_true, and_self, z]
  exact k
theorem sc_r13l (h : sc_At t p n ja jb jd 13 a b im co cr ci rg sz pc) (z : ¬ b ≤ a) (k : postX (nI T, wa, wb, wc, co, cr, ci, rg, me, sz, upd pc t (im), st, upd rc t (rc t + 1), upd dg t (dg t * 31 + 7 * nI p + im))) : wpX_retire postX (nI T, wa, wb, wc, co, cr, ci, rg, me, sz, pc, st, rc, dg) (nI t) := by
  have f := sc_fa h
  simp only [wpX_retire, wpX_readA, wpX_readB, wpX_nextCounter, wpX_result, wX_retire_185, wX_retire_121, wX_retire_162, sc_o13, f, forall_eq, nI_add, sc_m24, sc_m8, sc_m16, sc_10, true_implies, forall_const, not_true_eq_false, not_false_eq_true, false_implies, and_true, true_and, implies_true, and_self, z]
  exact k
theorem sc_x13l (h : sc_At t p n ja jb jd 13 a b im co cr ci rg sz pc) (z : ¬ b ≤ a) (k : postX (nI T, wa, wb, wc, co, cr, ci, rg, me, sz, upd pc t (im), st, upd rc t (rc t + 1), upd dg t (dg t * 31 + 7 * nI p + im))) : wpX_step postX (nI T, wa, wb, wc, co, cr, ci, rg, me, sz, pc, st, rc, dg) (nI t) := by
  unfold wpX_step
  dsimp only
  exact sc_p13l h z (br_t rfl (sc_r13l h z k))
theorem sc_y13l (h : sc_At t p n ja jb jd 13 a b im co cr ci rg sz pc) (z : ¬ b ≤ a) (k : postY (nI T, co, cr, ci, sz, rg, me, upd pc t (im), st, upd rc t (rc t + 1), upd dg t (dg t * 31 + 7 * nI p + im))) : wpY_step postY (nI T, co, cr, ci, sz, rg, me, pc, st, rc, dg) (nI t) := by
  have f := sc_fa h
  simp only [wpY_step, wY_step_150, wY_step_162, wY_step_182, wY_step_204, wY_step_221, wY_step_231, wY_step_241, wY_step_274, wY_step_286, wY_step_309, wY_step_339, wpY_written, sc_o13, f, forall_eq, nI_add, sc_m24, sc_m8, sc_m16, sc_10, true_implies, forall_const, not_true_eq_false, not_false_eq_true, false_implies, and_true, true_and, implies_true, and_self, z]
  exact k
theorem sc_p15 (h : sc_At t p n ja jb jd 15 a b im co cr ci rg sz pc) (k : post 0) : wpX_stopAtCounter post (nI T, wa, wb, wc, co, cr, ci, rg, me, sz, pc, st, rc, dg) (nI t) := by
  have f := sc_fa h
  simp only [wpX_stopAtCounter, wpX_isInstruction, wpX_readA, wpX_readB, wX_stopAtCounter_57, wX_stopAtCounter_71, wpX_isCell, sc_o15, f, forall_eq, nI_add, sc_m24, sc_m8, sc_m16, sc_10, true_implies, forall_const, not_true_eq_false, not_false_eq_true, false_implies, and_true, true_and, implies_true, and_self]
  exact k
theorem sc_r15 (h : sc_At t p n ja jb jd 15 a b im co cr ci rg sz pc) (k : postX (nI T, wa, wb, wc, co, cr, ci, rg, me, sz, upd pc t (a), st, upd rc t (rc t + 1), upd dg t (dg t * 31 + 7 * nI p + a))) : wpX_retire postX (nI T, wa, wb, wc, co, cr, ci, rg, me, sz, pc, st, rc, dg) (nI t) := by
  have f := sc_fa h
  simp only [wpX_retire, wpX_readA, wpX_readB, wpX_nextCounter, wpX_result, wX_retire_185, wX_retire_121, wX_retire_162, sc_o15, f, forall_eq, nI_add, sc_m24, sc_m8, sc_m16, sc_10, true_implies, forall_const, not_true_eq_false, not_false_eq_true, false_implies, and_true, true_and, implies_true, and_self]
  exact k
theorem sc_x15 (h : sc_At t p n ja jb jd 15 a b im co cr ci rg sz pc) (k : postX (nI T, wa, wb, wc, co, cr, ci, rg, me, sz, upd pc t (a), st, upd rc t (rc t + 1), upd dg t (dg t * 31 + 7 * nI p + a))) : wpX_step postX (nI T, wa, wb, wc, co, cr, ci, rg, me, sz, pc, st, rc, dg) (nI t) := by
  unfold wpX_step
  dsimp only
  exact sc_p15 h  (br_t rfl (sc_r15 h  k))
theorem sc_y15 (h : sc_At t p n ja jb jd 15 a b im co cr ci rg sz pc) (k : postY (nI T, co, cr, ci, sz, rg, me, upd pc t (a), st, upd rc t (rc t + 1), upd dg t (dg t * 31 + 7 * nI p + a))) : wpY_step postY (nI T, co, cr, ci, sz, rg, me, pc, st, rc, dg) (nI t) := by
  have f := sc_fa h
  simp only [wpY_step, wY_step_150, wY_step_162, wY_step_182, wY_step_204, wY_step_221, wY_step_231, wY_step_241, wY_step_274, wY_step_286, wY_step_309, wY_step_339, wpY_written, sc_o15, f, forall_eq, nI_add, sc_m24, sc_m8, sc_m16, sc_10, true_implies, forall_const, not_true_eq_false, not_false_eq_true, false_implies, and_true, true_and, implies_true, and_self]
  exact k
end
end
