theorem pk_us {f : Nat → Int32} {k : Nat} {x : Int32} : upd f k x k = x := if_pos rfl
theorem pk_un {f : Nat → Int32} {k j : Nat} {x : Int32} (h : j ≠ k) : upd f k x j = f j := if_neg h
theorem pk_mul (a b : Nat) : nI a * nI b = nI (a * b) := (Int32.ofNat_mul a b).symm
theorem pk_ix (x : Int32) {n : Nat} (hn : n < 2 ^ 31) : x < 0 ∨ nI n ≤ x ∨ ∃ j : Nat, j < n ∧ x = nI j := by
  by_cases h : x < 0
  · exact Or.inl h
  · obtain ⟨j, hj, rfl⟩ := nI_of h
    by_cases h2 : j < n
    · exact Or.inr (Or.inr ⟨j, h2, rfl⟩)
    · exact Or.inr (Or.inl (nI_le (by omega) hj))
theorem pk_and (x : Int32) {m : Int32} (k : Nat) (hm : m.toBitVec.toNat = 2 ^ k - 1) : x &&& m = nI (x.toBitVec.toNat % 2 ^ k) := by
  apply Int32.toBitVec_inj.mp
  apply BitVec.eq_of_toNat_eq
  rw [Int32.toBitVec_and, BitVec.toNat_and, hm, Nat.and_two_pow_sub_one_eq_mod]
  show _ = (BitVec.ofNat 32 _).toNat
  rw [BitVec.toNat_ofNat]
  exact (Nat.mod_eq_of_lt (Nat.lt_of_le_of_lt (Nat.mod_le _ _) x.toBitVec.isLt)).symm
theorem sc_m24 (n : Nat) : nI n * 24 = nI (n * 24) := pk_mul n 24
theorem sc_m8 (n : Nat) : nI n * 8 = nI (n * 8) := pk_mul n 8
theorem sc_m16 (n : Nat) : nI n * 16 = nI (n * 16) := pk_mul n 16
theorem sc_10 : ¬ (1 : Int32) = 0 := by decide
theorem sc_20 : ¬ (2 : Int32) = 0 := by decide
theorem sc_30 : ¬ (3 : Int32) = 0 := by decide
theorem sc_40 : ¬ (4 : Int32) = 0 := by decide
theorem sc_a7 (x : Int32) : ∃ j : Nat, j < 8 ∧ x &&& 7 = nI j := ⟨_, Nat.mod_lt _ (by decide), pk_and x 3 (by decide)⟩
theorem sc_lt24 {n : Nat} (h : n < 24) : nI n < 24 := nI_lt (b := 24) h (by decide)
theorem sc_nlt24 {n : Nat} (h : 24 ≤ n) (hn : n ≤ 24) : ¬ nI n < 24 := nI_nlt (b := 24) h (by omega)
theorem sc_le15 {n : Nat} (h : n < 16) : nI n ≤ 15 := nI_le (b := 15) (by omega) (by decide)
theorem sc_n16 {n : Nat} (h : n < 16) : ¬ (16 : Int32) ≤ nI n := nI_ge (b := 16) h (by decide)
theorem sc_le7 {n : Nat} (h : n < 8) : nI n ≤ 7 := nI_le (b := 7) (by omega) (by decide)
theorem sc_n8 {n : Nat} (h : n < 8) : ¬ (8 : Int32) ≤ nI n := nI_ge (b := 8) h (by decide)
theorem sc_16n15 {x : Int32} (h : (16 : Int32) ≤ x) : ¬ x ≤ 15 := fun z => absurd (Int32.le_trans h z) (by decide)
theorem sc_8n7 {x : Int32} (h : (8 : Int32) ≤ x) : ¬ x ≤ 7 := fun z => absurd (Int32.le_trans h z) (by decide)
theorem sc_pn {x : Int32} {k : Nat} (h : nI k ≤ x) (hk : k < 2 ^ 31) : ¬ x < 0 := fun z => absurd (Int32.lt_of_le_of_lt h z) (nI_pos hk)
theorem sc_nl {x y : Int32} (h : x ≤ y) : ¬ y < x := Int32.not_lt.mpr h
/-- no more than four threads; each operation is 0 to 15; no code is longer than 24 -/
def sc_Inv (T : Nat) (co sz : Nat → Int32) : Prop := T ≤ 4 ∧ (∀ i, ∃ o : Nat, o < 16 ∧ co i = nI o) ∧ (∀ t, ∃ n : Nat, n ≤ 24 ∧ sz t = nI n)
theorem sc_i0 {T : Nat} (h : T ≤ 4) : sc_Inv T (fun _ => 0) (fun _ => 0) := ⟨h, fun _ => ⟨0, by omega, rfl⟩, fun _ => ⟨0, by omega, rfl⟩⟩
theorem sc_iO {T : Nat} {co sz : Nat → Int32} (J : sc_Inv T co sz) (k o : Nat) (ho : o < 16) : sc_Inv T (upd co k (nI o)) sz := by
  refine ⟨J.1, fun i => ?_, J.2.2⟩
  by_cases e : i = k
  · exact ⟨o, ho, by rw [e, pk_us]⟩
  · rw [pk_un e]; exact J.2.1 i
theorem sc_iS {T : Nat} {co sz : Nat → Int32} (J : sc_Inv T co sz) (k o : Nat) (ho : o ≤ 24) : sc_Inv T co (upd sz k (nI o)) := by
  refine ⟨J.1, J.2.1, fun i => ?_⟩
  by_cases e : i = k
  · exact ⟨o, ho, by rw [e, pk_us]⟩
  · rw [pk_un e]; exact J.2.2 i
/-- the two states hold the same arrays; the component's three further numbers are free -/
def i_Rel (_ : Nat) (u : SX) (v : SY) : Prop := ∃ (T : Nat) (wa wb wc : Int32) (co cr ci rg me sz pc st rc dg : Nat → Int32), u = (nI T, wa, wb, wc, co, cr, ci, rg, me, sz, pc, st, rc, dg) ∧ v = (nI T, co, cr, ci, sz, rg, me, pc, st, rc, dg) ∧ sc_Inv T co sz
theorem sc_rel {k T : Nat} {wa wb wc : Int32} {co cr ci rg me sz pc st rc dg : Nat → Int32} (J : sc_Inv T co sz) : i_Rel k (nI T, wa, wb, wc, co, cr, ci, rg, me, sz, pc, st, rc, dg) (nI T, co, cr, ci, sz, rg, me, pc, st, rc, dg) := ⟨T, wa, wb, wc, co, cr, ci, rg, me, sz, pc, st, rc, dg, rfl, rfl, J⟩
theorem sc_th {T : Nat} {co sz : Nat → Int32} (J : sc_Inv T co sz) (x : Int32) : (x < 0 ∨ nI T ≤ x) ∨ ∃ t : Nat, t < T ∧ t < 4 ∧ x = nI t := by
  have hT := J.1
  rcases pk_ix x (n := T) (by omega) with h | h | ⟨j, hj, e⟩
  · exact Or.inl (Or.inl h)
  · exact Or.inl (Or.inr h)
  · exact Or.inr ⟨j, hj, by omega, e⟩
section
variable {T t : Nat} {wa wb wc x : Int32} {co cr ci rg me sz pc st rc dg : Nat → Int32} {post : Int32 → Prop}
theorem sc_xT (ht : t < T) (h4 : T ≤ 4) (h : post 1) : wpX_isThread post (nI T, wa, wb, wc, co, cr, ci, rg, me, sz, pc, st, rc, dg) (nI t) := br_f (nI_pos (by omega)) (br_f (nI_ge ht (by omega)) h)
theorem sc_yT (ht : t < T) (h4 : T ≤ 4) (h : post 1) : wpY_good post (nI T, co, cr, ci, sz, rg, me, pc, st, rc, dg) (nI t) := br_f (nI_pos (by omega)) (br_f (nI_ge ht (by omega)) h)
theorem sc_xF (hb : x < 0 ∨ nI T ≤ x) (h : post 0) : wpX_isThread post (nI T, wa, wb, wc, co, cr, ci, rg, me, sz, pc, st, rc, dg) x := br_c (fun _ => h) (fun n => br_t (hb.resolve_left n) h)
theorem sc_yF (hb : x < 0 ∨ nI T ≤ x) (h : post 0) : wpY_good post (nI T, co, cr, ci, sz, rg, me, pc, st, rc, dg) x := br_c (fun _ => h) (fun n => br_t (hb.resolve_left n) h)
end
