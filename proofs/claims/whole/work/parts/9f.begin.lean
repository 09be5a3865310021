/-! From what the statement gives at the entry to what the walk wants. -/
section BEG
variable {s : State} {A : Array Value}
theorem k_cls (hts : ∀ w ∈ lw_tbl, w.before A s = true) : ∃ D : va_G, ∀ (c : Nat) (q : vw_C), vwCl[c]? = some q → u_Kn s q.1 q.2.1 q.2.2 (D.1 c) (D.2 c) := by
  have h : ∀ c : Nat, ∃ z : ClassId × (Nat → Nat), ∀ q : vw_C, vwCl[c]? = some q → u_Kn s q.1 q.2.1 q.2.2 z.1 z.2 := by
    intro c
    cases hq : vwCl[c]? with
    | none => exact ⟨(0, fun _ => 0), fun q h => by cases h⟩
    | some r =>
      obtain ⟨cC, iS, hk⟩ := u_known hts (fun w hw => (cls_words r (List.mem_of_getElem? hq) w hw).1) (hts _ (cls_inst r (List.mem_of_getElem? hq)))
      exact ⟨(cC, iS), fun q h => by cases h; exact hk⟩
  exact ⟨(fun c => (Classical.choose (h c)).1, fun c => (Classical.choose (h c)).2), fun c q hq => Classical.choose_spec (h c) q hq⟩
theorem k_arr1 {ty : FieldType} (h : (Cond.arrayClass ty).before A s = true) : ∃ c : ClassId, ArrOfT s c ty ∧ s.vm.findClass ("[" ++ ty.toString) = some c := by
  obtain ⟨c, k, comp, h1, h2, h3⟩ := Cond.arrayClass_spec h
  exact ⟨c, fun n z => ⟨(fun _ h => by cases h), k, h2, comp, h3⟩, h1⟩
theorem k_arr (hts : ∀ w ∈ lw_tbl, w.before A s = true) : ∃ I : Nat → ClassId, ∀ (k : Nat) (q : ClassId × FieldType), ([(I 0, .int), (I 1, .boolean), (I 2, .byte), (I 3, .object "java/lang/Object"), (I 4, .long)] : List (ClassId × FieldType))[k]? = some q → ArrOfT s q.1 q.2 ∧ va_RA s q.1 q.2 := by
  obtain ⟨c0, a0, b0⟩ := k_arr1 (hts _ ac_words.1)
  obtain ⟨c1, a1, b1⟩ := k_arr1 (hts _ ac_words.2.1)
  obtain ⟨c2, a2, b2⟩ := k_arr1 (hts _ ac_words.2.2.1)
  obtain ⟨c4, a4, b4⟩ := k_arr1 (hts _ ac_words.2.2.2)
  obtain ⟨comp, c3, k3, e1, e2, e3, e4, e5⟩ := Cond.arrayOver_spec (hts _ misc_words.2.1)
  refine ⟨fun n => match n with | 0 => c0 | 1 => c1 | 2 => c2 | 3 => c3 | _ => c4, fun k q hq => ?_⟩
  rcases k with _ | _ | _ | _ | _ | k
  · cases hq; exact ⟨a0, b0⟩
  · cases hq; exact ⟨a1, b1⟩
  · cases hq; exact ⟨a2, b2⟩
  · cases hq; exact ⟨fun n z => ⟨(fun _ h => by cases h), k3, e3, comp, e4⟩, k3, comp, e3, e4, e1, e5⟩
  · cases hq; exact ⟨a4, b4⟩
  · cases hq
theorem k_str (hfl : ∀ w ∈ flW, w.before A s = true) {F : Nat → Prop} (hF : ∀ a : Nat, a < s.heap.size → ¬ F a) : ∃ aK aV : Nat → Nat, ∀ i, i < 21 → (tmS i).eval A s none [] s = some (.ref (aK i)) ∧ va_O "java/lang/String" (aK i) F s s.heap ∧ va_OF "java/lang/String" "coder" "B" (.int 0) (aK i) F s s.heap ∧ va_OF "java/lang/String" "value" "[B" (.ref (aV i)) (aK i) F s s.heap ∧ va_T .byte (aV i) (lenS i) (fun j => .int ((jsB.getD i []).getD j 0)) F s s.heap := by
  have h : ∀ i : Nat, ∃ q : Nat × Nat, i < 21 → (tmS i).eval A s none [] s = some (.ref q.1) ∧ va_O "java/lang/String" q.1 F s s.heap ∧ va_OF "java/lang/String" "coder" "B" (.int 0) q.1 F s s.heap ∧ va_OF "java/lang/String" "value" "[B" (.ref q.2) q.1 F s s.heap ∧ va_T .byte q.2 (lenS i) (fun j => .int ((jsB.getD i []).getD j 0)) F s s.heap := by
    intro i
    by_cases hi : i < 21
    · obtain ⟨w1, w2, w3, w4, w5, w6⟩ := str_words i hi
      obtain ⟨a, c, cA, kA, q1, q2, q3, q4, q5, q6, -⟩ := Cond.exactly_spec (args := A) (first := s) (o := none) (s := s) (idx := []) (t := tmS i) (cls := "java/lang/String") (hfl _ w2)
      obtain ⟨t, ht, hT⟩ := va_Tof (f := fun j => .int ((jsB.getD i []).getD j 0)) (A := F) w1 (hfl _ w4) (va_eqt (hfl _ w5)) (fun j hj => va_eqt (hfl _ (w6 j hj))) hF
      exact ⟨(a, t), fun _ => ⟨q1, ⟨cA, q3, q5, by rw [q6]; exact q2, hF a (Array.getElem?_eq_some_iff.mp q3).1⟩, vk_OFof q1 (va_eqt (hfl _ w3)) hF, vk_OFof q1 ht hF, hT⟩⟩
    · exact ⟨(0, 0), fun h => absurd h hi⟩
  exact ⟨fun i => (Classical.choose (h i)).1, fun i => (Classical.choose (h i)).2, fun i hi => Classical.choose_spec (h i) hi⟩
theorem eq_ref {t u : Term} {a : Nat} (h : (Cond.eq t u).before A s = true) (ht : t.eval A s none [] s = some (.ref a)) : u.eval A s none [] s = some (.ref a) := by
  cases hu : u.eval A s none [] s with
  | none => simp [Cond.before, Cond.holds, Cond.value, ht, hu] at h
  | some w =>
    simp only [Cond.before, Cond.holds, Cond.value, ht, hu] at h
    cases w <;> simp_all
theorem eq_ref2 {t u : Term} {a : Nat} (h : (Cond.eq t u).before A s = true) (hu : u.eval A s none [] s = some (.ref a)) : t.eval A s none [] s = some (.ref a) := by
  cases ht : t.eval A s none [] s with
  | none => simp [Cond.before, Cond.holds, Cond.value, ht, hu] at h
  | some w =>
    simp only [Cond.before, Cond.holds, Cond.value, ht, hu] at h
    cases w <;> simp_all
theorem str_same : ∀ q ∈ strW, Term.string q.1 q.2.1 = tmS q.2.2.2 ∨ Cond.eq (tmS q.2.2.2) (.string q.1 q.2.1) ∈ flW ∨ Cond.eq (.string q.1 q.2.1) (tmS q.2.2.2) ∈ flW := by decide +kernel
theorem str_no : ∀ q ∈ strW, q.2.2.2 < 21 := by decide +kernel
theorem s0_nm {Ls : Nat} {xs : Nat → Int32} {c i : Nat} (h : i < cnt (s0 Ls xs) c) : (c = 23 ∧ i = 0) ∨ (c = 27 ∧ i = 0) ∨ (c = 30 ∧ i < 21) ∨ (c = 31 ∧ i = 0) ∨ (c = 32 ∧ i < 21) := by
  have h : i < (if c = 23 then 1 else if c = 27 then 1 else if c = 30 then 21 else if c = 31 then 1 else if c = 32 then 21 else 0) := h
  by_cases h1 : c = 23
  · rw [if_pos h1] at h; omega
  · rw [if_neg h1] at h
    by_cases h2 : c = 27
    · rw [if_pos h2] at h; omega
    · rw [if_neg h2] at h
      by_cases h3 : c = 30
      · rw [if_pos h3] at h; omega
      · rw [if_neg h3] at h
        by_cases h4 : c = 31
        · rw [if_pos h4] at h; omega
        · rw [if_neg h4] at h
          by_cases h5 : c = 32
          · rw [if_pos h5] at h; omega
          · rw [if_neg h5] at h; omega
theorem s0_fix {Ls : Nat} {xs : Nat → Int32} {c i : Nat} (h : i < cnt (s0 Ls xs) c) : fixd c i := by
  have := s0_nm h
  unfold fixd
  omega
/-- the fixed names' places -/
def atB (aK aV : Nat → Nat) (b mi e0 : Nat) (c i : Nat) : Nat := match c with
  | 23 => e0
  | 27 => b
  | 30 => aK i
  | 31 => mi
  | 32 => aV i
  | _ => 0
theorem k_rep {D : va_G} {I : Nat → ClassId} {aK aV : Nat → Nat} {b mi e0 Ls : Nat} {xs : Nat → Int32} {ce scr : Cell} (q3 : s.heap[e0]? = some ce) (x1 : s.heap[b]? = some scr) (x4 : scr.slots.size = Ls) (x5 : ∀ j : Nat, j < Ls → scr.slots[j]? = some (.int (xs j))) (hK : ∀ i, i < 21 → aK i < s.heap.size) (hV : ∀ i, i < 21 → aV i < s.heap.size) :
    Rep (D, I, s.heap.size, s.heap, atB aK aV b mi e0, aV) (atB aK aV b mi e0) (s0 Ls xs) s.heap := by
  have hb : b < s.heap.size := (Array.getElem?_eq_some_iff.mp x1).1
  have he : e0 < s.heap.size := (Array.getElem?_eq_some_iff.mp q3).1
  have lt : ∀ c i, i < cnt (s0 Ls xs) c → c ≠ 31 → atB aK aV b mi e0 c i < s.heap.size := by
    intro c i hi h31
    rcases s0_nm hi with ⟨rfl, rfl⟩ | ⟨rfl, rfl⟩ | ⟨rfl, h⟩ | ⟨rfl, rfl⟩ | ⟨rfl, h⟩
    · exact he
    · exact hb
    · exact hK i h
    · exact absurd rfl h31
    · exact hV i h
  refine ⟨fun c i hi r hr => ?_, fun c i h20 h28 hi => ?_, fun c i c' i' hi _ hf _ _ => absurd (s0_fix hi) hf, fun c i hi => ⟨lt c i hi, fun h => absurd (s0_fix hi) h, fun _ => ⟨rfl, lt c i hi⟩⟩, ⟨Nat.le_refl _, fun q _ => rfl⟩, fun c f i _ n h => ?_, fun c i j _ n h => ?_, ⟨rfl, Nat.one_pos, rfl, rfl, rfl⟩⟩
  · have h14 := cls_lt hr
    have := s0_nm hi
    exact absurd this (by omega)
  · rcases s0_nm hi with ⟨rfl, rfl⟩ | ⟨rfl, rfl⟩ | ⟨rfl, h⟩ | ⟨rfl, rfl⟩ | ⟨rfl, h⟩
    · show s.heap[e0]? = _
      rw [q3]
      unfold acell fixz
      rw [if_pos (Or.inl ⟨rfl, rfl⟩), show (gH ((D, I, s.heap.size, s.heap, atB aK aV b mi e0, aV) : GG))[gF ((D, I, s.heap.size, s.heap, atB aK aV b mi e0, aV) : GG) 23 0]? = some ce from q3]
      rfl
    · show s.heap[b]? = _
      rw [x1]
      unfold acell fixz
      rw [if_pos (Or.inr ⟨rfl, rfl⟩), show (gH ((D, I, s.heap.size, s.heap, atB aK aV b mi e0, aV) : GG))[gF ((D, I, s.heap.size, s.heap, atB aK aV b mi e0, aV) : GG) 27 0]? = some scr from x1]
      have e : scr.slots = (arrV (I 0) Ls (fun j => .int (xs j))).slots := by
        refine Array.ext_getElem? (fun j => ?_)
        by_cases hj : j < Ls
        · rw [x5 j hj, arrV_read _ _ hj]
        · rw [Array.getElem?_eq_none (by omega), Array.getElem?_eq_none (by rw [arrV_size]; omega)]
      show some scr = some { scr with slots := (arrV (I 0) Ls (fun j => .int (xs j))).slots }
      rw [← e]
    · omega
    · omega
    · omega
  · have h : (none : Option Nm) = some n := h
    cases h
  · have h : (none : Option Nm) = some n := h
    cases h
theorem k_start {b Ls : Nat} {xs : Nat → Int32} (hts : ∀ w ∈ lw_tbl, w.before A s = true) (hfl : ∀ w ∈ flW, w.before A s = true) (hX : va_X b Ls xs s s.heap) : ∃ (G : GG) (ad : Nat → Nat → Nat), gB G = s.heap.size ∧ ad 27 0 = b ∧ KK G s ∧ Rep G ad (s0 Ls xs) s.heap := by
  obtain ⟨D, hD⟩ := k_cls hts
  obtain ⟨I, hI⟩ := k_arr hts
  have hF : ∀ a : Nat, a < s.heap.size → ¬ s.heap.size ≤ a := fun a ha => Nat.not_le.mpr ha
  obtain ⟨aK, aV, hS⟩ := k_str hfl hF
  obtain ⟨hs1, hs2, hs3, hs4, hs5, hs6, hs7, hs8, hs9, hs10, hs11⟩ := st_words
  obtain ⟨e0, cE, ce, kE, q1, q2, q3, q4, q5, q6, -⟩ := Cond.exactly_spec (args := A) (first := s) (o := none) (s := s) (idx := []) (hfl _ hs8)
  obtain ⟨ho1, ho2⟩ := Cond.arrayOf_spec (args := A) (first := s) (o := none) (s := s) (idx := []) (hfl _ hs7) q1 q3
  obtain ⟨a', cell', l1, l2, l3⟩ := Term.length_spec (va_eqt (hfl _ hs9))
  obtain ⟨mi, hmi⟩ := va_Mi.of (hfl _ misc_words.2.2)
  obtain ⟨scr, x1, x2, x3, x4, x5⟩ := hX
  have z0 : ce.slots.size.toInt32 = 0 := by
    cases q1.symm.trans l1
    cases q3.symm.trans (State.arrayAt?_spec l2).1
    injection l3 with l3
    exact l3.symm
  have hKs : ∀ i, i < 21 → aK i < s.heap.size := fun i hi => by
    obtain ⟨cell, g1, -⟩ := (hS i hi).2.1
    exact (Array.getElem?_eq_some_iff.mp g1).1
  have hVs : ∀ i, i < 21 → aV i < s.heap.size := fun i hi => by
    obtain ⟨cell, g1, -⟩ := (hS i hi).2.2.2.2
    exact (Array.getElem?_eq_some_iff.mp g1).1
  refine ⟨(D, I, s.heap.size, s.heap, atB aK aV b mi e0, aV), atB aK aV b mi e0, rfl, rfl, ⟨⟨hD, hI⟩, fun q hq => va_Nw.of rfl (hts _ (nest_words q hq)), fun C hC => va_Nw.of rfl (hts _ (cast_words C hC)), ⟨va_Dc.of (hts _ misc_words.1), va_AO.of (hts _ misc_words.2.1), hmi⟩, fun i hi => ⟨rfl, (hS i hi).2.1, (hS i hi).2.2.1, (hS i hi).2.2.2.1, (hS i hi).2.2.2.2⟩, fun q hq => vk_R.of (hts _ (str_refs q hq)) ?_, va_Zof (hts _ hs1) (hts _ hs2) q1 hF, va_Zof (hts _ hs3) (hts _ hs4) (va_eqi (hfl _ hs10)) hF, va_Zqof (hts _ hs5) (hts _ hs6) (hfl _ hs11) hF, ?_, ?_⟩, k_rep q3 x1 x4 x5 hKs hVs⟩
  · rcases str_same q hq with h | h | h
    · rw [h]; exact (hS _ (str_no q hq)).1
    · exact eq_ref (hfl _ h) (hS _ (str_no q hq)).1
    · exact eq_ref2 (hfl _ h) (hS _ (str_no q hq)).1
  · obtain ⟨k1, k2, k3, k4, k5⟩ := kx_stat
    exact ⟨va_Nw.of rfl (hts _ (kx_words _ List.mem_cons_self)), va_Nw.of rfl (hts _ (kx_words _ (List.mem_cons_of_mem _ List.mem_cons_self))), va_Nw.of rfl (hts _ (kx_words _ (List.mem_cons_of_mem _ (List.mem_cons_of_mem _ List.mem_cons_self)))), va_Nw.of rfl (hts _ (kx_words _ (List.mem_cons_of_mem _ (List.mem_cons_of_mem _ (List.mem_cons_of_mem _ List.mem_cons_self))))), vx_Zqof (hts _ k1) (hts _ k3) (hfl _ k4) hF, vx_Zqof (hts _ k2) (hts _ k3) (hfl _ k5) hF⟩
  · refine ⟨fun z hz => ?_, fun z hz => ?_⟩
    · cases x1.symm.trans hz
      exact ⟨x2, x3⟩
    · cases q3.symm.trans hz
      exact ⟨ho1, ho2, q5, by rw [q6]; exact q2, z0⟩
end BEG
