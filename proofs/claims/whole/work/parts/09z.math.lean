/-! Math.max and Math.min: rows of their own. -/
section ROWS6
variable {G : GG} {l : Launch} {M : Mth} {d : Nat} {post : Option AVal → AS → Prop} {σ : AS} {kk nn pc : Nat} {L : List (Option AVal)} {st : List AVal}
theorem aw_mmax {idx : Nat} {x y : Int32} (hl : Cond.methodLink (mO M) idx yJ9_max_7cf53 ∈ TW ∧ Cond.static yJ9_max_7cf53 ∈ TW) (hd : decode (mC M) pc = .ok (.invokestatic idx, 3)) (h4 : st.length ≤ 4) (k : AW G l M (d + 1) post σ kk nn (pc + 3) L (xI (if x < y then y else x) :: st)) : AW G l M (d + 1) post σ kk nn pc L (xI y :: xI x :: st) := by
  intro p e R s m args below meth co Qc ad H ls locs cells slots C hR hL hst hlo hc hs hQ
  have hts := C.2.2.2.2.2.1
  have hfr := C.2.2.2.2.2.2.2.2.2
  have h1 := cat_le ad st
  exact va_mmax (rest := st.map (cv ad)) C.1 C.2.1 (by rw [C.2.2.1]; exact hL.1.symm) C.2.2.2.2.1 (hts _ hl.1) (hts _ hl.2) (hts _ (tw_k 0 14 (by decide +kernel) (by decide +kernel))) (hts (Cond.code Lib.Math.max.name Lib.Math.max.code 2 (some .int)) (tw_k 1 87 (by decide +kernel) (by decide +kernel))) (by have := hfr.1; omega) (by have := hfr.2; omega) (by omega) (by omega) hd (k p e R s m args below meth co Qc ad H ls locs cells slots C hR hL (ok_c ok_t (ok_tl (ok_tl hst))) hlo hc hs hQ)
theorem aw_mmin {idx : Nat} {x y : Int32} (hl : Cond.methodLink (mO M) idx yJ9_min_7cf53 ∈ TW ∧ Cond.static yJ9_min_7cf53 ∈ TW) (hd : decode (mC M) pc = .ok (.invokestatic idx, 3)) (h4 : st.length ≤ 4) (k : AW G l M (d + 1) post σ kk nn (pc + 3) L (xI (if y < x then y else x) :: st)) : AW G l M (d + 1) post σ kk nn pc L (xI y :: xI x :: st) := by
  intro p e R s m args below meth co Qc ad H ls locs cells slots C hR hL hst hlo hc hs hQ
  have hts := C.2.2.2.2.2.1
  have hfr := C.2.2.2.2.2.2.2.2.2
  have h1 := cat_le ad st
  exact va_mmin (rest := st.map (cv ad)) C.1 C.2.1 (by rw [C.2.2.1]; exact hL.1.symm) C.2.2.2.2.1 (hts _ hl.1) (hts _ hl.2) (hts _ (tw_k 0 14 (by decide +kernel) (by decide +kernel))) (hts (Cond.code Lib.Math.min.name Lib.Math.min.code 2 (some .int)) (tw_k 1 122 (by decide +kernel) (by decide +kernel))) (by have := hfr.1; omega) (by have := hfr.2; omega) (by omega) (by omega) hd (k p e R s m args below meth co Qc ad H ls locs cells slots C hR hL (ok_c ok_t (ok_tl (ok_tl hst))) hlo hc hs hQ)
end ROWS6
