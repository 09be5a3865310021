/-! seen: the class's, the law's own of that name. -/
section SEEN
variable {G : GG} {l : Launch} {d : Nat} {post : Option AVal → AS → Prop} {px : AS → Prop} {σ : AS} {kk nn : Nat}
set_option maxRecDepth 20000 in
theorem vc_X11_seen {a1 : Int32} {a2 : Int32} {a3 : Int32} (hl : l.stackTraces = false) (h6 : 5 ≤ d) (h : AMet G l M_X11_find d 0 0 [xR (some (12, 0)), xI a1] σ (retR (fun r2 σ1 => (((r2 = none → px σ1)) ∧ ((∀ n : Nm, (r2 = some n → (∃ j3 : Nat, (n = (6, j3) ∧ (AMet G l M_X11_isScene d 0 0 [xI a2] σ1 (retI (fun x5 σ4 => (St σ4 ∧ (((x5 = 0 → px σ4)) ∧ ((¬ x5 = 0 → AMet G l M_X4_size d 0 0 [xR (some (5, 0))] σ4 (retI (fun x7 σ6 => AMet G l M_X11_within d 0 0 [xI a3, xI 0, xI x7] σ6 (retI (fun x9 σ8 => (St σ8 ∧ (((¬ x9 = 0 → AMet G l M_X4_howOften d 0 0 [xR (some (5, 0)), xI a1, xI a2, xI a3] σ8 (retI (fun x11 σ10 => post (some (xI x11)) σ10)))) ∧ ((x9 = 0 → px σ8)))))))))))))))))))))))) : AWX G l M_X11_seen (d + 1) post px (fun c => ∀ x ∈ c.exceptionTable.toList, False) σ (kk + 1) (nn + 6) 0 [some (xR (some (12, 0))), some (xI a1), some (xI a2), some (xI a3)] [] := by
  refine ax_aload_n (i := 0) d_X11_seen_0 rfl rfl ?_
  refine ax_iload_n (i := 1) d_X11_seen_1 rfl rfl ?_
  refine ax_callV0 (as := [xI a1]) mw_X11_find (by decide +kernel) ml_RX11_89 rfl d_X11_seen_2 rfl (Nat.le_of_ble_eq_true rfl) (AMet.mono h (ax_toR (fun r2 σ1 h => ?_)))
  refine ax_ifnull (tgt := 30) d_X11_seen_5 (by decide) (fun c => ?_) (fun n c => ?_)
  · exact ax_throw hl (by omega) (h.1 c)
  · obtain ⟨j3, e9, h⟩ := h.2 n c
    refine ax_iload_n (i := 2) d_X11_seen_8 rfl rfl ?_
    refine ax_callS0 (as := [xI a2]) mw_X11_isScene ml_RX11_193 rfl d_X11_seen_9 rfl (Nat.le_of_ble_eq_true rfl) (AMet.mono h (ax_toI (fun x5 σ4 h => ?_)))
    obtain ⟨hS4, h⟩ := h
    refine ax_if_eq (tgt := 30) d_X11_seen_12 (by decide) (fun c => ?_) (fun c => ?_)
    · exact ax_throw hl (by omega) (h.1 c)
    · have h := h.2 c
      refine ax_iload_n (i := 3) d_X11_seen_15 rfl rfl ?_
      refine ax_iconst (x := 0) d_X11_seen_16 (by decide) ?_
      refine ax_aload_n (i := 0) d_X11_seen_17 rfl rfl ?_
      refine ax_getRv fl_RX11_49 rfl (r := some (5, 0)) (St.get hS4 12 5 0 5 0 (by decide)) d_X11_seen_18 ?_
      refine ax_callV0 (as := []) mw_X4_size (by decide +kernel) ml_RX11_203 rfl d_X11_seen_21 rfl (Nat.le_of_ble_eq_true rfl) (AMet.mono h (ax_toI (fun x7 σ6 h => ?_)))
      refine ax_callS0 (as := [xI a3, xI 0, xI x7]) mw_X11_within ml_RX11_71 rfl d_X11_seen_24 rfl (Nat.le_of_ble_eq_true rfl) (AMet.mono h (ax_toI (fun x9 σ8 h => ?_)))
      obtain ⟨hS8, h⟩ := h
      refine ax_if_ne (tgt := 40) d_X11_seen_27 (by decide) (fun c => ?_) (fun c => ?_)
      · have h := h.1 c
        refine ax_aload_n (i := 0) d_X11_seen_40 rfl rfl ?_
        refine ax_getRv fl_RX11_49 rfl (r := some (5, 0)) (St.get hS8 12 5 0 5 0 (by decide)) d_X11_seen_41 ?_
        refine ax_iload_n (i := 1) d_X11_seen_44 rfl rfl ?_
        refine ax_iload_n (i := 2) d_X11_seen_45 rfl rfl ?_
        refine ax_iload_n (i := 3) d_X11_seen_46 rfl rfl ?_
        refine ax_callV0 (as := [xI a1, xI a2, xI a3]) mw_X4_howOften (by decide +kernel) ml_RX11_211 rfl d_X11_seen_47 rfl (Nat.le_of_ble_eq_true rfl) (AMet.mono h (ax_toI (fun x11 σ10 h => ?_)))
        exact ax_ret d_X11_seen_50 rfl rfl h
      · exact ax_throw hl (by omega) (h.2 c)
theorem c_seen {N q K a0 F : Nat} {P S : Nat → Int32} {x sc y : Int32} (hl : l.stackTraces = false) (hP : PicS N q K a0 σ) (hR2 : RW σ 2 F P) (hR3 : RW σ 3 F S) (hF : F ≤ 2600)
    (h0 : ¬ ((∃ p, p < N ∧ x = nI p) ∧ (¬ sc < 0 ∧ ¬ 19 < sc) ∧ ∃ k, k ≤ F ∧ y = nI k) → px σ)
    (h1 : ∀ p k, p < N → x = nI p → ¬ sc < 0 → ¬ 19 < sc → k ≤ F → y = nI k → post (some (xI (nI (timN P S x sc k)))) σ) : AMetX G l M_X11_seen (d + 7) 1 6 [xR (some (12, 0)), xI x, xI sc, xI y] σ post px := by
  refine AMetX.of rfl (Nat.le_of_ble_eq_true rfl) (vc_X11_seen (kk := 0) (nn := 0) (d := d + 6) hl (by omega) (c_find (d := d + 2) hP.1 hP.2.1 (fun _ _ => rfl) (fun no => ⟨fun _ => h0 (fun z => ?_), fun n e => absurd e.symm (Option.some_ne_none n)⟩) (fun p hp e => ⟨fun z => absurd z (Option.some_ne_none _), fun n en => ⟨p, (Option.some.inj en).symm, c_isScene (d := d + 5) (fun w => ⟨hP.1, fun _ => h0 (fun z => ?_), fun z => absurd rfl z⟩) (fun w1 w2 => ⟨hP.1, fun z => absurd z (by decide), fun _ => ?_⟩)⟩⟩)))
  · obtain ⟨⟨p, hp, e⟩, -⟩ := z
    exact no p hp e
  · rcases w with w | w
    · exact z.2.1.1 w
    · exact z.2.1.2 w
  · refine AMet.of rfl (Nat.le_of_ble_eq_true rfl) (vc_X4_size (d := d + 6) hP.1 ?_)
    have e2 : gI σ 8 1 2 = nI F := (hR2.out hP.1 (by decide)).1
    show AMet G l M_X11_within (d + 6) 0 0 [xI y, xI 0, xI (gI σ 8 1 2)] σ _
    rw [e2]
    refine c_withinB (fun w => ⟨hP.1, fun z => absurd rfl z, fun _ => h0 (fun z => w ?_)⟩) (fun w => ⟨hP.1, fun _ => ?_, fun z => absurd z (by decide)⟩)
    · obtain ⟨-, -, k, hk, ek⟩ := z
      rw [ek]
      exact ⟨nI_pos (by omega), Int32.not_lt.mpr (nI_le hk (by omega))⟩
    · obtain ⟨k, hk, ek⟩ := nI_of w.1
      have hk' : k ≤ F := by
        have := Int32.not_lt.mp w.2
        rw [ek] at this
        exact (nI_leI hk (by omega)).mp this
      rw [ek]
      exact c_howOften (d := d + 5) (g := timN P S x sc) hP.1 hR2 hR3 hk' rfl (fun _ => rfl) (h1 p k hp e w1 w2 hk' ek)
end SEEN
