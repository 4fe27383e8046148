/-! A QUESTION in the open store, both sides: what the class answers the reference answers -/
/-- the open store, while a text runs -/
def OSx (B : Nat) (D M tu : Int) (Kx Rf : Int → Int) (Rv : Int → Int → Int) (c r : xw_M) : Prop := (dsk B c D M tu Kx Rf Rv ∧ ram c D M tu Kx) ∧ cgr c r D M ∧ RC c r ∧ (r 579 = c 579 ∧ r 580 = c 580 ∧ xR r 536 40 = xR c 536 40) ∧ (∃ p, rs B c p) ∧ ((c 0 12 = 420 ∧ c 0 13 = 464) ∨ (c 0 12 = 464 ∧ c 0 13 = 420)) ∧ ((r 536 22 = 544 ∧ r 536 23 = 558) ∨ (r 536 22 = 558 ∧ r 536 23 = 544)) ∧ (∃ s t, twA s t ∧ r 536 73 = s ∧ r 536 74 = t) ∧ (∃ s t, two s t ∧ r 536 59 = s ∧ r 536 60 = t) ∧ (xR r 536 3 = 0 ∧ xR r 536 2 = 1 ∧ xR c 0 14 = 1) ∧ (0 ≤ xR c 536 31 ∧ xR c 536 31 ≤ 20000) ∧ ans (mix c r)
/-- what a run in the open store changes -/
def fCo (c c' : xw_M) : Prop := (∀ a, a ≠ 0 → a ≠ 1 → ¬ (223 ≤ a ∧ a ≤ 294) → a ≠ 302 → ¬ (304 ≤ a ∧ a ≤ 336) → a ≠ 371 → a ≠ 372 → ¬ (420 ≤ a ∧ a ≤ 507) → a ≠ 530 → a ≠ 532 → c' a = c a) ∧ (∀ k, k ≠ 12 → k ≠ 13 → c' 0 k = c 0 k) ∧ (∀ k, (k < 1 ∨ 7 < k) → c' 1 k = c 1 k) ∧ (∀ k, k ≠ 5 → k ≠ 6 → k ≠ 7 → c' 302 k = c 302 k) ∧ ∀ k, k ≠ 2 → c' 530 k = c 530 k
def fRo (r r' : xw_M) : Prop := (∀ a, a ≠ 536 → ¬ (544 ≤ a ∧ a ≤ 572) → ¬ (590 ≤ a ∧ a ≤ 592) → ¬ (595 ≤ a ∧ a ≤ 602) → r' a = r a) ∧ ∀ k, ¬ (5 ≤ k ∧ k ≤ 13) → ¬ (22 ≤ k ∧ k ≤ 27) → ¬ (58 ≤ k ∧ k ≤ 61) → k ≠ 65 → k ≠ 66 → k ≠ 73 → k ≠ 74 → r' 536 k = r 536 k
theorem fCo_r {c : xw_M} : fCo c c := ⟨fun _ _ _ _ _ _ _ _ _ _ _ => rfl, fun _ _ _ => rfl, fun _ _ => rfl, fun _ _ _ _ => rfl, fun _ _ => rfl⟩
theorem fRo_r {c : xw_M} : fRo c c := ⟨fun _ _ _ _ _ => rfl, fun _ _ _ _ _ _ _ _ => rfl⟩
theorem fCo_tr {a b c : xw_M} (h : fCo a b) (k : fCo b c) : fCo a c := ⟨fun x x1 x2 x3 x4 x5 x6 x7 x8 x9 x10 => by rw [k.1 x x1 x2 x3 x4 x5 x6 x7 x8 x9 x10, h.1 x x1 x2 x3 x4 x5 x6 x7 x8 x9 x10], fun x x1 x2 => by rw [k.2.1 x x1 x2, h.2.1 x x1 x2], fun x x1 => by rw [k.2.2.1 x x1, h.2.2.1 x x1], fun x x1 x2 x3 => by rw [k.2.2.2.1 x x1 x2 x3, h.2.2.2.1 x x1 x2 x3], fun x x1 => by rw [k.2.2.2.2 x x1, h.2.2.2.2 x x1]⟩
theorem fRo_tr {a b c : xw_M} (h : fRo a b) (k : fRo b c) : fRo a c := ⟨fun x x1 x2 x3 x4 => by rw [k.1 x x1 x2 x3 x4, h.1 x x1 x2 x3 x4], fun x x1 x2 x3 x4 x5 x6 x7 => by rw [k.2 x x1 x2 x3 x4 x5 x6 x7, h.2 x x1 x2 x3 x4 x5 x6 x7]⟩
theorem fCo_q {c c' : xw_M} (h : QC c c') : fCo c c' := ⟨fun a _ a2 a3 _ _ _ _ _ _ _ => h.1 a a2 a3, fun k _ _ => by rw [h.1 0 (by decide) (by decide)], fun k hk => h.2 k (by omega), fun k _ _ _ => by rw [h.1 302 (by decide) (by decide)], fun k _ => by rw [h.1 530 (by decide) (by decide)]⟩
theorem fRo_q {q : Int} {r r' : xw_M} (q0 : q = 544 ∨ q = 558) (h : QR q r r') : fRo r r' := ⟨fun a a1 a2 _ _ => h.1 a a1 (by omega), fun k k1 k2 _ _ _ _ _ => h.2 k (by omega) (by omega) (by omega)⟩
theorem fCo_y {c c' : xw_M} (h : fTy c c') : fCo c c' := ⟨fun a _ a2 _ _ _ _ _ _ _ _ => h.1 a a2, fun k _ _ => by rw [h.1 0 (by decide)], fun k hk => h.2 k (by omega), fun k _ _ _ => by rw [h.1 302 (by decide)], fun k _ => by rw [h.1 530 (by decide)]⟩
theorem fRo_y {r r' : xw_M} (h : fRy r r') : fRo r r' := ⟨fun a a1 _ _ _ => h.1 a a1, fun k k1 _ _ _ _ _ _ => h.2 k (by omega)⟩
theorem fCo_a {t : Int} {c c' : xw_M} (tt : t = 420 ∨ t = 464) (h : fQa t c c') : fCo c c' := ⟨fun a a1 a2 a3 a4 a5 a6 a7 a8 a9 a10 => h.1 a a1 (by omega) a4 a5 a6 a7 a9 a10, h.2.2.2, fun k _ => by rw [h.1 1 (by omega) (by omega) (by omega) (by omega) (by omega) (by omega) (by omega) (by omega)], h.2.1, h.2.2.1⟩
theorem fRo_a {r r' : xw_M} (h : fRa r r') : fRo r r' := ⟨fun a a1 a2 a3 a4 => h.1 a a1 (by omega) a3 a4, fun k _ _ k3 k4 k5 k6 k7 => h.2 k k3 k4 k5 k6 k7⟩
section QAN
variable {B : Nat} {c r : xw_M} {D M tu q : Int} {Kx Rf : Int → Int} {Rv : Int → Int → Int}
/-- the store stays, but for pointers and the answer -/
theorem OSx_fr {c' r' : xw_M} (O : OSx B D M tu Kx Rf Rv c r) (f : fCo c c') (g : fRo r r') (rs1 : ∃ p, rs B c' p) (p1 : (c' 0 12 = 420 ∧ c' 0 13 = 464) ∨ (c' 0 12 = 464 ∧ c' 0 13 = 420)) (p2 : (r' 536 22 = 544 ∧ r' 536 23 = 558) ∨ (r' 536 22 = 558 ∧ r' 536 23 = 544)) (p3 : ∃ s t, twA s t ∧ r' 536 73 = s ∧ r' 536 74 = t) (p4 : ∃ s t, two s t ∧ r' 536 59 = s ∧ r' 536 60 = t) (a : ans (mix c' r')) : OSx B D M tu Kx Rf Rv c' r' := by
  obtain ⟨⟨dk, rm⟩, C, rc, vw, _, _, _, _, _, st, nn, _⟩ := O
  have lo : ∀ a, 2 ≤ a → a < 223 → c' a = c a := fun a a0 a1 => f.1 a (by omega) (by omega) (by omega) (by omega) (by omega) (by omega) (by omega) (by omega) (by omega) (by omega)
  have hi : ∀ a, 508 ≤ a → a ≠ 530 → a ≠ 532 → c' a = c a := fun a a0 a1 a2 => f.1 a (by omega) (by omega) (by omega) (by omega) (by omega) (by omega) (by omega) (by omega) a1 a2
  have md : ∀ a, 373 ≤ a → a < 420 → c' a = c a := fun a a0 a1 => f.1 a (by omega) (by omega) (by omega) (by omega) (by omega) (by omega) (by omega) (by omega) (by omega) (by omega)
  have ro : ∀ a, 537 ≤ a → ¬ (544 ≤ a ∧ a ≤ 572) → ¬ (590 ≤ a ∧ a ≤ 592) → ¬ (595 ≤ a ∧ a ≤ 602) → r' a = r a := fun a a0 a1 a2 a3 => g.1 a (by omega) a1 a2 a3
  have M8 := rm.cg.cn.2.1
  have D8 := rm.cg.cn.1
  refine ⟨⟨?_, ?_⟩, cgr_fr C (fun a a0 a1 => lo a (by omega) a1) (fun a ha => ro a (by omega) (by omega) (by omega) (by omega)) (g.2 14 (by decide) (by decide) (by decide) (by decide) (by decide) (by decide) (by decide)) (g.2 19 (by decide) (by decide) (by decide) (by decide) (by decide) (by decide) (by decide)), ⟨fun a ha => ?_, ?_⟩, ⟨?_, ?_, ?_⟩, rs1, p1, p2, p3, p4, ⟨?_, ?_, ?_⟩, ?_, a⟩
  · exact dsk_fr dk ⟨hi 538 (by decide) (by decide) (by decide), hi 539 (by decide) (by decide) (by decide), hi 573 (by decide) (by decide) (by decide), fun i _ _ => ⟨by rw [hi 575 (by decide) (by decide) (by decide)], by rw [hi 576 (by decide) (by decide) (by decide)]⟩⟩ (fun a ha => hi a (by omega) (by omega) (by omega)) (fun k _ => by rw [hi 536 (by decide) (by decide) (by decide)]) (fun x _ _ => by rw [hi 516 (by decide) (by decide) (by decide)])
  · refine ram_fr rm (fun a a0 a1 => lo a (by omega) a1) (fun k _ => by rw [hi 508 (by decide) (by decide) (by decide)]) (fun a a0 a1 => hi a (by omega) (by omega) (by omega)) (fun k _ => by rw [hi 536 (by decide) (by decide) (by decide)]) (fun a ha => hi a (by omega) (by omega) (by omega)) (fun x x0 x1 => ?_)
    rw [xR_cg (hi 536 (by decide) (by decide) (by decide))] at x1
    obtain ⟨b1, b2⟩ := rm.bt x x0 x1
    refine ⟨fun d d0 d1 => ?_, fun j j0 j1 => ?_⟩
    · rw [xR_cg (md (376 + d) (by omega) (by omega)), xR_cg (hi 575 (by decide) (by decide) (by decide)), xR_cg (hi 536 (by decide) (by decide) (by decide)), xR_cg (hi 539 (by decide) (by decide) (by decide))]; exact b1 d d0 d1
    · rw [xJ_cg (md (385 + j) (by omega) (by omega)), xJ_cg (hi 576 (by decide) (by decide) (by decide)), xR_cg (hi 536 (by decide) (by decide) (by decide))]; exact b2 j j0 j1
  · rw [ro a (by omega) (by omega) (by omega) (by omega), hi a (by omega) (by omega) (by omega)]; exact rc.1 a ha
  · rw [xR_fld (g.2 31 (by decide) (by decide) (by decide) (by decide) (by decide) (by decide) (by decide)), xR_cg (hi 536 (by decide) (by decide) (by decide))]; exact rc.2
  · rw [ro 579 (by decide) (by decide) (by decide) (by decide), hi 579 (by decide) (by decide) (by decide)]; exact vw.1
  · rw [ro 580 (by decide) (by decide) (by decide) (by decide), hi 580 (by decide) (by decide) (by decide)]; exact vw.2.1
  · rw [xR_fld (g.2 40 (by decide) (by decide) (by decide) (by decide) (by decide) (by decide) (by decide)), xR_cg (hi 536 (by decide) (by decide) (by decide))]; exact vw.2.2
  · rw [xR_fld (g.2 3 (by decide) (by decide) (by decide) (by decide) (by decide) (by decide) (by decide))]; exact st.1
  · rw [xR_fld (g.2 2 (by decide) (by decide) (by decide) (by decide) (by decide) (by decide) (by decide))]; exact st.2.1
  · rw [xR_fld (f.2.1 14 (by decide) (by decide))]; exact st.2.2
  · rw [xR_cg (hi 536 (by decide) (by decide) (by decide))]; exact nn
/-- an answer stays while the other question and the other answer change -/
theorem ans_st {c' r' : xw_M} (O : OSx B D M tu Kx Rf Rv c r) (e12 : c' 0 12 = c 0 12) (ec : ∀ a, c 0 12 ≤ a → a ≤ c 0 12 + 43 → c' a = c a) (er : ∀ k, k = 3 ∨ k = 22 ∨ k = 24 ∨ k = 65 ∨ k = 66 ∨ k = 73 → r' 536 k = r 536 k) (eq : ∀ a, (r 536 22 ≤ a ∧ a ≤ r 536 22 + 13) ∨ (595 ≤ a ∧ a ≤ 602) → r' a = r a) : ans (mix c' r') := by
  obtain ⟨_, _, _, _, _, p1, p2, p3, _, _, _, an⟩ := O
  obtain ⟨s, t, tw, e73, _⟩ := p3
  have c0 : ∀ (x y : xw_M), mix x y 0 = x 0 := fun x y => mix_c (by decide)
  have c5 : ∀ (x y : xw_M), mix x y 536 = y 536 := fun x y => mix_r (by decide)
  refine ans_G (m := mix c r) ?_ ?_ ?_ an ?_ ?_ (fun a a0 a1 => ?_) (fun k hk => ?_) (fun a ha => ?_)
  · rw [c0]; omega
  · rw [c5]; omega
  · rw [c5]; unfold twA at tw; omega
  · rw [xR_cg (c5 c' r'), xR_cg (c5 c r), xR_fld (er 3 (by omega))]; exact fun h => h
  · rw [c0, c0]; exact e12
  · rw [c0] at a0 a1
    rw [mix_c (by omega), mix_c (by omega)]; exact ec a a0 a1
  · rw [c5, c5]; exact er k (by omega)
  · rw [c5] at ha
    rw [mix_r (by omega), mix_r (by omega)]; exact eq a ha
end QAN
