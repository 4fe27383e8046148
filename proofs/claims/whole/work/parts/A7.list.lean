/-! THE READERS: a comma or an end; the list of a comparison, both sides -/
/-- the reference: here must stand a comma or the sign E -/
def mor (B : Nat) (E : Int) (X : Int → xw_M → xP) (m1 : xw_M) : xP := xB (yf266 B 44 m1) fun v2 m2 => if v2 = 0 then (xB (yf266 B E m2) fun v3 m3 => if v3 = 0 then (xB (yf258 B 0 m3) fun v4 m4 => if v4 = 0 then (X 0 m4) else (xB (yf266 B 44 m4) fun v5 m5 => if v5 = 0 then (X 0 m5) else (X 1 m5))) else (xB (yf258 B 1 m3) fun v6 m6 => if v6 = 0 then (X 0 m6) else (xB (yf266 B 44 m6) fun v7 m7 => if v7 = 0 then (X 0 m7) else (X 1 m7)))) else (xB (yf258 B 1 m2) fun v8 m8 => if v8 = 0 then (X 0 m8) else (xB (yf266 B 44 m8) fun v9 m9 => if v9 = 0 then (X 0 m9) else (X 1 m9)))
section MOR
variable {B : Nat} {c r : xw_M}
theorem mor_d {E : Int} {X : Int → xw_M → xP} (d : 0 < xR r 536 6) : mor B E X r = X 0 r := by
  unfold mor
  rw [p266, xB_ret]
  refine ifd ?_ (by rw [d258 d, xB_ret, if_pos rfl])
  rw [p266, xB_ret]
  exact ifd (by rw [d258 d, xB_ret, if_pos rfl]) (by rw [d258 d, xB_ret, if_pos rfl])
theorem mor_ok {E : Int} {X : Int → xw_M → xP} {U V : xP} {G : xw_M → xP} {Q : Int → xw_M → Int → xw_M → Prop} {Z : xw_M → Int → xw_M → Prop} (h : TK c r) (hE : sg1 E = true) (e44 : E ≠ 44) (h1 : xR c 1 3 = 44 → duo U (X 1 r) Q Z) (h2 : xR c 1 3 = E → duo V (X 0 r) Q Z) (h3 : ∀ c' r', FL c' r' → fTy c c' → fRy r r' → ∃ w r'', X 0 r' = some (.inl w, r'') ∧ FL c' r'' ∧ Z c' w r'') : duo (if xR c 1 3 = 44 then U else (if xR c 1 3 = E then V else (xB (yf56 B c) fun _ m => G m))) (mor B E X r) Q Z := by
  have n := h.nf
  have eE : E = sgr E := by
    have := of_decide_eq_true hE
    unfold sgr
    rw [if_neg (by omega), if_neg (by omega), if_neg (by omega)]
  unfold mor
  rw [iss (K := 44) (g := 44) h rfl (Or.inl rfl), xB_ret]
  by_cases a : xR c 1 3 = 44
  · rw [if_pos a, if_pos a, if_neg (show ¬ (1 : Int) = 0 by decide), ok258 n, xB_ret, if_neg (show ¬ (1 : Int) = 0 by decide), iss (K := 44) (g := 44) h rfl (Or.inl rfl), xB_ret, if_pos a, if_neg (show ¬ (1 : Int) = 0 by decide)]
    exact h1 a
  · rw [if_neg a, if_neg a, if_pos rfl, iss (K := E) (g := E) h eE (Or.inl hE), xB_ret]
    by_cases b : xR c 1 3 = E
    · rw [if_pos b, if_pos b, if_neg (show ¬ (1 : Int) = 0 by decide), ok258 n, xB_ret, if_neg (show ¬ (1 : Int) = 0 by decide), iss (K := 44) (g := 44) h rfl (Or.inl rfl), xB_ret, if_neg a, if_pos rfl]
      exact h2 b
    · rw [if_neg b, if_neg b, if_pos rfl]
      obtain ⟨c', r', z1, z2, f, f1, f2⟩ := fhere (B := B) h
      rw [z1, z2, xB_thr, xB_ret, if_pos rfl]
      obtain ⟨w, r'', z3, f3, z⟩ := h3 c' r' f f1 f2
      rw [z3]
      exact duo_f f3 z
end MOR
section LST
variable {B : Nat} {c r : xw_M}
/-- amid the list: i numbers -/
def Li (c r : xw_M) (q n d l p g h0 : Int) (i : Int) (c5 r5 : xw_M) : Prop := Md c r q n d l p g c5 r5 ∧ xR r5 (q + 10) n = h0 ∧ (∀ x, 0 ≤ x → x < 1000 → xR c5 (231 + n) x = 0 ∨ xR c5 (231 + n) x = 1) ∧ ∀ x, 0 ≤ x → x < xR c (15 + 26 * d) 11 → (xR c5 (231 + n) x = 1 ↔ ∃ k, 0 ≤ k ∧ k < i ∧ xR r5 (q + 13) (40 * n + k) = xR c (15 + 26 * d + 9 + l) x)
theorem w279e {q n x : Int} {N : Nat} (hq : r 536 23 = q) (q0 : q = 544 ∨ q = 558) (n0 : 0 ≤ n) (n1 : n < 60) : xl3 (yl279_9 B) (N + 1) n x 0 r = some (.inl 0, xw_u r (q + 11) n x) := by
  obtain ⟨o, ⟨_, _, _, _, _, _, _, _, _, _, f, _⟩, ob, ⟨_, _, _, _, _, _, _, _, _, _, l, _⟩⟩ := q_l B q0
  show yl279_9 B _ n x 0 r = _
  unfold yl279_9
  rw [if_pos rfl, hq, if_pos o, f, l, if_pos ⟨n0, n1⟩, if_pos (ob 11 (by decide) (by decide))]
theorem w279w {q n x v : Int} {R : Int → Int → Int → xw_M → xP} (hq : r 536 23 = q) (q0 : q = 544 ∨ q = 558) (n0 : 0 ≤ n) (n1 : n < 60) (x0 : 0 ≤ x) (x1 : x < 40) : (if xw_obb 13 (r 536 23) = true then if (0 : Int) ≤ ((40 * n) + x) ∧ ((40 * n) + x) < (xw_le B (xw_rf (r 536 23) 18)) then if xw_obb 16 (xw_rf (r 536 23) 18) = true then (yk279_59 B R n x (xw_u r (xw_rf (r 536 23) 18) ((40 * n) + x) v)) else none else none else none) = yk279_59 B R n x (xw_u r (q + 13) (40 * n + x) v) := by
  have b : 0 ≤ 40 * n + x ∧ 40 * n + x < 2400 := by omega
  obtain ⟨o, ⟨_, _, _, _, _, _, _, _, _, _, _, _, f⟩, ob, ⟨_, _, _, _, _, _, _, _, _, _, _, _, l⟩⟩ := q_l B q0
  rw [hq, if_pos o, f, l, if_pos b, if_pos (ob 13 (by decide) (by decide))]
theorem w59 {n x : Int} {R : Int → Int → Int → xw_M → xP} : yk279_59 B R n x r = xB (yf248 B r) fun _ m1 => mor B 41 (fun y m => R n (w32 (x + 1)) y m) m1 := rfl
theorem d59 {n x : Int} {R : Int → Int → Int → xw_M → xP} (d : 0 < xR r 536 6) : yk279_59 B R n x r = R n (w32 (x + 1)) 0 r := by
  rw [w59, d248 d, xB_ret, mor_d d]
/-- behind a fault within the list -/
theorem dlst {q n x : Int} {N : Nat} (f : FL c r) (hq : r 536 23 = q) (q0 : q = 544 ∨ q = 558) (n0 : 0 ≤ n) (n1 : n < 60) : ∃ w r', xl3 (yl279_9 B) (N + 1) n x 0 r = some (.inl w, r') ∧ FL c r' ∧ QR q r r' := by
  rw [w279e hq q0 n0 n1]
  exact ⟨_, _, rfl, fRk_fl (q := q) f (fun k _ => xu_ne (by omega)), ⟨fun a ha hb => xu_c (by omega), fun k _ _ _ => xu_ne (by omega)⟩⟩
theorem Md_p {q n d l p g : Int} {c4 r4 : xw_M} (hq : r 536 23 = q) (h : Md c r q n d l p g c4 r4) : r4 536 23 = q := by
  rw [h.2.1.2.1 23 (by omega)]
  exact hq
theorem lst_l {q n d l p g h0 : Int} (hq : r 536 23 = q) (q0 : q = 544 ∨ q = 558) (n0 : 0 ≤ n) (n1 : n < 60) (d0 : 0 ≤ d) (d1 : d < 8) (l0 : 0 ≤ l) (l1 : l < 4) (hm : xR c (15 + 26 * d) 11 ≤ 1000) : ∀ (k N N' : Nat) (i : Int) (c5 r5 : xw_M), (40 - i).toNat ≤ k → k < N → k + 1 < N' → 0 ≤ i → i ≤ 40 → Li c r q n d l p g h0 i c5 r5 → duo (xl1 (yl79_11 B) N i c5) (xl3 (yl279_9 B) N' n i 1 r5) (fun _ c' _ r' => ∃ a, 0 ≤ a ∧ a ≤ 40 ∧ xR r' (q + 11) n = a ∧ Li c r q n d l p g h0 a c' r') (fun c' _ r' => QC c c' ∧ QR q r r') := by
  intro k
  induction k with
  | zero =>
    intro N N' i c5 r5 hi kN kN' i0 i1 L
    have ie : i = 40 := by omega
    subst ie
    obtain ⟨M, hh, b1, b2⟩ := L
    cases N with
    | zero => omega
    | succ N =>
    cases N' with
    | zero => omega
    | succ N' =>
    cases N' with
    | zero => omega
    | succ N' =>
    have qf := Md_q q0 n0 n1 M
    show duo (yl79_11 B (xl1 (yl79_11 B) N) 40 c5) (yl279_9 B (xl3 (yl279_9 B) (N' + 1)) n 40 1 r5) _ _
    have dead := @dlst B
    generalize hR : xl3 (yl279_9 B) (N' + 1) = R
    generalize xl1 (yl79_11 B) N = R1
    unfold yl79_11 yl279_9
    rw [if_neg (by omega), if_neg (show ¬ (1 : Int) = 0 by decide)]
    refine duo_B (enm M.2.2.1.1) (fun v c6 w r6 s => ?_) (fun c6 w r6 f z => ?_)
    · obtain ⟨e5, s, k3⟩ := s
      have M6 := Md_x q0 n0 n1 M s
      rw [if_neg (by omega), no254 s.1.nf (by decide) (by decide), xB_ret, if_pos rfl]
      unfold yf64
      rw [if_neg (by omega)]
      unfold yf54
      have F := flt (c := c6) (r := r6) (f := 7) (p := xR c6 1 4) (p' := xR r6 536 9) (by decide) (by decide) (w32_xR _ _ _) s.1.2.1.1
      rw [xB_thr, xB_thr, d59 F.1.1]
      have qf6 := Md_q q0 n0 n1 M6
      obtain ⟨w', r', z', f', g'⟩ := dead (c := xw_u (xw_u c6 1 6 7) 1 7 (xR c6 1 4)) (r := xw_u (xw_u r6 536 6 7) 536 7 (xR r6 536 9)) (q := q) (n := n) (x := w32 (40 + 1)) (N := N') F.1 (by rw [F.2.2.2 23 (by omega)]; exact Md_p hq M6) q0 n0 n1
      rw [hR] at z'
      rw [z']
      exact duo_f f' ⟨QC_tr (QC_c qf6.1) (QC_y F.2.1), QR_tr (QR_tr (QR_c qf6.2) (QR_y F.2.2)) g'⟩
    · obtain ⟨w', r', z', f', g'⟩ := dead (c := c6) (r := r6) (q := q) (n := n) (x := w32 (40 + 1)) (N := N') f (by rw [z.2.2.2 23 (by omega)]; exact Md_p hq M) q0 n0 n1
      rw [hR] at z'
      refine ⟨w', r', ?_, f', QC_tr (QC_c qf.1) (QC_y z.2.1), QR_tr (QR_tr (QR_c qf.2) (QR_y z.2.2)) g'⟩
      rw [if_neg (by omega), d254 f.1, xB_ret, if_pos rfl, d59 f.1]
      exact z'
  | succ k ih =>
    intro N N' i c5 r5 hi kN kN' i0 i1 L
    by_cases i40 : i = 40
    · exact ih N N' i c5 r5 (by omega) (by omega) (by omega) i0 i1 L
    obtain ⟨M, hh, b1, b2⟩ := L
    cases N with
    | zero => omega
    | succ N =>
    cases N' with
    | zero => omega
    | succ N' =>
    cases N' with
    | zero => omega
    | succ N' =>
    have qf := Md_q q0 n0 n1 M
    show duo (yl79_11 B (xl1 (yl79_11 B) N) i c5) (yl279_9 B (xl3 (yl279_9 B) (N' + 1)) n i 1 r5) _ _
    have IH := ih N (N' + 1) (i + 1)
    have dead := @dlst B
    have fin := @w279e B
    have wi : w32 (i + 1) = i + 1 := w32_id (by omega) (by omega)
    generalize hR : xl3 (yl279_9 B) (N' + 1) = R at IH ⊢
    generalize xl1 (yl79_11 B) N = R1 at IH ⊢
    unfold yl79_11 yl279_9
    rw [if_neg (by omega), if_neg (show ¬ (1 : Int) = 0 by decide)]
    refine duo_B (enm M.2.2.1.1) (fun v c6 w r6 s => ?_) (fun c6 w r6 f z => ?_)
    · obtain ⟨e5, s, k3⟩ := s
      have M6 := Md_x q0 n0 n1 M s
      have q6 := Md_p hq M6
      have c65 : ∀ a, a ≠ 1 → c6 a = c5 a := s.2.1.1
      have r65 : ∀ a, a ≠ 536 → r6 a = r5 a := s.2.2.1.1
      rw [if_pos (show i < 40 by omega), ok254 s.1.nf, xB_ret, if_neg (show ¬ (1 : Int) = 0 by decide), w279w q6 q0 n0 n1 i0 (by omega)]
      unfold yf64
      rw [if_pos (show i < 40 by omega), xB_ret]
      have m6 : ∀ a, a < 223 → a ≠ 1 → c6 a = c a := fun a ha h1 => M6.1.1 a h1 (by omega) (by omega) (by omega) (by omega) (by omega)
      have e11 : xR c6 (15 + 26 * d) 11 = xR c (15 + 26 * d) 11 := by rw [xR_cg (m6 (15 + 26 * d) (by omega) (by omega))]
      have eV : xR c6 (15 + 26 * d + 9 + l) = xR c (15 + 26 * d + 9 + l) := xR_cg (m6 (15 + 26 * d + 9 + l) (by omega) (by omega))
      obtain ⟨c7, z7, f7, g7⟩ := adm_ok (B := B) (c := c6) (lo := xR c6 1 5) (hi := xR c6 1 5) (n := n) (d := d) (l := l) M6.1.2.2.1 n0 n1 M6.1.2.2.2.1 d0 d1 l0 l1 (by rw [e11]; exact hm)
      rw [e11, eV] at g7
      rw [z7, xB_ret, w59]
      have ew : w32 w = w := by rw [e5]; exact w32_xR _ _ _
      generalize hr7 : xw_u r6 (q + 13) (40 * n + i) w = r7
      have r7f : ∀ a, a ≠ q + 13 → r7 a = r6 a := fun a ha => by rw [← hr7]; exact xu_c ha
      have t7 : TK c7 r7 := TK_fr s.1 (fun k _ _ => by rw [f7 1 (by omega)]) (f7 2 (by omega)) (fun k _ _ => by rw [r7f 536 (by omega)]) (r7f 537 (by omega))
      have M7 : Md c r q n d l p g c7 r7 := Md_s n0 n1 M6 (fun a _ ha => f7 a ha) (fun k _ => by rw [f7 1 (by omega)]) (fun a _ ha => r7f a (by omega)) (fun k _ => by rw [r7f 536 (by omega)]) (fun a j x1 x2 _ => by rw [r7f a (by omega)]) (fun j hj => by rw [← hr7]; exact xu_ne (by omega)) q0 t7 (by rw [xR_cg (f7 1 (by omega))]; omega)
      have qf7 := Md_q q0 n0 n1 M7
      have q7 := Md_p hq M7
      have bits : Li c r q n d l p g h0 (i + 1) c7 r7 := by
        refine ⟨M7, by rw [xR_cg (r7f (q + 10) (by omega)), xR_cg (r65 (q + 10) (by omega))]; exact hh, fun x x0 x1 => ?_, fun x x0 x1 => ?_⟩
        · rw [g7 x]
          split
          · exact Or.inr rfl
          · rw [xR_cg (c65 (231 + n) (by omega))]; exact b1 x x0 x1
        · rw [g7 x]
          have at0 : xR r7 (q + 13) (40 * n + i) = w := by rw [← hr7]; exact xR_at ew
          have ato : ∀ j, j ≠ i → xR r7 (q + 13) (40 * n + j) = xR r5 (q + 13) (40 * n + j) := fun j hj => by rw [← hr7, xR_ne (by omega), xR_cg (r65 (q + 13) (by omega))]
          by_cases e : 0 ≤ x ∧ x < xR c (15 + 26 * d) 11 ∧ xR c6 1 5 ≤ xR c (15 + 26 * d + 9 + l) x ∧ xR c (15 + 26 * d + 9 + l) x ≤ xR c6 1 5
          · rw [if_pos e]
            exact ⟨fun _ => ⟨i, i0, by omega, by rw [at0]; omega⟩, fun _ => rfl⟩
          · rw [if_neg e, xR_cg (c65 (231 + n) (by omega)), b2 x x0 x1]
            refine ⟨fun ⟨j, j0, j1, j2⟩ => ⟨j, j0, by omega, by rw [ato j (by omega)]; exact j2⟩, fun ⟨j, j0, j1, j2⟩ => ?_⟩
            by_cases hj : j = i
            · subst hj
              rw [at0] at j2
              exact absurd ⟨x0, x1, by omega, by omega⟩ e
            · exact ⟨j, j0, by omega, by rw [← ato j hj]; exact j2⟩
      refine duo_B (nx t7.1) (fun v c8 w8 r8 s8 => ?_) (fun c8 w8 r8 f8 z8 => ?_)
      · have M8 := Md_x q0 n0 n1 M7 s8
        have q8 := Md_p hq M8
        have qf8 := Md_q q0 n0 n1 M8
        have L8 : Li c r q n d l p g h0 (i + 1) c8 r8 := by
          obtain ⟨_, k1, k2, k4⟩ := bits
          refine ⟨M8, by rw [xR_cg (s8.2.2.1.1 (q + 10) (by omega))]; exact k1, by rw [xR_cg (s8.2.1.1 (231 + n) (by omega))]; exact k2, by rw [xR_cg (s8.2.1.1 (231 + n) (by omega)), xR_cg (s8.2.2.1.1 (q + 13) (by omega))]; exact k4⟩
        refine mor_ok s8.1 rfl (by decide) (fun k44 => ?_) (fun k41 => ?_) (fun c9 r9 f9 y1 y2 => ?_)
        · show duo _ (R n (w32 (i + 1)) 1 r8) _ _
          rw [wi]
          exact IH c8 r8 (by omega) (by omega) (by omega) (by omega) (by omega) L8
        · show duo _ (R n (w32 (i + 1)) 0 r8) _ _
          rw [wi]
          have z := fin (r := r8) (q := q) (n := n) (x := i + 1) (N := N') q8 q0 n0 n1
          rw [hR] at z
          rw [z]
          obtain ⟨_, k1, k2, k4⟩ := L8
          have t9 : TK c8 (xw_u r8 (q + 11) n (i + 1)) := TK_fr s8.1 (fun _ _ _ => rfl) rfl (fun k _ _ => xu_ne (by omega)) (xu_c (by omega))
          refine duo_r ⟨i + 1, by omega, by omega, xR_at (w32_id (by omega) (by omega)), Md_s n0 n1 M8 (fun _ _ _ => rfl) (fun _ _ => rfl) (fun a _ ha => xu_c (by omega)) (fun k _ => xu_ne (by omega)) (fun a j _ _ hj => xu_ne (by omega)) (fun j _ => xu_ne (by omega)) q0 t9 (Int.le_refl _), by rw [xR_ne (by omega)]; exact k1, k2, fun x x0 x1 => ?_⟩
          rw [xR_cg (xu_c (show q + 13 ≠ q + 11 by omega))]
          exact k4 x x0 x1
        · show ∃ w r'', R n (w32 (i + 1)) 0 r9 = _ ∧ _
          rw [wi]
          obtain ⟨w', r', z', f', g'⟩ := dead (c := c9) (r := r9) (q := q) (n := n) (x := i + 1) (N := N') f9 (by rw [y2.2 23 (by omega)]; exact q8) q0 n0 n1
          rw [hR] at z'
          exact ⟨w', r', z', f', QC_tr (QC_c qf8.1) (QC_y y1), QR_tr (QR_tr (QR_c qf8.2) (QR_y y2)) g'⟩
      · obtain ⟨w', r', z', f', g'⟩ := dead (c := c8) (r := r8) (q := q) (n := n) (x := i + 1) (N := N') f8 (by rw [z8.2.2 23 (by omega)]; exact q7) q0 n0 n1
        rw [hR] at z'
        refine ⟨w', r', ?_, f', QC_tr (QC_c qf7.1) (QC_y z8.1), QR_tr (QR_tr (QR_c qf7.2) (QR_y z8.2)) g'⟩
        rw [mor_d f8.1]
        show R n (w32 (i + 1)) 0 r8 = _
        rw [wi]
        exact z'
    · obtain ⟨w', r', z', f', g'⟩ := dead (c := c6) (r := r6) (q := q) (n := n) (x := i + 1) (N := N') f (by rw [z.2.2.2 23 (by omega)]; exact Md_p hq M) q0 n0 n1
      rw [hR] at z'
      refine ⟨w', r', ?_, f', QC_tr (QC_c qf.1) (QC_y z.2.1), QR_tr (QR_tr (QR_c qf.2) (QR_y z.2.2)) g'⟩
      rw [if_pos (show i < 40 by omega), d254 f.1, xB_ret, if_pos rfl, d59 f.1, wi]
      exact z'
end LST
