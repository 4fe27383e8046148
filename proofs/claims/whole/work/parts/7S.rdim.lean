/-! A DIMENSION COMES FROM THE DISK -/
section RDIM
variable {B : Nat} {m : xw_M} {p d sz L n : Int} {nm ls : Int → Int} {ln vv : Int → Int → Int}
/-- only dimension t's cells and the reader's place -/
def rd1 (m m' : xw_M) (t : Int) : Prop := (∀ a, a ≠ 530 → (a < t ∨ t + 25 < a) → m' a = m a) ∧ ∀ k, k ≠ 2 → m' 530 k = m 530 k
theorem rd1_g {m1 m2 : xw_M} {t : Int} (h : rd1 m m1 t) (g : rg m1 m2) : rd1 m m2 t := ⟨fun a a1 a2 => (g.1 a a1).trans (h.1 a a1 a2), fun k hk => (g.2 k hk).trans (h.2 k hk)⟩
theorem rd1_u {m1 : xw_M} {t c i v : Int} (h : rd1 m m1 t) (c0 : t ≤ c) (c1 : c ≤ t + 25) (ht : t + 25 < 302) : rd1 m (xw_u m1 c i v) t := ⟨fun a a1 a2 => by rw [xu_c (by omega)]; exact h.1 a a1 a2, fun k hk => by rw [xu_c (by omega)]; exact h.2 k hk⟩
theorem rd1_b {m1 m2 : xw_M} {t c : Int} (h : rd1 m m1 t) (g : rb m1 m2 c) (c0 : t ≤ c) (c1 : c ≤ t + 25) : rd1 m m2 t := ⟨fun a a1 a2 => (g.1 a a1 (by omega)).trans (h.1 a a1 a2), fun k hk => (g.2 k hk).trans (h.2 k hk)⟩
theorem rd_dim (hB : B ≤ 512) (d0 : 0 ≤ d) (d1 : d < 8) (hs : 0 ≤ sz ∧ sz ≤ 40) (hL : 0 ≤ L ∧ L ≤ 4) (hn : 0 ≤ n ∧ n ≤ 1000) (hl : ∀ l, 0 ≤ l → l < L → 0 ≤ ls l ∧ ls l ≤ 40) (wn : ∀ i, 0 ≤ i → i < sz → w8 (nm i) = nm i) (wl : ∀ l i, 0 ≤ l → l < L → 0 ≤ i → i < ls l → w8 (ln l i) = ln l i) (wv : ∀ l i, 0 ≤ l → l < L → 0 ≤ i → i < n → w32 (vv l i) = vv l i) (h : rs B m p) (hd : Dmn (m 516) p sz L n nm ls ln vv) (hf : p + 32 + 8 * sz + 8 * lwB ls n L.toNat ≤ 64 * (B * 512 : Nat)) : ∃ m', yf24 B (15 + 26 * d) 530 m = some (.inl 0, m') ∧ rs B m' (p + 32 + 8 * sz + 8 * lwB ls n L.toNat) ∧ rd1 m m' (15 + 26 * d) ∧ (xR m' (15 + 26 * d) 9 = sz ∧ xR m' (15 + 26 * d) 10 = L ∧ xR m' (15 + 26 * d) 11 = n) ∧ (∀ i, 0 ≤ i → i < sz → xR m' (15 + 26 * d + 1) i = nm i) ∧ ∀ l, 0 ≤ l → l < L → xR m' (15 + 26 * d + 7) l = ls l ∧ (∀ i, 0 ≤ i → i < ls l → xR m' (15 + 26 * d + 3 + l) i = ln l i) ∧ ∀ i, 0 ≤ i → i < n → xR m' (15 + 26 * d + 9 + l) i = vv l i := by
  obtain ⟨o0, ⟨r0, r1, r2, r3, _, _, _, _, _⟩, ⟨ob1, ob2, ob7, ob8, _, _, _, _, _⟩, ⟨le1, le2, le7, le8, _, _, _, _, _⟩⟩ := dm_f B d0 d1
  have p0 : 0 ≤ p := h.2.2
  obtain ⟨t, ht⟩ : ∃ t, t = 15 + 26 * d := ⟨_, rfl⟩
  rw [← ht] at o0 r0 r1 r2 r3 ob1 ob2 ob7 ob8 le1 le2 le7 le8 ⊢
  have tb : 15 ≤ t ∧ t + 25 < 302 := by omega
  obtain ⟨V, hV⟩ : ∃ V, V = lwB ls n := ⟨_, rfl⟩
  have hstep : ∀ l : Nat, V (l + 1) = V l + (1 + ls l + 4 * n) := fun l => by rw [hV]; rfl
  have hV0 : V 0 = 0 := by rw [hV]; rfl
  have mono := lwB_mono (ls := ls) hn.1 (L := L.toNat) (fun l hl' => (hl l (by omega) (by omega)).1)
  obtain ⟨k1, k2, k3, k4, k5⟩ := hd
  rw [← hV] at hf mono k5 ⊢
  have zL := mono L.toNat 0 (by omega)
  rw [Nat.zero_add, hV0] at zL
  have w5 : ∀ {m'}, rd1 m m' t → m' 516 = m 516 := fun g => g.1 516 (by decide) (by omega)
  obtain ⟨m1, e1, R1, G1⟩ := upto_b (b := 8) (c := 40) (v := sz) hB h (by decide) (by decide) (by omega) (k1.trans (msk_nn hs.1 (by omega) (by decide))) hs.1 hs.2 (by decide)
  have q1 : rd1 m (xw_u m1 t 9 sz) t := rd1_u (rd1_g ⟨fun _ _ _ => rfl, fun _ _ => rfl⟩ G1) (by omega) (by omega) tb.2
  obtain ⟨m2, e2, R2, G2⟩ := upto_b (b := 8) (c := 4) (v := L) hB (rs_u (c := t) (i := 9) (v := sz) R1 (by omega)) (by decide) (by decide) (by omega) (by rw [w5 q1]; exact k2.trans (msk_nn hL.1 (by omega) (by decide))) hL.1 hL.2 (by decide)
  have q2 : rd1 m (xw_u m2 t 10 L) t := rd1_u (rd1_g q1 G2) (by omega) (by omega) tb.2
  obtain ⟨m3, e3, R3, G3⟩ := upto_b (b := 16) (c := 1000) (v := n) hB (rs_u (c := t) (i := 10) (v := L) R2 (by omega)) (by decide) (by decide) (by omega) (by rw [w5 q2, show p + 8 + 8 = p + 16 from by omega]; exact k3.trans (msk_nn hn.1 (by omega) (by decide))) hn.1 hn.2 (by decide)
  have q3 : rd1 m (xw_u m3 t 11 n) t := rd1_u (rd1_g q2 G3) (by omega) (by omega) tb.2
  have g9 : xR m3 t 9 = sz := by rw [xR_cg (G3.1 t (by omega)), xR_u, if_neg (fun h' => absurd h'.2 (by decide)), xR_cg (G2.1 t (by omega)), xR_u, if_pos ⟨rfl, rfl⟩, w32_id (by omega) (by omega)]
  have g10 : xR m3 t 10 = L := by rw [xR_cg (G3.1 t (by omega)), xR_u, if_pos ⟨rfl, rfl⟩, w32_id (by omega) (by omega)]
  have R3' : rs B (xw_u m3 t 11 n) (p + 32) := by
    have := rs_u (c := t) (i := 11) (v := n) R3 (by omega)
    rw [show p + 8 + 8 + 16 = p + 32 from by omega] at this
    exact this
  obtain ⟨m4, e4, R4, G4, V4⟩ := rd_bytes (B := B) (a := t + 1) (sz := sz) (f := nm) hB ob1 (by rw [le1]; exact hs.2) hs.1 hs.2 (by omega) (by omega) wn R3' (by rw [w5 q3]; exact k4) (by omega)
  have q4 : rd1 m m4 t := rd1_b q3 G4 (by omega) (by omega)
  have t4 : m4 t = (xw_u m3 t 11 n) t := G4.1 t (by omega) (by omega)
  have z9 : xR m4 t 9 = sz := by rw [xR_cg t4, xR_u, if_neg (fun h' => absurd h'.2 (by decide))]; exact g9
  have z10 : xR m4 t 10 = L := by rw [xR_cg t4, xR_u, if_neg (fun h' => absurd h'.2 (by decide))]; exact g10
  have z11 : xR m4 t 11 = n := by rw [xR_cg t4, xR_u, if_pos ⟨rfl, rfl⟩, w32_id (by omega) (by omega)]
  unfold yf24
  rw [if_pos (by decide), e1, xB_ret, if_pos o0, e2, xB_ret, e3, xB_ret, g9, r0, e4, xB_ret]
  generalize hN : (1000000 : Nat) = N
  have goal := xH_ex (Q := fun v m' => v = 0 ∧ rs B m' (p + 32 + 8 * sz + 8 * V L.toNat) ∧ rd1 m m' t ∧ m' t = m4 t ∧ m' (t + 1) = m4 (t + 1) ∧ ∀ l, 0 ≤ l → l < L → xR m' (t + 7) l = ls l ∧ (∀ i, 0 ≤ i → i < ls l → xR m' (t + 3 + l) i = ln l i) ∧ ∀ i, 0 ≤ i → i < n → xR m' (t + 9 + l) i = vv l i) (xl3_rule (F := yl24_50 B) (fun y0 y1 x m' => (y0 = t ∧ y1 = 530) ∧ 0 ≤ x ∧ x ≤ L ∧ rs B m' (p + 32 + 8 * sz + 8 * V x.toNat) ∧ rd1 m m' t ∧ m' t = m4 t ∧ m' (t + 1) = m4 (t + 1) ∧ ∀ l, 0 ≤ l → l < x → xR m' (t + 7) l = ls l ∧ (∀ i, 0 ≤ i → i < ls l → xR m' (t + 3 + l) i = ln l i) ∧ ∀ i, 0 ≤ i → i < n → xR m' (t + 9 + l) i = vv l i) (fun _ _ x _ => (L - x).toNat) ?_ N t 530 0 m4 ⟨⟨rfl, rfl⟩, by omega, hL.1, by rw [show V (0 : Int).toNat = 0 from hV0, show p + 32 + 8 * sz + 8 * 0 = p + 32 + 8 * sz from by omega]; exact R4, q4, rfl, rfl, fun i i0 i1 => absurd i1 (Int.not_lt.mpr i0)⟩ (by omega))
  · obtain ⟨v, m', e, rfl, Rr, rr', h1, h2, h3⟩ := goal
    exact ⟨m', e, Rr, rr', ⟨by rw [xR_cg h1]; exact z9, by rw [xR_cg h1]; exact z10, by rw [xR_cg h1]; exact z11⟩, fun i i0 i1 => by rw [xR_cg h2]; exact V4 i i0 i1, h3⟩
  · intro r y0 y1 x mx ⟨⟨b1, b2⟩, x0, x1, R, F, E1, E2, P⟩ ih
    subst b1 b2
    unfold yl24_50
    rw [if_pos o0, show xR mx y0 10 = L from by rw [xR_cg E1]; exact z10]
    by_cases hx : x < L
    · obtain ⟨l0, l1⟩ := hl x x0 hx
      obtain ⟨⟨kd8, rf8, ob9, le9⟩, _, _, kd2, rf2, ob3, le3⟩ := dm_l B d0 d1 x0 (show x < 4 by omega)
      rw [← ht] at kd8 rf8 ob9 le9 kd2 rf2 ob3 le3
      have hst := hstep x.toNat
      rw [Int.toNat_of_nonneg x0] at hst
      have c1 := mono (L.toNat - (x.toNat + 1)) (x.toNat + 1) (by omega)
      rw [show x.toNat + 1 + (L.toNat - (x.toNat + 1)) = L.toNat from by omega] at c1
      have c0 := mono x.toNat 0 (by omega)
      rw [Nat.zero_add, hV0] at c0
      obtain ⟨u1, u2, u3⟩ := k5 x.toNat (by omega)
      rw [Int.toNat_of_nonneg x0] at u1 u2 u3
      obtain ⟨ma, ea, Ra, Ga⟩ := upto_b (b := 8) (c := 40) (v := ls x) hB R (by decide) (by decide) (by omega) (by rw [w5 F]; exact u1.trans (msk_nn l0 (by omega) (by decide))) l0 l1 (by decide)
      have fa : rd1 m (xw_u ma (y0 + 7) x (ls x)) y0 := rd1_u (rd1_g F Ga) (by omega) (by omega) tb.2
      obtain ⟨mb, eb, Rb, Gb, Vb⟩ := rd_bytes (B := B) (a := y0 + 3 + x) (sz := ls x) (f := ln x) hB ob3 (by rw [le3]; exact l1) l0 l1 (by omega) (by omega) (fun i i0 i1 => wl x i x0 hx i0 i1) (rs_u (c := y0 + 7) (i := x) (v := ls x) Ra (by omega)) (by rw [w5 fa, show p + 32 + 8 * sz + 8 * V x.toNat + 8 = p + 40 + 8 * sz + 8 * V x.toNat from by omega]; exact u2) (by omega)
      have fb : rd1 m mb y0 := rd1_b fa Gb (by omega) (by omega)
      rw [if_pos hx, if_pos (by decide), ea, xB_ret, r2, le7, if_pos ⟨x0, by omega⟩, if_pos ob7, r1, le2, if_pos ⟨x0, by omega⟩, if_pos kd2, if_pos ob2, rf2, eb, xB_ret]
      obtain ⟨Q0, hQ0⟩ : ∃ Q0, Q0 = p + 40 + 8 * sz + 8 * V x.toNat + 8 * ls x := ⟨_, rfl⟩
      rw [show p + 32 + 8 * sz + 8 * V x.toNat + 8 + 8 * ls x = Q0 from by omega] at Rb
      rw [← hQ0] at u3
      generalize hM : (1000000 : Nat) = N'
      refine xl4_rule (F := yl24_90 B r) (fun z0 z1 z2 i m' => (z0 = y0 ∧ z1 = 530 ∧ z2 = x) ∧ 0 ≤ i ∧ i ≤ n ∧ rs B m' (Q0 + 32 * i) ∧ rb mb m' (y0 + 9 + x) ∧ ∀ k, 0 ≤ k → k < i → xR m' (y0 + 9 + x) k = vv x k) (fun _ _ _ i _ => (n - i).toNat) ?_ N' y0 530 x 0 mb ⟨⟨rfl, rfl, rfl⟩, by omega, hn.1, by rw [show Q0 + 32 * 0 = Q0 from by omega]; exact Rb, ⟨fun _ _ _ => rfl, fun _ _ => rfl⟩, fun i i0 i1 => absurd i1 (Int.not_lt.mpr i0)⟩ (by omega)
      intro r' z0 z1 z2 i mi ⟨⟨c1', c2', c3'⟩, i0, i1, Ri, Fi, Pi⟩ ih'
      subst c1' c2' c3'
      have fi : rd1 m mi z0 := rd1_b fb Fi (by omega) (by omega)
      have tmi : mi z0 = m4 z0 := by rw [Fi.1 z0 (by omega) (by omega), Gb.1 z0 (by omega) (by omega), xu_c (by omega), Ga.1 z0 (by omega)]; exact E1
      unfold yl24_90
      rw [if_pos o0, show xR mi z0 11 = n from by rw [xR_cg tmi]; exact z11]
      by_cases hi : i < n
      · obtain ⟨mj, ej, Rj, Gj⟩ := take_b (b := 32) hB Ri (by decide) (by decide) (by omega)
        have kk : tk (mi 516) (Q0 + 32 * i) (Int.toNat 32) = msk (vv z2 i) 32 := by
          rw [w5 fi]
          exact u3 i i0 hi
        rw [if_pos hi, r3, le8, if_pos ⟨x0, by omega⟩, if_pos kd8, if_pos ob8, if_pos (by decide), ej, xB_ret, rf8, le9, if_pos ⟨i0, by omega⟩, if_pos ob9, kk, w32_id (by omega) (by omega)]
        refine ih' _ _ _ _ _ ⟨⟨rfl, rfl, rfl⟩, by omega, by omega, ?_, ⟨fun c e1 e2 => by rw [xu_c e2, Gj.1 c e1]; exact Fi.1 c e1 e2, fun j hj => by rw [xu_c (by omega), Gj.2 j hj]; exact Fi.2 j hj⟩, fun k k0 k1 => ?_⟩ (by omega)
        · have := rs_u (c := z0 + 9 + z2) (i := i) (v := msk (vv z2 i) 32) Rj (by omega)
          rw [show Q0 + 32 * (i + 1) = Q0 + 32 * i + 32 from by omega]
          exact this
        · rw [xR_u]
          by_cases ek : k = i
          · rw [if_pos ⟨rfl, ek⟩, ek, msk_32, wv z2 i x0 hx i0 hi]
          · rw [if_neg (fun h' => ek h'.2), xR_cg (Gj.1 (z0 + 9 + z2) (by omega))]
            exact Pi k k0 (by omega)
      · have ei : i = n := by omega
        subst ei
        rw [if_neg hi, w32_id (by omega) (by omega)]
        have back : ∀ c, c ≠ 530 → c ≠ z0 + 9 + z2 → c ≠ z0 + 3 + z2 → c ≠ z0 + 7 → mi c = mx c := fun c n1 n2 n3 n4 => by rw [Fi.1 c n1 n2, Gb.1 c n1 n3, xu_c n4, Ga.1 c n1]
        have m7 : ∀ l, xR mi (z0 + 7) l = if l = z2 then ls z2 else xR mx (z0 + 7) l := fun l => by
          rw [xR_cg (Fi.1 (z0 + 7) (by omega) (by omega)), xR_cg (Gb.1 (z0 + 7) (by omega) (by omega)), xR_u]
          by_cases el : l = z2
          · rw [if_pos ⟨rfl, el⟩, if_pos el, w32_id (by omega) (by omega)]
          · rw [if_neg (fun h' => el h'.2), if_neg el, xR_cg (Ga.1 (z0 + 7) (by omega))]
        refine ih _ _ _ _ ⟨⟨rfl, rfl⟩, by omega, by omega, ?_, fi, tmi, by rw [back (z0 + 1) (by omega) (by omega) (by omega) (by omega)]; exact E2, fun l l0' l1' => ?_⟩ (by omega)
        · rw [show p + 32 + 8 * sz + 8 * V (z2 + 1).toNat = Q0 + 32 * i from by rw [show (z2 + 1).toNat = z2.toNat + 1 from by omega, hst]; omega]
          exact Ri
        · rw [m7]
          by_cases el : l = z2
          · rw [if_pos el, el]
            refine ⟨rfl, fun j j0 j1 => ?_, Pi⟩
            rw [xR_cg (Fi.1 (z0 + 3 + z2) (by omega) (by omega))]
            exact Vb j j0 j1
          · rw [if_neg el]
            obtain ⟨s1, s2, s3⟩ := P l l0' (by omega)
            refine ⟨s1, fun j j0 j1 => ?_, fun j j0 j1 => ?_⟩
            · rw [xR_cg (back (z0 + 3 + l) (by omega) (by omega) (by omega) (by omega))]
              exact s2 j j0 j1
            · rw [xR_cg (back (z0 + 9 + l) (by omega) (by omega) (by omega) (by omega))]
              exact s3 j j0 j1
    · have e : x = L := by omega
      subst e
      rw [if_neg hx, xH_ret]
      exact ⟨rfl, R, F, E1, E2, P⟩
end RDIM
