/-! A DIMENSION GOES TO THE TAPE -/
section WDIM
variable {B : Nat} {m : xw_M} {p d sz L n : Int}
theorem wr_dim (hB : B ≤ 512) (d0 : 0 ≤ d) (d1 : d < 8) (h9 : xR m (15 + 26 * d) 9 = sz) (h10 : xR m (15 + 26 * d) 10 = L) (h11 : xR m (15 + 26 * d) 11 = n) (hs : 0 ≤ sz ∧ sz ≤ 40) (hL : 0 ≤ L ∧ L ≤ 4) (hn : 0 ≤ n ∧ n ≤ 1000) (hl : ∀ l, 0 ≤ l → l < L → 0 ≤ xR m (15 + 26 * d + 7) l ∧ xR m (15 + 26 * d + 7) l ≤ 40) (h : tst B m p) : ∃ m', yf154 B (15 + 26 * d) 518 m = some (.inl 0, m') ∧ tst B m' (p + 32 + 8 * sz + 8 * lwB (xR m (15 + 26 * d + 7)) n L.toNat) ∧ fw m m' p ∧ (ws B m' (p + 32 + 8 * sz + 8 * lwB (xR m (15 + 26 * d + 7)) n L.toNat) → ws B m p ∧ Dmn (m' 517) p sz L n (xR m (15 + 26 * d + 1)) (xR m (15 + 26 * d + 7)) (fun l => xR m (15 + 26 * d + 3 + l)) (fun l => xR m (15 + 26 * d + 9 + l))) := by
  obtain ⟨o0, ⟨r0, r1, r2, r3, _, _, _, _, _⟩, ⟨ob1, ob2, ob7, ob8, _, _, _, _, _⟩, ⟨le1, le2, le7, le8, _, _, _, _, _⟩⟩ := dm_f B d0 d1
  have p0 := tst_0 h
  obtain ⟨t, ht⟩ : ∃ t, t = 15 + 26 * d := ⟨_, rfl⟩
  rw [← ht] at o0 r0 r1 r2 r3 ob1 ob2 ob7 ob8 le1 le2 le7 le8 h9 h10 h11 hl ⊢
  have tb : 15 ≤ t ∧ t + 25 < 302 := by omega
  obtain ⟨V, hV⟩ : ∃ V, V = lwB (xR m (t + 7)) n := ⟨_, rfl⟩
  have hstep : ∀ l : Nat, V (l + 1) = V l + (1 + xR m (t + 7) l + 4 * n) := fun l => by rw [hV]; rfl
  have hV0 : V 0 = 0 := by rw [hV]; rfl
  rw [← hV]
  obtain ⟨m1, e1, t1, f1, v1⟩ := put_tst hB (v := sz) (n := 8) h (by decide) (by decide)
  obtain ⟨m2, e2, t2, f2, v2⟩ := put_tst hB (v := L) (n := 8) t1 (by decide) (by decide)
  obtain ⟨m3, e3, t3, f3, v3⟩ := put_tst hB (v := n) (n := 16) t2 (by decide) (by decide)
  obtain ⟨m4, e4, t4, f4, v4⟩ := wr_bytes hB (a := t + 1) (sz := sz) ob1 (by rw [le1]; exact hs.2) hs.1 hs.2 (by omega) t3
  have F2 := fw_trans f1 f2 (by omega)
  have F3 := fw_trans F2 f3 (by omega)
  have F4 := fw_trans F3 f4 (by omega)
  have ep4 : p + 8 + 8 + 16 + 8 * sz = p + 32 + 8 * sz := by omega
  rw [ep4] at t4 v4
  have head : ws B m4 (p + 32 + 8 * sz) → ws B m p ∧ tk (m4 517) p 8 = msk sz 8 ∧ tk (m4 517) (p + 8) 8 = msk L 8 ∧ tk (m4 517) (p + 16) 16 = msk n 16 ∧ Byt (m4 517) (p + 32) sz (xR m (t + 1)) := by
    intro w
    obtain ⟨w3, k4⟩ := v4 w
    obtain ⟨w2, k3⟩ := v3 w3
    obtain ⟨w1, k2⟩ := v2 w2
    obtain ⟨w0, k1⟩ := v1 w1
    have g2 := fw_trans f2 (fw_trans f3 f4 (by omega)) (by omega)
    have g3 := fw_trans f3 f4 (by omega)
    refine ⟨w0, (fw_tk g2 (by omega) (by omega)).trans k1, (fw_tk g3 (by omega) (by omega)).trans k2, ?_, ?_⟩
    · rw [show p + 16 = p + 8 + 8 from by omega]
      exact (fw_tk f4 (by omega) (by omega)).trans k3
    · rw [show p + 32 = p + 8 + 8 + 16 from by omega, ← xR_cg (F3.1 (t + 1) (by omega))]
      exact k4
  unfold yf154
  rw [if_pos o0, if_pos (by decide), h9, e1, xB_ret, show xR m1 t 10 = L from by rw [xR_cg (f1.1 t (by omega))]; exact h10, e2, xB_ret, show xR m2 t 11 = n from by rw [xR_cg (F2.1 t (by omega))]; exact h11, e3, xB_ret, r0, show xR m3 t 9 = sz from by rw [xR_cg (F3.1 t (by omega))]; exact h9, e4, xB_ret]
  generalize hN : (1000000 : Nat) = N
  have goal := xH_ex (Q := fun v m' => v = 0 ∧ tst B m' (p + 32 + 8 * sz + 8 * V L.toNat) ∧ fw m4 m' (p + 32 + 8 * sz) ∧ (ws B m' (p + 32 + 8 * sz + 8 * V L.toNat) → ws B m4 (p + 32 + 8 * sz) ∧ ∀ l : Nat, (l : Int) < L → tk (m' 517) (p + 32 + 8 * sz + 8 * V l) 8 = msk (xR m (t + 7) l) 8 ∧ Byt (m' 517) (p + 40 + 8 * sz + 8 * V l) (xR m (t + 7) l) (xR m (t + 3 + l)) ∧ Vls (m' 517) (p + 40 + 8 * sz + 8 * V l + 8 * xR m (t + 7) l) n (xR m (t + 9 + l)))) (xl3_rule (F := yl154_47 B) (fun y0 y1 x m' => (y0 = t ∧ y1 = 518) ∧ 0 ≤ x ∧ x ≤ L ∧ 0 ≤ V x.toNat ∧ tst B m' (p + 32 + 8 * sz + 8 * V x.toNat) ∧ fw m4 m' (p + 32 + 8 * sz) ∧ (ws B m' (p + 32 + 8 * sz + 8 * V x.toNat) → ws B m4 (p + 32 + 8 * sz) ∧ ∀ l : Nat, (l : Int) < x → (0 ≤ V l ∧ V l + (1 + xR m (t + 7) l + 4 * n) ≤ V x.toNat) ∧ tk (m' 517) (p + 32 + 8 * sz + 8 * V l) 8 = msk (xR m (t + 7) l) 8 ∧ Byt (m' 517) (p + 40 + 8 * sz + 8 * V l) (xR m (t + 7) l) (xR m (t + 3 + l)) ∧ Vls (m' 517) (p + 40 + 8 * sz + 8 * V l + 8 * xR m (t + 7) l) n (xR m (t + 9 + l)))) (fun _ _ x _ => (L - x).toNat) ?_ N t 518 0 m4 ⟨⟨rfl, rfl⟩, by omega, hL.1, by rw [show (0 : Int).toNat = 0 from rfl, hV0]; decide, by rw [show (0 : Int).toNat = 0 from rfl, hV0, show p + 32 + 8 * sz + 8 * 0 = p + 32 + 8 * sz from by omega]; exact t4, fw_refl _ _, fun hw => ⟨by rw [show (0 : Int).toNat = 0 from rfl, hV0, show p + 32 + 8 * sz + 8 * 0 = p + 32 + 8 * sz from by omega] at hw; exact hw, fun l hl' => absurd hl' (by omega)⟩⟩ (by omega))
  · obtain ⟨v, m', e, rfl, tt, ff, vv⟩ := goal
    refine ⟨m', e, tt, fw_trans F4 ff (by omega), fun hw => ?_⟩
    obtain ⟨w4, kl⟩ := vv hw
    obtain ⟨w0, k1, k2, k3, k4⟩ := head w4
    exact ⟨w0, (fw_tk ff (by omega) (by omega)).trans k1, (fw_tk ff (by omega) (by omega)).trans k2, (fw_tk ff (by omega) (by omega)).trans k3, Byt_fw k4 ff (by omega) (by omega), by rw [← hV]; exact kl⟩
  · intro r y0 y1 x mx ⟨⟨b1, b2⟩, x0, x1, Vx, T, F, P⟩ ih
    subst b1 b2
    have Fm : ∀ a, a < 302 → mx a = m a := fun a ha => (F.1 a (by omega)).trans (F4.1 a (by omega))
    unfold yl154_47
    rw [if_pos o0, show xR mx y0 10 = L from by rw [xR_cg (Fm y0 (by omega))]; exact h10]
    by_cases hx : x < L
    · obtain ⟨l0, l1⟩ := hl x x0 hx
      obtain ⟨⟨kd8, rf8, ob9, le9⟩, _, _, kd2, rf2, ob3, le3⟩ := dm_l B d0 d1 x0 (show x < 4 by omega)
      rw [← ht] at kd8 rf8 ob9 le9 kd2 rf2 ob3 le3
      have hst := hstep x.toNat
      rw [Int.toNat_of_nonneg x0] at hst
      have ex7 : xR mx (y0 + 7) x = xR m (y0 + 7) x := by rw [xR_cg (Fm (y0 + 7) (by omega))]
      obtain ⟨S, hS⟩ : ∃ S, S = xR m (y0 + 7) x := ⟨_, rfl⟩
      rw [← hS] at l0 l1 hst ex7
      obtain ⟨ma, ea, ta, fa, va⟩ := put_tst hB (v := S) (n := 8) T (by decide) (by decide)
      obtain ⟨mb, eb, tb', fb, vb⟩ := wr_bytes hB (a := y0 + 3 + x) (sz := S) ob3 (by rw [le3]; exact l1) l0 l1 (by omega) ta
      have Fab := fw_trans fa fb (by omega)
      rw [if_pos hx, r2, le7, if_pos ⟨x0, by omega⟩, if_pos ob7, if_pos (by decide), ex7, ea, xB_ret, r1, le2, if_pos ⟨x0, by omega⟩, if_pos kd2, if_pos ob2, rf2, show xR ma (y0 + 7) x = S from by rw [xR_cg (fa.1 (y0 + 7) (by omega))]; exact ex7, eb, xB_ret]
      generalize hM : (1000000 : Nat) = N'
      obtain ⟨Q0, hQ0⟩ : ∃ Q0, Q0 = p + 32 + 8 * sz + 8 * V x.toNat + 8 + 8 * S := ⟨_, rfl⟩
      rw [← hQ0] at tb' vb
      refine xl4_rule (F := yl154_86 B r) (fun z0 z1 z2 i m' => (z0 = y0 ∧ z1 = 518 ∧ z2 = x) ∧ 0 ≤ i ∧ i ≤ n ∧ tst B m' (Q0 + 32 * i) ∧ fw mb m' Q0 ∧ (ws B m' (Q0 + 32 * i) → ws B mb Q0 ∧ Vls (m' 517) Q0 i (xR m (y0 + 9 + x)))) (fun _ _ _ i _ => (n - i).toNat) ?_ N' y0 518 x 0 mb ⟨⟨rfl, rfl, rfl⟩, by omega, hn.1, by rw [show Q0 + 32 * 0 = Q0 from by omega]; exact tb', fw_refl _ _, fun hw => ⟨by rw [show Q0 + 32 * 0 = Q0 from by omega] at hw; exact hw, fun i i0 i1 => absurd i1 (Int.not_lt.mpr i0)⟩⟩ (by omega)
      intro r' z0 z1 z2 i mi ⟨⟨c1, c2, c3⟩, i0, i1, Ti, Fi, Pi⟩ ih'
      subst c1 c2 c3
      have Fmi : ∀ a, a < 302 → mi a = m a := fun a ha => (Fi.1 a (by omega)).trans ((Fab.1 a (by omega)).trans (Fm a ha))
      unfold yl154_86
      rw [if_pos o0, show xR mi z0 11 = n from by rw [xR_cg (Fmi z0 (by omega))]; exact h11]
      by_cases hi : i < n
      · obtain ⟨mj, ej, tj, fj, vj⟩ := put_tst hB (v := xR m (z0 + 9 + z2) i) (n := 32) Ti (by decide) (by decide)
        rw [if_pos hi, r3, le8, if_pos ⟨x0, by omega⟩, if_pos kd8, if_pos ob8, rf8, le9, if_pos ⟨i0, by omega⟩, if_pos ob9, if_pos (by decide), show xR mi (z0 + 9 + z2) i = xR m (z0 + 9 + z2) i from by rw [xR_cg (Fmi (z0 + 9 + z2) (by omega))], ej, xB_ret, w32_id (by omega) (by omega)]
        have eq : Q0 + 32 * (i + 1) = Q0 + 32 * i + 32 := by omega
        refine ih' _ _ _ _ _ ⟨⟨rfl, rfl, rfl⟩, by omega, by omega, by rw [eq]; exact tj, fw_trans Fi fj (by omega), fun hw => ?_⟩ (by omega)
        rw [eq] at hw
        obtain ⟨wj, kj⟩ := vj hw
        obtain ⟨wi, ki⟩ := Pi wj
        refine ⟨wi, fun k k0 k1 => ?_⟩
        by_cases ek : k = i
        · rw [ek]
          exact kj
        · exact (fw_tk fj (by omega) (by omega)).trans (ki k k0 (by omega))
      · have ei : i = n := by omega
        subst ei
        rw [if_neg hi, w32_id (by omega) (by omega)]
        have eq : p + 32 + 8 * sz + 8 * V (z2 + 1).toNat = Q0 + 32 * i := by
          rw [show (z2 + 1).toNat = z2.toNat + 1 from by omega, hst]
          omega
        refine ih _ _ _ _ ⟨⟨rfl, rfl⟩, by omega, by omega, ?_, by rw [eq]; exact Ti, fw_trans F (fw_trans Fab Fi (by omega)) (by omega), fun hw => ?_⟩ (by omega)
        · rw [show (z2 + 1).toNat = z2.toNat + 1 from by omega, hst]
          omega
        · rw [eq] at hw
          obtain ⟨wb, kv'⟩ := Pi hw
          obtain ⟨wa, kb⟩ := vb wb
          obtain ⟨wx, ka⟩ := va wa
          obtain ⟨w4, kl⟩ := P wx
          refine ⟨w4, fun l hl' => ?_⟩
          have FF := fw_trans Fab Fi (by omega)
          by_cases el : l = z2.toNat
          · have el' : (l : Int) = z2 := by omega
            rw [el', el, ← hS]
            refine ⟨⟨Vx, by rw [show (z2 + 1).toNat = z2.toNat + 1 from by omega, hst]; omega⟩, (fw_tk (fw_trans fb Fi (by omega)) (by omega) (by omega)).trans ka, ?_, ?_⟩
            · rw [show p + 40 + 8 * sz + 8 * V z2.toNat = p + 32 + 8 * sz + 8 * V z2.toNat + 8 from by omega, ← xR_cg ((fa.1 (z0 + 3 + z2) (by omega)).trans (Fm (z0 + 3 + z2) (by omega)))]
              exact Byt_fw kb Fi (by omega) (by omega)
            · rw [show p + 40 + 8 * sz + 8 * V z2.toNat + 8 * S = Q0 from by omega]
              exact kv'
          · obtain ⟨⟨q1, q2⟩, k1, k2, k3⟩ := kl l (by omega)
            have hl0 := hl l (by omega) (by omega)
            refine ⟨⟨q1, by rw [show (z2 + 1).toNat = z2.toNat + 1 from by omega, hst]; omega⟩, (fw_tk FF (by omega) (by omega)).trans k1, Byt_fw k2 FF (by omega) (by omega), Vls_fw k3 FF (by omega) (by omega)⟩
    · have e : x = L := by omega
      subst e
      rw [if_neg hx, xH_ret]
      exact ⟨rfl, T, F, fun hw => ⟨(P hw).1, fun l hl' => ((P hw).2 l hl').2⟩⟩
end WDIM
