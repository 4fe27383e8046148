/-! THE ANSWER, by the class: answerQuestion, whole: what lies there then, by the facts -/
theorem btb_in {fit : Int → Prop} {rz : Int → Int} {F : Int} : ∀ n : Nat, (btb fit rz F n).1 = -1 ∨ ((0 ≤ (btb fit rz F n).1 ∧ (btb fit rz F n).1 < n) ∧ fit (btb fit rz F n).1)
  | 0 => Or.inl rfl
  | n + 1 => by
    by_cases h : rz n < (btb fit rz F n).2 ∧ fit n
    · rw [btb_t h.1 h.2]
      exact Or.inr ⟨⟨by show (0 : Int) ≤ n; omega, by show (n : Int) < ((n + 1 : Nat) : Int); omega⟩, h.2⟩
    · rw [btb_f h]
      rcases btb_in (fit := fit) (rz := rz) (F := F) n with q | ⟨q1, q2⟩
      · exact Or.inl q
      · exact Or.inr ⟨⟨q1.1, by omega⟩, q2⟩
theorem ffi_1 {S k K : Int} {mk ls : Int → Int} {hl : Nat → Bool} {rk : Nat → Int → Int} {cf mo : Nat → Int} {κ : Int → Int} (hK : K < 210) : ∀ J, ffi S k mk ls K hl rk cf mo κ J = 0
  | 0 => rfl
  | J + 1 => by
    unfold ffi aup
    rw [if_pos hK, ffi_1 hK J]
    split <;> rfl
/-- the facts of a key -/
noncomputable def kfs (c : xw_M) (k S : Int) (κ : Int → Int) : List Int := (lst (fun x => x) (xR c 536 31).toNat).filter (okf S k (xR c 228) (lsf c) (fH c) (fRF c) κ)
/-- an item of a row: its value v, whether it is blank -/
def ITM (c : xw_M) (i : Int) (κ : Int → Int) (L : List Int) (v : Int) (b : Bool) : Prop := (xR c 224 i = 1 → (κ (xR c 225 i) = lsf c (xR c 225 i) → v = 0 ∧ b = true) ∧ (κ (xR c 225 i) ≠ lsf c (xR c 225 i) → v = xR c (15 + 26 * (xR c 227 (xR c 225 i) / 4) + 9 + xR c 227 (xR c 225 i) % 4) (xR c (15 + 26 * (xR c 227 (xR c 225 i) / 4) + 19 + xR c 227 (xR c 225 i) % 4) (κ (xR c 225 i))) ∧ b = false)) ∧ (xR c 224 i = 209 → v = (if κ (xR c 225 i) = lsf c (xR c 225 i) then 1 else 0) ∧ b = false) ∧ (210 ≤ xR c 224 i → xR c 224 i ≤ 213 → Agg (xR c 224 i) (fA c i) L v ∧ (L = [] → v = 0) ∧ (b = true ↔ (xR c 224 i = 212 ∨ xR c 224 i = 213) ∧ L = []))
def KVc (c : xw_M) (k S : Int) (κ : Int → Int) : Prop := KVf (xR c 536 31) S k (xR c 228) (lsf c) (fH c) (fRF c) κ
/-- the answer of the class lies there -/
def CAN (m c : xw_M) (t k it S n : Int) : Prop := xR m (t + 1) 5 = n ∧ (0 ≤ n ∧ n ≤ 4000) ∧ (∀ i j, 0 ≤ i → i < n → 0 ≤ j → j < n → (∀ g, 0 ≤ g → g < k → xR m (t + 4 + g) i = xR m (t + 4 + g) j) → i = j) ∧ (∀ r, 0 ≤ r → r < n → KVc c k S (fun g => xR m (t + 4 + g) r)) ∧ (∀ κ, KVc c k S κ → ∃ r, (0 ≤ r ∧ r < n) ∧ ∀ g, 0 ≤ g → g < k → xR m (t + 4 + g) r = κ g) ∧ srt (fun g i => xR m (t + 4 + g) i) k.toNat (xR m (t + 37)) n ∧ ∀ r i, 0 ≤ r → r < n → 0 ≤ i → i < it → ∃ b : Bool, (xw_iandf (xw_ishrf (xR m (t + 40) r) i) 1 = 0 ↔ b = false) ∧ ITM c i (fun g => xR m (t + 4 + g) r) (kfs c k S (fun g => xR m (t + 4 + g) r)) (xJ m (t + 13 + i) r) b
/-- too many keys -/
def MNY (c : xw_M) (k S : Int) : Prop := ∃ κ : Int → Int → Int, (∀ r, 0 ≤ r → r ≤ 4000 → KVc c k S (κ r)) ∧ ∀ r r', 0 ≤ r → r ≤ 4000 → 0 ≤ r' → r' ≤ 4000 → (∀ g, 0 ≤ g → g < k → κ r g = κ r' g) → r = r'
/-- the frame of a question answered -/
def fQa (t : Int) (c m : xw_M) : Prop := (∀ a, a ≠ 0 → ¬ (t ≤ a ∧ a ≤ t + 43) → a ≠ 302 → ¬ (304 ≤ a ∧ a ≤ 336) → a ≠ 371 → a ≠ 372 → a ≠ 530 → a ≠ 532 → m a = c a) ∧ (∀ k, k ≠ 5 → k ≠ 6 → k ≠ 7 → m 302 k = c 302 k) ∧ (∀ k, k ≠ 2 → m 530 k = c 530 k) ∧ ∀ k, k ≠ 12 → k ≠ 13 → m 0 k = c 0 k
section CLW
variable {B : Nat} {t k it S : Int} {c r : xw_M} {q D M tu nc p tq : Int} {Kx Rf : Int → Int} {Rv : Int → Int → Int}
theorem kv_g (dk : dsk B c D M tu Kx Rf Rv) (rm : ram c D M tu Kx) (G : GC c r q D k) {κ : Int → Int} (V : KVc c k S κ) : ∀ g, 0 ≤ g → g < k → κ g = lsf c g ∨ (0 ≤ κ g ∧ κ g < lsf c g) := fun g g0 g1 => by
  rcases V with ⟨x, x1, x2⟩ | ⟨s, _, _, z⟩
  · unfold okf at x2
    rw [Bool.and_eq_true, mtc2_t] at x2
    obtain ⟨_, s, _, _, e⟩ := x2
    have b := rf_b dk rm G x1.1 x1.2 g g0 g1
    rw [e g g0 g1]
    unfold skey
    split
    · exact Or.inl rfl
    · exact Or.inr b
  · exact Or.inl (z g g0 g1)
theorem over93 {m' : xw_M} {W : List Srow} {J : Nat} (hW : ∀ w, w ∈ W → GRw c k it w) (P : ((W.map Prod.fst).flatten).Perm (lst (fun x => x) (xR c 536 31).toNat)) (J1 : J ≤ W.length) (O : AO m' t k S (xR c 228) (lsf c) (hlR c W) (rkR c W) J) : MNY c k S := by
  obtain ⟨_, o2, o3, κ, o4, o5⟩ := O
  have kv : ∀ κ, KV S k (xR c 228) (lsf c) (hlR c W) (rkR c W) J κ → KVc c k S κ := fun κ h => by
    have h2 := KV_m (J' := (W.map Prod.fst).length) (by rw [List.length_map]; exact J1) h
    exact (KV_f (grp_of hW) P κ).mp h2
  refine ⟨fun r g => if r < 4000 then xR m' (t + 4 + g) r else κ g, fun r r0 r1 => ?_, fun r r' r0 r1 r0' r1' e => ?_⟩
  · by_cases h : r < 4000
    · simp only [if_pos h]; exact kv _ (o3 r r0 h)
    · simp only [if_neg h]; exact kv _ o4
  · by_cases h : r < 4000
    · simp only [if_pos h] at e
      by_cases h' : r' < 4000
      · simp only [if_pos h'] at e
        exact o2.2.2.2 r r' r0 h r0' h' e
      · simp only [if_neg h'] at e
        exact absurd e (o5 r r0 h)
    · simp only [if_neg h] at e
      by_cases h' : r' < 4000
      · simp only [if_pos h'] at e
        exact absurd (fun g g0 g1 => (e g g0 g1).symm) (o5 r' r0' h')
      · omega
theorem done93 {m' : xw_M} {W : List Srow} {n src : Int} (dk : dsk B c D M tu Kx Rf Rv) (rm : ram c D M tu Kx) (A : ASK c D M k it nc p) (F : FX c t k it S (xR c 228) (lsf c) (xR c 224)) (G : GC c r q D k) (I : ∀ j, 0 ≤ j → j < it → rsi c r q M k j) (N2 : xR c 536 31 ≤ 20000) (f : fLo t c m') (hW : ∀ w, w ∈ W → GRw c k it w) (P : ((W.map Prod.fst).flatten).Perm (lst (fun x => x) (xR c 536 31).toNat)) (h8 : xR m' t 8 = 0) (s : AS m' t k it n S (xR c 228) (lsf c) (xR c 224) (hlR c W) (rkR c W) (cfR W) (moR W) W.length) : ∃ m2, yk93_99 B src t m' = some (.inl 0, m2) ∧ fQa t c m2 ∧ m2 0 12 = t ∧ m2 0 13 = c 0 12 ∧ m2 t 9 = src ∧ m2 t 7 = 1 ∧ m2 t 6 = c t 6 ∧ m2 530 = m' 530 ∧ CAN m2 c t k it S n := by
  have tt := F.1
  have AF := fun _ : Unit => (an_f B tt).1
  obtain ⟨s1, s2, s3, s4⟩ := s
  have F' := FX_lo F f
  have lo : ∀ a, a < 302 → m' a = c a := fun a ha => f.1 a (by omega) (by omega) (by omega) (by omega) (by omega) (by omega) (by omega)
  have k8 := G.2.2.1
  have gl : (W.map Prod.fst).length = W.length := List.length_map _
  have gr := grp_of hW
  have kv : ∀ κ, KV S k (xR c 228) (lsf c) (hlR c W) (rkR c W) W.length κ ↔ KVc c k S κ := fun κ => by
    rw [← gl]; exact KV_f gr P κ
  have ls43 : ∀ g, 0 ≤ g → g < k → xR m' (t + 43) g = lsf c g := F'.2.2.2.2.2.1
  have lsb := ls_b rm G
  have key : ∀ r g, 0 ≤ r → r < n → 0 ≤ g → g < k → xR m' (t + 4 + g) r = lsf c g ∨ (0 ≤ xR m' (t + 4 + g) r ∧ xR m' (t + 4 + g) r < lsf c g) := fun r g r0 r1 g0 g1 => kv_g dk rm G ((kv _).mp (s3 r r0 r1)) g g0 g1
  have x224 := xR_cg (lo 224 (by omega))
  have x225 := xR_cg (lo 225 (by omega))
  have x227 := xR_cg (lo 227 (by omega))
  have FK : ∀ r i, 0 ≤ r → r < n → 0 ≤ i → i < it → FOK m' t r i := fun r i r0 r1 i0 i1 => by
    obtain ⟨a1, a2, a3, a4, a5, a6⟩ := I i i0 i1
    unfold FOK
    rw [x224, x225, x227]
    refine ⟨a1, fun h => ?_⟩
    obtain ⟨b1, b2, b3⟩ := a4 h
    obtain ⟨_, d, l, d1, d2, d3, d4, d5⟩ := G.2.2.2.1 (xR c 225 i) b1 b2
    have D8 := rm.cg.cn.1
    have L4 := (rm.cg.cn.2.2.2.2.1 d d2 d3).2.1.2
    have n1 := (rm.cg.cn.2.2.2.2.1 d d2 d3).2.2.1
    refine ⟨⟨b1, by omega⟩, d, l, d1, ⟨d2, by omega⟩, ⟨d4, by omega⟩, fun ne => ?_⟩
    rw [ls43 _ b1 b2] at ne
    have z := key r _ r0 r1 b1 b2
    have lb := lsb _ b1 b2
    have z2 : 0 ≤ xR m' (t + 4 + xR c 225 i) r ∧ xR m' (t + 4 + xR c 225 i) r < lsf c (xR c 225 i) := by omega
    obtain ⟨K, e, b, R⟩ := rm.ar d d2 d3 l d4 d5
    have el : lsf c (xR c 225 i) = K := by
      unfold lsf
      rw [d1, show (4 * d + l) / 4 = d by omega, show (4 * d + l) % 4 = l by omega, e]
    rw [xR_cg (lo (15 + 26 * d + 19 + l) (by omega))]
    have bb := b _ z2.1 (by omega)
    exact ⟨by omega, by omega⟩
  obtain ⟨m1, e1, f1, so, p9, p7, fd⟩ := finish_ok (B := B) (p := src) tt F'.2.2.1.1 F'.2.2.1.2.1 F'.2.2.1.2.2 s1.1 s1.2.1.1 s1.2.1.2 FK F'.2.1.1 k8.1 k8.2 (fun g g0 g1 => by rw [ls43 g g0 g1]; exact lsb g g0 g1) (fun g i g0 g1 i0 i1 => by
    rw [ls43 g g0 g1]
    have := key i g i0 i1 g0 g1
    have := lsb g g0 g1
    omega)
  unfold yk93_99 yk93_122
  rw [if_pos (AF ()), if_pos h8, if_pos (AF ()), e1, xB_ret]
  have hi0 : ∀ a, a ≠ 0 → xw_u (xw_u m1 0 13 (m1 0 12)) 0 12 t a = m1 a := fun a ha => by rw [xu_c ha, xu_c ha]
  have m10 : m1 0 = c 0 := by rw [f1.1 0 (by omega) (by omega) (by omega) (by omega) (by omega) (by omega), f.1 0 (by omega) (by omega) (by omega) (by omega) (by omega) (by omega) (by omega)]
  have hk : ∀ g, 0 ≤ g → g < k → m1 (t + 4 + g) = m' (t + 4 + g) := fun g g0 g1 => f1.1 _ (by omega) (by omega) (by omega) (by omega) (by omega) (by omega)
  generalize hm2 : xw_u (xw_u m1 0 13 (m1 0 12)) 0 12 t = m2 at hi0 ⊢
  have hk2 : ∀ g, 0 ≤ g → g < k → xR m2 (t + 4 + g) = xR m' (t + 4 + g) := fun g g0 g1 => by rw [xR_cg (hi0 _ (by omega)), xR_cg (hk g g0 g1)]
  have kc : ∀ r, KVc c k S (fun g => xR m2 (t + 4 + g) r) ↔ KVc c k S (fun g => xR m' (t + 4 + g) r) := fun r => by
    rw [← kv, ← kv]
    exact ⟨KV_cg (fun g g0 g1 => by rw [hk2 g g0 g1]), KV_cg (fun g g0 g1 => by rw [hk2 g g0 g1])⟩
  refine ⟨m2, rfl, ⟨fun a a0 a1 a2 a3 a4 a5 a6 a7 => ?_, fun j j1 j2 j3 => ?_, fun j j1 => ?_, fun j j1 j2 => ?_⟩, ?_, ?_, by rw [hi0 t (by omega)]; exact p9, by rw [hi0 t (by omega)]; exact p7, by rw [hi0 t (by omega), f1.2 6 (by omega) (by omega), f.2.2.2 6 (by omega)], by rw [hi0 530 (by omega), f1.1 530 (by omega) (by omega) (by omega) (by omega) (by omega) (by omega)], ?_, s1.2.1, fun i j i0 i1 j0 j1 e => ?_, fun r r0 r1 => (kc r).mpr ((kv _).mp (s3 r r0 r1)), fun κ V => ?_, ?_, fun r i r0 r1 i0 i1 => ?_⟩
  · rw [hi0 a a0, f1.1 a (by omega) (by omega) (by omega) (by omega) (by omega) (by omega), f.1 a (by omega) a2 a3 a4 a5 a6 a7]
  · rw [hi0 302 (by omega), f1.1 302 (by omega) (by omega) (by omega) (by omega) (by omega) (by omega), f.2.1 j j1 j2 j3]
  · rw [hi0 530 (by omega), f1.1 530 (by omega) (by omega) (by omega) (by omega) (by omega) (by omega), f.2.2.1 j j1]
  · rw [← hm2, xu_ne (by omega), xu_ne (by omega), m10]
  · rw [← hm2]; unfold xw_u; rw [if_pos ⟨rfl, rfl⟩]
  · rw [← hm2]; unfold xw_u; rw [if_neg (by decide), if_pos ⟨rfl, rfl⟩, m10]
  · rw [xR_cg (hi0 (t + 1) (by omega)), xR_cg (f1.1 (t + 1) (by omega) (by omega) (by omega) (by omega) (by omega) (by omega))]; exact s1.1
  · exact s1.2.2.2 i j i0 i1 j0 j1 (fun g g0 g1 => by rw [← hk2 g g0 g1]; exact e g g0 g1)
  · obtain ⟨r, r1, r2⟩ := s4 κ ((kv κ).mpr V)
    exact ⟨r, r1, fun g g0 g1 => by rw [hk2 g g0 g1]; exact r2 g g0 g1⟩
  · rw [xR_cg (hi0 (t + 37) (by omega))]
    refine ⟨so.1, fun a b a0 ab b1 => kl_cg (fun e he0 he1 => ?_) (fun z => z) (so.2 a b a0 ab b1)⟩
    rw [hk2 e he0 (by omega)]
    exact ⟨rfl, rfl⟩
  · obtain ⟨v1, v2⟩ := fd r r0 r1
    have kf : kfs c k S (fun g => xR m2 (t + 4 + g) r) = kfs c k S (fun g => xR m' (t + 4 + g) r) := by
      unfold kfs
      congr 1
      funext x
      unfold okf
      rw [mtc2_cg (κ := fun g => xR m' (t + 4 + g) r) (fun g g0 g1 => by rw [hk2 g g0 g1])]
    have fo := fold_ok (S := S) (mk := xR c 228) (ls := lsf c) gr (by rw [P.length_eq, lst_len]; omega) (fun g => xR m' (t + 4 + g) r) W.length (by rw [gl]; exact Nat.le_refl _)
    rw [show (W.map Prod.fst).take W.length = W.map Prod.fst from by rw [← gl, List.take_length]] at fo
    have pm : (((W.map Prod.fst).flatten).filter (okf S k (xR c 228) (lsf c) (fH c) (fRF c) (fun g => xR m' (t + 4 + g) r))).Perm (kfs c k S (fun g => xR m' (t + 4 + g) r)) := P.filter _
    obtain ⟨fo1, fo2, fo3⟩ := fo
    rw [pm.length_eq] at fo1
    have nil : kfs c k S (fun g => xR m' (t + 4 + g) r) = [] → ((W.map Prod.fst).flatten).filter (okf S k (xR c 228) (lsf c) (fH c) (fRF c) (fun g => xR m' (t + 4 + g) r)) = [] := fun z => by rw [z] at pm; exact pm.eq_nil
    obtain ⟨t1, t2⟩ := s2 r r0 r1
    refine ⟨fbl m' t r i, ?_, ?_⟩
    · rw [xR_cg (hi0 (t + 40) (by omega)), v2]
      exact bks_bit F'.2.2.1.2.2 i0 i1
    · have hv : xJ m2 (t + 13 + i) r = fvl m' t r i := by
        rw [← v1 i i0 i1]; unfold xJ; rw [hi0 _ (by omega)]
      rw [hv, kf]
      generalize hκ : (fun g => xR m2 (t + 4 + g) r) = κ
      have kx : ∀ g, 0 ≤ g → g < k → κ g = xR m' (t + 4 + g) r := fun g g0 g1 => by rw [← hκ]; exact congrFun (hk2 g g0 g1) r
      have a1 := (I i i0 i1).1
      have a4 := (I i i0 i1).2.2.2.1
      unfold fvl fbl
      rw [x224, x225, x227, t1, t2 i i0 i1]
      refine ⟨fun k1 => ?_, fun k2 => ?_, fun k3 k4 => ?_⟩
      · obtain ⟨b1, b2, b3⟩ := a4 (Or.inl k1)
        obtain ⟨_, d, l, d1, d2, d3, d4, d5⟩ := G.2.2.2.1 (xR c 225 i) b1 b2
        have D8 := rm.cg.cn.1
        have L4 := (rm.cg.cn.2.2.2.2.1 d d2 d3).2.1.2
        rw [k1, kx _ b1 b2, ls43 _ b1 b2, if_neg (by decide), d1, show (4 * d + l) / 4 = d by omega, show (4 * d + l) % 4 = l by omega, xR_cg (lo (15 + 26 * d + 9 + l) (by omega)), xR_cg (lo (15 + 26 * d + 19 + l) (by omega))]
        refine ⟨fun e => ?_, fun e => ?_⟩
        · rw [if_neg (fun z => z.2 e)]
          exact ⟨ffi_1 (by decide) _, decide_eq_true (Or.inl ⟨rfl, e⟩)⟩
        · rw [if_pos ⟨rfl, e⟩]
          exact ⟨rfl, decide_eq_false (fun z => by
            rcases z with z | z
            · exact e z.2
            · omega)⟩
      · obtain ⟨b1, b2, b3⟩ := a4 (Or.inr k2)
        rw [k2, kx _ b1 b2, ls43 _ b1 b2, if_pos rfl]
        exact ⟨rfl, decide_eq_false (by omega)⟩
      · rw [if_neg (by omega), if_neg (by omega)]
        refine ⟨Agg_perm pm (fo2 i i0 i1 ⟨k3, k4⟩), fun z => fo3 (nil z) _ _, ?_⟩
        rw [decide_eq_true_iff, fo1]
        constructor
        · rintro (z | z)
          · omega
          · exact ⟨z.1, List.eq_nil_of_length_eq_zero (by omega)⟩
        · rintro ⟨z1, z2⟩
          refine Or.inr ⟨z1, ?_⟩
          rw [z2]; rfl
end CLW
