/-! THE START: the memory behind the constructors -/
def m0 (B : Nat) : xw_M := fun a k => if a = 0 then (if k = 12 then 420 else if k = 13 then 464 else 0) else if a = 1 then (if k = 7 then -1 else 0) else if a = 508 then (if k = 0 then (B : Int) else if k = 18 then -1 else 0) else if a = 518 then (if k = 1 then 64 * (B * 512 : Nat) else 0) else if a = 524 then (if k = 1 then 32768 else 0) else if a = 530 then (if k = 1 then 64 * (B * 512 : Nat) else 0) else if a = 536 then (if k = 7 then -1 else if k = 22 then 544 else if k = 23 then 558 else if k = 49 then (B : Int) else if k = 51 then -1 else if k = 59 then 590 else if k = 60 then 591 else if k = 73 then 601 else if k = 74 then 602 else 0) else 0
section STA
variable {B : Nat}
theorem m0_z {a : Int} (h : a ≠ 0 ∧ a ≠ 1 ∧ a ≠ 508 ∧ a ≠ 518 ∧ a ≠ 524 ∧ a ≠ 530 ∧ a ≠ 536) : m0 B a = fun _ => 0 := by
  funext k
  unfold m0
  rw [if_neg h.1, if_neg h.2.1, if_neg h.2.2.1, if_neg h.2.2.2.1, if_neg h.2.2.2.2.1, if_neg h.2.2.2.2.2.1, if_neg h.2.2.2.2.2.2]
theorem xR_0 {a k : Int} (h : m0 B a k = 0) : xR (m0 B) a k = 0 := by unfold xR; rw [h]; rfl
theorem bW_0 (q : Int) : bW (fun _ => 0) q = false := by
  unfold bW bt
  rw [show BitVec.ofInt 64 0 = 0#64 from rfl, BitVec.getLsbD_zero]
theorem tk_00 (p : Int) (n : Nat) : tk (fun _ => 0) p n = 0 := tk_eq rfl (fun i _ _ => by
    rw [bW_0]; unfold bt; rw [show BitVec.ofInt 64 0 = 0#64 from rfl, BitVec.getLsbD_zero]) (fun i _ _ => by
    unfold bt; rw [show BitVec.ofInt 64 0 = 0#64 from rfl, BitVec.getLsbD_zero])
theorem start_Inw (b0 : 16 ≤ B) (b1 : B ≤ 512) : Inw B 0 (m0 B) ∧ ans (m0 B) := by
  have f : ∀ k, k ≠ 7 → k ≠ 22 → k ≠ 23 → k ≠ 49 → k ≠ 51 → k ≠ 59 → k ≠ 60 → k ≠ 73 → k ≠ 74 → xR (m0 B) 536 k = 0 := fun k k1 k2 k3 k4 k5 k6 k7 k8 k9 => xR_0 (by
    show (if k = 7 then (-1 : Int) else if k = 22 then 544 else if k = 23 then 558 else if k = 49 then (B : Int) else if k = 51 then -1 else if k = 59 then 590 else if k = 60 then 591 else if k = 73 then 601 else if k = 74 then 602 else 0) = 0
    rw [if_neg k1, if_neg k2, if_neg k3, if_neg k4, if_neg k5, if_neg k6, if_neg k7, if_neg k8, if_neg k9])
  have d : ∀ k, k ≠ 0 → k ≠ 18 → xR (m0 B) 508 k = 0 := fun k k1 k2 => xR_0 (by
    show (if k = 0 then (B : Int) else if k = 18 then -1 else 0) = 0
    rw [if_neg k1, if_neg k2])
  have f2 : xR (m0 B) 536 2 = 0 := f 2 (by decide) (by decide) (by decide) (by decide) (by decide) (by decide) (by decide) (by decide) (by decide)
  have f3 : xR (m0 B) 536 3 = 0 := f 3 (by decide) (by decide) (by decide) (by decide) (by decide) (by decide) (by decide) (by decide) (by decide)
  have g : ∀ k, k = 5 ∨ k = 6 ∨ k = 14 ∨ k = 19 ∨ k = 24 ∨ k = 31 ∨ k = 32 ∨ k = 33 ∨ k = 38 ∨ k = 39 ∨ k = 40 ∨ k = 50 ∨ k = 52 → xR (m0 B) 536 k = 0 := fun k hk => f k (by omega) (by omega) (by omega) (by omega) (by omega) (by omega) (by omega) (by omega) (by omega)
  have z : ∀ a k, a ≠ 0 ∧ a ≠ 1 ∧ a ≠ 508 ∧ a ≠ 518 ∧ a ≠ 524 ∧ a ≠ 530 ∧ a ≠ 536 → xR (m0 B) a k = 0 := fun a k h => xR_0 (by rw [m0_z h])
  have wB : w32 (B : Int) = B := w32_id (by omega) (by omega)
  have wL : w32 (64 * (B * 512 : Nat)) = 64 * (B * 512 : Nat) := w32_id (by omega) (by omega)
  have e11 : xR (m0 B) 1 1 = 0 := rfl
  have s51 : xR (m0 B) 536 51 = -1 := rfl
  have s18 : xR (m0 B) 508 18 = -1 := rfl
  refine ⟨⟨⟨b0, b1⟩, ⟨by decide, by decide⟩, ⟨⟨590, 591, Or.inl ⟨rfl, rfl⟩, rfl, rfl⟩, Or.inl ⟨rfl, rfl⟩, Or.inl ⟨rfl, rfl⟩, Or.inl ⟨rfl, rfl⟩⟩, ⟨wB, wB, ⟨wL, 0, rfl, by decide, by omega, fun q _ _ => ?_⟩, ⟨rfl, 0, rfl, by decide, by decide, fun q _ _ => ?_⟩, 0, wL, rfl, by decide⟩, ⟨Or.inl f2, Or.inl f3, by rw [f3, if_neg (by decide), f2]; rfl⟩, ⟨⟨by rw [g 5 (by omega)]; rfl, by rw [e11]; decide, by rw [e11]; decide⟩, fun i i0 i1 => ?_, fun i => by rw [z 2 i (by decide)]; rfl, by rw [g 6 (by omega)]; rfl, rfl⟩, ?_, ?_, fun _ => ?_, fun h => ?_⟩, ans_N ⟨rfl, g 24 (by omega)⟩⟩
  · rw [m0_z (by decide)]; exact bW_0 q
  · rw [m0_z (by decide)]; exact bW_0 q
  · have e : xR (m0 B) 1 1 = 0 := rfl
    rw [e] at i1; omega
  · unfold cnr
    rw [f3, s51, s18, g 33 (by omega), g 39 (by omega), g 50 (by omega), g 32 (by omega), g 31 (by omega), g 38 (by omega), d 19 (by decide) (by decide), z 373 5 (by decide), show xR (m0 B) 0 15 = 0 from rfl, show xR (m0 B) 0 16 = 0 from rfl]
    exact ⟨⟨rfl, by decide, by decide⟩, ⟨rfl, by decide, by decide⟩, ⟨rfl, by decide, by decide⟩, ⟨rfl, by decide, by decide⟩, ⟨by decide, by decide⟩, ⟨by decide, by decide⟩, fun _ => ⟨rfl, Or.inl rfl⟩, fun h => absurd h (by decide)⟩
  · refine ⟨fun _ k _ _ => ⟨z 577 k (by decide), ?_⟩, fun h => ?_⟩
    · unfold xJ
      rw [m0_z (by decide)]; rfl
    · rw [f2] at h; exact absurd h (by decide)
  · refine ⟨by rw [m0_z (by decide)]; exact tk_00 _ _, by rw [m0_z (by decide)]; exact tk_00 _ _, ⟨g 31 (by omega), g 38 (by omega), g 40 (by omega), g 52 (by omega), g 32 (by omega)⟩, ⟨d 8 (by decide) (by decide), d 9 (by decide) (by decide), d 10 (by decide) (by decide), d 11 (by decide) (by decide), d 14 (by decide) (by decide)⟩, fun h3 => ?_, fun _ => ⟨0, 0, ⟨⟨⟨by omega, by omega⟩, ⟨by omega, by omega⟩, z 3 1 (by decide), z 3 2 (by decide), fun d d0 d1 => by omega, fun d d0 d1 => by omega⟩, ⟨fun d d0 d1 => by omega, fun d i d0 d1 => by omega⟩, g 14 (by omega), g 19 (by omega), fun d d0 d1 => by omega, fun d d0 d1 => by omega⟩, fun d d0 d1 => by omega, fun d d0 d1 => by omega, fun d d0 d1 => by omega⟩⟩
    rw [f3] at h3; exact absurd h3 (by decide)
  · rw [f2] at h; exact absurd h (by decide)
/-- all of the law, once the constructors have run -/
theorem law_ok {xs : Nat → Int32} {SL : Nat} (b0 : 16 ≤ B) (b1 : B ≤ 512) (S1 : SL ≤ 3073) : ∃ m2, xl1 (yl349_33 B xs SL) 1000000 1 (m0 B) = some (.inl 1, m2) := by
  obtain ⟨NN, hNN⟩ : ∃ NN : Nat, NN = 1000000 := ⟨_, rfl⟩
  rw [← hNN]
  obtain ⟨i, a⟩ := start_Inw b0 b1
  by_cases h : (SL : Int) + 6 < 1
  · omega
  · exact law_l (by omega) (by omega) NN 0 1 (m0 B) (by decide) (by decide) (by omega) (by omega) i a
end STA
