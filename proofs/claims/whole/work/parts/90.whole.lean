/-! THE WHOLE: the start of the law (by mkwhole.py), and the end of the skeleton -/
theorem gz_0 : Cond.instantiable RX11 14 ∈ GW := gw_t1 21 rfl rfl
theorem gz_1 : Cond.instantiable RX12 30 ∈ GW := gw_t4 141 rfl rfl
theorem gz_2 : Cond.classLink RL 8 RX11 ∈ GW := gw_t1 20 rfl rfl
theorem gz_3 : Cond.classLink RL 20 RX12 ∈ GW := gw_t4 147 rfl rfl
theorem gz_4 : Cond.methodLink RL 19 yX11_init ∈ GW := gw_t1 22 rfl rfl
theorem gz_5 : Cond.methodLink RL 22 yX12_init ∈ GW := gw_t4 148 rfl rfl
/-- the memory behind the two constructors -/
def mem0 : GM := (fun j i => if j = 0 ∧ (i = 11 ∨ i = 12 ∨ i = 13) then 1 else 0, fun _ _ => 0)
def tl0 (X : GX) (a : Nat) : List va_E := body_X11 X a ++ (body_X12 X (a + 60) ++ [.inl (X.2.2.2.1, 1, .inr (.inl (fun _ => 0)))])
theorem places_at {X : GX} {H : Heap} {q : Nat} {cA : ClassId} {f g : Nat → Option Nat} (hfg : ∀ j, j < 9 → f j = g j) (h : va_at X.1 vwCl (q, .inl (cA, 9, .inr (.inr (.inr (.inr f))))) H) : va_at X.1 vwCl (q, .inl (cA, 9, .inr (.inr (.inr (.inr g))))) H := by
  have h1 : H[q]? = some (vp_cell cA (9, .inr (.inr (.inr (.inr f))))) := h
  show H[q]? = some (vp_cell cA (9, .inr (.inr (.inr (.inr g)))))
  rw [h1, vp_cell_q, vp_cell_q]
  congr 1
  unfold arrV
  congr 2
  funext j
  show va_rf (f j.val) = va_rf (g j.val)
  rw [hfg j.val j.isLt]
theorem tl0_0 (X : GX) {H : Heap} (h : va_P X.1 vwCl (tlw X.2.1 (tl0 X X.2.1)) H) : va_at X.1 vwCl (X.2.1 + 0, gcell X 0 (mem0.1 0) (mem0.2 0)) H := h 0 _ (by rw [tlw_at]; rfl)
theorem tl0_1 (X : GX) {H : Heap} (h : va_P X.1 vwCl (tlw X.2.1 (tl0 X X.2.1)) H) : va_at X.1 vwCl (X.2.1 + 1, gcell X 1 (mem0.1 1) (mem0.2 1)) H := h 1 _ (by rw [tlw_at]; rfl)
theorem tl0_2 (X : GX) {H : Heap} (h : va_P X.1 vwCl (tlw X.2.1 (tl0 X X.2.1)) H) : va_at X.1 vwCl (X.2.1 + 2, gcell X 2 (mem0.1 2) (mem0.2 2)) H := h 2 _ (by rw [tlw_at]; rfl)
theorem tl0_3 (X : GX) {H : Heap} (h : va_P X.1 vwCl (tlw X.2.1 (tl0 X X.2.1)) H) : va_at X.1 vwCl (X.2.1 + 3, gcell X 3 (mem0.1 3) (mem0.2 3)) H := h 3 _ (by rw [tlw_at]; rfl)
theorem tl0_4 (X : GX) {H : Heap} (h : va_P X.1 vwCl (tlw X.2.1 (tl0 X X.2.1)) H) : va_at X.1 vwCl (X.2.1 + 4, gcell X 4 (mem0.1 4) (mem0.2 4)) H := h 4 _ (by rw [tlw_at]; rfl)
theorem tl0_5 (X : GX) {H : Heap} (h : va_P X.1 vwCl (tlw X.2.1 (tl0 X X.2.1)) H) : va_at X.1 vwCl (X.2.1 + 5, gcell X 5 (mem0.1 5) (mem0.2 5)) H := h 5 _ (by rw [tlw_at]; rfl)
theorem tl0_6 (X : GX) {H : Heap} (h : va_P X.1 vwCl (tlw X.2.1 (tl0 X X.2.1)) H) : va_at X.1 vwCl (X.2.1 + 6, gcell X 6 (mem0.1 6) (mem0.2 6)) H := h 6 _ (by rw [tlw_at]; rfl)
theorem tl0_7 (X : GX) {H : Heap} (h : va_P X.1 vwCl (tlw X.2.1 (tl0 X X.2.1)) H) : va_at X.1 vwCl (X.2.1 + 7, gcell X 7 (mem0.1 7) (mem0.2 7)) H := h 7 _ (by rw [tlw_at]; rfl)
theorem tl0_8 (X : GX) {H : Heap} (h : va_P X.1 vwCl (tlw X.2.1 (tl0 X X.2.1)) H) : va_at X.1 vwCl (X.2.1 + 8, gcell X 8 (mem0.1 8) (mem0.2 8)) H := h 8 _ (by rw [tlw_at]; rfl)
theorem tl0_9 (X : GX) {H : Heap} (h : va_P X.1 vwCl (tlw X.2.1 (tl0 X X.2.1)) H) : va_at X.1 vwCl (X.2.1 + 9, gcell X 9 (mem0.1 9) (mem0.2 9)) H := h 9 _ (by rw [tlw_at]; rfl)
theorem tl0_10 (X : GX) {H : Heap} (h : va_P X.1 vwCl (tlw X.2.1 (tl0 X X.2.1)) H) : va_at X.1 vwCl (X.2.1 + 10, gcell X 10 (mem0.1 10) (mem0.2 10)) H := h 10 _ (by rw [tlw_at]; rfl)
theorem tl0_11 (X : GX) {H : Heap} (h : va_P X.1 vwCl (tlw X.2.1 (tl0 X X.2.1)) H) : va_at X.1 vwCl (X.2.1 + 11, gcell X 11 (mem0.1 11) (mem0.2 11)) H := h 11 _ (by rw [tlw_at]; rfl)
theorem tl0_12 (X : GX) {H : Heap} (h : va_P X.1 vwCl (tlw X.2.1 (tl0 X X.2.1)) H) : va_at X.1 vwCl (X.2.1 + 12, gcell X 12 (mem0.1 12) (mem0.2 12)) H := by
  have h1 := h 12 _ (by rw [tlw_at]; rfl)
  refine places_at ?_ h1
  intro j hj
  rcases (show j = 0 ∨ j = 1 ∨ j = 2 ∨ j = 3 ∨ j = 4 ∨ j = 5 ∨ j = 6 ∨ j = 7 ∨ j = 8 by omega) with rfl | rfl | rfl | rfl | rfl | rfl | rfl | rfl | rfl <;> rfl
theorem tl0_13 (X : GX) {H : Heap} (h : va_P X.1 vwCl (tlw X.2.1 (tl0 X X.2.1)) H) : va_at X.1 vwCl (X.2.1 + 13, gcell X 13 (mem0.1 13) (mem0.2 13)) H := h 13 _ (by rw [tlw_at]; rfl)
theorem tl0_14 (X : GX) {H : Heap} (h : va_P X.1 vwCl (tlw X.2.1 (tl0 X X.2.1)) H) : va_at X.1 vwCl (X.2.1 + 14, gcell X 14 (mem0.1 14) (mem0.2 14)) H := h 14 _ (by rw [tlw_at]; rfl)
theorem tl0_15 (X : GX) {H : Heap} (h : va_P X.1 vwCl (tlw X.2.1 (tl0 X X.2.1)) H) : va_at X.1 vwCl (X.2.1 + 15, gcell X 15 (mem0.1 15) (mem0.2 15)) H := h 15 _ (by rw [tlw_at]; rfl)
theorem tl0_16 (X : GX) {H : Heap} (h : va_P X.1 vwCl (tlw X.2.1 (tl0 X X.2.1)) H) : va_at X.1 vwCl (X.2.1 + 16, gcell X 16 (mem0.1 16) (mem0.2 16)) H := h 16 _ (by rw [tlw_at]; rfl)
theorem tl0_17 (X : GX) {H : Heap} (h : va_P X.1 vwCl (tlw X.2.1 (tl0 X X.2.1)) H) : va_at X.1 vwCl (X.2.1 + 17, gcell X 17 (mem0.1 17) (mem0.2 17)) H := h 17 _ (by rw [tlw_at]; rfl)
theorem tl0_18 (X : GX) {H : Heap} (h : va_P X.1 vwCl (tlw X.2.1 (tl0 X X.2.1)) H) : va_at X.1 vwCl (X.2.1 + 18, gcell X 18 (mem0.1 18) (mem0.2 18)) H := h 18 _ (by rw [tlw_at]; rfl)
theorem tl0_19 (X : GX) {H : Heap} (h : va_P X.1 vwCl (tlw X.2.1 (tl0 X X.2.1)) H) : va_at X.1 vwCl (X.2.1 + 19, gcell X 19 (mem0.1 19) (mem0.2 19)) H := h 19 _ (by rw [tlw_at]; rfl)
theorem tl0_20 (X : GX) {H : Heap} (h : va_P X.1 vwCl (tlw X.2.1 (tl0 X X.2.1)) H) : va_at X.1 vwCl (X.2.1 + 20, gcell X 20 (mem0.1 20) (mem0.2 20)) H := h 20 _ (by rw [tlw_at]; rfl)
theorem tl0_21 (X : GX) {H : Heap} (h : va_P X.1 vwCl (tlw X.2.1 (tl0 X X.2.1)) H) : va_at X.1 vwCl (X.2.1 + 21, gcell X 21 (mem0.1 21) (mem0.2 21)) H := h 21 _ (by rw [tlw_at]; rfl)
theorem tl0_22 (X : GX) {H : Heap} (h : va_P X.1 vwCl (tlw X.2.1 (tl0 X X.2.1)) H) : va_at X.1 vwCl (X.2.1 + 22, gcell X 22 (mem0.1 22) (mem0.2 22)) H := h 22 _ (by rw [tlw_at]; rfl)
theorem tl0_23 (X : GX) {H : Heap} (h : va_P X.1 vwCl (tlw X.2.1 (tl0 X X.2.1)) H) : va_at X.1 vwCl (X.2.1 + 23, gcell X 23 (mem0.1 23) (mem0.2 23)) H := h 23 _ (by rw [tlw_at]; rfl)
theorem tl0_24 (X : GX) {H : Heap} (h : va_P X.1 vwCl (tlw X.2.1 (tl0 X X.2.1)) H) : va_at X.1 vwCl (X.2.1 + 24, gcell X 24 (mem0.1 24) (mem0.2 24)) H := h 24 _ (by rw [tlw_at]; rfl)
theorem tl0_25 (X : GX) {H : Heap} (h : va_P X.1 vwCl (tlw X.2.1 (tl0 X X.2.1)) H) : va_at X.1 vwCl (X.2.1 + 25, gcell X 25 (mem0.1 25) (mem0.2 25)) H := h 25 _ (by rw [tlw_at]; rfl)
theorem tl0_26 (X : GX) {H : Heap} (h : va_P X.1 vwCl (tlw X.2.1 (tl0 X X.2.1)) H) : va_at X.1 vwCl (X.2.1 + 26, gcell X 26 (mem0.1 26) (mem0.2 26)) H := h 26 _ (by rw [tlw_at]; rfl)
theorem tl0_27 (X : GX) {H : Heap} (h : va_P X.1 vwCl (tlw X.2.1 (tl0 X X.2.1)) H) : va_at X.1 vwCl (X.2.1 + 27, gcell X 27 (mem0.1 27) (mem0.2 27)) H := h 27 _ (by rw [tlw_at]; rfl)
theorem tl0_28 (X : GX) {H : Heap} (h : va_P X.1 vwCl (tlw X.2.1 (tl0 X X.2.1)) H) : va_at X.1 vwCl (X.2.1 + 28, gcell X 28 (mem0.1 28) (mem0.2 28)) H := h 28 _ (by rw [tlw_at]; rfl)
theorem tl0_29 (X : GX) {H : Heap} (h : va_P X.1 vwCl (tlw X.2.1 (tl0 X X.2.1)) H) : va_at X.1 vwCl (X.2.1 + 29, gcell X 29 (mem0.1 29) (mem0.2 29)) H := h 29 _ (by rw [tlw_at]; rfl)
theorem tl0_30 (X : GX) {H : Heap} (h : va_P X.1 vwCl (tlw X.2.1 (tl0 X X.2.1)) H) : va_at X.1 vwCl (X.2.1 + 30, gcell X 30 (mem0.1 30) (mem0.2 30)) H := h 30 _ (by rw [tlw_at]; rfl)
theorem tl0_31 (X : GX) {H : Heap} (h : va_P X.1 vwCl (tlw X.2.1 (tl0 X X.2.1)) H) : va_at X.1 vwCl (X.2.1 + 31, gcell X 31 (mem0.1 31) (mem0.2 31)) H := h 31 _ (by rw [tlw_at]; rfl)
theorem tl0_32 (X : GX) {H : Heap} (h : va_P X.1 vwCl (tlw X.2.1 (tl0 X X.2.1)) H) : va_at X.1 vwCl (X.2.1 + 32, gcell X 32 (mem0.1 32) (mem0.2 32)) H := h 32 _ (by rw [tlw_at]; rfl)
theorem tl0_33 (X : GX) {H : Heap} (h : va_P X.1 vwCl (tlw X.2.1 (tl0 X X.2.1)) H) : va_at X.1 vwCl (X.2.1 + 33, gcell X 33 (mem0.1 33) (mem0.2 33)) H := h 33 _ (by rw [tlw_at]; rfl)
theorem tl0_34 (X : GX) {H : Heap} (h : va_P X.1 vwCl (tlw X.2.1 (tl0 X X.2.1)) H) : va_at X.1 vwCl (X.2.1 + 34, gcell X 34 (mem0.1 34) (mem0.2 34)) H := h 34 _ (by rw [tlw_at]; rfl)
theorem tl0_35 (X : GX) {H : Heap} (h : va_P X.1 vwCl (tlw X.2.1 (tl0 X X.2.1)) H) : va_at X.1 vwCl (X.2.1 + 35, gcell X 35 (mem0.1 35) (mem0.2 35)) H := h 35 _ (by rw [tlw_at]; rfl)
theorem tl0_36 (X : GX) {H : Heap} (h : va_P X.1 vwCl (tlw X.2.1 (tl0 X X.2.1)) H) : va_at X.1 vwCl (X.2.1 + 36, gcell X 36 (mem0.1 36) (mem0.2 36)) H := h 36 _ (by rw [tlw_at]; rfl)
theorem tl0_37 (X : GX) {H : Heap} (h : va_P X.1 vwCl (tlw X.2.1 (tl0 X X.2.1)) H) : va_at X.1 vwCl (X.2.1 + 37, gcell X 37 (mem0.1 37) (mem0.2 37)) H := h 37 _ (by rw [tlw_at]; rfl)
theorem tl0_38 (X : GX) {H : Heap} (h : va_P X.1 vwCl (tlw X.2.1 (tl0 X X.2.1)) H) : va_at X.1 vwCl (X.2.1 + 38, gcell X 38 (mem0.1 38) (mem0.2 38)) H := h 38 _ (by rw [tlw_at]; rfl)
theorem tl0_39 (X : GX) {H : Heap} (h : va_P X.1 vwCl (tlw X.2.1 (tl0 X X.2.1)) H) : va_at X.1 vwCl (X.2.1 + 39, gcell X 39 (mem0.1 39) (mem0.2 39)) H := h 39 _ (by rw [tlw_at]; rfl)
theorem tl0_40 (X : GX) {H : Heap} (h : va_P X.1 vwCl (tlw X.2.1 (tl0 X X.2.1)) H) : va_at X.1 vwCl (X.2.1 + 40, gcell X 40 (mem0.1 40) (mem0.2 40)) H := h 40 _ (by rw [tlw_at]; rfl)
theorem tl0_41 (X : GX) {H : Heap} (h : va_P X.1 vwCl (tlw X.2.1 (tl0 X X.2.1)) H) : va_at X.1 vwCl (X.2.1 + 41, gcell X 41 (mem0.1 41) (mem0.2 41)) H := h 41 _ (by rw [tlw_at]; rfl)
theorem tl0_42 (X : GX) {H : Heap} (h : va_P X.1 vwCl (tlw X.2.1 (tl0 X X.2.1)) H) : va_at X.1 vwCl (X.2.1 + 42, gcell X 42 (mem0.1 42) (mem0.2 42)) H := h 42 _ (by rw [tlw_at]; rfl)
theorem tl0_43 (X : GX) {H : Heap} (h : va_P X.1 vwCl (tlw X.2.1 (tl0 X X.2.1)) H) : va_at X.1 vwCl (X.2.1 + 43, gcell X 43 (mem0.1 43) (mem0.2 43)) H := h 43 _ (by rw [tlw_at]; rfl)
theorem tl0_44 (X : GX) {H : Heap} (h : va_P X.1 vwCl (tlw X.2.1 (tl0 X X.2.1)) H) : va_at X.1 vwCl (X.2.1 + 44, gcell X 44 (mem0.1 44) (mem0.2 44)) H := h 44 _ (by rw [tlw_at]; rfl)
theorem tl0_45 (X : GX) {H : Heap} (h : va_P X.1 vwCl (tlw X.2.1 (tl0 X X.2.1)) H) : va_at X.1 vwCl (X.2.1 + 45, gcell X 45 (mem0.1 45) (mem0.2 45)) H := h 45 _ (by rw [tlw_at]; rfl)
theorem tl0_46 (X : GX) {H : Heap} (h : va_P X.1 vwCl (tlw X.2.1 (tl0 X X.2.1)) H) : va_at X.1 vwCl (X.2.1 + 46, gcell X 46 (mem0.1 46) (mem0.2 46)) H := h 46 _ (by rw [tlw_at]; rfl)
theorem tl0_47 (X : GX) {H : Heap} (h : va_P X.1 vwCl (tlw X.2.1 (tl0 X X.2.1)) H) : va_at X.1 vwCl (X.2.1 + 47, gcell X 47 (mem0.1 47) (mem0.2 47)) H := h 47 _ (by rw [tlw_at]; rfl)
theorem tl0_48 (X : GX) {H : Heap} (h : va_P X.1 vwCl (tlw X.2.1 (tl0 X X.2.1)) H) : va_at X.1 vwCl (X.2.1 + 48, gcell X 48 (mem0.1 48) (mem0.2 48)) H := h 48 _ (by rw [tlw_at]; rfl)
theorem tl0_49 (X : GX) {H : Heap} (h : va_P X.1 vwCl (tlw X.2.1 (tl0 X X.2.1)) H) : va_at X.1 vwCl (X.2.1 + 49, gcell X 49 (mem0.1 49) (mem0.2 49)) H := h 49 _ (by rw [tlw_at]; rfl)
theorem tl0_50 (X : GX) {H : Heap} (h : va_P X.1 vwCl (tlw X.2.1 (tl0 X X.2.1)) H) : va_at X.1 vwCl (X.2.1 + 50, gcell X 50 (mem0.1 50) (mem0.2 50)) H := h 50 _ (by rw [tlw_at]; rfl)
theorem tl0_51 (X : GX) {H : Heap} (h : va_P X.1 vwCl (tlw X.2.1 (tl0 X X.2.1)) H) : va_at X.1 vwCl (X.2.1 + 51, gcell X 51 (mem0.1 51) (mem0.2 51)) H := h 51 _ (by rw [tlw_at]; rfl)
theorem tl0_52 (X : GX) {H : Heap} (h : va_P X.1 vwCl (tlw X.2.1 (tl0 X X.2.1)) H) : va_at X.1 vwCl (X.2.1 + 52, gcell X 52 (mem0.1 52) (mem0.2 52)) H := h 52 _ (by rw [tlw_at]; rfl)
theorem tl0_53 (X : GX) {H : Heap} (h : va_P X.1 vwCl (tlw X.2.1 (tl0 X X.2.1)) H) : va_at X.1 vwCl (X.2.1 + 53, gcell X 53 (mem0.1 53) (mem0.2 53)) H := h 53 _ (by rw [tlw_at]; rfl)
theorem tl0_54 (X : GX) {H : Heap} (h : va_P X.1 vwCl (tlw X.2.1 (tl0 X X.2.1)) H) : va_at X.1 vwCl (X.2.1 + 54, gcell X 54 (mem0.1 54) (mem0.2 54)) H := h 54 _ (by rw [tlw_at]; rfl)
theorem tl0_55 (X : GX) {H : Heap} (h : va_P X.1 vwCl (tlw X.2.1 (tl0 X X.2.1)) H) : va_at X.1 vwCl (X.2.1 + 55, gcell X 55 (mem0.1 55) (mem0.2 55)) H := h 55 _ (by rw [tlw_at]; rfl)
theorem tl0_56 (X : GX) {H : Heap} (h : va_P X.1 vwCl (tlw X.2.1 (tl0 X X.2.1)) H) : va_at X.1 vwCl (X.2.1 + 56, gcell X 56 (mem0.1 56) (mem0.2 56)) H := h 56 _ (by rw [tlw_at]; rfl)
theorem tl0_57 (X : GX) {H : Heap} (h : va_P X.1 vwCl (tlw X.2.1 (tl0 X X.2.1)) H) : va_at X.1 vwCl (X.2.1 + 57, gcell X 57 (mem0.1 57) (mem0.2 57)) H := h 57 _ (by rw [tlw_at]; rfl)
theorem tl0_58 (X : GX) {H : Heap} (h : va_P X.1 vwCl (tlw X.2.1 (tl0 X X.2.1)) H) : va_at X.1 vwCl (X.2.1 + 58, gcell X 58 (mem0.1 58) (mem0.2 58)) H := h 58 _ (by rw [tlw_at]; rfl)
theorem tl0_59 (X : GX) {H : Heap} (h : va_P X.1 vwCl (tlw X.2.1 (tl0 X X.2.1)) H) : va_at X.1 vwCl (X.2.1 + 59, gcell X 59 (mem0.1 59) (mem0.2 59)) H := h 59 _ (by rw [tlw_at]; rfl)
theorem tl0_60 (X : GX) {H : Heap} (h : va_P X.1 vwCl (tlw X.2.1 (tl0 X X.2.1)) H) : va_at X.1 vwCl (X.2.1 + 60, gcell X 60 (mem0.1 60) (mem0.2 60)) H := h 60 _ (by rw [tlw_at]; rfl)
theorem tl0_61 (X : GX) {H : Heap} (h : va_P X.1 vwCl (tlw X.2.1 (tl0 X X.2.1)) H) : va_at X.1 vwCl (X.2.1 + 61, gcell X 61 (mem0.1 61) (mem0.2 61)) H := h 61 _ (by rw [tlw_at]; rfl)
theorem tl0_62 (X : GX) {H : Heap} (h : va_P X.1 vwCl (tlw X.2.1 (tl0 X X.2.1)) H) : va_at X.1 vwCl (X.2.1 + 62, gcell X 62 (mem0.1 62) (mem0.2 62)) H := h 62 _ (by rw [tlw_at]; rfl)
theorem tl0_63 (X : GX) {H : Heap} (h : va_P X.1 vwCl (tlw X.2.1 (tl0 X X.2.1)) H) : va_at X.1 vwCl (X.2.1 + 63, gcell X 63 (mem0.1 63) (mem0.2 63)) H := h 63 _ (by rw [tlw_at]; rfl)
theorem tl0_64 (X : GX) {H : Heap} (h : va_P X.1 vwCl (tlw X.2.1 (tl0 X X.2.1)) H) : va_at X.1 vwCl (X.2.1 + 64, gcell X 64 (mem0.1 64) (mem0.2 64)) H := h 64 _ (by rw [tlw_at]; rfl)
theorem tl0_65 (X : GX) {H : Heap} (h : va_P X.1 vwCl (tlw X.2.1 (tl0 X X.2.1)) H) : va_at X.1 vwCl (X.2.1 + 65, gcell X 65 (mem0.1 65) (mem0.2 65)) H := h 65 _ (by rw [tlw_at]; rfl)
theorem tl0_66 (X : GX) {H : Heap} (h : va_P X.1 vwCl (tlw X.2.1 (tl0 X X.2.1)) H) : va_at X.1 vwCl (X.2.1 + 66, gcell X 66 (mem0.1 66) (mem0.2 66)) H := h 66 _ (by rw [tlw_at]; rfl)
theorem tl0_67 (X : GX) {H : Heap} (h : va_P X.1 vwCl (tlw X.2.1 (tl0 X X.2.1)) H) : va_at X.1 vwCl (X.2.1 + 67, gcell X 67 (mem0.1 67) (mem0.2 67)) H := h 67 _ (by rw [tlw_at]; rfl)
theorem tl0_68 (X : GX) {H : Heap} (h : va_P X.1 vwCl (tlw X.2.1 (tl0 X X.2.1)) H) : va_at X.1 vwCl (X.2.1 + 68, gcell X 68 (mem0.1 68) (mem0.2 68)) H := h 68 _ (by rw [tlw_at]; rfl)
theorem tl0_69 (X : GX) {H : Heap} (h : va_P X.1 vwCl (tlw X.2.1 (tl0 X X.2.1)) H) : va_at X.1 vwCl (X.2.1 + 69, gcell X 69 (mem0.1 69) (mem0.2 69)) H := h 69 _ (by rw [tlw_at]; rfl)
theorem tl0_70 (X : GX) {H : Heap} (h : va_P X.1 vwCl (tlw X.2.1 (tl0 X X.2.1)) H) : va_at X.1 vwCl (X.2.1 + 70, gcell X 70 (mem0.1 70) (mem0.2 70)) H := h 70 _ (by rw [tlw_at]; rfl)
theorem tl0_71 (X : GX) {H : Heap} (h : va_P X.1 vwCl (tlw X.2.1 (tl0 X X.2.1)) H) : va_at X.1 vwCl (X.2.1 + 71, gcell X 71 (mem0.1 71) (mem0.2 71)) H := h 71 _ (by rw [tlw_at]; rfl)
theorem tl0_72 (X : GX) {H : Heap} (h : va_P X.1 vwCl (tlw X.2.1 (tl0 X X.2.1)) H) : va_at X.1 vwCl (X.2.1 + 72, gcell X 72 (mem0.1 72) (mem0.2 72)) H := h 72 _ (by rw [tlw_at]; rfl)
theorem tl0_73 (X : GX) {H : Heap} (h : va_P X.1 vwCl (tlw X.2.1 (tl0 X X.2.1)) H) : va_at X.1 vwCl (X.2.1 + 73, gcell X 73 (mem0.1 73) (mem0.2 73)) H := h 73 _ (by rw [tlw_at]; rfl)
theorem tl0_74 (X : GX) {H : Heap} (h : va_P X.1 vwCl (tlw X.2.1 (tl0 X X.2.1)) H) : va_at X.1 vwCl (X.2.1 + 74, gcell X 74 (mem0.1 74) (mem0.2 74)) H := h 74 _ (by rw [tlw_at]; rfl)
theorem tl0_75 (X : GX) {H : Heap} (h : va_P X.1 vwCl (tlw X.2.1 (tl0 X X.2.1)) H) : va_at X.1 vwCl (X.2.1 + 75, gcell X 75 (mem0.1 75) (mem0.2 75)) H := h 75 _ (by rw [tlw_at]; rfl)
theorem gP_mem0 (X : GX) {H : Heap} (h : va_P X.1 vwCl (tlw X.2.1 (tl0 X X.2.1)) H) : gP X mem0 H := by
  have key : ∀ n, n < 76 → va_at X.1 vwCl (X.2.1 + n, gcell X n (mem0.1 n) (mem0.2 n)) H := lt_s (lt_s (lt_s (lt_s (lt_s (lt_s (lt_s (lt_s (lt_s (lt_s (lt_s (lt_s (lt_s (lt_s (lt_s (lt_s (lt_s (lt_s (lt_s (lt_s (lt_s (lt_s (lt_s (lt_s (lt_s (lt_s (lt_s (lt_s (lt_s (lt_s (lt_s (lt_s (lt_s (lt_s (lt_s (lt_s (lt_s (lt_s (lt_s (lt_s (lt_s (lt_s (lt_s (lt_s (lt_s (lt_s (lt_s (lt_s (lt_s (lt_s (lt_s (lt_s (lt_s (lt_s (lt_s (lt_s (lt_s (lt_s (lt_s (lt_s (lt_s (lt_s (lt_s (lt_s (lt_s (lt_s (lt_s (lt_s (lt_s (lt_s (lt_s (lt_s (lt_s (lt_s (lt_s (lt_s (lt_0) (tl0_0 X h)) (tl0_1 X h)) (tl0_2 X h)) (tl0_3 X h)) (tl0_4 X h)) (tl0_5 X h)) (tl0_6 X h)) (tl0_7 X h)) (tl0_8 X h)) (tl0_9 X h)) (tl0_10 X h)) (tl0_11 X h)) (tl0_12 X h)) (tl0_13 X h)) (tl0_14 X h)) (tl0_15 X h)) (tl0_16 X h)) (tl0_17 X h)) (tl0_18 X h)) (tl0_19 X h)) (tl0_20 X h)) (tl0_21 X h)) (tl0_22 X h)) (tl0_23 X h)) (tl0_24 X h)) (tl0_25 X h)) (tl0_26 X h)) (tl0_27 X h)) (tl0_28 X h)) (tl0_29 X h)) (tl0_30 X h)) (tl0_31 X h)) (tl0_32 X h)) (tl0_33 X h)) (tl0_34 X h)) (tl0_35 X h)) (tl0_36 X h)) (tl0_37 X h)) (tl0_38 X h)) (tl0_39 X h)) (tl0_40 X h)) (tl0_41 X h)) (tl0_42 X h)) (tl0_43 X h)) (tl0_44 X h)) (tl0_45 X h)) (tl0_46 X h)) (tl0_47 X h)) (tl0_48 X h)) (tl0_49 X h)) (tl0_50 X h)) (tl0_51 X h)) (tl0_52 X h)) (tl0_53 X h)) (tl0_54 X h)) (tl0_55 X h)) (tl0_56 X h)) (tl0_57 X h)) (tl0_58 X h)) (tl0_59 X h)) (tl0_60 X h)) (tl0_61 X h)) (tl0_62 X h)) (tl0_63 X h)) (tl0_64 X h)) (tl0_65 X h)) (tl0_66 X h)) (tl0_67 X h)) (tl0_68 X h)) (tl0_69 X h)) (tl0_70 X h)) (tl0_71 X h)) (tl0_72 X h)) (tl0_73 X h)) (tl0_74 X h)) (tl0_75 X h)
  intro k q hk
  have hk2 : k < 76 := by rw [← wd_len X mem0]; exact (List.getElem?_eq_some_iff.mp hk).1
  rw [wd_at X mem0 hk2] at hk
  cases hk
  exact key k hk2
theorem lw_t1 {w : Cond} (i : Nat) (h : tables_1_1[i]? = some w) : w ∈ lw_tbl := List.mem_append_right _ (List.mem_append_left _ (List.mem_of_getElem? h))
theorem lw_t2 {w : Cond} (i : Nat) (h : tables_1_2[i]? = some w) : w ∈ lw_tbl := List.mem_append_right _ (List.mem_append_right _ (List.mem_append_left _ (List.mem_of_getElem? h)))
theorem lw_t3 {w : Cond} (i : Nat) (h : tables_1_3[i]? = some w) : w ∈ lw_tbl := List.mem_append_right _ (List.mem_append_right _ (List.mem_append_right _ (List.mem_append_left _ (List.mem_of_getElem? h))))
theorem lw_t4 {w : Cond} (i : Nat) (h : tables_1_4[i]? = some w) : w ∈ lw_tbl := List.mem_append_right _ (List.mem_append_right _ (List.mem_append_right _ (List.mem_append_right _ (List.mem_append_left _ (List.mem_of_getElem? h)))))
theorem lw_t5 {w : Cond} (i : Nat) (h : tables_1_5[i]? = some w) : w ∈ lw_tbl := List.mem_append_right _ (List.mem_append_right _ (List.mem_append_right _ (List.mem_append_right _ (List.mem_append_right _ (List.mem_append_left _ (List.mem_of_getElem? h))))))
theorem lw_t6 {w : Cond} (i : Nat) (h : tables_1_6[i]? = some w) : w ∈ lw_tbl := List.mem_append_right _ (List.mem_append_right _ (List.mem_append_right _ (List.mem_append_right _ (List.mem_append_right _ (List.mem_append_right _ ((List.mem_of_getElem? h)))))))
theorem kN_start {s : State} {args : Array Value} (hts : ∀ w ∈ lw_tbl, w.before args s = true) : kN s := by
  refine ⟨va_AO.of (A := args) (hts _ (lw_t1 127 rfl)), ?_⟩
  exact List.forall_mem_cons.mpr ⟨va_Nw.of (A := args) rfl (hts _ (lw_t1 30 rfl)), List.forall_mem_cons.mpr ⟨va_Nw.of (A := args) rfl (hts _ (lw_t1 46 rfl)), List.forall_mem_cons.mpr ⟨va_Nw.of (A := args) rfl (hts _ (lw_t1 52 rfl)), List.forall_mem_cons.mpr ⟨va_Nw.of (A := args) rfl (hts _ (lw_t1 119 rfl)), List.forall_mem_cons.mpr ⟨va_Nw.of (A := args) rfl (hts _ (lw_t1 128 rfl)), List.forall_mem_cons.mpr ⟨va_Nw.of (A := args) rfl (hts _ (lw_t1 142 rfl)), List.forall_mem_cons.mpr ⟨va_Nw.of (A := args) rfl (hts _ (lw_t1 147 rfl)), List.forall_mem_cons.mpr ⟨va_Nw.of (A := args) rfl (hts _ (lw_t1 158 rfl)), List.forall_mem_cons.mpr ⟨va_Nw.of (A := args) rfl (hts _ (lw_t1 169 rfl)), List.forall_mem_cons.mpr ⟨va_Nw.of (A := args) rfl (hts _ (lw_t1 197 rfl)), List.forall_mem_cons.mpr ⟨va_Nw.of (A := args) rfl (hts _ (lw_t1 207 rfl)), fun _ h => nomatch h⟩⟩⟩⟩⟩⟩⟩⟩⟩⟩⟩
theorem kX_start {X : GX} {s : State} {args : Array Value} (hX : X.2.1 = s.heap.size) (hts : ∀ w ∈ lw_tbl, w.before args s = true) (hgv : (Jvm.Cond.and given_1 narrow_1).before args s = true) : kX X s s.heap := by
  have hs := flat_of_before _ hgv
  have hA : ∀ a : Nat, a < s.heap.size → ¬ gA X a := fun a ha h9 => by
    have h8 : X.2.1 ≤ a := h9
    omega
  have h1 : (Cond.isRef (.static Bundle.tN "UNASSIGNED_STACK" Bundle.steD)).before args s = true := hs _ (by decide +kernel)
  have h2 : (Cond.isRef (.static Bundle.tN "SUPPRESSED_SENTINEL" Bundle.listD)).before args s = true := hs _ (by decide +kernel)
  have h3 : (Cond.exactly (.string "RingCutters" 151) "java/lang/String").before args s = true := hs _ (by decide +kernel)
  have h4 : (Cond.exactly (.string "RingCutters" 221) "java/lang/String").before args s = true := hs _ (by decide +kernel)
  obtain ⟨a3, -, -, -, e3, -⟩ := Cond.exactly_spec h3
  obtain ⟨a4, -, -, -, e4, -⟩ := Cond.exactly_spec h4
  refine ⟨vx_Zqof (hts _ (lw_t4 68 rfl)) (hts _ (lw_t1 14 rfl)) h1 hA, vx_Zqof (hts _ (lw_t4 70 rfl)) (hts _ (lw_t1 14 rfl)) h2 hA, ⟨a3, vk_R.of (A := args) (hts _ (lw_t4 80 rfl)) e3⟩, ⟨a4, vk_R.of (A := args) (hts _ (lw_t4 117 rfl)) e4⟩, ?_⟩
  exact List.forall_mem_cons.mpr ⟨va_Nw.of (A := args) rfl (hts _ (lw_t4 43 rfl)), List.forall_mem_cons.mpr ⟨va_Nw.of (A := args) rfl (hts _ (lw_t4 45 rfl)), List.forall_mem_cons.mpr ⟨va_Nw.of (A := args) rfl (hts _ (lw_t4 47 rfl)), List.forall_mem_cons.mpr ⟨va_Nw.of (A := args) rfl (hts _ (lw_t4 49 rfl)), fun _ h => nomatch h⟩⟩⟩⟩
theorem arr_known {s : State} {args : Array Value} {ty : FieldType} (h : (Cond.arrayClass ty).before args s = true) (hn : ∀ C, ty ≠ .object C) : ∃ cA : ClassId, ArrOfT s cA ty ∧ va_RA s cA ty := by
  obtain ⟨cA, kA, comp, h1, h2, h3⟩ := Cond.arrayClass_spec h
  refine ⟨cA, fun n z => ⟨fun k h => (by cases h), kA, h2, comp, h3⟩, ?_⟩
  cases ty with
  | object C => exact absurd rfl (hn C)
  | _ => exact h1
theorem arr_knownN {s : State} {args : Array Value} {C : String} (h : (Cond.arrayOver (.object C)).before args s = true) : ∃ cA : ClassId, ArrOfT s cA (.object C) ∧ va_RA s cA (.object C) := by
  obtain ⟨comp, cA, kA, h1, h2, h3, h4, h5⟩ := Cond.arrayOver_spec h
  exact ⟨cA, fun n z => ⟨fun k h => (by cases h), kA, h3, comp, h4⟩, kA, comp, h3, h4, h1, h5⟩
set_option maxHeartbeats 8000000 in
set_option maxRecDepth 100000 in
/-- THE LAW, from its entry -/
theorem whole_start {p : Program} {e : Env} {s : State} {m : MethodId} {below : List Frame} {meth : Method} {c : Code} (l : Launch) (hflags : l.flags = flags0) {b L : Nat} {xs : Nat → Int32} (hL : L ≤ 3072) (C0 : lw_At p s m meth c b L xs) : W p l e room_1 s m #[Value.ref b] below meth c s.heap [] 0 0 (lw_Z below #[Value.ref b] s) (entryFrame m ([Value.ref b] : List Value).toArray 8) := by
  obtain ⟨hx, hb, hr, hml, hown, hts, hX, hbl, hlocks, hgv⟩ := id C0
  have htG : ∀ w ∈ GW, w.before #[Value.ref b] s = true := fun w h => hts w (GW_in h)
  obtain ⟨c0, iS0, hKn0⟩ := u_known (C := RX0) (T := TX0) (N := 7) (n := 7) htG inlX0 (htG _ gx_87)
  obtain ⟨c1, iS1, hKn1⟩ := u_known (C := RX1) (T := TX1) (N := 1) (n := 1) htG inlX1 (htG _ gx_78)
  obtain ⟨c2, iS2, hKn2⟩ := u_known (C := RX2) (T := TX2) (N := 2) (n := 2) htG inlX2 (htG _ gx_74)
  obtain ⟨c3, iS3, hKn3⟩ := u_known (C := RX3) (T := TX3) (N := 6) (n := 6) htG inlX3 (htG _ gx_16)
  obtain ⟨c4, iS4, hKn4⟩ := u_known (C := RX4) (T := TX4) (N := 1) (n := 1) htG inlX4 (htG _ gx_84)
  obtain ⟨c5, iS5, hKn5⟩ := u_known (C := RX5) (T := TX5) (N := 3) (n := 3) htG inlX5 (htG _ gx_70)
  obtain ⟨c6, iS6, hKn6⟩ := u_known (C := RX6) (T := TX6) (N := 9) (n := 9) htG inlX6 (htG _ gx_65)
  obtain ⟨c7, iS7, hKn7⟩ := u_known (C := RX8) (T := TX8) (N := 6) (n := 6) htG inlX8 (htG _ gx_81)
  obtain ⟨c8, iS8, hKn8⟩ := u_known (C := RX10) (T := TX10) (N := 2) (n := 2) htG inlX10 (htG _ gx_62)
  obtain ⟨c9, iS9, hKn9⟩ := u_known (C := RX11) (T := TX11) (N := 14) (n := 14) htG inlX11 (htG _ gz_0)
  obtain ⟨c10, iS10, hKn10⟩ := u_known (C := RX12) (T := TX12) (N := 30) (n := 30) htG inlX12 (htG _ gz_1)
  obtain ⟨dC, dI, hKc⟩ : ∃ (dC : Nat → ClassId) (dI : Nat → Nat → Nat), ∀ (k : Nat) (q : vw_C), vwCl[k]? = some q → u_Kn s q.1 q.2.1 q.2.2 (dC k) (dI k) := by
    refine ⟨fun k => if k = 0 then c0 else if k = 1 then c1 else if k = 2 then c2 else if k = 3 then c3 else if k = 4 then c4 else if k = 5 then c5 else if k = 6 then c6 else if k = 7 then c7 else if k = 8 then c8 else if k = 9 then c9 else c10, fun k => if k = 0 then iS0 else if k = 1 then iS1 else if k = 2 then iS2 else if k = 3 then iS3 else if k = 4 then iS4 else if k = 5 then iS5 else if k = 6 then iS6 else if k = 7 then iS7 else if k = 8 then iS8 else if k = 9 then iS9 else iS10, ?_⟩
    intro k q hq
    match k, hq with
    | 0, hq => cases hq; exact hKn0
    | 1, hq => cases hq; exact hKn1
    | 2, hq => cases hq; exact hKn2
    | 3, hq => cases hq; exact hKn3
    | 4, hq => cases hq; exact hKn4
    | 5, hq => cases hq; exact hKn5
    | 6, hq => cases hq; exact hKn6
    | 7, hq => cases hq; exact hKn7
    | 8, hq => cases hq; exact hKn8
    | 9, hq => cases hq; exact hKn9
    | 10, hq => cases hq; exact hKn10
    | k + 11, hq => simp [vwCl] at hq
  obtain ⟨cI, hcI⟩ := arr_known (htG _ gx_3) (fun C h => by cases h)
  obtain ⟨cJ, hcJ⟩ := arr_known (htG _ gx_18) (fun C h => by cases h)
  obtain ⟨cZ, hcZ⟩ := arr_known (htG _ gx_40) (fun C h => by cases h)
  obtain ⟨cN, hcN⟩ := arr_knownN (C := "RingCutters$Net") (hts _ (lw_t1 127 rfl))
  obtain ⟨X, hXe⟩ : ∃ X : GX, X = ((dC, dI), s.heap.size, cI, cJ, cZ, cN) := ⟨_, rfl⟩
  have hbase : X.2.1 = s.heap.size := by rw [hXe]
  have hK : gK X s := by
    rw [hXe]
    refine ⟨hKc, fun k q hq => ?_⟩
    match k, hq with
    | 0, hq => cases hq; exact hcI
    | 1, hq => cases hq; exact hcJ
    | 2, hq => cases hq; exact hcZ
    | 3, hq => cases hq; exact hcN
    | k + 4, hq => simp at hq
  have hN := kN_start hts
  have hZ := kX_start hbase hts hgv
  have hcst : l.stackTraces = false := by unfold Launch.stackTraces; rw [hflags]; decide +kernel
  have Γ : gC X p m meth c code 8 s #[Value.ref b] RL ret := ⟨⟨hx, hb, hml, hown, htG⟩, hK, hr, hlocks⟩
  have hI : kI X X.2.1 s s.heap [] [] := ⟨fun k q h => by simp [tlw] at h, by rw [hbase]; rfl, va_S.rf⟩
  have hl := lv_entry ([.ref b]) (n := 8) (Nat.le_of_ble_eq_true rfl)
  rw [lg_entry_eq]
  generalize (lg_sl ([.ref b]) ++ List.replicate (8 - (lg_sl ([.ref b])).length) Slot.unset).toArray = ls at hl ⊢
  have hl : lv_has ls 8 [(0, .ref b)] := hl
  refine k_new (ci := 9) (fs := [.null, .null, .null, .null, .null, .null, .null, .null, .null, .null, .int 0, .int 0, .int 0, .int 0]) (C := RX11) (T := TX11) (N := 14) Γ hI 0 rfl tyX11 tyX11_ok rfl inlX11 gz_2 gz_0 gx_94 (fun j hj => fs_X11 j hj) (Nat.le_of_ble_eq_true rfl) (Nat.le_of_ble_eq_true rfl) dL_law_0 (fun H hI => ?_)
  refine lv_dup hx hb dL_law_3 rfl ?_
  refine k_call (pre := []) (tl' := body_X11 X X.2.1) Γ hl.1 hI (n := 0) rfl (c_X11_init l X X.2.1) mfi_X11 hN (Or.inr gz_4) rfl rfl ⟨Nat.le_of_ble_eq_true rfl, Nat.le_of_ble_eq_true rfl⟩ (Nat.le_of_ble_eq_true rfl) dL_law_4 ⟨Nat.le_of_ble_eq_true rfl, Nat.le_of_ble_eq_true rfl⟩ rfl (fun H locs hI => ?_)
  refine lv_astore_n (lv' := [(1, .ref (X.2.1 + 0)), (0, .ref b)]) hx hb dL_law_7 rfl hl (by decide) rfl (fun ls hl => ?_)
  refine k_new (ci := 10) (fs := [.int 0, .null, .int 0, .int 0, .int 0, .int 0, .int 0, .int 0, .int 0, .int 0, .long 0, .null, .null, .null, .null, .null, .null, .null, .null, .int 0, .null, .long 0, .null, .null, .null, .null, .long 0, .long 0, .int 0, .int 0]) (C := RX12) (T := TX12) (N := 30) Γ hI 60 rfl tyX12 tyX12_ok rfl inlX12 gz_3 gz_1 gx_112 (fun j hj => fs_X12 j hj) (Nat.le_of_ble_eq_true rfl) (Nat.le_of_ble_eq_true rfl) dL_law_8 (fun H hI => ?_)
  refine lv_dup hx hb dL_law_11 rfl ?_
  refine k_call (pre := body_X11 X X.2.1) (tl' := body_X11 X X.2.1 ++ body_X12 X (X.2.1 + 60)) Γ hl.1 hI (n := 60) rfl (c_X12_init l X (X.2.1 + 60)) mfi_X12 hN (Or.inr gz_5) rfl rfl ⟨Nat.le_of_ble_eq_true rfl, Nat.le_of_ble_eq_true rfl⟩ (Nat.le_of_ble_eq_true rfl) dL_law_12 ⟨Nat.le_of_ble_eq_true rfl, Nat.le_of_ble_eq_true rfl⟩ rfl (fun H locs hI => ?_)
  refine lv_astore_n (lv' := [(2, .ref (X.2.1 + 60)), (1, .ref (X.2.1 + 0)), (0, .ref b)]) hx hb dL_law_15 rfl hl (by decide) rfl (fun ls hl => ?_)
  refine lv_iconst (v := (1 : Int32)) hx hb dL_law_16 (by decide) ?_
  refine k_newa (x := .inl (X.2.2.2.1, 1, .inr (.inl (fun _ => 0)))) Γ hI 75 rfl (ty := .long) rfl gx_18 (N := 1) (Γ.2.1.2 1 _ rfl).2 rfl (vp_cell_l _ _ _) (by decide) (by decide) (Nat.le_of_ble_eq_true rfl) (Nat.le_of_ble_eq_true rfl) (Nat.le_of_ble_eq_true rfl) dL_law_17 (fun H hI => ?_)
  refine lv_astore_n (lv' := [(3, .ref (X.2.1 + 75)), (2, .ref (X.2.1 + 60)), (1, .ref (X.2.1 + 0)), (0, .ref b)]) hx hb dL_law_19 rfl hl (by decide) rfl (fun ls hl => ?_)
  refine lv_iconst (v := (0 : Int32)) hx hb dL_law_20 (by decide) ?_
  refine lv_istore (lv' := [(4, .int 0), (3, .ref (X.2.1 + 75)), (2, .ref (X.2.1 + 60)), (1, .ref (X.2.1 + 0)), (0, .ref b)]) hx hb dL_law_21 hl (by decide) rfl (fun ls hl => ?_)
  obtain ⟨σr, hlaw⟩ := law_true xs L hL
  refine s_L_law hX hbl hbase hZ hcst σr Γ 5000 mem0 0 H locs ls _ _ (Nat.le_of_ble_eq_true rfl) (Nat.le_of_ble_eq_true rfl) ⟨gP_mem0 X ?_, hI.2.2⟩ (lv_sub hl [4, 3, 2, 1, 0] rfl) hlaw
  have hP := hI.1
  rw [List.append_assoc] at hP
  exact hP
-- ===== YOUR PART ENDS =====
set_option maxHeartbeats 4000000 in
theorem lw_walk (l : Launch) (hflags : l.flags = flags0) (b : Addr) (xs : List Int32) : MetFree l x (headSpec (Jvm.Cond.code x code maxLocals ret :: tables_1) room_1) (lw_P b xs) (fun _ _ _ _ _ => True) lw_Q := by
  refine MetFree.of_bodyS (code := code) (maxLocals := maxLocals) (ret := ret) (by decide) ?_ ?_
  · intro args s m h hn
    obtain ⟨meth, c, h1, h2, h3, h4, h5, h6, -, -⟩ := Cond.code_spec hn (atoms_spec (ws := Jvm.Cond.code x code maxLocals ret :: tables_1) h _ List.mem_cons_self)
    exact ⟨meth, c, h1, h2, h3, h4, h5, h6⟩
  · intro p e s m args below meth c s₁ B hml0 hP _
    obtain ⟨rfl, hx, hbd, hgv⟩ := hP
    obtain ⟨scr, harrAt, hlist, hof, hsmall⟩ := hx
    obtain ⟨hcb, hkn, -, -⟩ := State.arrayAt?_spec harrAt
    have hown : s.vm.findClass R_law = some m.cls := findClass_of_methodNamed B.named
    have hts0 : ∀ c ∈ (Jvm.Cond.code x code maxLocals ret :: tables_1), c.before #[Value.ref b] s = true := atoms_spec (ws := Jvm.Cond.code x code maxLocals ret :: tables_1) B.pre
    have hts : ∀ w ∈ lw_tbl, w.before #[Value.ref b] s = true := k2_hts_sels lw_privs (fun w hw => hts0 w (List.mem_cons_of_mem _ hw)) lw_privs_ok
    have hml : c.maxLocals = 8 := B.maxLocals_eq (hts0 _ List.mem_cons_self)
    have X₀ : Stand p l e room_1 s m #[Value.ref b] below meth c s₁ [] 0 0 := Stand.of_body B
    have hh0 : s₁.heap = s.heap := by rw [B.state]; rfl
    have hsz : scr.slots.size = xs.length := by rw [← Array.length_toList, hlist, List.length_map]
    have hval : ∀ j : Nat, j < xs.length → scr.slots[j]? = some (.int (xs.getD j 0)) := fun j hj => by
      rw [← Array.getElem?_toList, hlist]
      simp [hj]
    have hbl : b < s.heap.size := (Array.getElem?_eq_some_iff.mp hcb).1
    have hX : va_X b xs.length (fun j => xs.getD j 0) s s.heap := ⟨scr, hcb, hof, hkn, hsz, hval⟩
    have K : W p l e room_1 s m #[Value.ref b] below meth c s₁.heap [] 0 0 (lw_Z below #[Value.ref b] s) (entryFrame m ([Value.ref b] : List Value).toArray 8) := by
      rw [hh0]
      exact whole_start l hflags hbd ⟨B.exec, B.bytes, B.returns, hml, hown, hts, hX, hbl, B.notSynchronized, hgv⟩
    obtain ⟨t, a1, o, b1, b2, b3⟩ := K s₁ rfl X₀
    exact ⟨t, o, a1, b1, b2, b3⟩
theorem lw_pre_spec {args : Array Value} {s : State} (h : (Jvm.Cond.and given_1 narrow_1).before args s = true) (hr : rest_1_c.before args s = true) : ∃ (b : Addr) (xs : List Int32), lw_P b xs args s := by
  have hs := flat_of_before _ h
  have hq := flat_of_before _ hr
  have hc : (Cond.count 1).before args s = true := hs _ (by decide +kernel)
  have harr : (Cond.arrayOf (.arg 0) .int).before args s = true := hs _ (by decide +kernel)
  have hle : (Cond.le (.length (.arg 0)) (.int 3072)).before args s = true := hs _ (by decide +kernel)
  have hlen : (Cond.isInt (.length (.arg 0))).before args s = true := hq _ (by decide +kernel)
  have hall : (Cond.all (.arg 0) (.isInt (.elem (.arg 0) (.index 0)))).before args s = true := hq _ (by decide +kernel)
  obtain ⟨b, xs, hb, hx⟩ := State.ints_of_pre rfl harr hlen hall
  have hsm : xs.length < 2 ^ 31 := hx.choose_spec.2.2.2
  have hev : (Term.length (.arg 0)).eval args s none [] s = some (.int xs.length.toInt32) := hx.length_eval hb
  have hv := Cond.le_ints hev (show (Term.int 3072).eval args s none [] s = some (.int 3072) from rfl)
  have hd : xs.length.toInt32 ≤ 3072 := by
    simpa [Cond.before, Cond.holds, hv] using hle
  have hN : xs.length ≤ 3072 := (Int32.ofNat_le_ofNat hsm (by decide)).mp (show Int32.ofNat xs.length ≤ Int32.ofNat 3072 from hd)
  exact ⟨b, xs, Cond.one_arg hc (show args[0]? = some (.ref b) from hb), hx, hN, h⟩
theorem lw_comes (l : Launch) (hflags : l.flags = flags0) : Comes l x (Jvm.Cond.code x code maxLocals ret :: tables_1) room_1 (fun tb e args s => Calls_1 tb e args s ∧ rest_1 tb e args s ∧ Pre_1 tb e args s)
    (fun _ _ args s o t => lw_Q args s o t) := by
  intro p e ha hc hk s m args below hf hfit hheap happ hpre
  obtain ⟨b, xs, hP⟩ := lw_pre_spec hpre.2.2 hpre.2.1
  obtain ⟨k, o, h1, h2, h3, hQ⟩ := lw_walk l hflags b xs p e ha hc hk s m args below hf ((Spec.applies_iff_loose hf).mp happ).1 hP trivial
  exact ⟨k, o, h1, h2, h3, hQ⟩
theorem lw_frame {s t : State} {o : Outcome} {args : Array Value} (h : Framed s o t [] 601024 7293034) :
    Framed s o t (fieldLocs frame_1_writes args s ++ arrayLocs frame_1_arrays args s ++ staticLocs frame_1_statics s) 601024 7293034 := h
theorem lw_limb (L : Cond) (hL : ∀ (args : Array Value) (s t : State), L.after args s (.returned (some (.int 1))) t = true) :
    ArmFor flags0 classFile x code maxLocals ret World_1 tables_1 room_1 Calls_1 rest_1 Pre_1
      (fun tb e a s o t => postC L tb e a s o t ∧ Framed s o t (fieldLocs frame_1_writes a s ++ arrayLocs frame_1_arrays a s ++ staticLocs frame_1_statics s) 601024 7293034) := by
  intro l hflags _ _ p e ha hc hk s m args below hf hfit hheap happ hpre
  obtain ⟨k, o, h1, h2, h3, rfl, hF⟩ := lw_comes l hflags p e ha hc hk s m args below hf hfit hheap happ hpre
  exact ⟨k, _, h1, h2, h3, hL args s _, lw_frame hF⟩
theorem i_vc : Claimed_1_1 ∧ Claimed_1_2 := ⟨lw_limb limb_1_1 (fun args s t => by simp [limb_1_1, Cond.after, Cond.holds, Cond.value]), lw_limb limb_1_2 (fun args s t => Cond.after_iff.mpr (by
  first | (rw [show limb_1_2 = Cond.eq .result (.int 1) from rfl, Cond.eq_ints (x := 1) (y := 1) rfl rfl]; simp; done) | (simp [limb_1_2, Cond.value, Term.eval]; done)))⟩

