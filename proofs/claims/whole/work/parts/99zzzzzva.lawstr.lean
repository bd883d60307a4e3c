/-! the String constants at the law's entry -/
abbrev lxF : List Cond := flatC (Cond.and given_1 narrow_1)
def lxI : List (List Nat) := [[291, 307, 322, 335, 440, 463, 383, 401, 420, 350, 366], [292, 308, 323, 336, 441, 464, 384, 402, 421, 351, 367], [293, 309, 324, 337, 442, 465, 385, 403, 422, 352, 368], [294, 310, 325, 338, 443, 466, 386, 404, 423, 353, 369], [1333, 1386, 1392, 1393, 1415, 1416, 1412, 1413, 1414, 1402, 1411]]
def lxE : List (List Nat) := [[295, 296, 297, 298, 299], [311, 312, 313], [], [339], [444, 445, 446], [467, 468, 469, 470], [387], [405], [424], [354], [370]]
def lxN : List (List Nat) := [[], [321], [333, 334], [347, 348, 349], [454, 455, 456, 457], [478, 479, 480, 481, 487], [395, 396, 397, 398, 460, 484], [413, 414, 415, 416, 461, 485, 419], [432, 433, 434, 435, 462, 486, 438, 439], [362, 363, 364, 365, 458, 482, 399, 417, 436], [378, 379, 380, 381, 459, 483, 400, 418, 437, 382]]
def lxO : List (List Bool) := [[], [false], [false, false], [false, false, false], [false, false, false, false], [false, false, false, false, false], [false, false, false, false, true, true], [false, false, false, false, true, true, false], [false, false, false, false, true, true, false, false], [false, false, false, false, true, true, true, true, true], [false, false, false, false, true, true, true, true, true, false]]
set_option maxRecDepth 100000 in
set_option maxHeartbeats 4000000 in
theorem lx_ex : ∀ i, i < 11 → lxF[(lxI.getD 0 []).getD i 0]? = some (Cond.exactly (Term.string "ClauseProver" (stI.getD i 0)) "java/lang/String") := by decide +kernel
set_option maxRecDepth 100000 in
set_option maxHeartbeats 4000000 in
theorem lx_co : ∀ i, i < 11 → lxF[(lxI.getD 1 []).getD i 0]? = some (Cond.eq (.field (Term.string "ClauseProver" (stI.getD i 0)) "java/lang/String" "coder" "B") (.int 0)) := by decide +kernel
set_option maxRecDepth 100000 in
set_option maxHeartbeats 4000000 in
theorem lx_ar : ∀ i, i < 11 → lxF[(lxI.getD 2 []).getD i 0]? = some (Cond.arrayOf (.field (Term.string "ClauseProver" (stI.getD i 0)) "java/lang/String" "value" "[B") .byte) := by decide +kernel
set_option maxRecDepth 100000 in
set_option maxHeartbeats 4000000 in
theorem lx_le : ∀ i, i < 11 → lxF[(lxI.getD 3 []).getD i 0]? = some (Cond.eq (.length (.field (Term.string "ClauseProver" (stI.getD i 0)) "java/lang/String" "value" "[B")) (.int (Int32.ofNat (stL.getD i 0)))) := by decide +kernel
set_option maxRecDepth 100000 in
set_option maxHeartbeats 4000000 in
theorem lx_sr : ∀ i, i < 11 → tables_1[(lxI.getD 4 []).getD i 0]? = some (Cond.stringRef "ClauseProver" (stI.getD i 0) (stX.getD i "")) := by decide +kernel
set_option maxRecDepth 100000 in
set_option maxHeartbeats 4000000 in
theorem lx_el : ∀ i, i < 11 → ∀ j, j < stL.getD i 0 → lxF[(lxE.getD i []).getD j 0]? = some (Cond.eq (.elem (.field (Term.string "ClauseProver" (stI.getD i 0)) "java/lang/String" "value" "[B") (.int (Int32.ofNat j))) (.int ((stB.getD i []).getD j 0))) := by decide +kernel
set_option maxRecDepth 100000 in
set_option maxHeartbeats 4000000 in
theorem lx_ne : ∀ j, j < 11 → ∀ i, i < j → lxF[(lxN.getD j []).getD i 0]? = some (if (lxO.getD j []).getD i false then Cond.not (Cond.eq (Term.string "ClauseProver" (stI.getD j 0)) (Term.string "ClauseProver" (stI.getD i 0))) else Cond.not (Cond.eq (Term.string "ClauseProver" (stI.getD i 0)) (Term.string "ClauseProver" (stI.getD j 0)))) := by decide +kernel
theorem law_S {p : Program} {s : State} {m : MethodId} {meth : Method} {c : Code} {b L : Nat} {xs : Nat → Int32} (C0 : lw_At p s m meth c b L xs) : ∃ adK adV : Nat → Nat, SX adK adV (fun q => s.heap.size ≤ q) s s.heap := by
  obtain ⟨hx, hb, hr, hml, hown, hts, hX, hbl, hlk, hgv⟩ := C0
  have hfl : ∀ w ∈ lxF, w.before #[Value.ref b] s = true := flat_of_before _ hgv
  have hA : ∀ a : Nat, a < s.heap.size → ¬ s.heap.size ≤ a := fun a h z => absurd z (Nat.not_le_of_lt h)
  have hne : ∀ i j : Nat, i < j → j < 11 → (Cond.not (Cond.eq (Term.string "ClauseProver" (stI.getD i 0)) (Term.string "ClauseProver" (stI.getD j 0)))).before #[Value.ref b] s = true ∨ (Cond.not (Cond.eq (Term.string "ClauseProver" (stI.getD j 0)) (Term.string "ClauseProver" (stI.getD i 0)))).before #[Value.ref b] s = true := fun i j h1 h2 => by
    have h := hfl _ (List.mem_of_getElem? (lx_ne j h2 i h1))
    cases hq : (lxO.getD j []).getD i false with
    | true => rw [hq] at h; exact Or.inr h
    | false => rw [hq] at h; exact Or.inl h
  obtain ⟨adK, adV, hS, hev⟩ := vk_Sof (args := #[Value.ref b]) (s := s) (N := 11) (tm := fun i => Term.string "ClauseProver" (stI.getD i 0)) (len := stL) (byt := stB) (A := fun q => s.heap.size ≤ q) (by decide) (fun i hi => hfl _ (List.mem_of_getElem? (lx_ex i hi))) (fun i hi => hfl _ (List.mem_of_getElem? (lx_co i hi))) (fun i hi => hfl _ (List.mem_of_getElem? (lx_ar i hi))) (fun i hi => hfl _ (List.mem_of_getElem? (lx_le i hi))) (fun i hi j hj => hfl _ (List.mem_of_getElem? (lx_el i hi j hj))) (fun i j hi hj hij => by
    rcases Nat.lt_or_gt_of_ne hij with h | h
    · exact hne i j h hj
    · exact (hne j i h hi).symm) hA
  refine ⟨adK, adV, hS, fun i hi => vk_R.of (hts _ (tn_in (lx_sr i hi))) (hev i hi), ?_, ?_⟩
  · exact va_Zof (hts _ (tn_in (i := 1347) (by decide +kernel))) (hts _ (tn_in (i := 26) (by decide +kernel))) (va_eqt (hfl _ (List.mem_of_getElem? (i := 6) (by decide +kernel)))) hA
  · exact ax_ZL.of (hts _ (tn_in (i := 1363) (by decide +kernel))) (hfl _ (List.mem_of_getElem? (i := 7) (by decide +kernel))) hA
