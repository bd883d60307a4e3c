/-! the law's cases -/
theorem pk_0 {W Y : va_W} : (List.range' 0 W.length).map (fun i => (W ++ Y)[i]?) = W.map some := pk_rg (X := [])
theorem pk_e {X W : va_W} : (List.range' X.length W.length).map (fun i => (X ++ W)[i]?) = W.map some := by
  have := pk_rg (X := X) (W := W) (Y := [])
  rw [List.append_nil] at this
  exact this
theorem pk_d1 {n k : Nat} : ∀ i ∈ List.range' n k, i ∉ List.range' 0 n := fun i hi h => by
  have h1 := List.mem_range'_1.mp hi
  have h2 := List.mem_range'_1.mp h
  omega
theorem pk_d2 {n k : Nat} : ∀ i ∈ List.range' 0 n, i ∉ List.range' n k := fun i hi h => by
  have h1 := List.mem_range'_1.mp hi
  have h2 := List.mem_range'_1.mp h
  omega
theorem gt_0 {A B : va_W} {v : Nat × va_E} (h : A[0]? = some v) : (A ++ B)[0]? = some v := by
  rw [List.getElem?_append_left (List.getElem?_eq_some_iff.mp h).1]; exact h
theorem gt_e {A B : va_W} {v : Nat × va_E} (h : B[0]? = some v) : (A ++ B)[A.length]? = some v := by
  rw [List.getElem?_append_right (Nat.le_refl _), Nat.sub_self]; exact h
theorem ix_a {i j : Nat} : Int32.ofNat i + Int32.ofNat j = Int32.ofNat (i + j) := (Int32.ofNat_add i j).symm
theorem ix_n {n : Nat} (h : n < 2147483648) : (Int32.ofNat n).toNatClampNeg = n := nI_clamp (n := n) (by omega)
theorem ix_in {n L : Nat} (h : n < L) (hL : L ≤ 3072) : vp_in (Int32.ofNat n) L := by
  unfold vp_in
  rintro (q | q)
  · exact nI_pos (n := n) (by omega) q
  · rw [ix_n (by omega)] at q; omega
theorem lg_0 (a : Int64) : lg_cmp a a = 0 := by simp [lg_cmp]
theorem pk_o {c : Nat × va_E} {W M : va_W} : (0 :: List.range' (W.length + 1) M.length).map (fun i => (c :: (W ++ M))[i]?) = (c :: M).map some := by
  rw [List.map_cons, List.map_cons]
  congr 1
  exact pk_e (X := c :: W) (W := M)
theorem pk_on {n k : Nat} : va_nd (0 :: List.range' (n + 1) k) = true := by
  unfold va_nd
  rw [nd_rg]
  simp
theorem pk_od {n k : Nat} : ∀ i ∈ 0 :: List.range' (n + 1) k, i ∉ List.range' 1 n := fun i hi h => by
  have h2 := List.mem_range'_1.mp h
  rcases List.mem_cons.mp hi with e | e
  · omega
  · have h1 := List.mem_range'_1.mp e
    omega
theorem lk_feed {p : Program} {e : Env} {s : State} {m : MethodId} {below : List Frame} {meth : Method} {c : Code} {l : Launch} {D : va_G} {kA : Nat → ClassId} {b L : Nat} {xs : Nat → Int32} {o x z : Nat} {f : Nat → Int64} {W M : va_W} {fs fz : List Value} {Q : State → Prop} {R : Room} {cells slots : Nat} (C : ax_C p s m #[Value.ref b] meth c code "ClauseProverLaw" 7 ret D kA (fun q => s.heap.size ≤ q)) (hX : ax_X (fun q => s.heap.size ≤ q) s s.heap) (hXb : va_X b L xs s s.heap) (hbl : b < s.heap.size) (hbA : ¬ s.heap.size ≤ b) {i : Nat} (hi : i + 6 ≤ L) (hL : L ≤ 3072) {fr lo mc ms fr2 lo2 : Nat} {k rb : Int32} {PW : (Nat → Int64) → va_W → Prop} {M2 : va_W} (hW : ax_Mw l D kA y_Law_feed b_Law_feed 8 [(0, 16, 19, 13)] fr lo mc ms [.ref x, .int (xs (i + 1)), .int (xs (i + 2)), .int (xs (i + 3)), .int (xs (i + 4)), .int (xs (i + 5)), .ref o] (lgO kA o f :: W) (fun r w1 => r = k ∧ ∃ f2 W2, PW f2 W2 ∧ w1 = lgO kA o f2 :: W2)) (hfr : fr + 1 ≤ R.frames) (hlo : 8 + (8 + 11) + lo ≤ R.locals) (hz : M[0]? = some (z, .inr (12, fz))) (hM : ax_Mi l D kA y_MM_feed b_MM_feed 8 .int fr2 lo2 0 0 [.ref z, .int (xs (i + 1)), .int (xs (i + 2)), .int (xs (i + 3)), .int (xs (i + 4)), .int (xs (i + 5))] M (fun r w1 => r = rb ∧ w1 = M2)) (hfr2 : fr2 + 1 ≤ R.frames) (hlo2 : 8 + (8 + 11) + lo2 ≤ R.locals) (hz2 : ∃ fz2, M2[0]? = some (z, .inr (12, fz2))) (hT : ax_Mi l D kA y_MM_thrown b_MM_thrown 1 .int 1 48 0 0 [.ref z] M2 (fun r w1 => r = k ∧ w1 = M2)) (hk : k = 0 → ∀ f2 W2, PW f2 W2 → f2 (Int32.toNatClampNeg 0) = Int32.toInt64 rb) (hfr3 : 1 + 1 ≤ R.frames) (hlo3 : 8 + (1 + 11) + 48 ≤ R.locals) (hc : cells + mc ≤ R.cells) (hs : slots + ms ≤ R.slots)
    (kk : ∀ f2 W2, PW f2 W2 → AW p l e R s m #[Value.ref b] below meth c D kA (fun q => s.heap.size ≤ q) 7 Q 1012 [(4, .int (Int32.ofNat i)), (3, .ref o), (2, .ref z), (1, .ref x), (0, .ref b)] [] (lgO kA o f2 :: (W2 ++ M2)) (cells + mc) (slots + ms)) : AW p l e R s m #[Value.ref b] below meth c D kA (fun q => s.heap.size ≤ q) 7 Q 120 [(4, .int (Int32.ofNat i)), (3, .ref o), (2, .ref z), (1, .ref x), (0, .ref b)] [] (lgO kA o f :: (W ++ M)) (cells) (slots) := by
  refine ax_aload_n (pc := 120) C d_Law_law_120 rfl 3 rfl ?_
  refine ax_aload_n (pc := 121) C d_Law_law_121 rfl 4 rfl ?_
  refine ax_iload (pc := 122) C d_Law_law_122 0 rfl ?_
  refine ax_iconst (pc := 124) C 1 d_Law_law_124 (by decide +kernel) ?_
  refine ax_iadd (pc := 125) C d_Law_law_125 ?_
  refine ax_nrm (Int32.ofNat (i + 1)) ix_a ?_
  refine ax_sld (pc := 126) C hXb hbl hbA d_Law_law_126 (ix_in (by omega) hL) ?_
  refine ax_nrm (xs (i + 1)) (by rw [ix_n (by omega)]) ?_
  refine ax_aload_n (pc := 127) C d_Law_law_127 rfl 4 rfl ?_
  refine ax_iload (pc := 128) C d_Law_law_128 0 rfl ?_
  refine ax_iconst (pc := 130) C 2 d_Law_law_130 (by decide +kernel) ?_
  refine ax_iadd (pc := 131) C d_Law_law_131 ?_
  refine ax_nrm (Int32.ofNat (i + 2)) ix_a ?_
  refine ax_sld (pc := 132) C hXb hbl hbA d_Law_law_132 (ix_in (by omega) hL) ?_
  refine ax_nrm (xs (i + 2)) (by rw [ix_n (by omega)]) ?_
  refine ax_aload_n (pc := 133) C d_Law_law_133 rfl 4 rfl ?_
  refine ax_iload (pc := 134) C d_Law_law_134 0 rfl ?_
  refine ax_iconst (pc := 136) C 3 d_Law_law_136 (by decide +kernel) ?_
  refine ax_iadd (pc := 137) C d_Law_law_137 ?_
  refine ax_nrm (Int32.ofNat (i + 3)) ix_a ?_
  refine ax_sld (pc := 138) C hXb hbl hbA d_Law_law_138 (ix_in (by omega) hL) ?_
  refine ax_nrm (xs (i + 3)) (by rw [ix_n (by omega)]) ?_
  refine ax_aload_n (pc := 139) C d_Law_law_139 rfl 4 rfl ?_
  refine ax_iload (pc := 140) C d_Law_law_140 0 rfl ?_
  refine ax_iconst (pc := 142) C 4 d_Law_law_142 (by decide +kernel) ?_
  refine ax_iadd (pc := 143) C d_Law_law_143 ?_
  refine ax_nrm (Int32.ofNat (i + 4)) ix_a ?_
  refine ax_sld (pc := 144) C hXb hbl hbA d_Law_law_144 (ix_in (by omega) hL) ?_
  refine ax_nrm (xs (i + 4)) (by rw [ix_n (by omega)]) ?_
  refine ax_aload_n (pc := 145) C d_Law_law_145 rfl 4 rfl ?_
  refine ax_iload (pc := 146) C d_Law_law_146 0 rfl ?_
  refine ax_iconst (pc := 148) C 5 d_Law_law_148 (by decide +kernel) ?_
  refine ax_iadd (pc := 149) C d_Law_law_149 ?_
  refine ax_nrm (Int32.ofNat (i + 5)) ix_a ?_
  refine ax_sld (pc := 150) C hXb hbl hbA d_Law_law_150 (ix_in (by omega) hL) ?_
  refine ax_nrm (xs (i + 5)) (by rw [ix_n (by omega)]) ?_
  refine ax_aload_n (pc := 151) C d_Law_law_151 rfl 1 rfl ?_
  refine ax_callSw (pc := 152) C hX (As := [.ref x, .int (xs (i + 1)), .int (xs (i + 2)), .int (xs (i + 3)), .int (xs (i + 4)), .int (xs (i + 5)), .ref o]) (rest := []) (wr := M) hW mw_Law_61 d_Law_law_152 rfl rfl (List.range' 0 (W.length + 1)) (List.range' (W.length + 1) M.length) (pk_0 (W := lgO kA o f :: W) (Y := M)) (nd_rg _ _) (pk_e (X := lgO kA o f :: W) (W := M)) (nd_rg _ _) pk_d1 hfr hlo hc hs (Nat.le_of_ble_eq_true rfl) (fun r1 w1 hw1 => ?_)
  obtain ⟨er, f2, W2, hP, ew⟩ := hw1
  rw [er, ew]
  refine ax_istore (pc := 155) C d_Law_law_155 (Nat.le_of_ble_eq_true rfl) ([(5, .int k), (4, .int (Int32.ofNat i)), (3, .ref o), (2, .ref z), (1, .ref x), (0, .ref b)]) rfl ?_
  refine ax_aload_n (pc := 157) C d_Law_law_157 rfl 3 rfl ?_
  refine ax_aload_n (pc := 158) C d_Law_law_158 rfl 5 rfl ?_
  refine ax_iload (pc := 159) C d_Law_law_159 1 rfl ?_
  refine ax_iconst (pc := 161) C 1 d_Law_law_161 (by decide +kernel) ?_
  refine ax_iadd (pc := 162) C d_Law_law_162 ?_
  refine ax_nrm (Int32.ofNat (i + 1)) ix_a ?_
  refine ax_sld (pc := 163) C hXb hbl hbA d_Law_law_163 (ix_in (by omega) hL) ?_
  refine ax_nrm (xs (i + 1)) (by rw [ix_n (by omega)]) ?_
  refine ax_aload_n (pc := 164) C d_Law_law_164 rfl 5 rfl ?_
  refine ax_iload (pc := 165) C d_Law_law_165 1 rfl ?_
  refine ax_iconst (pc := 167) C 2 d_Law_law_167 (by decide +kernel) ?_
  refine ax_iadd (pc := 168) C d_Law_law_168 ?_
  refine ax_nrm (Int32.ofNat (i + 2)) ix_a ?_
  refine ax_sld (pc := 169) C hXb hbl hbA d_Law_law_169 (ix_in (by omega) hL) ?_
  refine ax_nrm (xs (i + 2)) (by rw [ix_n (by omega)]) ?_
  refine ax_aload_n (pc := 170) C d_Law_law_170 rfl 5 rfl ?_
  refine ax_iload (pc := 171) C d_Law_law_171 1 rfl ?_
  refine ax_iconst (pc := 173) C 3 d_Law_law_173 (by decide +kernel) ?_
  refine ax_iadd (pc := 174) C d_Law_law_174 ?_
  refine ax_nrm (Int32.ofNat (i + 3)) ix_a ?_
  refine ax_sld (pc := 175) C hXb hbl hbA d_Law_law_175 (ix_in (by omega) hL) ?_
  refine ax_nrm (xs (i + 3)) (by rw [ix_n (by omega)]) ?_
  refine ax_aload_n (pc := 176) C d_Law_law_176 rfl 5 rfl ?_
  refine ax_iload (pc := 177) C d_Law_law_177 1 rfl ?_
  refine ax_iconst (pc := 179) C 4 d_Law_law_179 (by decide +kernel) ?_
  refine ax_iadd (pc := 180) C d_Law_law_180 ?_
  refine ax_nrm (Int32.ofNat (i + 4)) ix_a ?_
  refine ax_sld (pc := 181) C hXb hbl hbA d_Law_law_181 (ix_in (by omega) hL) ?_
  refine ax_nrm (xs (i + 4)) (by rw [ix_n (by omega)]) ?_
  refine ax_aload_n (pc := 182) C d_Law_law_182 rfl 5 rfl ?_
  refine ax_iload (pc := 183) C d_Law_law_183 1 rfl ?_
  refine ax_iconst (pc := 185) C 5 d_Law_law_185 (by decide +kernel) ?_
  refine ax_iadd (pc := 186) C d_Law_law_186 ?_
  refine ax_nrm (Int32.ofNat (i + 5)) ix_a ?_
  refine ax_sld (pc := 187) C hXb hbl hbA d_Law_law_187 (ix_in (by omega) hL) ?_
  refine ax_nrm (xs (i + 5)) (by rw [ix_n (by omega)]) ?_
  refine ax_callVi (pc := 188) C (As := [.int (xs (i + 1)), .int (xs (i + 2)), .int (xs (i + 3)), .int (xs (i + 4)), .int (xs (i + 5))]) (rest := []) (wr := lgO kA o f2 :: W2) hM ml_Law_66 0 (gt_0 (A := M) (B := lgO kA o f2 :: W2) hz) rfl rfl d_Law_law_188 rfl rfl (List.range' 0 M.length) (List.range' M.length (W2.length + 1)) (pk_0 (W := M) (Y := lgO kA o f2 :: W2)) (nd_rg _ _) (pk_e (X := M) (W := lgO kA o f2 :: W2)) (nd_rg _ _) pk_d1 hfr2 hlo2 hc hs (Nat.le_of_ble_eq_true rfl) (fun r2 w2 hw2 => ?_)
  obtain ⟨er2, ew2⟩ := hw2
  rw [er2, ew2]
  refine ax_istore (pc := 191) C d_Law_law_191 (Nat.le_of_ble_eq_true rfl) ([(6, .int rb), (5, .int k), (4, .int (Int32.ofNat i)), (3, .ref o), (2, .ref z), (1, .ref x), (0, .ref b)]) rfl ?_
  refine ax_aload_n (pc := 193) C d_Law_law_193 rfl 4 rfl ?_
  obtain ⟨fz2, hz2⟩ := hz2
  refine ax_callVi (pc := 194) C (As := []) (rest := []) (wr := lgO kA o f2 :: W2) hT ml_Law_67 (W2.length + 1) (gt_e (A := lgO kA o f2 :: W2) hz2) rfl rfl d_Law_law_194 rfl rfl (List.range' (W2.length + 1) M2.length) (List.range' 0 (W2.length + 1)) (pk_e (X := lgO kA o f2 :: W2) (W := M2)) (nd_rg _ _) (pk_0 (W := lgO kA o f2 :: W2) (Y := M2)) (nd_rg _ _) pk_d2 hfr3 hlo3 hc hs (Nat.le_of_ble_eq_true rfl) (fun r3 w3 hw3 => ?_)
  obtain ⟨er3, ew3⟩ := hw3
  rw [er3, ew3]
  refine ax_iload (pc := 197) C d_Law_law_197 1 rfl ?_
  refine ax_icmp_eq (pc := 199) C 204 d_Law_law_199 (by decide) (fun _ => ?_) (fun h => absurd rfl h)
  refine ax_iload (pc := 204) C d_Law_law_204 1 rfl ?_
  refine ax_if_ne (pc := 206) C 221 d_Law_law_206 (by decide) (fun hk1 => ?_) (fun hk0 => ?_)
  · refine ax_goto (pc := 221) C 1012 d_Law_law_221 (by decide) ?_
    refine ax_ls ([(4, .int (Int32.ofNat i)), (3, .ref o), (2, .ref z), (1, .ref x), (0, .ref b)]) [2, 3, 4, 5, 6] rfl ?_
    exact kk f2 W2 hP
  refine ax_aload_n (pc := 209) C d_Law_law_209 rfl 3 rfl ?_
  refine ax_iconst (pc := 210) C 0 d_Law_law_210 (by decide +kernel) ?_
  refine ax_lald (pc := 211) C 0 rfl d_Law_law_211 (by unfold vp_in; decide) ?_
  refine ax_nrmL (Int32.toInt64 rb) (hk hk0 f2 W2 hP) ?_
  refine ax_iload (pc := 212) C d_Law_law_212 0 rfl ?_
  refine ax_i2l (pc := 214) C (Int32.toInt64 rb) d_Law_law_214 rfl ?_
  refine ax_lcmp (pc := 215) C d_Law_law_215 ?_
  refine ax_nrm 0 (lg_0 _) ?_
  refine ax_if_eq (pc := 216) C 221 d_Law_law_216 (by decide) (fun _ => ?_) (fun h => absurd rfl h)
  refine ax_goto (pc := 221) C 1012 d_Law_law_221 (by decide) ?_
  refine ax_ls ([(4, .int (Int32.ofNat i)), (3, .ref o), (2, .ref z), (1, .ref x), (0, .ref b)]) [2, 3, 4, 5, 6] rfl ?_
  exact kk f2 W2 hP
theorem lk_end {p : Program} {e : Env} {s : State} {m : MethodId} {below : List Frame} {meth : Method} {c : Code} {l : Launch} {D : va_G} {kA : Nat → ClassId} {b L : Nat} {xs : Nat → Int32} {o x z : Nat} {f : Nat → Int64} {W M : va_W} {fs fz : List Value} {Q : State → Prop} {R : Room} {cells slots : Nat} (C : ax_C p s m #[Value.ref b] meth c code "ClauseProverLaw" 7 ret D kA (fun q => s.heap.size ≤ q)) (hX : ax_X (fun q => s.heap.size ≤ q) s s.heap) (hXb : va_X b L xs s s.heap) (hbl : b < s.heap.size) (hbA : ¬ s.heap.size ≤ b) {i : Nat} (hi : i + 6 ≤ L) (hL : L ≤ 3072) {fr lo mc ms fr2 lo2 : Nat} {k rb : Int32} {PW : (Nat → Int64) → va_W → Prop} {M2 : va_W} (hW : ax_Mw l D kA y_Law_end b_Law_end 4 [(0, 9, 12, 19)] fr lo mc ms [.ref x, .int (xs (i + 1)), .ref o] (lgO kA o f :: W) (fun r w1 => r = k ∧ ∃ f2 W2, PW f2 W2 ∧ w1 = lgO kA o f2 :: W2)) (hfr : fr + 1 ≤ R.frames) (hlo : 8 + (4 + 11) + lo ≤ R.locals) (hz : M[0]? = some (z, .inr (12, fz))) (hM : ax_Mi l D kA y_MM_end b_MM_end 2 .int fr2 lo2 0 0 [.ref z, .int (xs (i + 1))] M (fun r w1 => r = rb ∧ w1 = M2)) (hfr2 : fr2 + 1 ≤ R.frames) (hlo2 : 8 + (2 + 11) + lo2 ≤ R.locals) (hz2 : ∃ fz2, M2[0]? = some (z, .inr (12, fz2))) (hT : ax_Mi l D kA y_MM_thrown b_MM_thrown 1 .int 1 48 0 0 [.ref z] M2 (fun r w1 => r = k ∧ w1 = M2)) (hk : k = 0 → ∀ f2 W2, PW f2 W2 → f2 (Int32.toNatClampNeg 0) = Int32.toInt64 rb) (hfr3 : 1 + 1 ≤ R.frames) (hlo3 : 8 + (1 + 11) + 48 ≤ R.locals) (hc : cells + mc ≤ R.cells) (hs : slots + ms ≤ R.slots)
    (kk : ∀ f2 W2, PW f2 W2 → AW p l e R s m #[Value.ref b] below meth c D kA (fun q => s.heap.size ≤ q) 7 Q 1012 [(4, .int (Int32.ofNat i)), (3, .ref o), (2, .ref z), (1, .ref x), (0, .ref b)] [] (lgO kA o f2 :: (W2 ++ M2)) (cells + mc) (slots + ms)) : AW p l e R s m #[Value.ref b] below meth c D kA (fun q => s.heap.size ≤ q) 7 Q 224 [(4, .int (Int32.ofNat i)), (3, .ref o), (2, .ref z), (1, .ref x), (0, .ref b)] [] (lgO kA o f :: (W ++ M)) (cells) (slots) := by
  refine ax_aload_n (pc := 224) C d_Law_law_224 rfl 3 rfl ?_
  refine ax_aload_n (pc := 225) C d_Law_law_225 rfl 4 rfl ?_
  refine ax_iload (pc := 226) C d_Law_law_226 0 rfl ?_
  refine ax_iconst (pc := 228) C 1 d_Law_law_228 (by decide +kernel) ?_
  refine ax_iadd (pc := 229) C d_Law_law_229 ?_
  refine ax_nrm (Int32.ofNat (i + 1)) ix_a ?_
  refine ax_sld (pc := 230) C hXb hbl hbA d_Law_law_230 (ix_in (by omega) hL) ?_
  refine ax_nrm (xs (i + 1)) (by rw [ix_n (by omega)]) ?_
  refine ax_aload_n (pc := 231) C d_Law_law_231 rfl 1 rfl ?_
  refine ax_callSw (pc := 232) C hX (As := [.ref x, .int (xs (i + 1)), .ref o]) (rest := []) (wr := M) hW mw_Law_71 d_Law_law_232 rfl rfl (List.range' 0 (W.length + 1)) (List.range' (W.length + 1) M.length) (pk_0 (W := lgO kA o f :: W) (Y := M)) (nd_rg _ _) (pk_e (X := lgO kA o f :: W) (W := M)) (nd_rg _ _) pk_d1 hfr hlo hc hs (Nat.le_of_ble_eq_true rfl) (fun r1 w1 hw1 => ?_)
  obtain ⟨er, f2, W2, hP, ew⟩ := hw1
  rw [er, ew]
  refine ax_istore (pc := 235) C d_Law_law_235 (Nat.le_of_ble_eq_true rfl) ([(5, .int k), (4, .int (Int32.ofNat i)), (3, .ref o), (2, .ref z), (1, .ref x), (0, .ref b)]) rfl ?_
  refine ax_aload_n (pc := 237) C d_Law_law_237 rfl 3 rfl ?_
  refine ax_aload_n (pc := 238) C d_Law_law_238 rfl 5 rfl ?_
  refine ax_iload (pc := 239) C d_Law_law_239 1 rfl ?_
  refine ax_iconst (pc := 241) C 1 d_Law_law_241 (by decide +kernel) ?_
  refine ax_iadd (pc := 242) C d_Law_law_242 ?_
  refine ax_nrm (Int32.ofNat (i + 1)) ix_a ?_
  refine ax_sld (pc := 243) C hXb hbl hbA d_Law_law_243 (ix_in (by omega) hL) ?_
  refine ax_nrm (xs (i + 1)) (by rw [ix_n (by omega)]) ?_
  refine ax_callVi (pc := 244) C (As := [.int (xs (i + 1))]) (rest := []) (wr := lgO kA o f2 :: W2) hM ml_Law_74 0 (gt_0 (A := M) (B := lgO kA o f2 :: W2) hz) rfl rfl d_Law_law_244 rfl rfl (List.range' 0 M.length) (List.range' M.length (W2.length + 1)) (pk_0 (W := M) (Y := lgO kA o f2 :: W2)) (nd_rg _ _) (pk_e (X := M) (W := lgO kA o f2 :: W2)) (nd_rg _ _) pk_d1 hfr2 hlo2 hc hs (Nat.le_of_ble_eq_true rfl) (fun r2 w2 hw2 => ?_)
  obtain ⟨er2, ew2⟩ := hw2
  rw [er2, ew2]
  refine ax_istore (pc := 247) C d_Law_law_247 (Nat.le_of_ble_eq_true rfl) ([(6, .int rb), (5, .int k), (4, .int (Int32.ofNat i)), (3, .ref o), (2, .ref z), (1, .ref x), (0, .ref b)]) rfl ?_
  refine ax_aload_n (pc := 249) C d_Law_law_249 rfl 4 rfl ?_
  obtain ⟨fz2, hz2⟩ := hz2
  refine ax_callVi (pc := 250) C (As := []) (rest := []) (wr := lgO kA o f2 :: W2) hT ml_Law_67 (W2.length + 1) (gt_e (A := lgO kA o f2 :: W2) hz2) rfl rfl d_Law_law_250 rfl rfl (List.range' (W2.length + 1) M2.length) (List.range' 0 (W2.length + 1)) (pk_e (X := lgO kA o f2 :: W2) (W := M2)) (nd_rg _ _) (pk_0 (W := lgO kA o f2 :: W2) (Y := M2)) (nd_rg _ _) pk_d2 hfr3 hlo3 hc hs (Nat.le_of_ble_eq_true rfl) (fun r3 w3 hw3 => ?_)
  obtain ⟨er3, ew3⟩ := hw3
  rw [er3, ew3]
  refine ax_iload (pc := 253) C d_Law_law_253 1 rfl ?_
  refine ax_icmp_eq (pc := 255) C 260 d_Law_law_255 (by decide) (fun _ => ?_) (fun h => absurd rfl h)
  refine ax_iload (pc := 260) C d_Law_law_260 1 rfl ?_
  refine ax_if_ne (pc := 262) C 277 d_Law_law_262 (by decide) (fun hk1 => ?_) (fun hk0 => ?_)
  · refine ax_goto (pc := 277) C 1012 d_Law_law_277 (by decide) ?_
    refine ax_ls ([(4, .int (Int32.ofNat i)), (3, .ref o), (2, .ref z), (1, .ref x), (0, .ref b)]) [2, 3, 4, 5, 6] rfl ?_
    exact kk f2 W2 hP
  refine ax_aload_n (pc := 265) C d_Law_law_265 rfl 3 rfl ?_
  refine ax_iconst (pc := 266) C 0 d_Law_law_266 (by decide +kernel) ?_
  refine ax_lald (pc := 267) C 0 rfl d_Law_law_267 (by unfold vp_in; decide) ?_
  refine ax_nrmL (Int32.toInt64 rb) (hk hk0 f2 W2 hP) ?_
  refine ax_iload (pc := 268) C d_Law_law_268 0 rfl ?_
  refine ax_i2l (pc := 270) C (Int32.toInt64 rb) d_Law_law_270 rfl ?_
  refine ax_lcmp (pc := 271) C d_Law_law_271 ?_
  refine ax_nrm 0 (lg_0 _) ?_
  refine ax_if_eq (pc := 272) C 277 d_Law_law_272 (by decide) (fun _ => ?_) (fun h => absurd rfl h)
  refine ax_goto (pc := 277) C 1012 d_Law_law_277 (by decide) ?_
  refine ax_ls ([(4, .int (Int32.ofNat i)), (3, .ref o), (2, .ref z), (1, .ref x), (0, .ref b)]) [2, 3, 4, 5, 6] rfl ?_
  exact kk f2 W2 hP
theorem lk_read {p : Program} {e : Env} {s : State} {m : MethodId} {below : List Frame} {meth : Method} {c : Code} {l : Launch} {D : va_G} {kA : Nat → ClassId} {b L : Nat} {xs : Nat → Int32} {o x z : Nat} {f : Nat → Int64} {W M : va_W} {fs fz : List Value} {Q : State → Prop} {R : Room} {cells slots : Nat} (C : ax_C p s m #[Value.ref b] meth c code "ClauseProverLaw" 7 ret D kA (fun q => s.heap.size ≤ q)) (hX : ax_X (fun q => s.heap.size ≤ q) s s.heap) (hXb : va_X b L xs s s.heap) (hbl : b < s.heap.size) (hbA : ¬ s.heap.size ≤ b) {i : Nat} (hi : i + 6 ≤ L) (hL : L ≤ 3072) {fr lo mc ms fr2 lo2 mc2 ms2 : Nat} {k rb : Int32} {PW : va_W → Prop} {M2 : va_W} (hW : ax_Mi l D kA y_CP_read b_CP_read 2 .int fr lo mc ms [.ref x] W (fun r w1 => r = k ∧ PW w1)) (hx : W[0]? = some (x, .inr (11, fs))) (hfr : fr + 1 ≤ R.frames) (hlo : 8 + (2 + 11) + lo ≤ R.locals) (hz : M[0]? = some (z, .inr (12, fz))) (hM : ax_Mw l D kA y_MM_read b_MM_read 2 [(139, 147, 150, 426)] fr2 lo2 mc2 ms2 [.ref z] M (fun r w1 => r = rb ∧ w1 = M2)) (hfr2 : fr2 + 1 ≤ R.frames) (hlo2 : 8 + (2 + 11) + lo2 ≤ R.locals) (hrb : k = rb) (hc : cells + mc ≤ R.cells) (hs : slots + ms ≤ R.slots) (hc2 : cells + mc + mc2 ≤ R.cells) (hs2 : slots + ms + ms2 ≤ R.slots)
    (kk : ∀ W2, PW W2 → AW p l e R s m #[Value.ref b] below meth c D kA (fun q => s.heap.size ≤ q) 7 Q 1012 [(4, .int (Int32.ofNat i)), (3, .ref o), (2, .ref z), (1, .ref x), (0, .ref b)] [] (lgO kA o f :: (W2 ++ M2)) (cells + mc + mc2) (slots + ms + ms2)) : AW p l e R s m #[Value.ref b] below meth c D kA (fun q => s.heap.size ≤ q) 7 Q 280 [(4, .int (Int32.ofNat i)), (3, .ref o), (2, .ref z), (1, .ref x), (0, .ref b)] [] (lgO kA o f :: (W ++ M)) (cells) (slots) := by
  refine ax_aload_n (pc := 280) C d_Law_law_280 rfl 3 rfl ?_
  refine ax_callVi (pc := 281) C (As := []) (rest := []) (wr := lgO kA o f :: M) hW ml_Law_75 1 (gt_0 (A := W) (B := M) hx) rfl rfl d_Law_law_281 rfl rfl (List.range' 1 W.length) (0 :: List.range' (W.length + 1) M.length) (pk_rg (X := [lgO kA o f]) (W := W) (Y := M)) (nd_rg _ _) (pk_o (W := W) (M := M)) pk_on pk_od hfr hlo hc hs (Nat.le_of_ble_eq_true rfl) (fun r1 w1 hw1 => ?_)
  obtain ⟨er, hP⟩ := hw1
  rw [er]
  refine ax_aload_n (pc := 284) C d_Law_law_284 rfl 2 rfl ?_
  refine ax_callVw (pc := 285) C hX (As := []) (rest := [.int k]) (wr := lgO kA o f :: w1) hM mw_Law_78 1 (gt_0 (A := M) (B := w1) hz) rfl rfl d_Law_law_285 rfl rfl (List.range' 1 M.length) (0 :: List.range' (M.length + 1) w1.length) (pk_rg (X := [lgO kA o f]) (W := M) (Y := w1)) (nd_rg _ _) (pk_o (W := M) (M := w1)) pk_on pk_od hfr2 hlo2 hc2 hs2 (Nat.le_of_ble_eq_true rfl) (fun r2 w2 hw2 => ?_)
  obtain ⟨er2, ew2⟩ := hw2
  rw [er2, ew2]
  refine ax_icmp_eq (pc := 288) C 1012 d_Law_law_288 (by decide) (fun _ => ?_) (fun h => absurd hrb h)
  exact kk w1 hP
theorem lk_fault {p : Program} {e : Env} {s : State} {m : MethodId} {below : List Frame} {meth : Method} {c : Code} {l : Launch} {D : va_G} {kA : Nat → ClassId} {b L : Nat} {xs : Nat → Int32} {o x z : Nat} {f : Nat → Int64} {W M : va_W} {fs fz : List Value} {Q : State → Prop} {R : Room} {cells slots : Nat} (C : ax_C p s m #[Value.ref b] meth c code "ClauseProverLaw" 7 ret D kA (fun q => s.heap.size ≤ q)) (hX : ax_X (fun q => s.heap.size ≤ q) s s.heap) (hXb : va_X b L xs s s.heap) (hbl : b < s.heap.size) (hbA : ¬ s.heap.size ≤ b) {i : Nat} (hi : i + 6 ≤ L) (hL : L ≤ 3072) {fr lo mc ms fr2 lo2 mc2 ms2 : Nat} {k rb : Int32} {PW : va_W → Prop} {M2 : va_W} (hW : ax_Mi l D kA y_CP_fault b_CP_fault 2 .int fr lo mc ms [.ref x, .int (xs (i + 1))] W (fun r w1 => r = k ∧ PW w1)) (hx : W[0]? = some (x, .inr (11, fs))) (hfr : fr + 1 ≤ R.frames) (hlo : 8 + (2 + 11) + lo ≤ R.locals) (hz : M[0]? = some (z, .inr (12, fz))) (hM : ax_Mi l D kA y_MM_fault b_MM_fault 2 .int fr2 lo2 mc2 ms2 [.ref z, .int (xs (i + 1))] M (fun r w1 => r = rb ∧ w1 = M2)) (hfr2 : fr2 + 1 ≤ R.frames) (hlo2 : 8 + (2 + 11) + lo2 ≤ R.locals) (hrb : k = rb) (hc : cells + mc ≤ R.cells) (hs : slots + ms ≤ R.slots) (hc2 : cells + mc + mc2 ≤ R.cells) (hs2 : slots + ms + ms2 ≤ R.slots)
    (kk : ∀ W2, PW W2 → AW p l e R s m #[Value.ref b] below meth c D kA (fun q => s.heap.size ≤ q) 7 Q 1012 [(4, .int (Int32.ofNat i)), (3, .ref o), (2, .ref z), (1, .ref x), (0, .ref b)] [] (lgO kA o f :: (W2 ++ M2)) (cells + mc + mc2) (slots + ms + ms2)) : AW p l e R s m #[Value.ref b] below meth c D kA (fun q => s.heap.size ≤ q) 7 Q 293 [(4, .int (Int32.ofNat i)), (3, .ref o), (2, .ref z), (1, .ref x), (0, .ref b)] [] (lgO kA o f :: (W ++ M)) (cells) (slots) := by
  refine ax_aload_n (pc := 293) C d_Law_law_293 rfl 3 rfl ?_
  refine ax_aload_n (pc := 294) C d_Law_law_294 rfl 4 rfl ?_
  refine ax_iload (pc := 295) C d_Law_law_295 0 rfl ?_
  refine ax_iconst (pc := 297) C 1 d_Law_law_297 (by decide +kernel) ?_
  refine ax_iadd (pc := 298) C d_Law_law_298 ?_
  refine ax_nrm (Int32.ofNat (i + 1)) ix_a ?_
  refine ax_sld (pc := 299) C hXb hbl hbA d_Law_law_299 (ix_in (by omega) hL) ?_
  refine ax_nrm (xs (i + 1)) (by rw [ix_n (by omega)]) ?_
  refine ax_callVi (pc := 300) C (As := [.int (xs (i + 1))]) (rest := []) (wr := lgO kA o f :: M) hW ml_Law_79 1 (gt_0 (A := W) (B := M) hx) rfl rfl d_Law_law_300 rfl rfl (List.range' 1 W.length) (0 :: List.range' (W.length + 1) M.length) (pk_rg (X := [lgO kA o f]) (W := W) (Y := M)) (nd_rg _ _) (pk_o (W := W) (M := M)) pk_on pk_od hfr hlo hc hs (Nat.le_of_ble_eq_true rfl) (fun r1 w1 hw1 => ?_)
  obtain ⟨er, hP⟩ := hw1
  rw [er]
  refine ax_aload_n (pc := 303) C d_Law_law_303 rfl 2 rfl ?_
  refine ax_aload_n (pc := 304) C d_Law_law_304 rfl 4 rfl ?_
  refine ax_iload (pc := 305) C d_Law_law_305 0 rfl ?_
  refine ax_iconst (pc := 307) C 1 d_Law_law_307 (by decide +kernel) ?_
  refine ax_iadd (pc := 308) C d_Law_law_308 ?_
  refine ax_nrm (Int32.ofNat (i + 1)) ix_a ?_
  refine ax_sld (pc := 309) C hXb hbl hbA d_Law_law_309 (ix_in (by omega) hL) ?_
  refine ax_nrm (xs (i + 1)) (by rw [ix_n (by omega)]) ?_
  refine ax_callVi (pc := 310) C (As := [.int (xs (i + 1))]) (rest := [.int k]) (wr := lgO kA o f :: w1) hM ml_Law_82 1 (gt_0 (A := M) (B := w1) hz) rfl rfl d_Law_law_310 rfl rfl (List.range' 1 M.length) (0 :: List.range' (M.length + 1) w1.length) (pk_rg (X := [lgO kA o f]) (W := M) (Y := w1)) (nd_rg _ _) (pk_o (W := M) (M := w1)) pk_on pk_od hfr2 hlo2 hc2 hs2 (Nat.le_of_ble_eq_true rfl) (fun r2 w2 hw2 => ?_)
  obtain ⟨er2, ew2⟩ := hw2
  rw [er2, ew2]
  refine ax_icmp_eq (pc := 313) C 1012 d_Law_law_313 (by decide) (fun _ => ?_) (fun h => absurd hrb h)
  exact kk w1 hP
theorem lk_run {p : Program} {e : Env} {s : State} {m : MethodId} {below : List Frame} {meth : Method} {c : Code} {l : Launch} {D : va_G} {kA : Nat → ClassId} {b L : Nat} {xs : Nat → Int32} {o x z : Nat} {f : Nat → Int64} {W M : va_W} {fs fz : List Value} {Q : State → Prop} {R : Room} {cells slots : Nat} (C : ax_C p s m #[Value.ref b] meth c code "ClauseProverLaw" 7 ret D kA (fun q => s.heap.size ≤ q)) (hX : ax_X (fun q => s.heap.size ≤ q) s s.heap) (hXb : va_X b L xs s s.heap) (hbl : b < s.heap.size) (hbA : ¬ s.heap.size ≤ b) {i : Nat} (hi : i + 6 ≤ L) (hL : L ≤ 3072) {fr lo mc ms fr2 lo2 : Nat} {k rb : Int32} {PW : (Nat → Int64) → va_W → Prop} {M2 : va_W} (hW : ax_Mw l D kA y_Law_run b_Law_run 4 [(0, 9, 12, 19)] fr lo mc ms [.ref x, .int (xs (i + 1)), .ref o] (lgO kA o f :: W) (fun r w1 => r = k ∧ ∃ f2 W2, PW f2 W2 ∧ w1 = lgO kA o f2 :: W2)) (hfr : fr + 1 ≤ R.frames) (hlo : 8 + (4 + 11) + lo ≤ R.locals) (hz : M[0]? = some (z, .inr (12, fz))) (hM : ax_Mi l D kA y_MM_run b_MM_run 3 .int fr2 lo2 0 0 [.ref z, .int (xs (i + 1))] M (fun r w1 => r = rb ∧ w1 = M2)) (hfr2 : fr2 + 1 ≤ R.frames) (hlo2 : 8 + (3 + 11) + lo2 ≤ R.locals) (hz2 : ∃ fz2, M2[0]? = some (z, .inr (12, fz2))) (hT : ax_Mi l D kA y_MM_thrown b_MM_thrown 1 .int 1 48 0 0 [.ref z] M2 (fun r w1 => r = k ∧ w1 = M2)) (hk : k = 0 → ∀ f2 W2, PW f2 W2 → f2 (Int32.toNatClampNeg 0) = Int32.toInt64 rb) (hfr3 : 1 + 1 ≤ R.frames) (hlo3 : 8 + (1 + 11) + 48 ≤ R.locals) (hc : cells + mc ≤ R.cells) (hs : slots + ms ≤ R.slots)
    (kk : ∀ f2 W2, PW f2 W2 → AW p l e R s m #[Value.ref b] below meth c D kA (fun q => s.heap.size ≤ q) 7 Q 1012 [(4, .int (Int32.ofNat i)), (3, .ref o), (2, .ref z), (1, .ref x), (0, .ref b)] [] (lgO kA o f2 :: (W2 ++ M2)) (cells + mc) (slots + ms)) : AW p l e R s m #[Value.ref b] below meth c D kA (fun q => s.heap.size ≤ q) 7 Q 318 [(4, .int (Int32.ofNat i)), (3, .ref o), (2, .ref z), (1, .ref x), (0, .ref b)] [] (lgO kA o f :: (W ++ M)) (cells) (slots) := by
  refine ax_aload_n (pc := 318) C d_Law_law_318 rfl 3 rfl ?_
  refine ax_aload_n (pc := 319) C d_Law_law_319 rfl 4 rfl ?_
  refine ax_iload (pc := 320) C d_Law_law_320 0 rfl ?_
  refine ax_iconst (pc := 322) C 1 d_Law_law_322 (by decide +kernel) ?_
  refine ax_iadd (pc := 323) C d_Law_law_323 ?_
  refine ax_nrm (Int32.ofNat (i + 1)) ix_a ?_
  refine ax_sld (pc := 324) C hXb hbl hbA d_Law_law_324 (ix_in (by omega) hL) ?_
  refine ax_nrm (xs (i + 1)) (by rw [ix_n (by omega)]) ?_
  refine ax_aload_n (pc := 325) C d_Law_law_325 rfl 1 rfl ?_
  refine ax_callSw (pc := 326) C hX (As := [.ref x, .int (xs (i + 1)), .ref o]) (rest := []) (wr := M) hW mw_Law_83 d_Law_law_326 rfl rfl (List.range' 0 (W.length + 1)) (List.range' (W.length + 1) M.length) (pk_0 (W := lgO kA o f :: W) (Y := M)) (nd_rg _ _) (pk_e (X := lgO kA o f :: W) (W := M)) (nd_rg _ _) pk_d1 hfr hlo hc hs (Nat.le_of_ble_eq_true rfl) (fun r1 w1 hw1 => ?_)
  obtain ⟨er, f2, W2, hP, ew⟩ := hw1
  rw [er, ew]
  refine ax_istore (pc := 329) C d_Law_law_329 (Nat.le_of_ble_eq_true rfl) ([(5, .int k), (4, .int (Int32.ofNat i)), (3, .ref o), (2, .ref z), (1, .ref x), (0, .ref b)]) rfl ?_
  refine ax_aload_n (pc := 331) C d_Law_law_331 rfl 3 rfl ?_
  refine ax_aload_n (pc := 332) C d_Law_law_332 rfl 5 rfl ?_
  refine ax_iload (pc := 333) C d_Law_law_333 1 rfl ?_
  refine ax_iconst (pc := 335) C 1 d_Law_law_335 (by decide +kernel) ?_
  refine ax_iadd (pc := 336) C d_Law_law_336 ?_
  refine ax_nrm (Int32.ofNat (i + 1)) ix_a ?_
  refine ax_sld (pc := 337) C hXb hbl hbA d_Law_law_337 (ix_in (by omega) hL) ?_
  refine ax_nrm (xs (i + 1)) (by rw [ix_n (by omega)]) ?_
  refine ax_callVi (pc := 338) C (As := [.int (xs (i + 1))]) (rest := []) (wr := lgO kA o f2 :: W2) hM ml_Law_85 0 (gt_0 (A := M) (B := lgO kA o f2 :: W2) hz) rfl rfl d_Law_law_338 rfl rfl (List.range' 0 M.length) (List.range' M.length (W2.length + 1)) (pk_0 (W := M) (Y := lgO kA o f2 :: W2)) (nd_rg _ _) (pk_e (X := M) (W := lgO kA o f2 :: W2)) (nd_rg _ _) pk_d1 hfr2 hlo2 hc hs (Nat.le_of_ble_eq_true rfl) (fun r2 w2 hw2 => ?_)
  obtain ⟨er2, ew2⟩ := hw2
  rw [er2, ew2]
  refine ax_istore (pc := 341) C d_Law_law_341 (Nat.le_of_ble_eq_true rfl) ([(6, .int rb), (5, .int k), (4, .int (Int32.ofNat i)), (3, .ref o), (2, .ref z), (1, .ref x), (0, .ref b)]) rfl ?_
  refine ax_aload_n (pc := 343) C d_Law_law_343 rfl 4 rfl ?_
  obtain ⟨fz2, hz2⟩ := hz2
  refine ax_callVi (pc := 344) C (As := []) (rest := []) (wr := lgO kA o f2 :: W2) hT ml_Law_67 (W2.length + 1) (gt_e (A := lgO kA o f2 :: W2) hz2) rfl rfl d_Law_law_344 rfl rfl (List.range' (W2.length + 1) M2.length) (List.range' 0 (W2.length + 1)) (pk_e (X := lgO kA o f2 :: W2) (W := M2)) (nd_rg _ _) (pk_0 (W := lgO kA o f2 :: W2) (Y := M2)) (nd_rg _ _) pk_d2 hfr3 hlo3 hc hs (Nat.le_of_ble_eq_true rfl) (fun r3 w3 hw3 => ?_)
  obtain ⟨er3, ew3⟩ := hw3
  rw [er3, ew3]
  refine ax_iload (pc := 347) C d_Law_law_347 1 rfl ?_
  refine ax_icmp_eq (pc := 349) C 354 d_Law_law_349 (by decide) (fun _ => ?_) (fun h => absurd rfl h)
  refine ax_iload (pc := 354) C d_Law_law_354 1 rfl ?_
  refine ax_if_ne (pc := 356) C 371 d_Law_law_356 (by decide) (fun hk1 => ?_) (fun hk0 => ?_)
  · refine ax_goto (pc := 371) C 1012 d_Law_law_371 (by decide) ?_
    refine ax_ls ([(4, .int (Int32.ofNat i)), (3, .ref o), (2, .ref z), (1, .ref x), (0, .ref b)]) [2, 3, 4, 5, 6] rfl ?_
    exact kk f2 W2 hP
  refine ax_aload_n (pc := 359) C d_Law_law_359 rfl 3 rfl ?_
  refine ax_iconst (pc := 360) C 0 d_Law_law_360 (by decide +kernel) ?_
  refine ax_lald (pc := 361) C 0 rfl d_Law_law_361 (by unfold vp_in; decide) ?_
  refine ax_nrmL (Int32.toInt64 rb) (hk hk0 f2 W2 hP) ?_
  refine ax_iload (pc := 362) C d_Law_law_362 0 rfl ?_
  refine ax_i2l (pc := 364) C (Int32.toInt64 rb) d_Law_law_364 rfl ?_
  refine ax_lcmp (pc := 365) C d_Law_law_365 ?_
  refine ax_nrm 0 (lg_0 _) ?_
  refine ax_if_eq (pc := 366) C 371 d_Law_law_366 (by decide) (fun _ => ?_) (fun h => absurd rfl h)
  refine ax_goto (pc := 371) C 1012 d_Law_law_371 (by decide) ?_
  refine ax_ls ([(4, .int (Int32.ofNat i)), (3, .ref o), (2, .ref z), (1, .ref x), (0, .ref b)]) [2, 3, 4, 5, 6] rfl ?_
  exact kk f2 W2 hP
theorem lk_clause {p : Program} {e : Env} {s : State} {m : MethodId} {below : List Frame} {meth : Method} {c : Code} {l : Launch} {D : va_G} {kA : Nat → ClassId} {b L : Nat} {xs : Nat → Int32} {o x z : Nat} {f : Nat → Int64} {W M : va_W} {fs fz : List Value} {Q : State → Prop} {R : Room} {cells slots : Nat} (C : ax_C p s m #[Value.ref b] meth c code "ClauseProverLaw" 7 ret D kA (fun q => s.heap.size ≤ q)) (hX : ax_X (fun q => s.heap.size ≤ q) s s.heap) (hXb : va_X b L xs s s.heap) (hbl : b < s.heap.size) (hbA : ¬ s.heap.size ≤ b) {i : Nat} (hi : i + 6 ≤ L) (hL : L ≤ 3072) {fr lo mc ms fr2 lo2 : Nat} {k rb : Int32} {PW : (Nat → Int64) → va_W → Prop} {M2 : va_W} (hW : ax_Mw l D kA y_Law_clause b_Law_clause 5 [(0, 10, 13, 28), (0, 10, 17, 19)] fr lo mc ms [.ref x, .int (xs (i + 1)), .int (xs (i + 2)), .ref o] (lgO kA o f :: W) (fun r w1 => r = k ∧ ∃ f2 W2, PW f2 W2 ∧ w1 = lgO kA o f2 :: W2)) (hfr : fr + 1 ≤ R.frames) (hlo : 8 + (5 + 11) + lo ≤ R.locals) (hz : M[0]? = some (z, .inr (12, fz))) (hM : ax_Mi l D kA y_MM_clause b_MM_clause 3 .int fr2 lo2 0 0 [.ref z, .int (xs (i + 1)), .int (xs (i + 2))] M (fun r w1 => r = rb ∧ w1 = M2)) (hfr2 : fr2 + 1 ≤ R.frames) (hlo2 : 8 + (3 + 11) + lo2 ≤ R.locals) (hz2 : ∃ fz2, M2[0]? = some (z, .inr (12, fz2))) (hT : ax_Mi l D kA y_MM_thrown b_MM_thrown 1 .int 1 48 0 0 [.ref z] M2 (fun r w1 => r = k ∧ w1 = M2)) (hk : k = 0 → ∀ f2 W2, PW f2 W2 → f2 (Int32.toNatClampNeg 0) = Int32.toInt64 rb) (hfr3 : 1 + 1 ≤ R.frames) (hlo3 : 8 + (1 + 11) + 48 ≤ R.locals) (hc : cells + mc ≤ R.cells) (hs : slots + ms ≤ R.slots)
    (kk : ∀ f2 W2, PW f2 W2 → AW p l e R s m #[Value.ref b] below meth c D kA (fun q => s.heap.size ≤ q) 7 Q 1012 [(4, .int (Int32.ofNat i)), (3, .ref o), (2, .ref z), (1, .ref x), (0, .ref b)] [] (lgO kA o f2 :: (W2 ++ M2)) (cells + mc) (slots + ms)) : AW p l e R s m #[Value.ref b] below meth c D kA (fun q => s.heap.size ≤ q) 7 Q 374 [(4, .int (Int32.ofNat i)), (3, .ref o), (2, .ref z), (1, .ref x), (0, .ref b)] [] (lgO kA o f :: (W ++ M)) (cells) (slots) := by
  refine ax_aload_n (pc := 374) C d_Law_law_374 rfl 3 rfl ?_
  refine ax_aload_n (pc := 375) C d_Law_law_375 rfl 4 rfl ?_
  refine ax_iload (pc := 376) C d_Law_law_376 0 rfl ?_
  refine ax_iconst (pc := 378) C 1 d_Law_law_378 (by decide +kernel) ?_
  refine ax_iadd (pc := 379) C d_Law_law_379 ?_
  refine ax_nrm (Int32.ofNat (i + 1)) ix_a ?_
  refine ax_sld (pc := 380) C hXb hbl hbA d_Law_law_380 (ix_in (by omega) hL) ?_
  refine ax_nrm (xs (i + 1)) (by rw [ix_n (by omega)]) ?_
  refine ax_aload_n (pc := 381) C d_Law_law_381 rfl 4 rfl ?_
  refine ax_iload (pc := 382) C d_Law_law_382 0 rfl ?_
  refine ax_iconst (pc := 384) C 2 d_Law_law_384 (by decide +kernel) ?_
  refine ax_iadd (pc := 385) C d_Law_law_385 ?_
  refine ax_nrm (Int32.ofNat (i + 2)) ix_a ?_
  refine ax_sld (pc := 386) C hXb hbl hbA d_Law_law_386 (ix_in (by omega) hL) ?_
  refine ax_nrm (xs (i + 2)) (by rw [ix_n (by omega)]) ?_
  refine ax_aload_n (pc := 387) C d_Law_law_387 rfl 1 rfl ?_
  refine ax_callSw (pc := 388) C hX (As := [.ref x, .int (xs (i + 1)), .int (xs (i + 2)), .ref o]) (rest := []) (wr := M) hW mw_Law_86 d_Law_law_388 rfl rfl (List.range' 0 (W.length + 1)) (List.range' (W.length + 1) M.length) (pk_0 (W := lgO kA o f :: W) (Y := M)) (nd_rg _ _) (pk_e (X := lgO kA o f :: W) (W := M)) (nd_rg _ _) pk_d1 hfr hlo hc hs (Nat.le_of_ble_eq_true rfl) (fun r1 w1 hw1 => ?_)
  obtain ⟨er, f2, W2, hP, ew⟩ := hw1
  rw [er, ew]
  refine ax_istore (pc := 391) C d_Law_law_391 (Nat.le_of_ble_eq_true rfl) ([(5, .int k), (4, .int (Int32.ofNat i)), (3, .ref o), (2, .ref z), (1, .ref x), (0, .ref b)]) rfl ?_
  refine ax_aload_n (pc := 393) C d_Law_law_393 rfl 3 rfl ?_
  refine ax_aload_n (pc := 394) C d_Law_law_394 rfl 5 rfl ?_
  refine ax_iload (pc := 395) C d_Law_law_395 1 rfl ?_
  refine ax_iconst (pc := 397) C 1 d_Law_law_397 (by decide +kernel) ?_
  refine ax_iadd (pc := 398) C d_Law_law_398 ?_
  refine ax_nrm (Int32.ofNat (i + 1)) ix_a ?_
  refine ax_sld (pc := 399) C hXb hbl hbA d_Law_law_399 (ix_in (by omega) hL) ?_
  refine ax_nrm (xs (i + 1)) (by rw [ix_n (by omega)]) ?_
  refine ax_aload_n (pc := 400) C d_Law_law_400 rfl 5 rfl ?_
  refine ax_iload (pc := 401) C d_Law_law_401 1 rfl ?_
  refine ax_iconst (pc := 403) C 2 d_Law_law_403 (by decide +kernel) ?_
  refine ax_iadd (pc := 404) C d_Law_law_404 ?_
  refine ax_nrm (Int32.ofNat (i + 2)) ix_a ?_
  refine ax_sld (pc := 405) C hXb hbl hbA d_Law_law_405 (ix_in (by omega) hL) ?_
  refine ax_nrm (xs (i + 2)) (by rw [ix_n (by omega)]) ?_
  refine ax_callVi (pc := 406) C (As := [.int (xs (i + 1)), .int (xs (i + 2))]) (rest := []) (wr := lgO kA o f2 :: W2) hM ml_Law_89 0 (gt_0 (A := M) (B := lgO kA o f2 :: W2) hz) rfl rfl d_Law_law_406 rfl rfl (List.range' 0 M.length) (List.range' M.length (W2.length + 1)) (pk_0 (W := M) (Y := lgO kA o f2 :: W2)) (nd_rg _ _) (pk_e (X := M) (W := lgO kA o f2 :: W2)) (nd_rg _ _) pk_d1 hfr2 hlo2 hc hs (Nat.le_of_ble_eq_true rfl) (fun r2 w2 hw2 => ?_)
  obtain ⟨er2, ew2⟩ := hw2
  rw [er2, ew2]
  refine ax_istore (pc := 409) C d_Law_law_409 (Nat.le_of_ble_eq_true rfl) ([(6, .int rb), (5, .int k), (4, .int (Int32.ofNat i)), (3, .ref o), (2, .ref z), (1, .ref x), (0, .ref b)]) rfl ?_
  refine ax_aload_n (pc := 411) C d_Law_law_411 rfl 4 rfl ?_
  obtain ⟨fz2, hz2⟩ := hz2
  refine ax_callVi (pc := 412) C (As := []) (rest := []) (wr := lgO kA o f2 :: W2) hT ml_Law_67 (W2.length + 1) (gt_e (A := lgO kA o f2 :: W2) hz2) rfl rfl d_Law_law_412 rfl rfl (List.range' (W2.length + 1) M2.length) (List.range' 0 (W2.length + 1)) (pk_e (X := lgO kA o f2 :: W2) (W := M2)) (nd_rg _ _) (pk_0 (W := lgO kA o f2 :: W2) (Y := M2)) (nd_rg _ _) pk_d2 hfr3 hlo3 hc hs (Nat.le_of_ble_eq_true rfl) (fun r3 w3 hw3 => ?_)
  obtain ⟨er3, ew3⟩ := hw3
  rw [er3, ew3]
  refine ax_iload (pc := 415) C d_Law_law_415 1 rfl ?_
  refine ax_icmp_eq (pc := 417) C 422 d_Law_law_417 (by decide) (fun _ => ?_) (fun h => absurd rfl h)
  refine ax_iload (pc := 422) C d_Law_law_422 1 rfl ?_
  refine ax_if_ne (pc := 424) C 439 d_Law_law_424 (by decide) (fun hk1 => ?_) (fun hk0 => ?_)
  · refine ax_goto (pc := 439) C 1012 d_Law_law_439 (by decide) ?_
    refine ax_ls ([(4, .int (Int32.ofNat i)), (3, .ref o), (2, .ref z), (1, .ref x), (0, .ref b)]) [2, 3, 4, 5, 6] rfl ?_
    exact kk f2 W2 hP
  refine ax_aload_n (pc := 427) C d_Law_law_427 rfl 3 rfl ?_
  refine ax_iconst (pc := 428) C 0 d_Law_law_428 (by decide +kernel) ?_
  refine ax_lald (pc := 429) C 0 rfl d_Law_law_429 (by unfold vp_in; decide) ?_
  refine ax_nrmL (Int32.toInt64 rb) (hk hk0 f2 W2 hP) ?_
  refine ax_iload (pc := 430) C d_Law_law_430 0 rfl ?_
  refine ax_i2l (pc := 432) C (Int32.toInt64 rb) d_Law_law_432 rfl ?_
  refine ax_lcmp (pc := 433) C d_Law_law_433 ?_
  refine ax_nrm 0 (lg_0 _) ?_
  refine ax_if_eq (pc := 434) C 439 d_Law_law_434 (by decide) (fun _ => ?_) (fun h => absurd rfl h)
  refine ax_goto (pc := 439) C 1012 d_Law_law_439 (by decide) ?_
  refine ax_ls ([(4, .int (Int32.ofNat i)), (3, .ref o), (2, .ref z), (1, .ref x), (0, .ref b)]) [2, 3, 4, 5, 6] rfl ?_
  exact kk f2 W2 hP
theorem lk_rewrote {p : Program} {e : Env} {s : State} {m : MethodId} {below : List Frame} {meth : Method} {c : Code} {l : Launch} {D : va_G} {kA : Nat → ClassId} {b L : Nat} {xs : Nat → Int32} {o x z : Nat} {f : Nat → Int64} {W M : va_W} {fs fz : List Value} {Q : State → Prop} {R : Room} {cells slots : Nat} (C : ax_C p s m #[Value.ref b] meth c code "ClauseProverLaw" 7 ret D kA (fun q => s.heap.size ≤ q)) (hX : ax_X (fun q => s.heap.size ≤ q) s s.heap) (hXb : va_X b L xs s s.heap) (hbl : b < s.heap.size) (hbA : ¬ s.heap.size ≤ b) {i : Nat} (hi : i + 6 ≤ L) (hL : L ≤ 3072) {fr lo mc ms fr2 lo2 : Nat} {k rb : Int32} {PW : (Nat → Int64) → va_W → Prop} {M2 : va_W} (hW : ax_Mw l D kA y_Law_rewrote b_Law_rewrote 5 [(0, 10, 13, 28)] fr lo mc ms [.ref x, .int (xs (i + 1)), .int (xs (i + 2)), .ref o] (lgO kA o f :: W) (fun r w1 => r = k ∧ ∃ f2 W2, PW f2 W2 ∧ w1 = lgO kA o f2 :: W2)) (hfr : fr + 1 ≤ R.frames) (hlo : 8 + (5 + 11) + lo ≤ R.locals) (hz : M[0]? = some (z, .inr (12, fz))) (hM : ax_Mi l D kA y_MM_rewrote b_MM_rewrote 3 .int fr2 lo2 0 0 [.ref z, .int (xs (i + 1)), .int (xs (i + 2))] M (fun r w1 => r = rb ∧ w1 = M2)) (hfr2 : fr2 + 1 ≤ R.frames) (hlo2 : 8 + (3 + 11) + lo2 ≤ R.locals) (hz2 : ∃ fz2, M2[0]? = some (z, .inr (12, fz2))) (hT : ax_Mi l D kA y_MM_thrown b_MM_thrown 1 .int 1 48 0 0 [.ref z] M2 (fun r w1 => r = k ∧ w1 = M2)) (hk : k = 0 → ∀ f2 W2, PW f2 W2 → f2 (Int32.toNatClampNeg 0) = Int32.toInt64 rb) (hfr3 : 1 + 1 ≤ R.frames) (hlo3 : 8 + (1 + 11) + 48 ≤ R.locals) (hc : cells + mc ≤ R.cells) (hs : slots + ms ≤ R.slots)
    (kk : ∀ f2 W2, PW f2 W2 → AW p l e R s m #[Value.ref b] below meth c D kA (fun q => s.heap.size ≤ q) 7 Q 1012 [(4, .int (Int32.ofNat i)), (3, .ref o), (2, .ref z), (1, .ref x), (0, .ref b)] [] (lgO kA o f2 :: (W2 ++ M2)) (cells + mc) (slots + ms)) : AW p l e R s m #[Value.ref b] below meth c D kA (fun q => s.heap.size ≤ q) 7 Q 442 [(4, .int (Int32.ofNat i)), (3, .ref o), (2, .ref z), (1, .ref x), (0, .ref b)] [] (lgO kA o f :: (W ++ M)) (cells) (slots) := by
  refine ax_aload_n (pc := 442) C d_Law_law_442 rfl 3 rfl ?_
  refine ax_aload_n (pc := 443) C d_Law_law_443 rfl 4 rfl ?_
  refine ax_iload (pc := 444) C d_Law_law_444 0 rfl ?_
  refine ax_iconst (pc := 446) C 1 d_Law_law_446 (by decide +kernel) ?_
  refine ax_iadd (pc := 447) C d_Law_law_447 ?_
  refine ax_nrm (Int32.ofNat (i + 1)) ix_a ?_
  refine ax_sld (pc := 448) C hXb hbl hbA d_Law_law_448 (ix_in (by omega) hL) ?_
  refine ax_nrm (xs (i + 1)) (by rw [ix_n (by omega)]) ?_
  refine ax_aload_n (pc := 449) C d_Law_law_449 rfl 4 rfl ?_
  refine ax_iload (pc := 450) C d_Law_law_450 0 rfl ?_
  refine ax_iconst (pc := 452) C 2 d_Law_law_452 (by decide +kernel) ?_
  refine ax_iadd (pc := 453) C d_Law_law_453 ?_
  refine ax_nrm (Int32.ofNat (i + 2)) ix_a ?_
  refine ax_sld (pc := 454) C hXb hbl hbA d_Law_law_454 (ix_in (by omega) hL) ?_
  refine ax_nrm (xs (i + 2)) (by rw [ix_n (by omega)]) ?_
  refine ax_aload_n (pc := 455) C d_Law_law_455 rfl 1 rfl ?_
  refine ax_callSw (pc := 456) C hX (As := [.ref x, .int (xs (i + 1)), .int (xs (i + 2)), .ref o]) (rest := []) (wr := M) hW mw_Law_90 d_Law_law_456 rfl rfl (List.range' 0 (W.length + 1)) (List.range' (W.length + 1) M.length) (pk_0 (W := lgO kA o f :: W) (Y := M)) (nd_rg _ _) (pk_e (X := lgO kA o f :: W) (W := M)) (nd_rg _ _) pk_d1 hfr hlo hc hs (Nat.le_of_ble_eq_true rfl) (fun r1 w1 hw1 => ?_)
  obtain ⟨er, f2, W2, hP, ew⟩ := hw1
  rw [er, ew]
  refine ax_istore (pc := 459) C d_Law_law_459 (Nat.le_of_ble_eq_true rfl) ([(5, .int k), (4, .int (Int32.ofNat i)), (3, .ref o), (2, .ref z), (1, .ref x), (0, .ref b)]) rfl ?_
  refine ax_aload_n (pc := 461) C d_Law_law_461 rfl 3 rfl ?_
  refine ax_aload_n (pc := 462) C d_Law_law_462 rfl 5 rfl ?_
  refine ax_iload (pc := 463) C d_Law_law_463 1 rfl ?_
  refine ax_iconst (pc := 465) C 1 d_Law_law_465 (by decide +kernel) ?_
  refine ax_iadd (pc := 466) C d_Law_law_466 ?_
  refine ax_nrm (Int32.ofNat (i + 1)) ix_a ?_
  refine ax_sld (pc := 467) C hXb hbl hbA d_Law_law_467 (ix_in (by omega) hL) ?_
  refine ax_nrm (xs (i + 1)) (by rw [ix_n (by omega)]) ?_
  refine ax_aload_n (pc := 468) C d_Law_law_468 rfl 5 rfl ?_
  refine ax_iload (pc := 469) C d_Law_law_469 1 rfl ?_
  refine ax_iconst (pc := 471) C 2 d_Law_law_471 (by decide +kernel) ?_
  refine ax_iadd (pc := 472) C d_Law_law_472 ?_
  refine ax_nrm (Int32.ofNat (i + 2)) ix_a ?_
  refine ax_sld (pc := 473) C hXb hbl hbA d_Law_law_473 (ix_in (by omega) hL) ?_
  refine ax_nrm (xs (i + 2)) (by rw [ix_n (by omega)]) ?_
  refine ax_callVi (pc := 474) C (As := [.int (xs (i + 1)), .int (xs (i + 2))]) (rest := []) (wr := lgO kA o f2 :: W2) hM ml_Law_92 0 (gt_0 (A := M) (B := lgO kA o f2 :: W2) hz) rfl rfl d_Law_law_474 rfl rfl (List.range' 0 M.length) (List.range' M.length (W2.length + 1)) (pk_0 (W := M) (Y := lgO kA o f2 :: W2)) (nd_rg _ _) (pk_e (X := M) (W := lgO kA o f2 :: W2)) (nd_rg _ _) pk_d1 hfr2 hlo2 hc hs (Nat.le_of_ble_eq_true rfl) (fun r2 w2 hw2 => ?_)
  obtain ⟨er2, ew2⟩ := hw2
  rw [er2, ew2]
  refine ax_istore (pc := 477) C d_Law_law_477 (Nat.le_of_ble_eq_true rfl) ([(6, .int rb), (5, .int k), (4, .int (Int32.ofNat i)), (3, .ref o), (2, .ref z), (1, .ref x), (0, .ref b)]) rfl ?_
  refine ax_aload_n (pc := 479) C d_Law_law_479 rfl 4 rfl ?_
  obtain ⟨fz2, hz2⟩ := hz2
  refine ax_callVi (pc := 480) C (As := []) (rest := []) (wr := lgO kA o f2 :: W2) hT ml_Law_67 (W2.length + 1) (gt_e (A := lgO kA o f2 :: W2) hz2) rfl rfl d_Law_law_480 rfl rfl (List.range' (W2.length + 1) M2.length) (List.range' 0 (W2.length + 1)) (pk_e (X := lgO kA o f2 :: W2) (W := M2)) (nd_rg _ _) (pk_0 (W := lgO kA o f2 :: W2) (Y := M2)) (nd_rg _ _) pk_d2 hfr3 hlo3 hc hs (Nat.le_of_ble_eq_true rfl) (fun r3 w3 hw3 => ?_)
  obtain ⟨er3, ew3⟩ := hw3
  rw [er3, ew3]
  refine ax_iload (pc := 483) C d_Law_law_483 1 rfl ?_
  refine ax_icmp_eq (pc := 485) C 490 d_Law_law_485 (by decide) (fun _ => ?_) (fun h => absurd rfl h)
  refine ax_iload (pc := 490) C d_Law_law_490 1 rfl ?_
  refine ax_if_ne (pc := 492) C 507 d_Law_law_492 (by decide) (fun hk1 => ?_) (fun hk0 => ?_)
  · refine ax_goto (pc := 507) C 1012 d_Law_law_507 (by decide) ?_
    refine ax_ls ([(4, .int (Int32.ofNat i)), (3, .ref o), (2, .ref z), (1, .ref x), (0, .ref b)]) [2, 3, 4, 5, 6] rfl ?_
    exact kk f2 W2 hP
  refine ax_aload_n (pc := 495) C d_Law_law_495 rfl 3 rfl ?_
  refine ax_iconst (pc := 496) C 0 d_Law_law_496 (by decide +kernel) ?_
  refine ax_lald (pc := 497) C 0 rfl d_Law_law_497 (by unfold vp_in; decide) ?_
  refine ax_nrmL (Int32.toInt64 rb) (hk hk0 f2 W2 hP) ?_
  refine ax_iload (pc := 498) C d_Law_law_498 0 rfl ?_
  refine ax_i2l (pc := 500) C (Int32.toInt64 rb) d_Law_law_500 rfl ?_
  refine ax_lcmp (pc := 501) C d_Law_law_501 ?_
  refine ax_nrm 0 (lg_0 _) ?_
  refine ax_if_eq (pc := 502) C 507 d_Law_law_502 (by decide) (fun _ => ?_) (fun h => absurd rfl h)
  refine ax_goto (pc := 507) C 1012 d_Law_law_507 (by decide) ?_
  refine ax_ls ([(4, .int (Int32.ofNat i)), (3, .ref o), (2, .ref z), (1, .ref x), (0, .ref b)]) [2, 3, 4, 5, 6] rfl ?_
  exact kk f2 W2 hP
theorem lk_literal {p : Program} {e : Env} {s : State} {m : MethodId} {below : List Frame} {meth : Method} {c : Code} {l : Launch} {D : va_G} {kA : Nat → ClassId} {b L : Nat} {xs : Nat → Int32} {o x z : Nat} {f : Nat → Int64} {W M : va_W} {fs fz : List Value} {Q : State → Prop} {R : Room} {cells slots : Nat} (C : ax_C p s m #[Value.ref b] meth c code "ClauseProverLaw" 7 ret D kA (fun q => s.heap.size ≤ q)) (hX : ax_X (fun q => s.heap.size ≤ q) s s.heap) (hXb : va_X b L xs s s.heap) (hbl : b < s.heap.size) (hbA : ¬ s.heap.size ≤ b) {i : Nat} (hi : i + 6 ≤ L) (hL : L ≤ 3072) {fr lo mc ms fr2 lo2 : Nat} {k rb : Int32} {PW : (Nat → Int64) → va_W → Prop} {M2 : va_W} (hW : ax_Mw l D kA y_Law_literal b_Law_literal 6 [(0, 12, 15, 28), (0, 12, 19, 19)] fr lo mc ms [.ref x, .int (xs (i + 1)), .int (xs (i + 2)), .int (xs (i + 3)), .ref o] (lgO kA o f :: W) (fun r w1 => r = k ∧ ∃ f2 W2, PW f2 W2 ∧ w1 = lgO kA o f2 :: W2)) (hfr : fr + 1 ≤ R.frames) (hlo : 8 + (6 + 11) + lo ≤ R.locals) (hz : M[0]? = some (z, .inr (12, fz))) (hM : ax_Mi l D kA y_MM_literal b_MM_literal 5 .int fr2 lo2 0 0 [.ref z, .int (xs (i + 1)), .int (xs (i + 2)), .int (xs (i + 3))] M (fun r w1 => r = rb ∧ w1 = M2)) (hfr2 : fr2 + 1 ≤ R.frames) (hlo2 : 8 + (5 + 11) + lo2 ≤ R.locals) (hz2 : ∃ fz2, M2[0]? = some (z, .inr (12, fz2))) (hT : ax_Mi l D kA y_MM_thrown b_MM_thrown 1 .int 1 48 0 0 [.ref z] M2 (fun r w1 => r = k ∧ w1 = M2)) (hk : k = 0 → ∀ f2 W2, PW f2 W2 → f2 (Int32.toNatClampNeg 0) = Int32.toInt64 rb) (hfr3 : 1 + 1 ≤ R.frames) (hlo3 : 8 + (1 + 11) + 48 ≤ R.locals) (hc : cells + mc ≤ R.cells) (hs : slots + ms ≤ R.slots)
    (kk : ∀ f2 W2, PW f2 W2 → AW p l e R s m #[Value.ref b] below meth c D kA (fun q => s.heap.size ≤ q) 7 Q 1012 [(4, .int (Int32.ofNat i)), (3, .ref o), (2, .ref z), (1, .ref x), (0, .ref b)] [] (lgO kA o f2 :: (W2 ++ M2)) (cells + mc) (slots + ms)) : AW p l e R s m #[Value.ref b] below meth c D kA (fun q => s.heap.size ≤ q) 7 Q 510 [(4, .int (Int32.ofNat i)), (3, .ref o), (2, .ref z), (1, .ref x), (0, .ref b)] [] (lgO kA o f :: (W ++ M)) (cells) (slots) := by
  refine ax_aload_n (pc := 510) C d_Law_law_510 rfl 3 rfl ?_
  refine ax_aload_n (pc := 511) C d_Law_law_511 rfl 4 rfl ?_
  refine ax_iload (pc := 512) C d_Law_law_512 0 rfl ?_
  refine ax_iconst (pc := 514) C 1 d_Law_law_514 (by decide +kernel) ?_
  refine ax_iadd (pc := 515) C d_Law_law_515 ?_
  refine ax_nrm (Int32.ofNat (i + 1)) ix_a ?_
  refine ax_sld (pc := 516) C hXb hbl hbA d_Law_law_516 (ix_in (by omega) hL) ?_
  refine ax_nrm (xs (i + 1)) (by rw [ix_n (by omega)]) ?_
  refine ax_aload_n (pc := 517) C d_Law_law_517 rfl 4 rfl ?_
  refine ax_iload (pc := 518) C d_Law_law_518 0 rfl ?_
  refine ax_iconst (pc := 520) C 2 d_Law_law_520 (by decide +kernel) ?_
  refine ax_iadd (pc := 521) C d_Law_law_521 ?_
  refine ax_nrm (Int32.ofNat (i + 2)) ix_a ?_
  refine ax_sld (pc := 522) C hXb hbl hbA d_Law_law_522 (ix_in (by omega) hL) ?_
  refine ax_nrm (xs (i + 2)) (by rw [ix_n (by omega)]) ?_
  refine ax_aload_n (pc := 523) C d_Law_law_523 rfl 4 rfl ?_
  refine ax_iload (pc := 524) C d_Law_law_524 0 rfl ?_
  refine ax_iconst (pc := 526) C 3 d_Law_law_526 (by decide +kernel) ?_
  refine ax_iadd (pc := 527) C d_Law_law_527 ?_
  refine ax_nrm (Int32.ofNat (i + 3)) ix_a ?_
  refine ax_sld (pc := 528) C hXb hbl hbA d_Law_law_528 (ix_in (by omega) hL) ?_
  refine ax_nrm (xs (i + 3)) (by rw [ix_n (by omega)]) ?_
  refine ax_aload_n (pc := 529) C d_Law_law_529 rfl 1 rfl ?_
  refine ax_callSw (pc := 530) C hX (As := [.ref x, .int (xs (i + 1)), .int (xs (i + 2)), .int (xs (i + 3)), .ref o]) (rest := []) (wr := M) hW mw_Law_93 d_Law_law_530 rfl rfl (List.range' 0 (W.length + 1)) (List.range' (W.length + 1) M.length) (pk_0 (W := lgO kA o f :: W) (Y := M)) (nd_rg _ _) (pk_e (X := lgO kA o f :: W) (W := M)) (nd_rg _ _) pk_d1 hfr hlo hc hs (Nat.le_of_ble_eq_true rfl) (fun r1 w1 hw1 => ?_)
  obtain ⟨er, f2, W2, hP, ew⟩ := hw1
  rw [er, ew]
  refine ax_istore (pc := 533) C d_Law_law_533 (Nat.le_of_ble_eq_true rfl) ([(5, .int k), (4, .int (Int32.ofNat i)), (3, .ref o), (2, .ref z), (1, .ref x), (0, .ref b)]) rfl ?_
  refine ax_aload_n (pc := 535) C d_Law_law_535 rfl 3 rfl ?_
  refine ax_aload_n (pc := 536) C d_Law_law_536 rfl 5 rfl ?_
  refine ax_iload (pc := 537) C d_Law_law_537 1 rfl ?_
  refine ax_iconst (pc := 539) C 1 d_Law_law_539 (by decide +kernel) ?_
  refine ax_iadd (pc := 540) C d_Law_law_540 ?_
  refine ax_nrm (Int32.ofNat (i + 1)) ix_a ?_
  refine ax_sld (pc := 541) C hXb hbl hbA d_Law_law_541 (ix_in (by omega) hL) ?_
  refine ax_nrm (xs (i + 1)) (by rw [ix_n (by omega)]) ?_
  refine ax_aload_n (pc := 542) C d_Law_law_542 rfl 5 rfl ?_
  refine ax_iload (pc := 543) C d_Law_law_543 1 rfl ?_
  refine ax_iconst (pc := 545) C 2 d_Law_law_545 (by decide +kernel) ?_
  refine ax_iadd (pc := 546) C d_Law_law_546 ?_
  refine ax_nrm (Int32.ofNat (i + 2)) ix_a ?_
  refine ax_sld (pc := 547) C hXb hbl hbA d_Law_law_547 (ix_in (by omega) hL) ?_
  refine ax_nrm (xs (i + 2)) (by rw [ix_n (by omega)]) ?_
  refine ax_aload_n (pc := 548) C d_Law_law_548 rfl 5 rfl ?_
  refine ax_iload (pc := 549) C d_Law_law_549 1 rfl ?_
  refine ax_iconst (pc := 551) C 3 d_Law_law_551 (by decide +kernel) ?_
  refine ax_iadd (pc := 552) C d_Law_law_552 ?_
  refine ax_nrm (Int32.ofNat (i + 3)) ix_a ?_
  refine ax_sld (pc := 553) C hXb hbl hbA d_Law_law_553 (ix_in (by omega) hL) ?_
  refine ax_nrm (xs (i + 3)) (by rw [ix_n (by omega)]) ?_
  refine ax_callVi (pc := 554) C (As := [.int (xs (i + 1)), .int (xs (i + 2)), .int (xs (i + 3))]) (rest := []) (wr := lgO kA o f2 :: W2) hM ml_Law_96 0 (gt_0 (A := M) (B := lgO kA o f2 :: W2) hz) rfl rfl d_Law_law_554 rfl rfl (List.range' 0 M.length) (List.range' M.length (W2.length + 1)) (pk_0 (W := M) (Y := lgO kA o f2 :: W2)) (nd_rg _ _) (pk_e (X := M) (W := lgO kA o f2 :: W2)) (nd_rg _ _) pk_d1 hfr2 hlo2 hc hs (Nat.le_of_ble_eq_true rfl) (fun r2 w2 hw2 => ?_)
  obtain ⟨er2, ew2⟩ := hw2
  rw [er2, ew2]
  refine ax_istore (pc := 557) C d_Law_law_557 (Nat.le_of_ble_eq_true rfl) ([(6, .int rb), (5, .int k), (4, .int (Int32.ofNat i)), (3, .ref o), (2, .ref z), (1, .ref x), (0, .ref b)]) rfl ?_
  refine ax_aload_n (pc := 559) C d_Law_law_559 rfl 4 rfl ?_
  obtain ⟨fz2, hz2⟩ := hz2
  refine ax_callVi (pc := 560) C (As := []) (rest := []) (wr := lgO kA o f2 :: W2) hT ml_Law_67 (W2.length + 1) (gt_e (A := lgO kA o f2 :: W2) hz2) rfl rfl d_Law_law_560 rfl rfl (List.range' (W2.length + 1) M2.length) (List.range' 0 (W2.length + 1)) (pk_e (X := lgO kA o f2 :: W2) (W := M2)) (nd_rg _ _) (pk_0 (W := lgO kA o f2 :: W2) (Y := M2)) (nd_rg _ _) pk_d2 hfr3 hlo3 hc hs (Nat.le_of_ble_eq_true rfl) (fun r3 w3 hw3 => ?_)
  obtain ⟨er3, ew3⟩ := hw3
  rw [er3, ew3]
  refine ax_iload (pc := 563) C d_Law_law_563 1 rfl ?_
  refine ax_icmp_eq (pc := 565) C 570 d_Law_law_565 (by decide) (fun _ => ?_) (fun h => absurd rfl h)
  refine ax_iload (pc := 570) C d_Law_law_570 1 rfl ?_
  refine ax_if_ne (pc := 572) C 587 d_Law_law_572 (by decide) (fun hk1 => ?_) (fun hk0 => ?_)
  · refine ax_goto (pc := 587) C 1012 d_Law_law_587 (by decide) ?_
    refine ax_ls ([(4, .int (Int32.ofNat i)), (3, .ref o), (2, .ref z), (1, .ref x), (0, .ref b)]) [2, 3, 4, 5, 6] rfl ?_
    exact kk f2 W2 hP
  refine ax_aload_n (pc := 575) C d_Law_law_575 rfl 3 rfl ?_
  refine ax_iconst (pc := 576) C 0 d_Law_law_576 (by decide +kernel) ?_
  refine ax_lald (pc := 577) C 0 rfl d_Law_law_577 (by unfold vp_in; decide) ?_
  refine ax_nrmL (Int32.toInt64 rb) (hk hk0 f2 W2 hP) ?_
  refine ax_iload (pc := 578) C d_Law_law_578 0 rfl ?_
  refine ax_i2l (pc := 580) C (Int32.toInt64 rb) d_Law_law_580 rfl ?_
  refine ax_lcmp (pc := 581) C d_Law_law_581 ?_
  refine ax_nrm 0 (lg_0 _) ?_
  refine ax_if_eq (pc := 582) C 587 d_Law_law_582 (by decide) (fun _ => ?_) (fun h => absurd rfl h)
  refine ax_goto (pc := 587) C 1012 d_Law_law_587 (by decide) ?_
  refine ax_ls ([(4, .int (Int32.ofNat i)), (3, .ref o), (2, .ref z), (1, .ref x), (0, .ref b)]) [2, 3, 4, 5, 6] rfl ?_
  exact kk f2 W2 hP
theorem lk_show {p : Program} {e : Env} {s : State} {m : MethodId} {below : List Frame} {meth : Method} {c : Code} {l : Launch} {D : va_G} {kA : Nat → ClassId} {b L : Nat} {xs : Nat → Int32} {o x z : Nat} {f : Nat → Int64} {W M : va_W} {fs fz : List Value} {Q : State → Prop} {R : Room} {cells slots : Nat} (C : ax_C p s m #[Value.ref b] meth c code "ClauseProverLaw" 7 ret D kA (fun q => s.heap.size ≤ q)) (hX : ax_X (fun q => s.heap.size ≤ q) s s.heap) (hXb : va_X b L xs s s.heap) (hbl : b < s.heap.size) (hbA : ¬ s.heap.size ≤ b) {i : Nat} (hi : i + 6 ≤ L) (hL : L ≤ 3072) {fr lo mc ms fr2 lo2 : Nat} {k rb : Int32} {PW : (Nat → Int64) → va_W → Prop} {M2 : va_W} (hW : ax_Mw l D kA y_Law_show b_Law_show 4 [(0, 9, 12, 28)] fr lo mc ms [.ref x, .int (xs (i + 1)), .ref o] (lgO kA o f :: W) (fun r w1 => r = k ∧ ∃ f2 W2, PW f2 W2 ∧ w1 = lgO kA o f2 :: W2)) (hfr : fr + 1 ≤ R.frames) (hlo : 8 + (4 + 11) + lo ≤ R.locals) (hz : M[0]? = some (z, .inr (12, fz))) (hM : ax_Mi l D kA y_MM_show b_MM_show 3 .int fr2 lo2 0 0 [.ref z, .int (xs (i + 1))] M (fun r w1 => r = rb ∧ w1 = M2)) (hfr2 : fr2 + 1 ≤ R.frames) (hlo2 : 8 + (3 + 11) + lo2 ≤ R.locals) (hz2 : ∃ fz2, M2[0]? = some (z, .inr (12, fz2))) (hT : ax_Mi l D kA y_MM_thrown b_MM_thrown 1 .int 1 48 0 0 [.ref z] M2 (fun r w1 => r = k ∧ w1 = M2)) (hk : k = 0 → ∀ f2 W2, PW f2 W2 → f2 (Int32.toNatClampNeg 0) = Int32.toInt64 rb) (hfr3 : 1 + 1 ≤ R.frames) (hlo3 : 8 + (1 + 11) + 48 ≤ R.locals) (hc : cells + mc ≤ R.cells) (hs : slots + ms ≤ R.slots)
    (kk : ∀ f2 W2, PW f2 W2 → AW p l e R s m #[Value.ref b] below meth c D kA (fun q => s.heap.size ≤ q) 7 Q 1012 [(4, .int (Int32.ofNat i)), (3, .ref o), (2, .ref z), (1, .ref x), (0, .ref b)] [] (lgO kA o f2 :: (W2 ++ M2)) (cells + mc) (slots + ms)) : AW p l e R s m #[Value.ref b] below meth c D kA (fun q => s.heap.size ≤ q) 7 Q 590 [(4, .int (Int32.ofNat i)), (3, .ref o), (2, .ref z), (1, .ref x), (0, .ref b)] [] (lgO kA o f :: (W ++ M)) (cells) (slots) := by
  refine ax_aload_n (pc := 590) C d_Law_law_590 rfl 3 rfl ?_
  refine ax_aload_n (pc := 591) C d_Law_law_591 rfl 4 rfl ?_
  refine ax_iload (pc := 592) C d_Law_law_592 0 rfl ?_
  refine ax_iconst (pc := 594) C 1 d_Law_law_594 (by decide +kernel) ?_
  refine ax_iadd (pc := 595) C d_Law_law_595 ?_
  refine ax_nrm (Int32.ofNat (i + 1)) ix_a ?_
  refine ax_sld (pc := 596) C hXb hbl hbA d_Law_law_596 (ix_in (by omega) hL) ?_
  refine ax_nrm (xs (i + 1)) (by rw [ix_n (by omega)]) ?_
  refine ax_aload_n (pc := 597) C d_Law_law_597 rfl 1 rfl ?_
  refine ax_callSw (pc := 598) C hX (As := [.ref x, .int (xs (i + 1)), .ref o]) (rest := []) (wr := M) hW mw_Law_97 d_Law_law_598 rfl rfl (List.range' 0 (W.length + 1)) (List.range' (W.length + 1) M.length) (pk_0 (W := lgO kA o f :: W) (Y := M)) (nd_rg _ _) (pk_e (X := lgO kA o f :: W) (W := M)) (nd_rg _ _) pk_d1 hfr hlo hc hs (Nat.le_of_ble_eq_true rfl) (fun r1 w1 hw1 => ?_)
  obtain ⟨er, f2, W2, hP, ew⟩ := hw1
  rw [er, ew]
  refine ax_istore (pc := 601) C d_Law_law_601 (Nat.le_of_ble_eq_true rfl) ([(5, .int k), (4, .int (Int32.ofNat i)), (3, .ref o), (2, .ref z), (1, .ref x), (0, .ref b)]) rfl ?_
  refine ax_aload_n (pc := 603) C d_Law_law_603 rfl 3 rfl ?_
  refine ax_aload_n (pc := 604) C d_Law_law_604 rfl 5 rfl ?_
  refine ax_iload (pc := 605) C d_Law_law_605 1 rfl ?_
  refine ax_iconst (pc := 607) C 1 d_Law_law_607 (by decide +kernel) ?_
  refine ax_iadd (pc := 608) C d_Law_law_608 ?_
  refine ax_nrm (Int32.ofNat (i + 1)) ix_a ?_
  refine ax_sld (pc := 609) C hXb hbl hbA d_Law_law_609 (ix_in (by omega) hL) ?_
  refine ax_nrm (xs (i + 1)) (by rw [ix_n (by omega)]) ?_
  refine ax_callVi (pc := 610) C (As := [.int (xs (i + 1))]) (rest := []) (wr := lgO kA o f2 :: W2) hM ml_Law_99 0 (gt_0 (A := M) (B := lgO kA o f2 :: W2) hz) rfl rfl d_Law_law_610 rfl rfl (List.range' 0 M.length) (List.range' M.length (W2.length + 1)) (pk_0 (W := M) (Y := lgO kA o f2 :: W2)) (nd_rg _ _) (pk_e (X := M) (W := lgO kA o f2 :: W2)) (nd_rg _ _) pk_d1 hfr2 hlo2 hc hs (Nat.le_of_ble_eq_true rfl) (fun r2 w2 hw2 => ?_)
  obtain ⟨er2, ew2⟩ := hw2
  rw [er2, ew2]
  refine ax_istore (pc := 613) C d_Law_law_613 (Nat.le_of_ble_eq_true rfl) ([(6, .int rb), (5, .int k), (4, .int (Int32.ofNat i)), (3, .ref o), (2, .ref z), (1, .ref x), (0, .ref b)]) rfl ?_
  refine ax_aload_n (pc := 615) C d_Law_law_615 rfl 4 rfl ?_
  obtain ⟨fz2, hz2⟩ := hz2
  refine ax_callVi (pc := 616) C (As := []) (rest := []) (wr := lgO kA o f2 :: W2) hT ml_Law_67 (W2.length + 1) (gt_e (A := lgO kA o f2 :: W2) hz2) rfl rfl d_Law_law_616 rfl rfl (List.range' (W2.length + 1) M2.length) (List.range' 0 (W2.length + 1)) (pk_e (X := lgO kA o f2 :: W2) (W := M2)) (nd_rg _ _) (pk_0 (W := lgO kA o f2 :: W2) (Y := M2)) (nd_rg _ _) pk_d2 hfr3 hlo3 hc hs (Nat.le_of_ble_eq_true rfl) (fun r3 w3 hw3 => ?_)
  obtain ⟨er3, ew3⟩ := hw3
  rw [er3, ew3]
  refine ax_iload (pc := 619) C d_Law_law_619 1 rfl ?_
  refine ax_icmp_eq (pc := 621) C 626 d_Law_law_621 (by decide) (fun _ => ?_) (fun h => absurd rfl h)
  refine ax_iload (pc := 626) C d_Law_law_626 1 rfl ?_
  refine ax_if_ne (pc := 628) C 643 d_Law_law_628 (by decide) (fun hk1 => ?_) (fun hk0 => ?_)
  · refine ax_goto (pc := 643) C 1012 d_Law_law_643 (by decide) ?_
    refine ax_ls ([(4, .int (Int32.ofNat i)), (3, .ref o), (2, .ref z), (1, .ref x), (0, .ref b)]) [2, 3, 4, 5, 6] rfl ?_
    exact kk f2 W2 hP
  refine ax_aload_n (pc := 631) C d_Law_law_631 rfl 3 rfl ?_
  refine ax_iconst (pc := 632) C 0 d_Law_law_632 (by decide +kernel) ?_
  refine ax_lald (pc := 633) C 0 rfl d_Law_law_633 (by unfold vp_in; decide) ?_
  refine ax_nrmL (Int32.toInt64 rb) (hk hk0 f2 W2 hP) ?_
  refine ax_iload (pc := 634) C d_Law_law_634 0 rfl ?_
  refine ax_i2l (pc := 636) C (Int32.toInt64 rb) d_Law_law_636 rfl ?_
  refine ax_lcmp (pc := 637) C d_Law_law_637 ?_
  refine ax_nrm 0 (lg_0 _) ?_
  refine ax_if_eq (pc := 638) C 643 d_Law_law_638 (by decide) (fun _ => ?_) (fun h => absurd rfl h)
  refine ax_goto (pc := 643) C 1012 d_Law_law_643 (by decide) ?_
  refine ax_ls ([(4, .int (Int32.ofNat i)), (3, .ref o), (2, .ref z), (1, .ref x), (0, .ref b)]) [2, 3, 4, 5, 6] rfl ?_
  exact kk f2 W2 hP
theorem lk_out {p : Program} {e : Env} {s : State} {m : MethodId} {below : List Frame} {meth : Method} {c : Code} {l : Launch} {D : va_G} {kA : Nat → ClassId} {b L : Nat} {xs : Nat → Int32} {o x z : Nat} {f : Nat → Int64} {W M : va_W} {fs fz : List Value} {Q : State → Prop} {R : Room} {cells slots : Nat} (C : ax_C p s m #[Value.ref b] meth c code "ClauseProverLaw" 7 ret D kA (fun q => s.heap.size ≤ q)) (hX : ax_X (fun q => s.heap.size ≤ q) s s.heap) (hXb : va_X b L xs s s.heap) (hbl : b < s.heap.size) (hbA : ¬ s.heap.size ≤ b) {i : Nat} (hi : i + 6 ≤ L) (hL : L ≤ 3072) {fr lo mc ms fr2 lo2 : Nat} {k rb : Int32} {PW : (Nat → Int64) → va_W → Prop} {M2 : va_W} (hW : ax_Mw l D kA y_Law_out b_Law_out 4 [(0, 9, 12, 43)] fr lo mc ms [.ref x, .int (xs (i + 1)), .ref o] (lgO kA o f :: W) (fun r w1 => r = k ∧ ∃ f2 W2, PW f2 W2 ∧ w1 = lgO kA o f2 :: W2)) (hfr : fr + 1 ≤ R.frames) (hlo : 8 + (4 + 11) + lo ≤ R.locals) (hz : M[0]? = some (z, .inr (12, fz))) (hM : ax_Mi l D kA y_MM_out b_MM_out 2 .int fr2 lo2 0 0 [.ref z, .int (xs (i + 1))] M (fun r w1 => r = rb ∧ w1 = M2)) (hfr2 : fr2 + 1 ≤ R.frames) (hlo2 : 8 + (2 + 11) + lo2 ≤ R.locals) (hz2 : ∃ fz2, M2[0]? = some (z, .inr (12, fz2))) (hT : ax_Mi l D kA y_MM_thrown b_MM_thrown 1 .int 1 48 0 0 [.ref z] M2 (fun r w1 => r = k ∧ w1 = M2)) (hk : k = 0 → ∀ f2 W2, PW f2 W2 → f2 (Int32.toNatClampNeg 0) = Int32.toInt64 rb) (hfr3 : 1 + 1 ≤ R.frames) (hlo3 : 8 + (1 + 11) + 48 ≤ R.locals) (hc : cells + mc ≤ R.cells) (hs : slots + ms ≤ R.slots)
    (kk : ∀ f2 W2, PW f2 W2 → AW p l e R s m #[Value.ref b] below meth c D kA (fun q => s.heap.size ≤ q) 7 Q 1012 [(4, .int (Int32.ofNat i)), (3, .ref o), (2, .ref z), (1, .ref x), (0, .ref b)] [] (lgO kA o f2 :: (W2 ++ M2)) (cells + mc) (slots + ms)) : AW p l e R s m #[Value.ref b] below meth c D kA (fun q => s.heap.size ≤ q) 7 Q 646 [(4, .int (Int32.ofNat i)), (3, .ref o), (2, .ref z), (1, .ref x), (0, .ref b)] [] (lgO kA o f :: (W ++ M)) (cells) (slots) := by
  refine ax_aload_n (pc := 646) C d_Law_law_646 rfl 3 rfl ?_
  refine ax_aload_n (pc := 647) C d_Law_law_647 rfl 4 rfl ?_
  refine ax_iload (pc := 648) C d_Law_law_648 0 rfl ?_
  refine ax_iconst (pc := 650) C 1 d_Law_law_650 (by decide +kernel) ?_
  refine ax_iadd (pc := 651) C d_Law_law_651 ?_
  refine ax_nrm (Int32.ofNat (i + 1)) ix_a ?_
  refine ax_sld (pc := 652) C hXb hbl hbA d_Law_law_652 (ix_in (by omega) hL) ?_
  refine ax_nrm (xs (i + 1)) (by rw [ix_n (by omega)]) ?_
  refine ax_aload_n (pc := 653) C d_Law_law_653 rfl 1 rfl ?_
  refine ax_callSw (pc := 654) C hX (As := [.ref x, .int (xs (i + 1)), .ref o]) (rest := []) (wr := M) hW mw_Law_100 d_Law_law_654 rfl rfl (List.range' 0 (W.length + 1)) (List.range' (W.length + 1) M.length) (pk_0 (W := lgO kA o f :: W) (Y := M)) (nd_rg _ _) (pk_e (X := lgO kA o f :: W) (W := M)) (nd_rg _ _) pk_d1 hfr hlo hc hs (Nat.le_of_ble_eq_true rfl) (fun r1 w1 hw1 => ?_)
  obtain ⟨er, f2, W2, hP, ew⟩ := hw1
  rw [er, ew]
  refine ax_istore (pc := 657) C d_Law_law_657 (Nat.le_of_ble_eq_true rfl) ([(5, .int k), (4, .int (Int32.ofNat i)), (3, .ref o), (2, .ref z), (1, .ref x), (0, .ref b)]) rfl ?_
  refine ax_aload_n (pc := 659) C d_Law_law_659 rfl 3 rfl ?_
  refine ax_aload_n (pc := 660) C d_Law_law_660 rfl 5 rfl ?_
  refine ax_iload (pc := 661) C d_Law_law_661 1 rfl ?_
  refine ax_iconst (pc := 663) C 1 d_Law_law_663 (by decide +kernel) ?_
  refine ax_iadd (pc := 664) C d_Law_law_664 ?_
  refine ax_nrm (Int32.ofNat (i + 1)) ix_a ?_
  refine ax_sld (pc := 665) C hXb hbl hbA d_Law_law_665 (ix_in (by omega) hL) ?_
  refine ax_nrm (xs (i + 1)) (by rw [ix_n (by omega)]) ?_
  refine ax_callVi (pc := 666) C (As := [.int (xs (i + 1))]) (rest := []) (wr := lgO kA o f2 :: W2) hM ml_Law_102 0 (gt_0 (A := M) (B := lgO kA o f2 :: W2) hz) rfl rfl d_Law_law_666 rfl rfl (List.range' 0 M.length) (List.range' M.length (W2.length + 1)) (pk_0 (W := M) (Y := lgO kA o f2 :: W2)) (nd_rg _ _) (pk_e (X := M) (W := lgO kA o f2 :: W2)) (nd_rg _ _) pk_d1 hfr2 hlo2 hc hs (Nat.le_of_ble_eq_true rfl) (fun r2 w2 hw2 => ?_)
  obtain ⟨er2, ew2⟩ := hw2
  rw [er2, ew2]
  refine ax_istore (pc := 669) C d_Law_law_669 (Nat.le_of_ble_eq_true rfl) ([(6, .int rb), (5, .int k), (4, .int (Int32.ofNat i)), (3, .ref o), (2, .ref z), (1, .ref x), (0, .ref b)]) rfl ?_
  refine ax_aload_n (pc := 671) C d_Law_law_671 rfl 4 rfl ?_
  obtain ⟨fz2, hz2⟩ := hz2
  refine ax_callVi (pc := 672) C (As := []) (rest := []) (wr := lgO kA o f2 :: W2) hT ml_Law_67 (W2.length + 1) (gt_e (A := lgO kA o f2 :: W2) hz2) rfl rfl d_Law_law_672 rfl rfl (List.range' (W2.length + 1) M2.length) (List.range' 0 (W2.length + 1)) (pk_e (X := lgO kA o f2 :: W2) (W := M2)) (nd_rg _ _) (pk_0 (W := lgO kA o f2 :: W2) (Y := M2)) (nd_rg _ _) pk_d2 hfr3 hlo3 hc hs (Nat.le_of_ble_eq_true rfl) (fun r3 w3 hw3 => ?_)
  obtain ⟨er3, ew3⟩ := hw3
  rw [er3, ew3]
  refine ax_iload (pc := 675) C d_Law_law_675 1 rfl ?_
  refine ax_icmp_eq (pc := 677) C 682 d_Law_law_677 (by decide) (fun _ => ?_) (fun h => absurd rfl h)
  refine ax_iload (pc := 682) C d_Law_law_682 1 rfl ?_
  refine ax_if_ne (pc := 684) C 699 d_Law_law_684 (by decide) (fun hk1 => ?_) (fun hk0 => ?_)
  · refine ax_goto (pc := 699) C 1012 d_Law_law_699 (by decide) ?_
    refine ax_ls ([(4, .int (Int32.ofNat i)), (3, .ref o), (2, .ref z), (1, .ref x), (0, .ref b)]) [2, 3, 4, 5, 6] rfl ?_
    exact kk f2 W2 hP
  refine ax_aload_n (pc := 687) C d_Law_law_687 rfl 3 rfl ?_
  refine ax_iconst (pc := 688) C 0 d_Law_law_688 (by decide +kernel) ?_
  refine ax_lald (pc := 689) C 0 rfl d_Law_law_689 (by unfold vp_in; decide) ?_
  refine ax_nrmL (Int32.toInt64 rb) (hk hk0 f2 W2 hP) ?_
  refine ax_iload (pc := 690) C d_Law_law_690 0 rfl ?_
  refine ax_i2l (pc := 692) C (Int32.toInt64 rb) d_Law_law_692 rfl ?_
  refine ax_lcmp (pc := 693) C d_Law_law_693 ?_
  refine ax_nrm 0 (lg_0 _) ?_
  refine ax_if_eq (pc := 694) C 699 d_Law_law_694 (by decide) (fun _ => ?_) (fun h => absurd rfl h)
  refine ax_goto (pc := 699) C 1012 d_Law_law_699 (by decide) ?_
  refine ax_ls ([(4, .int (Int32.ofNat i)), (3, .ref o), (2, .ref z), (1, .ref x), (0, .ref b)]) [2, 3, 4, 5, 6] rfl ?_
  exact kk f2 W2 hP
theorem lk_symbol {p : Program} {e : Env} {s : State} {m : MethodId} {below : List Frame} {meth : Method} {c : Code} {l : Launch} {D : va_G} {kA : Nat → ClassId} {b L : Nat} {xs : Nat → Int32} {o x z : Nat} {f : Nat → Int64} {W M : va_W} {fs fz : List Value} {Q : State → Prop} {R : Room} {cells slots : Nat} (C : ax_C p s m #[Value.ref b] meth c code "ClauseProverLaw" 7 ret D kA (fun q => s.heap.size ≤ q)) (hX : ax_X (fun q => s.heap.size ≤ q) s s.heap) (hXb : va_X b L xs s s.heap) (hbl : b < s.heap.size) (hbA : ¬ s.heap.size ≤ b) {i : Nat} (hi : i + 6 ≤ L) (hL : L ≤ 3072) {fr lo mc ms fr2 lo2 : Nat} {k rb : Int32} {PW : (Nat → Int64) → va_W → Prop} {M2 : va_W} (hW : ax_Mw l D kA y_Law_symbol b_Law_symbol 5 [(0, 10, 13, 28), (0, 10, 17, 19)] fr lo mc ms [.ref x, .int (xs (i + 1)), .int (xs (i + 2)), .ref o] (lgO kA o f :: W) (fun r w1 => r = k ∧ ∃ f2 W2, PW f2 W2 ∧ w1 = lgO kA o f2 :: W2)) (hfr : fr + 1 ≤ R.frames) (hlo : 8 + (5 + 11) + lo ≤ R.locals) (hz : M[0]? = some (z, .inr (12, fz))) (hM : ax_Mi l D kA y_MM_symbol2 b_MM_symbol2 3 .int fr2 lo2 0 0 [.ref z, .int (xs (i + 1)), .int (xs (i + 2))] M (fun r w1 => r = rb ∧ w1 = M2)) (hfr2 : fr2 + 1 ≤ R.frames) (hlo2 : 8 + (3 + 11) + lo2 ≤ R.locals) (hz2 : ∃ fz2, M2[0]? = some (z, .inr (12, fz2))) (hT : ax_Mi l D kA y_MM_thrown b_MM_thrown 1 .int 1 48 0 0 [.ref z] M2 (fun r w1 => r = k ∧ w1 = M2)) (hk : k = 0 → ∀ f2 W2, PW f2 W2 → f2 (Int32.toNatClampNeg 0) = Int32.toInt64 rb) (hfr3 : 1 + 1 ≤ R.frames) (hlo3 : 8 + (1 + 11) + 48 ≤ R.locals) (hc : cells + mc ≤ R.cells) (hs : slots + ms ≤ R.slots)
    (kk : ∀ f2 W2, PW f2 W2 → AW p l e R s m #[Value.ref b] below meth c D kA (fun q => s.heap.size ≤ q) 7 Q 1012 [(4, .int (Int32.ofNat i)), (3, .ref o), (2, .ref z), (1, .ref x), (0, .ref b)] [] (lgO kA o f2 :: (W2 ++ M2)) (cells + mc) (slots + ms)) : AW p l e R s m #[Value.ref b] below meth c D kA (fun q => s.heap.size ≤ q) 7 Q 702 [(4, .int (Int32.ofNat i)), (3, .ref o), (2, .ref z), (1, .ref x), (0, .ref b)] [] (lgO kA o f :: (W ++ M)) (cells) (slots) := by
  refine ax_aload_n (pc := 702) C d_Law_law_702 rfl 3 rfl ?_
  refine ax_aload_n (pc := 703) C d_Law_law_703 rfl 4 rfl ?_
  refine ax_iload (pc := 704) C d_Law_law_704 0 rfl ?_
  refine ax_iconst (pc := 706) C 1 d_Law_law_706 (by decide +kernel) ?_
  refine ax_iadd (pc := 707) C d_Law_law_707 ?_
  refine ax_nrm (Int32.ofNat (i + 1)) ix_a ?_
  refine ax_sld (pc := 708) C hXb hbl hbA d_Law_law_708 (ix_in (by omega) hL) ?_
  refine ax_nrm (xs (i + 1)) (by rw [ix_n (by omega)]) ?_
  refine ax_aload_n (pc := 709) C d_Law_law_709 rfl 4 rfl ?_
  refine ax_iload (pc := 710) C d_Law_law_710 0 rfl ?_
  refine ax_iconst (pc := 712) C 2 d_Law_law_712 (by decide +kernel) ?_
  refine ax_iadd (pc := 713) C d_Law_law_713 ?_
  refine ax_nrm (Int32.ofNat (i + 2)) ix_a ?_
  refine ax_sld (pc := 714) C hXb hbl hbA d_Law_law_714 (ix_in (by omega) hL) ?_
  refine ax_nrm (xs (i + 2)) (by rw [ix_n (by omega)]) ?_
  refine ax_aload_n (pc := 715) C d_Law_law_715 rfl 1 rfl ?_
  refine ax_callSw (pc := 716) C hX (As := [.ref x, .int (xs (i + 1)), .int (xs (i + 2)), .ref o]) (rest := []) (wr := M) hW mw_Law_103 d_Law_law_716 rfl rfl (List.range' 0 (W.length + 1)) (List.range' (W.length + 1) M.length) (pk_0 (W := lgO kA o f :: W) (Y := M)) (nd_rg _ _) (pk_e (X := lgO kA o f :: W) (W := M)) (nd_rg _ _) pk_d1 hfr hlo hc hs (Nat.le_of_ble_eq_true rfl) (fun r1 w1 hw1 => ?_)
  obtain ⟨er, f2, W2, hP, ew⟩ := hw1
  rw [er, ew]
  refine ax_istore (pc := 719) C d_Law_law_719 (Nat.le_of_ble_eq_true rfl) ([(5, .int k), (4, .int (Int32.ofNat i)), (3, .ref o), (2, .ref z), (1, .ref x), (0, .ref b)]) rfl ?_
  refine ax_aload_n (pc := 721) C d_Law_law_721 rfl 3 rfl ?_
  refine ax_aload_n (pc := 722) C d_Law_law_722 rfl 5 rfl ?_
  refine ax_iload (pc := 723) C d_Law_law_723 1 rfl ?_
  refine ax_iconst (pc := 725) C 1 d_Law_law_725 (by decide +kernel) ?_
  refine ax_iadd (pc := 726) C d_Law_law_726 ?_
  refine ax_nrm (Int32.ofNat (i + 1)) ix_a ?_
  refine ax_sld (pc := 727) C hXb hbl hbA d_Law_law_727 (ix_in (by omega) hL) ?_
  refine ax_nrm (xs (i + 1)) (by rw [ix_n (by omega)]) ?_
  refine ax_aload_n (pc := 728) C d_Law_law_728 rfl 5 rfl ?_
  refine ax_iload (pc := 729) C d_Law_law_729 1 rfl ?_
  refine ax_iconst (pc := 731) C 2 d_Law_law_731 (by decide +kernel) ?_
  refine ax_iadd (pc := 732) C d_Law_law_732 ?_
  refine ax_nrm (Int32.ofNat (i + 2)) ix_a ?_
  refine ax_sld (pc := 733) C hXb hbl hbA d_Law_law_733 (ix_in (by omega) hL) ?_
  refine ax_nrm (xs (i + 2)) (by rw [ix_n (by omega)]) ?_
  refine ax_callVi (pc := 734) C (As := [.int (xs (i + 1)), .int (xs (i + 2))]) (rest := []) (wr := lgO kA o f2 :: W2) hM ml_Law_105 0 (gt_0 (A := M) (B := lgO kA o f2 :: W2) hz) rfl rfl d_Law_law_734 rfl rfl (List.range' 0 M.length) (List.range' M.length (W2.length + 1)) (pk_0 (W := M) (Y := lgO kA o f2 :: W2)) (nd_rg _ _) (pk_e (X := M) (W := lgO kA o f2 :: W2)) (nd_rg _ _) pk_d1 hfr2 hlo2 hc hs (Nat.le_of_ble_eq_true rfl) (fun r2 w2 hw2 => ?_)
  obtain ⟨er2, ew2⟩ := hw2
  rw [er2, ew2]
  refine ax_istore (pc := 737) C d_Law_law_737 (Nat.le_of_ble_eq_true rfl) ([(6, .int rb), (5, .int k), (4, .int (Int32.ofNat i)), (3, .ref o), (2, .ref z), (1, .ref x), (0, .ref b)]) rfl ?_
  refine ax_aload_n (pc := 739) C d_Law_law_739 rfl 4 rfl ?_
  obtain ⟨fz2, hz2⟩ := hz2
  refine ax_callVi (pc := 740) C (As := []) (rest := []) (wr := lgO kA o f2 :: W2) hT ml_Law_67 (W2.length + 1) (gt_e (A := lgO kA o f2 :: W2) hz2) rfl rfl d_Law_law_740 rfl rfl (List.range' (W2.length + 1) M2.length) (List.range' 0 (W2.length + 1)) (pk_e (X := lgO kA o f2 :: W2) (W := M2)) (nd_rg _ _) (pk_0 (W := lgO kA o f2 :: W2) (Y := M2)) (nd_rg _ _) pk_d2 hfr3 hlo3 hc hs (Nat.le_of_ble_eq_true rfl) (fun r3 w3 hw3 => ?_)
  obtain ⟨er3, ew3⟩ := hw3
  rw [er3, ew3]
  refine ax_iload (pc := 743) C d_Law_law_743 1 rfl ?_
  refine ax_icmp_eq (pc := 745) C 750 d_Law_law_745 (by decide) (fun _ => ?_) (fun h => absurd rfl h)
  refine ax_iload (pc := 750) C d_Law_law_750 1 rfl ?_
  refine ax_if_ne (pc := 752) C 767 d_Law_law_752 (by decide) (fun hk1 => ?_) (fun hk0 => ?_)
  · refine ax_goto (pc := 767) C 1012 d_Law_law_767 (by decide) ?_
    refine ax_ls ([(4, .int (Int32.ofNat i)), (3, .ref o), (2, .ref z), (1, .ref x), (0, .ref b)]) [2, 3, 4, 5, 6] rfl ?_
    exact kk f2 W2 hP
  refine ax_aload_n (pc := 755) C d_Law_law_755 rfl 3 rfl ?_
  refine ax_iconst (pc := 756) C 0 d_Law_law_756 (by decide +kernel) ?_
  refine ax_lald (pc := 757) C 0 rfl d_Law_law_757 (by unfold vp_in; decide) ?_
  refine ax_nrmL (Int32.toInt64 rb) (hk hk0 f2 W2 hP) ?_
  refine ax_iload (pc := 758) C d_Law_law_758 0 rfl ?_
  refine ax_i2l (pc := 760) C (Int32.toInt64 rb) d_Law_law_760 rfl ?_
  refine ax_lcmp (pc := 761) C d_Law_law_761 ?_
  refine ax_nrm 0 (lg_0 _) ?_
  refine ax_if_eq (pc := 762) C 767 d_Law_law_762 (by decide) (fun _ => ?_) (fun h => absurd rfl h)
  refine ax_goto (pc := 767) C 1012 d_Law_law_767 (by decide) ?_
  refine ax_ls ([(4, .int (Int32.ofNat i)), (3, .ref o), (2, .ref z), (1, .ref x), (0, .ref b)]) [2, 3, 4, 5, 6] rfl ?_
  exact kk f2 W2 hP
theorem lk_proof {p : Program} {e : Env} {s : State} {m : MethodId} {below : List Frame} {meth : Method} {c : Code} {l : Launch} {D : va_G} {kA : Nat → ClassId} {b L : Nat} {xs : Nat → Int32} {o x z : Nat} {f : Nat → Int64} {W M : va_W} {fs fz : List Value} {Q : State → Prop} {R : Room} {cells slots : Nat} (C : ax_C p s m #[Value.ref b] meth c code "ClauseProverLaw" 7 ret D kA (fun q => s.heap.size ≤ q)) (hX : ax_X (fun q => s.heap.size ≤ q) s s.heap) (hXb : va_X b L xs s s.heap) (hbl : b < s.heap.size) (hbA : ¬ s.heap.size ≤ b) {i : Nat} (hi : i + 6 ≤ L) (hL : L ≤ 3072) {fr lo mc ms fr2 lo2 mc2 ms2 : Nat} {k rb : Int32} {PW : va_W → Prop} {M2 : va_W} (hW : ax_Mi l D kA y_CP_proof b_CP_proof 1 .int fr lo mc ms [.ref x] W (fun r w1 => r = k ∧ PW w1)) (hx : W[0]? = some (x, .inr (11, fs))) (hfr : fr + 1 ≤ R.frames) (hlo : 8 + (1 + 11) + lo ≤ R.locals) (hz : M[0]? = some (z, .inr (12, fz))) (hM : ax_Mi l D kA y_MM_proof b_MM_proof 1 .int fr2 lo2 mc2 ms2 [.ref z] M (fun r w1 => r = rb ∧ w1 = M2)) (hfr2 : fr2 + 1 ≤ R.frames) (hlo2 : 8 + (1 + 11) + lo2 ≤ R.locals) (hrb : k = rb) (hc : cells + mc ≤ R.cells) (hs : slots + ms ≤ R.slots) (hc2 : cells + mc + mc2 ≤ R.cells) (hs2 : slots + ms + ms2 ≤ R.slots)
    (kk : ∀ W2, PW W2 → AW p l e R s m #[Value.ref b] below meth c D kA (fun q => s.heap.size ≤ q) 7 Q 1012 [(4, .int (Int32.ofNat i)), (3, .ref o), (2, .ref z), (1, .ref x), (0, .ref b)] [] (lgO kA o f :: (W2 ++ M2)) (cells + mc + mc2) (slots + ms + ms2)) : AW p l e R s m #[Value.ref b] below meth c D kA (fun q => s.heap.size ≤ q) 7 Q 770 [(4, .int (Int32.ofNat i)), (3, .ref o), (2, .ref z), (1, .ref x), (0, .ref b)] [] (lgO kA o f :: (W ++ M)) (cells) (slots) := by
  refine ax_aload_n (pc := 770) C d_Law_law_770 rfl 3 rfl ?_
  refine ax_callVi (pc := 771) C (As := []) (rest := []) (wr := lgO kA o f :: M) hW ml_Law_106 1 (gt_0 (A := W) (B := M) hx) rfl rfl d_Law_law_771 rfl rfl (List.range' 1 W.length) (0 :: List.range' (W.length + 1) M.length) (pk_rg (X := [lgO kA o f]) (W := W) (Y := M)) (nd_rg _ _) (pk_o (W := W) (M := M)) pk_on pk_od hfr hlo hc hs (Nat.le_of_ble_eq_true rfl) (fun r1 w1 hw1 => ?_)
  obtain ⟨er, hP⟩ := hw1
  rw [er]
  refine ax_aload_n (pc := 774) C d_Law_law_774 rfl 2 rfl ?_
  refine ax_callVi (pc := 775) C (As := []) (rest := [.int k]) (wr := lgO kA o f :: w1) hM ml_Law_109 1 (gt_0 (A := M) (B := w1) hz) rfl rfl d_Law_law_775 rfl rfl (List.range' 1 M.length) (0 :: List.range' (M.length + 1) w1.length) (pk_rg (X := [lgO kA o f]) (W := M) (Y := w1)) (nd_rg _ _) (pk_o (W := M) (M := w1)) pk_on pk_od hfr2 hlo2 hc2 hs2 (Nat.le_of_ble_eq_true rfl) (fun r2 w2 hw2 => ?_)
  obtain ⟨er2, ew2⟩ := hw2
  rw [er2, ew2]
  refine ax_icmp_eq (pc := 778) C 1012 d_Law_law_778 (by decide) (fun _ => ?_) (fun h => absurd hrb h)
  exact kk w1 hP
theorem lk_step {p : Program} {e : Env} {s : State} {m : MethodId} {below : List Frame} {meth : Method} {c : Code} {l : Launch} {D : va_G} {kA : Nat → ClassId} {b L : Nat} {xs : Nat → Int32} {o x z : Nat} {f : Nat → Int64} {W M : va_W} {fs fz : List Value} {Q : State → Prop} {R : Room} {cells slots : Nat} (C : ax_C p s m #[Value.ref b] meth c code "ClauseProverLaw" 7 ret D kA (fun q => s.heap.size ≤ q)) (hX : ax_X (fun q => s.heap.size ≤ q) s s.heap) (hXb : va_X b L xs s s.heap) (hbl : b < s.heap.size) (hbA : ¬ s.heap.size ≤ b) {i : Nat} (hi : i + 6 ≤ L) (hL : L ≤ 3072) {fr lo mc ms fr2 lo2 : Nat} {k rb : Int32} {PW : (Nat → Int64) → va_W → Prop} {M2 : va_W} (hW : ax_Mw l D kA y_Law_step b_Law_step 4 [(0, 9, 12, 43)] fr lo mc ms [.ref x, .int (xs (i + 1)), .ref o] (lgO kA o f :: W) (fun r w1 => r = k ∧ ∃ f2 W2, PW f2 W2 ∧ w1 = lgO kA o f2 :: W2)) (hfr : fr + 1 ≤ R.frames) (hlo : 8 + (4 + 11) + lo ≤ R.locals) (hz : M[0]? = some (z, .inr (12, fz))) (hM : ax_Mi l D kA y_MM_step2 b_MM_step2 5 .int fr2 lo2 0 0 [.ref z, .int (xs (i + 1))] M (fun r w1 => r = rb ∧ w1 = M2)) (hfr2 : fr2 + 1 ≤ R.frames) (hlo2 : 8 + (5 + 11) + lo2 ≤ R.locals) (hz2 : ∃ fz2, M2[0]? = some (z, .inr (12, fz2))) (hT : ax_Mi l D kA y_MM_thrown b_MM_thrown 1 .int 1 48 0 0 [.ref z] M2 (fun r w1 => r = k ∧ w1 = M2)) (hk : k = 0 → ∀ f2 W2, PW f2 W2 → f2 (Int32.toNatClampNeg 0) = Int32.toInt64 rb) (hfr3 : 1 + 1 ≤ R.frames) (hlo3 : 8 + (1 + 11) + 48 ≤ R.locals) (hc : cells + mc ≤ R.cells) (hs : slots + ms ≤ R.slots)
    (kk : ∀ f2 W2, PW f2 W2 → AW p l e R s m #[Value.ref b] below meth c D kA (fun q => s.heap.size ≤ q) 7 Q 1012 [(4, .int (Int32.ofNat i)), (3, .ref o), (2, .ref z), (1, .ref x), (0, .ref b)] [] (lgO kA o f2 :: (W2 ++ M2)) (cells + mc) (slots + ms)) : AW p l e R s m #[Value.ref b] below meth c D kA (fun q => s.heap.size ≤ q) 7 Q 783 [(4, .int (Int32.ofNat i)), (3, .ref o), (2, .ref z), (1, .ref x), (0, .ref b)] [] (lgO kA o f :: (W ++ M)) (cells) (slots) := by
  refine ax_aload_n (pc := 783) C d_Law_law_783 rfl 3 rfl ?_
  refine ax_aload_n (pc := 784) C d_Law_law_784 rfl 4 rfl ?_
  refine ax_iload (pc := 785) C d_Law_law_785 0 rfl ?_
  refine ax_iconst (pc := 787) C 1 d_Law_law_787 (by decide +kernel) ?_
  refine ax_iadd (pc := 788) C d_Law_law_788 ?_
  refine ax_nrm (Int32.ofNat (i + 1)) ix_a ?_
  refine ax_sld (pc := 789) C hXb hbl hbA d_Law_law_789 (ix_in (by omega) hL) ?_
  refine ax_nrm (xs (i + 1)) (by rw [ix_n (by omega)]) ?_
  refine ax_aload_n (pc := 790) C d_Law_law_790 rfl 1 rfl ?_
  refine ax_callSw (pc := 791) C hX (As := [.ref x, .int (xs (i + 1)), .ref o]) (rest := []) (wr := M) hW mw_Law_110 d_Law_law_791 rfl rfl (List.range' 0 (W.length + 1)) (List.range' (W.length + 1) M.length) (pk_0 (W := lgO kA o f :: W) (Y := M)) (nd_rg _ _) (pk_e (X := lgO kA o f :: W) (W := M)) (nd_rg _ _) pk_d1 hfr hlo hc hs (Nat.le_of_ble_eq_true rfl) (fun r1 w1 hw1 => ?_)
  obtain ⟨er, f2, W2, hP, ew⟩ := hw1
  rw [er, ew]
  refine ax_istore (pc := 794) C d_Law_law_794 (Nat.le_of_ble_eq_true rfl) ([(5, .int k), (4, .int (Int32.ofNat i)), (3, .ref o), (2, .ref z), (1, .ref x), (0, .ref b)]) rfl ?_
  refine ax_aload_n (pc := 796) C d_Law_law_796 rfl 3 rfl ?_
  refine ax_aload_n (pc := 797) C d_Law_law_797 rfl 5 rfl ?_
  refine ax_iload (pc := 798) C d_Law_law_798 1 rfl ?_
  refine ax_iconst (pc := 800) C 1 d_Law_law_800 (by decide +kernel) ?_
  refine ax_iadd (pc := 801) C d_Law_law_801 ?_
  refine ax_nrm (Int32.ofNat (i + 1)) ix_a ?_
  refine ax_sld (pc := 802) C hXb hbl hbA d_Law_law_802 (ix_in (by omega) hL) ?_
  refine ax_nrm (xs (i + 1)) (by rw [ix_n (by omega)]) ?_
  refine ax_callVi (pc := 803) C (As := [.int (xs (i + 1))]) (rest := []) (wr := lgO kA o f2 :: W2) hM ml_Law_112 0 (gt_0 (A := M) (B := lgO kA o f2 :: W2) hz) rfl rfl d_Law_law_803 rfl rfl (List.range' 0 M.length) (List.range' M.length (W2.length + 1)) (pk_0 (W := M) (Y := lgO kA o f2 :: W2)) (nd_rg _ _) (pk_e (X := M) (W := lgO kA o f2 :: W2)) (nd_rg _ _) pk_d1 hfr2 hlo2 hc hs (Nat.le_of_ble_eq_true rfl) (fun r2 w2 hw2 => ?_)
  obtain ⟨er2, ew2⟩ := hw2
  rw [er2, ew2]
  refine ax_istore (pc := 806) C d_Law_law_806 (Nat.le_of_ble_eq_true rfl) ([(6, .int rb), (5, .int k), (4, .int (Int32.ofNat i)), (3, .ref o), (2, .ref z), (1, .ref x), (0, .ref b)]) rfl ?_
  refine ax_aload_n (pc := 808) C d_Law_law_808 rfl 4 rfl ?_
  obtain ⟨fz2, hz2⟩ := hz2
  refine ax_callVi (pc := 809) C (As := []) (rest := []) (wr := lgO kA o f2 :: W2) hT ml_Law_67 (W2.length + 1) (gt_e (A := lgO kA o f2 :: W2) hz2) rfl rfl d_Law_law_809 rfl rfl (List.range' (W2.length + 1) M2.length) (List.range' 0 (W2.length + 1)) (pk_e (X := lgO kA o f2 :: W2) (W := M2)) (nd_rg _ _) (pk_0 (W := lgO kA o f2 :: W2) (Y := M2)) (nd_rg _ _) pk_d2 hfr3 hlo3 hc hs (Nat.le_of_ble_eq_true rfl) (fun r3 w3 hw3 => ?_)
  obtain ⟨er3, ew3⟩ := hw3
  rw [er3, ew3]
  refine ax_iload (pc := 812) C d_Law_law_812 1 rfl ?_
  refine ax_icmp_eq (pc := 814) C 819 d_Law_law_814 (by decide) (fun _ => ?_) (fun h => absurd rfl h)
  refine ax_iload (pc := 819) C d_Law_law_819 1 rfl ?_
  refine ax_if_ne (pc := 821) C 836 d_Law_law_821 (by decide) (fun hk1 => ?_) (fun hk0 => ?_)
  · refine ax_goto (pc := 836) C 1012 d_Law_law_836 (by decide) ?_
    refine ax_ls ([(4, .int (Int32.ofNat i)), (3, .ref o), (2, .ref z), (1, .ref x), (0, .ref b)]) [2, 3, 4, 5, 6] rfl ?_
    exact kk f2 W2 hP
  refine ax_aload_n (pc := 824) C d_Law_law_824 rfl 3 rfl ?_
  refine ax_iconst (pc := 825) C 0 d_Law_law_825 (by decide +kernel) ?_
  refine ax_lald (pc := 826) C 0 rfl d_Law_law_826 (by unfold vp_in; decide) ?_
  refine ax_nrmL (Int32.toInt64 rb) (hk hk0 f2 W2 hP) ?_
  refine ax_iload (pc := 827) C d_Law_law_827 0 rfl ?_
  refine ax_i2l (pc := 829) C (Int32.toInt64 rb) d_Law_law_829 rfl ?_
  refine ax_lcmp (pc := 830) C d_Law_law_830 ?_
  refine ax_nrm 0 (lg_0 _) ?_
  refine ax_if_eq (pc := 831) C 836 d_Law_law_831 (by decide) (fun _ => ?_) (fun h => absurd rfl h)
  refine ax_goto (pc := 836) C 1012 d_Law_law_836 (by decide) ?_
  refine ax_ls ([(4, .int (Int32.ofNat i)), (3, .ref o), (2, .ref z), (1, .ref x), (0, .ref b)]) [2, 3, 4, 5, 6] rfl ?_
  exact kk f2 W2 hP
theorem lk_look {p : Program} {e : Env} {s : State} {m : MethodId} {below : List Frame} {meth : Method} {c : Code} {l : Launch} {D : va_G} {kA : Nat → ClassId} {b L : Nat} {xs : Nat → Int32} {o x z : Nat} {f : Nat → Int64} {W M : va_W} {fs fz : List Value} {Q : State → Prop} {R : Room} {cells slots : Nat} (C : ax_C p s m #[Value.ref b] meth c code "ClauseProverLaw" 7 ret D kA (fun q => s.heap.size ≤ q)) (hX : ax_X (fun q => s.heap.size ≤ q) s s.heap) (hXb : va_X b L xs s s.heap) (hbl : b < s.heap.size) (hbA : ¬ s.heap.size ≤ b) {i : Nat} (hi : i + 6 ≤ L) (hL : L ≤ 3072) {fr lo mc ms fr2 lo2 : Nat} {k rb : Int32} {PW : (Nat → Int64) → va_W → Prop} {M2 : va_W} (hW : ax_Mw l D kA y_Law_look b_Law_look 5 [(0, 10, 13, 19)] fr lo mc ms [.ref x, .int (xs (i + 1)), .int (xs (i + 2)), .ref o] (lgO kA o f :: W) (fun r w1 => r = k ∧ ∃ f2 W2, PW f2 W2 ∧ w1 = lgO kA o f2 :: W2)) (hfr : fr + 1 ≤ R.frames) (hlo : 8 + (5 + 11) + lo ≤ R.locals) (hz : M[0]? = some (z, .inr (12, fz))) (hM : ax_Mi l D kA y_MM_look b_MM_look 5 .int fr2 lo2 0 0 [.ref z, .int (xs (i + 1)), .int (xs (i + 2))] M (fun r w1 => r = rb ∧ w1 = M2)) (hfr2 : fr2 + 1 ≤ R.frames) (hlo2 : 8 + (5 + 11) + lo2 ≤ R.locals) (hz2 : ∃ fz2, M2[0]? = some (z, .inr (12, fz2))) (hT : ax_Mi l D kA y_MM_thrown b_MM_thrown 1 .int 1 48 0 0 [.ref z] M2 (fun r w1 => r = k ∧ w1 = M2)) (hk : k = 0 → ∀ f2 W2, PW f2 W2 → f2 (Int32.toNatClampNeg 0) = Int32.toInt64 rb) (hfr3 : 1 + 1 ≤ R.frames) (hlo3 : 8 + (1 + 11) + 48 ≤ R.locals) (hc : cells + mc ≤ R.cells) (hs : slots + ms ≤ R.slots)
    (kk : ∀ f2 W2, PW f2 W2 → AW p l e R s m #[Value.ref b] below meth c D kA (fun q => s.heap.size ≤ q) 7 Q 1012 [(4, .int (Int32.ofNat i)), (3, .ref o), (2, .ref z), (1, .ref x), (0, .ref b)] [] (lgO kA o f2 :: (W2 ++ M2)) (cells + mc) (slots + ms)) : AW p l e R s m #[Value.ref b] below meth c D kA (fun q => s.heap.size ≤ q) 7 Q 839 [(4, .int (Int32.ofNat i)), (3, .ref o), (2, .ref z), (1, .ref x), (0, .ref b)] [] (lgO kA o f :: (W ++ M)) (cells) (slots) := by
  refine ax_aload_n (pc := 839) C d_Law_law_839 rfl 3 rfl ?_
  refine ax_aload_n (pc := 840) C d_Law_law_840 rfl 4 rfl ?_
  refine ax_iload (pc := 841) C d_Law_law_841 0 rfl ?_
  refine ax_iconst (pc := 843) C 1 d_Law_law_843 (by decide +kernel) ?_
  refine ax_iadd (pc := 844) C d_Law_law_844 ?_
  refine ax_nrm (Int32.ofNat (i + 1)) ix_a ?_
  refine ax_sld (pc := 845) C hXb hbl hbA d_Law_law_845 (ix_in (by omega) hL) ?_
  refine ax_nrm (xs (i + 1)) (by rw [ix_n (by omega)]) ?_
  refine ax_aload_n (pc := 846) C d_Law_law_846 rfl 4 rfl ?_
  refine ax_iload (pc := 847) C d_Law_law_847 0 rfl ?_
  refine ax_iconst (pc := 849) C 2 d_Law_law_849 (by decide +kernel) ?_
  refine ax_iadd (pc := 850) C d_Law_law_850 ?_
  refine ax_nrm (Int32.ofNat (i + 2)) ix_a ?_
  refine ax_sld (pc := 851) C hXb hbl hbA d_Law_law_851 (ix_in (by omega) hL) ?_
  refine ax_nrm (xs (i + 2)) (by rw [ix_n (by omega)]) ?_
  refine ax_aload_n (pc := 852) C d_Law_law_852 rfl 1 rfl ?_
  refine ax_callSw (pc := 853) C hX (As := [.ref x, .int (xs (i + 1)), .int (xs (i + 2)), .ref o]) (rest := []) (wr := M) hW mw_Law_113 d_Law_law_853 rfl rfl (List.range' 0 (W.length + 1)) (List.range' (W.length + 1) M.length) (pk_0 (W := lgO kA o f :: W) (Y := M)) (nd_rg _ _) (pk_e (X := lgO kA o f :: W) (W := M)) (nd_rg _ _) pk_d1 hfr hlo hc hs (Nat.le_of_ble_eq_true rfl) (fun r1 w1 hw1 => ?_)
  obtain ⟨er, f2, W2, hP, ew⟩ := hw1
  rw [er, ew]
  refine ax_istore (pc := 856) C d_Law_law_856 (Nat.le_of_ble_eq_true rfl) ([(5, .int k), (4, .int (Int32.ofNat i)), (3, .ref o), (2, .ref z), (1, .ref x), (0, .ref b)]) rfl ?_
  refine ax_aload_n (pc := 858) C d_Law_law_858 rfl 3 rfl ?_
  refine ax_aload_n (pc := 859) C d_Law_law_859 rfl 5 rfl ?_
  refine ax_iload (pc := 860) C d_Law_law_860 1 rfl ?_
  refine ax_iconst (pc := 862) C 1 d_Law_law_862 (by decide +kernel) ?_
  refine ax_iadd (pc := 863) C d_Law_law_863 ?_
  refine ax_nrm (Int32.ofNat (i + 1)) ix_a ?_
  refine ax_sld (pc := 864) C hXb hbl hbA d_Law_law_864 (ix_in (by omega) hL) ?_
  refine ax_nrm (xs (i + 1)) (by rw [ix_n (by omega)]) ?_
  refine ax_aload_n (pc := 865) C d_Law_law_865 rfl 5 rfl ?_
  refine ax_iload (pc := 866) C d_Law_law_866 1 rfl ?_
  refine ax_iconst (pc := 868) C 2 d_Law_law_868 (by decide +kernel) ?_
  refine ax_iadd (pc := 869) C d_Law_law_869 ?_
  refine ax_nrm (Int32.ofNat (i + 2)) ix_a ?_
  refine ax_sld (pc := 870) C hXb hbl hbA d_Law_law_870 (ix_in (by omega) hL) ?_
  refine ax_nrm (xs (i + 2)) (by rw [ix_n (by omega)]) ?_
  refine ax_callVi (pc := 871) C (As := [.int (xs (i + 1)), .int (xs (i + 2))]) (rest := []) (wr := lgO kA o f2 :: W2) hM ml_Law_115 0 (gt_0 (A := M) (B := lgO kA o f2 :: W2) hz) rfl rfl d_Law_law_871 rfl rfl (List.range' 0 M.length) (List.range' M.length (W2.length + 1)) (pk_0 (W := M) (Y := lgO kA o f2 :: W2)) (nd_rg _ _) (pk_e (X := M) (W := lgO kA o f2 :: W2)) (nd_rg _ _) pk_d1 hfr2 hlo2 hc hs (Nat.le_of_ble_eq_true rfl) (fun r2 w2 hw2 => ?_)
  obtain ⟨er2, ew2⟩ := hw2
  rw [er2, ew2]
  refine ax_istore (pc := 874) C d_Law_law_874 (Nat.le_of_ble_eq_true rfl) ([(6, .int rb), (5, .int k), (4, .int (Int32.ofNat i)), (3, .ref o), (2, .ref z), (1, .ref x), (0, .ref b)]) rfl ?_
  refine ax_aload_n (pc := 876) C d_Law_law_876 rfl 4 rfl ?_
  obtain ⟨fz2, hz2⟩ := hz2
  refine ax_callVi (pc := 877) C (As := []) (rest := []) (wr := lgO kA o f2 :: W2) hT ml_Law_67 (W2.length + 1) (gt_e (A := lgO kA o f2 :: W2) hz2) rfl rfl d_Law_law_877 rfl rfl (List.range' (W2.length + 1) M2.length) (List.range' 0 (W2.length + 1)) (pk_e (X := lgO kA o f2 :: W2) (W := M2)) (nd_rg _ _) (pk_0 (W := lgO kA o f2 :: W2) (Y := M2)) (nd_rg _ _) pk_d2 hfr3 hlo3 hc hs (Nat.le_of_ble_eq_true rfl) (fun r3 w3 hw3 => ?_)
  obtain ⟨er3, ew3⟩ := hw3
  rw [er3, ew3]
  refine ax_iload (pc := 880) C d_Law_law_880 1 rfl ?_
  refine ax_icmp_eq (pc := 882) C 887 d_Law_law_882 (by decide) (fun _ => ?_) (fun h => absurd rfl h)
  refine ax_iload (pc := 887) C d_Law_law_887 1 rfl ?_
  refine ax_if_ne (pc := 889) C 904 d_Law_law_889 (by decide) (fun hk1 => ?_) (fun hk0 => ?_)
  · refine ax_goto (pc := 904) C 1012 d_Law_law_904 (by decide) ?_
    refine ax_ls ([(4, .int (Int32.ofNat i)), (3, .ref o), (2, .ref z), (1, .ref x), (0, .ref b)]) [2, 3, 4, 5, 6] rfl ?_
    exact kk f2 W2 hP
  refine ax_aload_n (pc := 892) C d_Law_law_892 rfl 3 rfl ?_
  refine ax_iconst (pc := 893) C 0 d_Law_law_893 (by decide +kernel) ?_
  refine ax_lald (pc := 894) C 0 rfl d_Law_law_894 (by unfold vp_in; decide) ?_
  refine ax_nrmL (Int32.toInt64 rb) (hk hk0 f2 W2 hP) ?_
  refine ax_iload (pc := 895) C d_Law_law_895 0 rfl ?_
  refine ax_i2l (pc := 897) C (Int32.toInt64 rb) d_Law_law_897 rfl ?_
  refine ax_lcmp (pc := 898) C d_Law_law_898 ?_
  refine ax_nrm 0 (lg_0 _) ?_
  refine ax_if_eq (pc := 899) C 904 d_Law_law_899 (by decide) (fun _ => ?_) (fun h => absurd rfl h)
  refine ax_goto (pc := 904) C 1012 d_Law_law_904 (by decide) ?_
  refine ax_ls ([(4, .int (Int32.ofNat i)), (3, .ref o), (2, .ref z), (1, .ref x), (0, .ref b)]) [2, 3, 4, 5, 6] rfl ?_
  exact kk f2 W2 hP
theorem lk_search {p : Program} {e : Env} {s : State} {m : MethodId} {below : List Frame} {meth : Method} {c : Code} {l : Launch} {D : va_G} {kA : Nat → ClassId} {b L : Nat} {xs : Nat → Int32} {o x z : Nat} {f : Nat → Int64} {W M : va_W} {fs fz : List Value} {Q : State → Prop} {R : Room} {cells slots : Nat} (C : ax_C p s m #[Value.ref b] meth c code "ClauseProverLaw" 7 ret D kA (fun q => s.heap.size ≤ q)) (hX : ax_X (fun q => s.heap.size ≤ q) s s.heap) (hXb : va_X b L xs s s.heap) (hbl : b < s.heap.size) (hbA : ¬ s.heap.size ≤ b) {i : Nat} (hi : i + 6 ≤ L) (hL : L ≤ 3072) {fr lo mc ms fr2 lo2 : Nat} {k rb : Int32} {PW : (Nat → Int64) → va_W → Prop} {M2 : va_W} (hW : ax_Mw l D kA y_Law_search b_Law_search 6 [(0, 12, 15, 19)] fr lo mc ms [.ref x, .int (xs (i + 1)), .int (xs (i + 2)), .int (xs (i + 3)), .ref o] (lgO kA o f :: W) (fun r w1 => r = k ∧ ∃ f2 W2, PW f2 W2 ∧ w1 = lgO kA o f2 :: W2)) (hfr : fr + 1 ≤ R.frames) (hlo : 8 + (6 + 11) + lo ≤ R.locals) (hz : M[0]? = some (z, .inr (12, fz))) (hM : ax_Mi l D kA y_MM_search b_MM_search 5 .int fr2 lo2 0 0 [.ref z, .int (xs (i + 1)), .int (xs (i + 2)), .int (xs (i + 3))] M (fun r w1 => r = rb ∧ w1 = M2)) (hfr2 : fr2 + 1 ≤ R.frames) (hlo2 : 8 + (5 + 11) + lo2 ≤ R.locals) (hz2 : ∃ fz2, M2[0]? = some (z, .inr (12, fz2))) (hT : ax_Mi l D kA y_MM_thrown b_MM_thrown 1 .int 1 48 0 0 [.ref z] M2 (fun r w1 => r = k ∧ w1 = M2)) (hk : k = 0 → ∀ f2 W2, PW f2 W2 → f2 (Int32.toNatClampNeg 0) = Int32.toInt64 rb) (hfr3 : 1 + 1 ≤ R.frames) (hlo3 : 8 + (1 + 11) + 48 ≤ R.locals) (hc : cells + mc ≤ R.cells) (hs : slots + ms ≤ R.slots)
    (kk : ∀ f2 W2, PW f2 W2 → AW p l e R s m #[Value.ref b] below meth c D kA (fun q => s.heap.size ≤ q) 7 Q 1012 [(4, .int (Int32.ofNat i)), (3, .ref o), (2, .ref z), (1, .ref x), (0, .ref b)] [] (lgO kA o f2 :: (W2 ++ M2)) (cells + mc) (slots + ms)) : AW p l e R s m #[Value.ref b] below meth c D kA (fun q => s.heap.size ≤ q) 7 Q 907 [(4, .int (Int32.ofNat i)), (3, .ref o), (2, .ref z), (1, .ref x), (0, .ref b)] [] (lgO kA o f :: (W ++ M)) (cells) (slots) := by
  refine ax_aload_n (pc := 907) C d_Law_law_907 rfl 3 rfl ?_
  refine ax_aload_n (pc := 908) C d_Law_law_908 rfl 4 rfl ?_
  refine ax_iload (pc := 909) C d_Law_law_909 0 rfl ?_
  refine ax_iconst (pc := 911) C 1 d_Law_law_911 (by decide +kernel) ?_
  refine ax_iadd (pc := 912) C d_Law_law_912 ?_
  refine ax_nrm (Int32.ofNat (i + 1)) ix_a ?_
  refine ax_sld (pc := 913) C hXb hbl hbA d_Law_law_913 (ix_in (by omega) hL) ?_
  refine ax_nrm (xs (i + 1)) (by rw [ix_n (by omega)]) ?_
  refine ax_aload_n (pc := 914) C d_Law_law_914 rfl 4 rfl ?_
  refine ax_iload (pc := 915) C d_Law_law_915 0 rfl ?_
  refine ax_iconst (pc := 917) C 2 d_Law_law_917 (by decide +kernel) ?_
  refine ax_iadd (pc := 918) C d_Law_law_918 ?_
  refine ax_nrm (Int32.ofNat (i + 2)) ix_a ?_
  refine ax_sld (pc := 919) C hXb hbl hbA d_Law_law_919 (ix_in (by omega) hL) ?_
  refine ax_nrm (xs (i + 2)) (by rw [ix_n (by omega)]) ?_
  refine ax_aload_n (pc := 920) C d_Law_law_920 rfl 4 rfl ?_
  refine ax_iload (pc := 921) C d_Law_law_921 0 rfl ?_
  refine ax_iconst (pc := 923) C 3 d_Law_law_923 (by decide +kernel) ?_
  refine ax_iadd (pc := 924) C d_Law_law_924 ?_
  refine ax_nrm (Int32.ofNat (i + 3)) ix_a ?_
  refine ax_sld (pc := 925) C hXb hbl hbA d_Law_law_925 (ix_in (by omega) hL) ?_
  refine ax_nrm (xs (i + 3)) (by rw [ix_n (by omega)]) ?_
  refine ax_aload_n (pc := 926) C d_Law_law_926 rfl 1 rfl ?_
  refine ax_callSw (pc := 927) C hX (As := [.ref x, .int (xs (i + 1)), .int (xs (i + 2)), .int (xs (i + 3)), .ref o]) (rest := []) (wr := M) hW mw_Law_116 d_Law_law_927 rfl rfl (List.range' 0 (W.length + 1)) (List.range' (W.length + 1) M.length) (pk_0 (W := lgO kA o f :: W) (Y := M)) (nd_rg _ _) (pk_e (X := lgO kA o f :: W) (W := M)) (nd_rg _ _) pk_d1 hfr hlo hc hs (Nat.le_of_ble_eq_true rfl) (fun r1 w1 hw1 => ?_)
  obtain ⟨er, f2, W2, hP, ew⟩ := hw1
  rw [er, ew]
  refine ax_istore (pc := 930) C d_Law_law_930 (Nat.le_of_ble_eq_true rfl) ([(5, .int k), (4, .int (Int32.ofNat i)), (3, .ref o), (2, .ref z), (1, .ref x), (0, .ref b)]) rfl ?_
  refine ax_aload_n (pc := 932) C d_Law_law_932 rfl 3 rfl ?_
  refine ax_aload_n (pc := 933) C d_Law_law_933 rfl 5 rfl ?_
  refine ax_iload (pc := 934) C d_Law_law_934 1 rfl ?_
  refine ax_iconst (pc := 936) C 1 d_Law_law_936 (by decide +kernel) ?_
  refine ax_iadd (pc := 937) C d_Law_law_937 ?_
  refine ax_nrm (Int32.ofNat (i + 1)) ix_a ?_
  refine ax_sld (pc := 938) C hXb hbl hbA d_Law_law_938 (ix_in (by omega) hL) ?_
  refine ax_nrm (xs (i + 1)) (by rw [ix_n (by omega)]) ?_
  refine ax_aload_n (pc := 939) C d_Law_law_939 rfl 5 rfl ?_
  refine ax_iload (pc := 940) C d_Law_law_940 1 rfl ?_
  refine ax_iconst (pc := 942) C 2 d_Law_law_942 (by decide +kernel) ?_
  refine ax_iadd (pc := 943) C d_Law_law_943 ?_
  refine ax_nrm (Int32.ofNat (i + 2)) ix_a ?_
  refine ax_sld (pc := 944) C hXb hbl hbA d_Law_law_944 (ix_in (by omega) hL) ?_
  refine ax_nrm (xs (i + 2)) (by rw [ix_n (by omega)]) ?_
  refine ax_aload_n (pc := 945) C d_Law_law_945 rfl 5 rfl ?_
  refine ax_iload (pc := 946) C d_Law_law_946 1 rfl ?_
  refine ax_iconst (pc := 948) C 3 d_Law_law_948 (by decide +kernel) ?_
  refine ax_iadd (pc := 949) C d_Law_law_949 ?_
  refine ax_nrm (Int32.ofNat (i + 3)) ix_a ?_
  refine ax_sld (pc := 950) C hXb hbl hbA d_Law_law_950 (ix_in (by omega) hL) ?_
  refine ax_nrm (xs (i + 3)) (by rw [ix_n (by omega)]) ?_
  refine ax_callVi (pc := 951) C (As := [.int (xs (i + 1)), .int (xs (i + 2)), .int (xs (i + 3))]) (rest := []) (wr := lgO kA o f2 :: W2) hM ml_Law_118 0 (gt_0 (A := M) (B := lgO kA o f2 :: W2) hz) rfl rfl d_Law_law_951 rfl rfl (List.range' 0 M.length) (List.range' M.length (W2.length + 1)) (pk_0 (W := M) (Y := lgO kA o f2 :: W2)) (nd_rg _ _) (pk_e (X := M) (W := lgO kA o f2 :: W2)) (nd_rg _ _) pk_d1 hfr2 hlo2 hc hs (Nat.le_of_ble_eq_true rfl) (fun r2 w2 hw2 => ?_)
  obtain ⟨er2, ew2⟩ := hw2
  rw [er2, ew2]
  refine ax_istore (pc := 954) C d_Law_law_954 (Nat.le_of_ble_eq_true rfl) ([(6, .int rb), (5, .int k), (4, .int (Int32.ofNat i)), (3, .ref o), (2, .ref z), (1, .ref x), (0, .ref b)]) rfl ?_
  refine ax_aload_n (pc := 956) C d_Law_law_956 rfl 4 rfl ?_
  obtain ⟨fz2, hz2⟩ := hz2
  refine ax_callVi (pc := 957) C (As := []) (rest := []) (wr := lgO kA o f2 :: W2) hT ml_Law_67 (W2.length + 1) (gt_e (A := lgO kA o f2 :: W2) hz2) rfl rfl d_Law_law_957 rfl rfl (List.range' (W2.length + 1) M2.length) (List.range' 0 (W2.length + 1)) (pk_e (X := lgO kA o f2 :: W2) (W := M2)) (nd_rg _ _) (pk_0 (W := lgO kA o f2 :: W2) (Y := M2)) (nd_rg _ _) pk_d2 hfr3 hlo3 hc hs (Nat.le_of_ble_eq_true rfl) (fun r3 w3 hw3 => ?_)
  obtain ⟨er3, ew3⟩ := hw3
  rw [er3, ew3]
  refine ax_iload (pc := 960) C d_Law_law_960 1 rfl ?_
  refine ax_icmp_eq (pc := 962) C 967 d_Law_law_962 (by decide) (fun _ => ?_) (fun h => absurd rfl h)
  refine ax_iload (pc := 967) C d_Law_law_967 1 rfl ?_
  refine ax_if_ne (pc := 969) C 984 d_Law_law_969 (by decide) (fun hk1 => ?_) (fun hk0 => ?_)
  · refine ax_goto (pc := 984) C 1012 d_Law_law_984 (by decide) ?_
    refine ax_ls ([(4, .int (Int32.ofNat i)), (3, .ref o), (2, .ref z), (1, .ref x), (0, .ref b)]) [2, 3, 4, 5, 6] rfl ?_
    exact kk f2 W2 hP
  refine ax_aload_n (pc := 972) C d_Law_law_972 rfl 3 rfl ?_
  refine ax_iconst (pc := 973) C 0 d_Law_law_973 (by decide +kernel) ?_
  refine ax_lald (pc := 974) C 0 rfl d_Law_law_974 (by unfold vp_in; decide) ?_
  refine ax_nrmL (Int32.toInt64 rb) (hk hk0 f2 W2 hP) ?_
  refine ax_iload (pc := 975) C d_Law_law_975 0 rfl ?_
  refine ax_i2l (pc := 977) C (Int32.toInt64 rb) d_Law_law_977 rfl ?_
  refine ax_lcmp (pc := 978) C d_Law_law_978 ?_
  refine ax_nrm 0 (lg_0 _) ?_
  refine ax_if_eq (pc := 979) C 984 d_Law_law_979 (by decide) (fun _ => ?_) (fun h => absurd rfl h)
  refine ax_goto (pc := 984) C 1012 d_Law_law_984 (by decide) ?_
  refine ax_ls ([(4, .int (Int32.ofNat i)), (3, .ref o), (2, .ref z), (1, .ref x), (0, .ref b)]) [2, 3, 4, 5, 6] rfl ?_
  exact kk f2 W2 hP
theorem lk_count {p : Program} {e : Env} {s : State} {m : MethodId} {below : List Frame} {meth : Method} {c : Code} {l : Launch} {D : va_G} {kA : Nat → ClassId} {b L : Nat} {xs : Nat → Int32} {o x z : Nat} {f : Nat → Int64} {W M : va_W} {fs fz : List Value} {Q : State → Prop} {R : Room} {cells slots : Nat} (C : ax_C p s m #[Value.ref b] meth c code "ClauseProverLaw" 7 ret D kA (fun q => s.heap.size ≤ q)) (hX : ax_X (fun q => s.heap.size ≤ q) s s.heap) (hXb : va_X b L xs s s.heap) (hbl : b < s.heap.size) (hbA : ¬ s.heap.size ≤ b) {i : Nat} (hi : i + 6 ≤ L) (hL : L ≤ 3072) {fr lo mc ms fr2 lo2 mc2 ms2 : Nat} {k rb : Int32} {PW : va_W → Prop} {M2 : va_W} (hW : ax_Mi l D kA y_CP_count b_CP_count 2 .int fr lo mc ms [.ref x, .int (xs (i + 1))] W (fun r w1 => r = k ∧ PW w1)) (hx : W[0]? = some (x, .inr (11, fs))) (hfr : fr + 1 ≤ R.frames) (hlo : 8 + (2 + 11) + lo ≤ R.locals) (hz : M[0]? = some (z, .inr (12, fz))) (hM : ax_Mi l D kA y_MM_count1 b_MM_count1 2 .int fr2 lo2 mc2 ms2 [.ref z, .int (xs (i + 1))] M (fun r w1 => r = rb ∧ w1 = M2)) (hfr2 : fr2 + 1 ≤ R.frames) (hlo2 : 8 + (2 + 11) + lo2 ≤ R.locals) (hrb : k = rb) (hc : cells + mc ≤ R.cells) (hs : slots + ms ≤ R.slots) (hc2 : cells + mc + mc2 ≤ R.cells) (hs2 : slots + ms + ms2 ≤ R.slots)
    (kk : ∀ W2, PW W2 → AW p l e R s m #[Value.ref b] below meth c D kA (fun q => s.heap.size ≤ q) 7 Q 1012 [(4, .int (Int32.ofNat i)), (3, .ref o), (2, .ref z), (1, .ref x), (0, .ref b)] [] (lgO kA o f :: (W2 ++ M2)) (cells + mc + mc2) (slots + ms + ms2)) : AW p l e R s m #[Value.ref b] below meth c D kA (fun q => s.heap.size ≤ q) 7 Q 987 [(4, .int (Int32.ofNat i)), (3, .ref o), (2, .ref z), (1, .ref x), (0, .ref b)] [] (lgO kA o f :: (W ++ M)) (cells) (slots) := by
  refine ax_aload_n (pc := 987) C d_Law_law_987 rfl 3 rfl ?_
  refine ax_aload_n (pc := 988) C d_Law_law_988 rfl 4 rfl ?_
  refine ax_iload (pc := 989) C d_Law_law_989 0 rfl ?_
  refine ax_iconst (pc := 991) C 1 d_Law_law_991 (by decide +kernel) ?_
  refine ax_iadd (pc := 992) C d_Law_law_992 ?_
  refine ax_nrm (Int32.ofNat (i + 1)) ix_a ?_
  refine ax_sld (pc := 993) C hXb hbl hbA d_Law_law_993 (ix_in (by omega) hL) ?_
  refine ax_nrm (xs (i + 1)) (by rw [ix_n (by omega)]) ?_
  refine ax_callVi (pc := 994) C (As := [.int (xs (i + 1))]) (rest := []) (wr := lgO kA o f :: M) hW ml_Law_119 1 (gt_0 (A := W) (B := M) hx) rfl rfl d_Law_law_994 rfl rfl (List.range' 1 W.length) (0 :: List.range' (W.length + 1) M.length) (pk_rg (X := [lgO kA o f]) (W := W) (Y := M)) (nd_rg _ _) (pk_o (W := W) (M := M)) pk_on pk_od hfr hlo hc hs (Nat.le_of_ble_eq_true rfl) (fun r1 w1 hw1 => ?_)
  obtain ⟨er, hP⟩ := hw1
  rw [er]
  refine ax_aload_n (pc := 997) C d_Law_law_997 rfl 2 rfl ?_
  refine ax_aload_n (pc := 998) C d_Law_law_998 rfl 4 rfl ?_
  refine ax_iload (pc := 999) C d_Law_law_999 0 rfl ?_
  refine ax_iconst (pc := 1001) C 1 d_Law_law_1001 (by decide +kernel) ?_
  refine ax_iadd (pc := 1002) C d_Law_law_1002 ?_
  refine ax_nrm (Int32.ofNat (i + 1)) ix_a ?_
  refine ax_sld (pc := 1003) C hXb hbl hbA d_Law_law_1003 (ix_in (by omega) hL) ?_
  refine ax_nrm (xs (i + 1)) (by rw [ix_n (by omega)]) ?_
  refine ax_callVi (pc := 1004) C (As := [.int (xs (i + 1))]) (rest := [.int k]) (wr := lgO kA o f :: w1) hM ml_Law_122 1 (gt_0 (A := M) (B := w1) hz) rfl rfl d_Law_law_1004 rfl rfl (List.range' 1 M.length) (0 :: List.range' (M.length + 1) w1.length) (pk_rg (X := [lgO kA o f]) (W := M) (Y := w1)) (nd_rg _ _) (pk_o (W := M) (M := w1)) pk_on pk_od hfr2 hlo2 hc2 hs2 (Nat.le_of_ble_eq_true rfl) (fun r2 w2 hw2 => ?_)
  obtain ⟨er2, ew2⟩ := hw2
  rw [er2, ew2]
  refine ax_icmp_eq (pc := 1007) C 1012 d_Law_law_1007 (by decide) (fun _ => ?_) (fun h => absurd hrb h)
  exact kk w1 hP
