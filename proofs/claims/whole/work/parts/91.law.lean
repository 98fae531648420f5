/-! ===== the law's frame: the class's world beside the model's ===== -/
def LC (p : Program) (s : State) (m : MethodId) (c : Code) (b L : Nat) (xs : Nat → Int32) (D : va_G) (ty : Nat → ClassId) (qC qM : Nat → Nat) : Prop :=
  p.tables.exec = Jvm.exec ∧ c.code = code ∧ c.maxLocals = 4 ∧ s.vm.findClass RL = some m.cls ∧ (∀ w ∈ lw_ok, w.before #[Value.ref b] s = true) ∧ va_K D vv_cl (vv_tys ty) s ∧ vv_Ne s ∧ va_X b L xs s s.heap ∧ b < s.heap.size ∧ va_D (fun q : Nat => s.heap.size ≤ q) (vv_W wC ty qC z0) ∧ va_D (fun q : Nat => s.heap.size ≤ q) (vv_W wM ty qM z0) ∧ ∀ i j, i < 73 → j < 40 → qC i ≠ qM j
def LJ (p : Program) (l : Launch) (e : Env) (s : State) (m : MethodId) (below : List Frame) (meth : Method) (c : Code) (b : Nat) (D : va_G) (ty : Nat → ClassId) (qC qM : Nat → Nat) (pc : Nat) (Ls : List (Nat × Value)) (st : List Value) (σ τ : vv_S) : Prop :=
  ∀ (H : Heap) (locs : List Loc) (ls : Array Slot), va_P D vv_cl (vv_W wC ty qC σ) H → va_P D vv_cl (vv_W wM ty qM τ) H → va_S (fun q : Nat => s.heap.size ≤ q) s.heap H locs → lv_has ls 4 Ls → W p l e room_1 s m #[Value.ref b] below meth c H locs 600000 7302249 (lw_Z below #[Value.ref b] s) (F0 m pc ls st)
abbrev Lx (b : Nat) (qC qM : Nat → Nat) (i : Nat) : List (Nat × Value) := [(3, .int (nI i)), (0, .ref b), (1, .ref (qC 0)), (2, .ref (qM 0))]
section LAW
variable {p : Program} {l : Launch} {e : Env} {s : State} {m : MethodId} {below : List Frame} {meth : Method} {c : Code} {b L : Nat} {xs : Nat → Int32} {D : va_G} {ty : Nat → ClassId} {qC qM : Nat → Nat} {pc i : Nat} {st : List Value} {σ τ : vv_S}
theorem lj_ax (C : LC p s m c b L xs D ty qC qM) (hd : decode code pc = .ok (.aload_n 1, 1)) (k : LJ p l e s m below meth c b D ty qC qM (pc + 1) (Lx b qC qM i) (.ref (qC 0) :: st) σ τ) : LJ p l e s m below meth c b D ty qC qM pc (Lx b qC qM i) st σ τ := fun H locs ls hC hM hS hl => lv_aload_n C.1 C.2.1 hd rfl (lv_at hl 2 rfl) (k H locs ls hC hM hS hl)
theorem lj_am (C : LC p s m c b L xs D ty qC qM) (hd : decode code pc = .ok (.aload_n 2, 1)) (k : LJ p l e s m below meth c b D ty qC qM (pc + 1) (Lx b qC qM i) (.ref (qM 0) :: st) σ τ) : LJ p l e s m below meth c b D ty qC qM pc (Lx b qC qM i) st σ τ := fun H locs ls hC hM hS hl => lv_aload_n C.1 C.2.1 hd rfl (lv_at hl 3 rfl) (k H locs ls hC hM hS hl)
theorem lj_arg (C : LC p s m c b L xs D ty qC qM) {j : Nat} {n : Int} (hL : L ≤ 320) (hj : i + j < L) (hn : Int32.ofInt n = nI j) (d0 : decode code pc = .ok (.aload_n 0, 1)) (d1 : decode code (pc + 1) = .ok (.iload_n 3, 1)) (d2 : decode code (pc + 2) = .ok (.iconst n, 1)) (d3 : decode code (pc + 3) = .ok (.iadd, 1)) (d4 : decode code (pc + 4) = .ok (.iaload, 1)) (k : LJ p l e s m below meth c b D ty qC qM (pc + 5) (Lx b qC qM i) (.int (xs (i + j)) :: st) σ τ) : LJ p l e s m below meth c b D ty qC qM pc (Lx b qC qM i) st σ τ := fun H locs ls hC hM hS hl => by
  obtain ⟨hx, hb, hml, hown, hts, hK, hN, hX, hbl, hDC, hDM, hap⟩ := C
  refine lv_aload_n hx hb d0 rfl (lv_at hl 1 rfl) ?_
  refine lv_iload_n hx hb d1 rfl (lv_at hl 0 rfl) ?_
  refine lv_iconst hx hb d2 hn ?_
  refine lv_iadd hx hb d3 ?_
  rw [nI_add]
  refine va_sld hx hb hX hbl (Nat.not_le.mpr hbl) hS (vp_in_nI hj (by omega)) d4 ?_
  rw [nI_clamp (by omega)]
  exact k H locs ls hC hM hS hl
theorem lj_C (C : LC p s m c b L xs D ty qC qM) {y : MethodName} {cc2 : ByteArray} {maxL2 fr2 lo2 n idx : Nat} {ret2 : Option FieldType} {As rest : List Value} {post : Int32 → vv_S → Prop} (hy : vv_yok y cc2 maxL2 ret2 n) (hv : vv_vok y) (hl : Cond.methodLink RL idx y ∈ lw_ok) (hyc : y.cls = RX8) (hd : decode code pc = .ok (.invokevirtual idx, 3)) (hM : vv_MI (l, D, ty, qC, wC) y cc2 maxL2 ret2 fr2 lo2 (.ref (qC 0) :: As) σ post) (hn : As.length = n) (hst : As.reverse ++ .ref (qC 0) :: rest = st) (hR : fr2 + 1 ≤ 9 ∧ 8 + (maxL2 + 11) + lo2 ≤ 334) (hW : (rest.map fun v => v.category).sum ≤ 8) (k : ∀ x σ', post x σ' → LJ p l e s m below meth c b D ty qC qM (pc + 3) (Lx b qC qM i) (.int x :: rest) σ' τ) : LJ p l e s m below meth c b D ty qC qM pc (Lx b qC qM i) st σ τ := fun H locs ls hC hMo hS hls => by
  obtain ⟨hx, hb, hml, hown, hts, hK, hN, hX, hbl, hDC, hDM, hap⟩ := C
  refine vg_callI (R := room_1) (w := wC) (q := qC) (b := 0) (ci := 8) (T := TX8) (N := 11) (A := fun q : Nat => s.heap.size ≤ q) ⟨hx, hb, hml, hown, hts⟩ hK hN (fun _ h => h) hC hMo (vv_W_D hDC) (fun kk x hx2 ii hi => ?_) hS hM hy hv hl (by rw [hyc]; rfl) (s_X8 (Y := (l, D, ty, qC, wC)) rfl) hd hn hls.1 hst hR ⟨Nat.le_refl _, Nat.le_refl _⟩ hW (fun x σ' H1 locs1 hp hC1 hM1 hS1 => k x σ' hp H1 locs1 ls hC1 hM1 hS1 hls)
  by_cases hj : kk < wM.2
  · rw [vv_W_get hj] at hx2
    have e := congrArg Prod.fst (Option.some.inj hx2)
    exact fun h => hap ii kk hi hj (h.trans e.symm)
  · rw [vv_W_none hj] at hx2
    cases hx2
theorem lj_M (C : LC p s m c b L xs D ty qC qM) {y : MethodName} {cc2 : ByteArray} {maxL2 fr2 lo2 n idx : Nat} {ret2 : Option FieldType} {As rest : List Value} {post : Int32 → vv_S → Prop} (hy : vv_yok y cc2 maxL2 ret2 n) (hv : vv_vok y) (hl : Cond.methodLink RL idx y ∈ lw_ok) (hyc : y.cls = RX9) (hd : decode code pc = .ok (.invokevirtual idx, 3)) (hM : vv_MI (l, D, ty, qM, wM) y cc2 maxL2 ret2 fr2 lo2 (.ref (qM 0) :: As) τ post) (hn : As.length = n) (hst : As.reverse ++ .ref (qM 0) :: rest = st) (hR : fr2 + 1 ≤ 9 ∧ 8 + (maxL2 + 11) + lo2 ≤ 334) (hW : (rest.map fun v => v.category).sum ≤ 8) (k : ∀ x τ', post x τ' → LJ p l e s m below meth c b D ty qC qM (pc + 3) (Lx b qC qM i) (.int x :: rest) σ τ') : LJ p l e s m below meth c b D ty qC qM pc (Lx b qC qM i) st σ τ := fun H locs ls hC hMo hS hls => by
  obtain ⟨hx, hb, hml, hown, hts, hK, hN, hX, hbl, hDC, hDM, hap⟩ := C
  refine vg_callI (R := room_1) (w := wM) (q := qM) (b := 0) (ci := 9) (T := TX9) (N := 48) (A := fun q : Nat => s.heap.size ≤ q) ⟨hx, hb, hml, hown, hts⟩ hK hN (fun _ h => h) hMo hC (vv_W_D hDM) (fun kk x hx2 ii hi => ?_) hS hM hy hv hl (by rw [hyc]; rfl) (s_X9 (Y := (l, D, ty, qM, wM)) rfl) hd hn hls.1 hst hR ⟨Nat.le_refl _, Nat.le_refl _⟩ hW (fun x σ' H1 locs1 hp hM1 hC1 hS1 => k x σ' hp H1 locs1 ls hC1 hM1 hS1 hls)
  by_cases hj : kk < wC.2
  · rw [vv_W_get hj] at hx2
    have e := congrArg Prod.fst (Option.some.inj hx2)
    exact fun h => hap kk ii hj hi (e.trans h.symm)
  · rw [vv_W_none hj] at hx2
    cases hx2
theorem lj_eq (C : LC p s m c b L xs D ty qC qM) {x y : Int32} {off : Int} (e0 : x = y) (hd : decode code pc = .ok (.if_icmp .eq off, 3)) (ht : (pc : Int) + off = ((975 : Nat) : Int)) (k : LJ p l e s m below meth c b D ty qC qM 975 (Lx b qC qM i) [] σ τ) : LJ p l e s m below meth c b D ty qC qM pc (Lx b qC qM i) [.int y, .int x] σ τ := fun H locs ls hC hM hS hl => lv_icmp_eq (tgt := 975) C.1 C.2.1 hd ht (fun _ => k H locs ls hC hM hS hl) (fun h => absurd e0 h)
theorem lc_write (C : LC p s m c b L xs D ty qC qM) (hL : L ≤ 320) (hi : i + 5 ≤ L) (hR : Rel σ τ) (next : ∀ σ' τ', Rel σ' τ' → LJ p l e s m below meth c b D ty qC qM 975 (Lx b qC qM i) [] σ' τ') : LJ p l e s m below meth c b D ty qC qM 172 (Lx b qC qM i) [] σ τ := by
  refine lj_ax C dL_law_172 ?_
  refine lj_arg (j := 1) C hL (by omega) (by decide) dL_law_173 dL_law_174 dL_law_175 dL_law_176 dL_law_177 ?_
  refine lj_C (As := [.int (xs (i + 1))]) (rest := []) C yk_X8_write vk_X8_write lk_L_13 rfl dL_law_178 (mX8_write (Y := (l, D, ty, qC, wC)) rfl (sim_write hR)) rfl rfl ⟨by decide, by decide⟩ (Nat.zero_le _) (fun x σ' hs => ?_)
  refine lj_am C dL_law_181 ?_
  refine lj_arg (j := 1) C hL (by omega) (by decide) dL_law_182 dL_law_183 dL_law_184 dL_law_185 dL_law_186 ?_
  refine lj_M (As := [.int (xs (i + 1))]) (rest := [.int x]) C yk_X9_write vk_X9_write lk_L_17 rfl dL_law_187 (mX9_write (Y := (l, D, ty, qM, wM)) rfl hs) rfl rfl ⟨by decide, by decide⟩ (Nat.le_of_ble_eq_true rfl) (fun y τ' hs => ?_)
  exact lj_eq C hs.1 dL_law_190 (by decide) (next σ' τ' hs.2)
theorem lc_wipe (C : LC p s m c b L xs D ty qC qM) (hL : L ≤ 320) (hi : i + 5 ≤ L) (hR : Rel σ τ) (next : ∀ σ' τ', Rel σ' τ' → LJ p l e s m below meth c b D ty qC qM 975 (Lx b qC qM i) [] σ' τ') : LJ p l e s m below meth c b D ty qC qM 195 (Lx b qC qM i) [] σ τ := by
  refine lj_ax C dL_law_195 ?_
  refine lj_C (As := []) (rest := []) C yk_X8_wipe vk_X8_wipe lk_L_18 rfl dL_law_196 (mX8_wipe (Y := (l, D, ty, qC, wC)) rfl (sim_wipe hR)) rfl rfl ⟨by decide, by decide⟩ (Nat.zero_le _) (fun x σ' hs => ?_)
  refine lj_am C dL_law_199 ?_
  refine lj_M (As := []) (rest := [.int x]) C yk_X9_wipe vk_X9_wipe lk_L_22 rfl dL_law_200 (mX9_wipe (Y := (l, D, ty, qM, wM)) rfl hs) rfl rfl ⟨by decide, by decide⟩ (Nat.le_of_ble_eq_true rfl) (fun y τ' hs => ?_)
  exact lj_eq C hs.1 dL_law_203 (by decide) (next σ' τ' hs.2)
theorem lc_fault (C : LC p s m c b L xs D ty qC qM) (hL : L ≤ 320) (hi : i + 5 ≤ L) (hR : Rel σ τ) (next : ∀ σ' τ', Rel σ' τ' → LJ p l e s m below meth c b D ty qC qM 975 (Lx b qC qM i) [] σ' τ') : LJ p l e s m below meth c b D ty qC qM 208 (Lx b qC qM i) [] σ τ := by
  refine lj_ax C dL_law_208 ?_
  refine lj_C (As := []) (rest := []) C yk_X8_fault vk_X8_fault lk_L_23 rfl dL_law_209 (mX8_fault (Y := (l, D, ty, qC, wC)) rfl (sim_fault hR)) rfl rfl ⟨by decide, by decide⟩ (Nat.zero_le _) (fun x σ' hs => ?_)
  refine lj_am C dL_law_212 ?_
  refine lj_M (As := []) (rest := [.int x]) C yk_X9_fault vk_X9_fault lk_L_26 rfl dL_law_213 (mX9_fault (Y := (l, D, ty, qM, wM)) rfl hs) rfl rfl ⟨by decide, by decide⟩ (Nat.le_of_ble_eq_true rfl) (fun y τ' hs => ?_)
  exact lj_eq C hs.1 dL_law_216 (by decide) (next σ' τ' hs.2)
theorem lc_laid (C : LC p s m c b L xs D ty qC qM) (hL : L ≤ 320) (hi : i + 5 ≤ L) (hR : Rel σ τ) (next : ∀ σ' τ', Rel σ' τ' → LJ p l e s m below meth c b D ty qC qM 975 (Lx b qC qM i) [] σ' τ') : LJ p l e s m below meth c b D ty qC qM 221 (Lx b qC qM i) [] σ τ := by
  refine lj_ax C dL_law_221 ?_
  refine lj_C (As := []) (rest := []) C yk_X8_laid vk_X8_laid lk_L_27 rfl dL_law_222 (mX8_laid (Y := (l, D, ty, qC, wC)) rfl (sim_laid hR)) rfl rfl ⟨by decide, by decide⟩ (Nat.zero_le _) (fun x σ' hs => ?_)
  refine lj_am C dL_law_225 ?_
  refine lj_M (As := []) (rest := [.int x]) C yk_X9_laid vk_X9_laid lk_L_30 rfl dL_law_226 (mX9_laid (Y := (l, D, ty, qM, wM)) rfl hs) rfl rfl ⟨by decide, by decide⟩ (Nat.le_of_ble_eq_true rfl) (fun y τ' hs => ?_)
  exact lj_eq C hs.1 dL_law_229 (by decide) (next σ' τ' hs.2)
theorem lc_cell (C : LC p s m c b L xs D ty qC qM) (hL : L ≤ 320) (hi : i + 5 ≤ L) (hR : Rel σ τ) (next : ∀ σ' τ', Rel σ' τ' → LJ p l e s m below meth c b D ty qC qM 975 (Lx b qC qM i) [] σ' τ') : LJ p l e s m below meth c b D ty qC qM 234 (Lx b qC qM i) [] σ τ := by
  refine lj_ax C dL_law_234 ?_
  refine lj_arg (j := 1) C hL (by omega) (by decide) dL_law_235 dL_law_236 dL_law_237 dL_law_238 dL_law_239 ?_
  refine lj_arg (j := 2) C hL (by omega) (by decide) dL_law_240 dL_law_241 dL_law_242 dL_law_243 dL_law_244 ?_
  refine lj_C (As := [.int (xs (i + 1)), .int (xs (i + 2))]) (rest := []) C yk_X8_cell vk_X8_cell lk_L_31 rfl dL_law_245 (mX8_cell (Y := (l, D, ty, qC, wC)) rfl (sim_cell hR)) rfl rfl ⟨by decide, by decide⟩ (Nat.zero_le _) (fun x σ' hs => ?_)
  refine lj_am C dL_law_248 ?_
  refine lj_arg (j := 1) C hL (by omega) (by decide) dL_law_249 dL_law_250 dL_law_251 dL_law_252 dL_law_253 ?_
  refine lj_arg (j := 2) C hL (by omega) (by decide) dL_law_254 dL_law_255 dL_law_256 dL_law_257 dL_law_258 ?_
  refine lj_M (As := [.int (xs (i + 1)), .int (xs (i + 2))]) (rest := [.int x]) C yk_X9_cell vk_X9_cell lk_L_35 rfl dL_law_259 (mX9_cell (Y := (l, D, ty, qM, wM)) rfl hs) rfl rfl ⟨by decide, by decide⟩ (Nat.le_of_ble_eq_true rfl) (fun y τ' hs => ?_)
  exact lj_eq C hs.1 dL_law_262 (by decide) (next σ' τ' hs.2)
theorem lc_lake (C : LC p s m c b L xs D ty qC qM) (hL : L ≤ 320) (hi : i + 5 ≤ L) (hR : Rel σ τ) (next : ∀ σ' τ', Rel σ' τ' → LJ p l e s m below meth c b D ty qC qM 975 (Lx b qC qM i) [] σ' τ') : LJ p l e s m below meth c b D ty qC qM 267 (Lx b qC qM i) [] σ τ := by
  refine lj_ax C dL_law_267 ?_
  refine lj_arg (j := 1) C hL (by omega) (by decide) dL_law_268 dL_law_269 dL_law_270 dL_law_271 dL_law_272 ?_
  refine lj_C (As := [.int (xs (i + 1))]) (rest := []) C yk_X8_lake vk_X8_lake lk_L_36 rfl dL_law_273 (mX8_lake (Y := (l, D, ty, qC, wC)) rfl (sim_lake hR)) rfl rfl ⟨by decide, by decide⟩ (Nat.zero_le _) (fun x σ' hs => ?_)
  refine lj_am C dL_law_276 ?_
  refine lj_arg (j := 1) C hL (by omega) (by decide) dL_law_277 dL_law_278 dL_law_279 dL_law_280 dL_law_281 ?_
  refine lj_M (As := [.int (xs (i + 1))]) (rest := [.int x]) C yk_X9_lake vk_X9_lake lk_L_39 rfl dL_law_282 (mX9_lake (Y := (l, D, ty, qM, wM)) rfl hs) rfl rfl ⟨by decide, by decide⟩ (Nat.le_of_ble_eq_true rfl) (fun y τ' hs => ?_)
  exact lj_eq C hs.1 dL_law_285 (by decide) (next σ' τ' hs.2)
theorem lc_edge (C : LC p s m c b L xs D ty qC qM) (hL : L ≤ 320) (hi : i + 5 ≤ L) (hR : Rel σ τ) (next : ∀ σ' τ', Rel σ' τ' → LJ p l e s m below meth c b D ty qC qM 975 (Lx b qC qM i) [] σ' τ') : LJ p l e s m below meth c b D ty qC qM 290 (Lx b qC qM i) [] σ τ := by
  refine lj_ax C dL_law_290 ?_
  refine lj_arg (j := 1) C hL (by omega) (by decide) dL_law_291 dL_law_292 dL_law_293 dL_law_294 dL_law_295 ?_
  refine lj_C (As := [.int (xs (i + 1))]) (rest := []) C yk_X8_edge vk_X8_edge lk_L_40 rfl dL_law_296 (mX8_edge (Y := (l, D, ty, qC, wC)) rfl (sim_edge hR)) rfl rfl ⟨by decide, by decide⟩ (Nat.zero_le _) (fun x σ' hs => ?_)
  refine lj_am C dL_law_299 ?_
  refine lj_arg (j := 1) C hL (by omega) (by decide) dL_law_300 dL_law_301 dL_law_302 dL_law_303 dL_law_304 ?_
  refine lj_M (As := [.int (xs (i + 1))]) (rest := [.int x]) C yk_X9_edge vk_X9_edge lk_L_43 rfl dL_law_305 (mX9_edge (Y := (l, D, ty, qM, wM)) rfl hs) rfl rfl ⟨by decide, by decide⟩ (Nat.le_of_ble_eq_true rfl) (fun y τ' hs => ?_)
  exact lj_eq C hs.1 dL_law_308 (by decide) (next σ' τ' hs.2)
theorem lc_comes (C : LC p s m c b L xs D ty qC qM) (hL : L ≤ 320) (hi : i + 5 ≤ L) (hR : Rel σ τ) (next : ∀ σ' τ', Rel σ' τ' → LJ p l e s m below meth c b D ty qC qM 975 (Lx b qC qM i) [] σ' τ') : LJ p l e s m below meth c b D ty qC qM 313 (Lx b qC qM i) [] σ τ := by
  refine lj_ax C dL_law_313 ?_
  refine lj_arg (j := 1) C hL (by omega) (by decide) dL_law_314 dL_law_315 dL_law_316 dL_law_317 dL_law_318 ?_
  refine lj_C (As := [.int (xs (i + 1))]) (rest := []) C yk_X8_comes vk_X8_comes lk_L_44 rfl dL_law_319 (mX8_comes (Y := (l, D, ty, qC, wC)) rfl (sim_comes hR)) rfl rfl ⟨by decide, by decide⟩ (Nat.zero_le _) (fun x σ' hs => ?_)
  refine lj_am C dL_law_322 ?_
  refine lj_arg (j := 1) C hL (by omega) (by decide) dL_law_323 dL_law_324 dL_law_325 dL_law_326 dL_law_327 ?_
  refine lj_M (As := [.int (xs (i + 1))]) (rest := [.int x]) C yk_X9_comes vk_X9_comes lk_L_47 rfl dL_law_328 (mX9_comes (Y := (l, D, ty, qM, wM)) rfl hs) rfl rfl ⟨by decide, by decide⟩ (Nat.le_of_ble_eq_true rfl) (fun y τ' hs => ?_)
  exact lj_eq C hs.1 dL_law_331 (by decide) (next σ' τ' hs.2)
theorem lc_put (C : LC p s m c b L xs D ty qC qM) (hL : L ≤ 320) (hi : i + 5 ≤ L) (hR : Rel σ τ) (next : ∀ σ' τ', Rel σ' τ' → LJ p l e s m below meth c b D ty qC qM 975 (Lx b qC qM i) [] σ' τ') : LJ p l e s m below meth c b D ty qC qM 336 (Lx b qC qM i) [] σ τ := by
  refine lj_ax C dL_law_336 ?_
  refine lj_arg (j := 1) C hL (by omega) (by decide) dL_law_337 dL_law_338 dL_law_339 dL_law_340 dL_law_341 ?_
  refine lj_arg (j := 2) C hL (by omega) (by decide) dL_law_342 dL_law_343 dL_law_344 dL_law_345 dL_law_346 ?_
  refine lj_arg (j := 3) C hL (by omega) (by decide) dL_law_347 dL_law_348 dL_law_349 dL_law_350 dL_law_351 ?_
  refine lj_C (As := [.int (xs (i + 1)), .int (xs (i + 2)), .int (xs (i + 3))]) (rest := []) C yk_X8_put vk_X8_put lk_L_48 rfl dL_law_352 (mX8_put (Y := (l, D, ty, qC, wC)) rfl (sim_put hR)) rfl rfl ⟨by decide, by decide⟩ (Nat.zero_le _) (fun x σ' hs => ?_)
  refine lj_am C dL_law_355 ?_
  refine lj_arg (j := 1) C hL (by omega) (by decide) dL_law_356 dL_law_357 dL_law_358 dL_law_359 dL_law_360 ?_
  refine lj_arg (j := 2) C hL (by omega) (by decide) dL_law_361 dL_law_362 dL_law_363 dL_law_364 dL_law_365 ?_
  refine lj_arg (j := 3) C hL (by omega) (by decide) dL_law_366 dL_law_367 dL_law_368 dL_law_369 dL_law_370 ?_
  refine lj_M (As := [.int (xs (i + 1)), .int (xs (i + 2)), .int (xs (i + 3))]) (rest := [.int x]) C yk_X9_put vk_X9_put lk_L_52 rfl dL_law_371 (mX9_put (Y := (l, D, ty, qM, wM)) rfl hs) rfl rfl ⟨by decide, by decide⟩ (Nat.le_of_ble_eq_true rfl) (fun y τ' hs => ?_)
  exact lj_eq C hs.1 dL_law_374 (by decide) (next σ' τ' hs.2)
theorem lc_dig (C : LC p s m c b L xs D ty qC qM) (hL : L ≤ 320) (hi : i + 5 ≤ L) (hR : Rel σ τ) (next : ∀ σ' τ', Rel σ' τ' → LJ p l e s m below meth c b D ty qC qM 975 (Lx b qC qM i) [] σ' τ') : LJ p l e s m below meth c b D ty qC qM 379 (Lx b qC qM i) [] σ τ := by
  refine lj_ax C dL_law_379 ?_
  refine lj_arg (j := 1) C hL (by omega) (by decide) dL_law_380 dL_law_381 dL_law_382 dL_law_383 dL_law_384 ?_
  refine lj_arg (j := 2) C hL (by omega) (by decide) dL_law_385 dL_law_386 dL_law_387 dL_law_388 dL_law_389 ?_
  refine lj_C (As := [.int (xs (i + 1)), .int (xs (i + 2))]) (rest := []) C yk_X8_dig vk_X8_dig lk_L_53 rfl dL_law_390 (mX8_dig (Y := (l, D, ty, qC, wC)) rfl (sim_dig hR)) rfl rfl ⟨by decide, by decide⟩ (Nat.zero_le _) (fun x σ' hs => ?_)
  refine lj_am C dL_law_393 ?_
  refine lj_arg (j := 1) C hL (by omega) (by decide) dL_law_394 dL_law_395 dL_law_396 dL_law_397 dL_law_398 ?_
  refine lj_arg (j := 2) C hL (by omega) (by decide) dL_law_399 dL_law_400 dL_law_401 dL_law_402 dL_law_403 ?_
  refine lj_M (As := [.int (xs (i + 1)), .int (xs (i + 2))]) (rest := [.int x]) C yk_X9_dig vk_X9_dig lk_L_56 rfl dL_law_404 (mX9_dig (Y := (l, D, ty, qM, wM)) rfl hs) rfl rfl ⟨by decide, by decide⟩ (Nat.le_of_ble_eq_true rfl) (fun y τ' hs => ?_)
  exact lj_eq C hs.1 dL_law_407 (by decide) (next σ' τ' hs.2)
theorem lc_pass (C : LC p s m c b L xs D ty qC qM) (hL : L ≤ 320) (hi : i + 5 ≤ L) (hR : Rel σ τ) (next : ∀ σ' τ', Rel σ' τ' → LJ p l e s m below meth c b D ty qC qM 975 (Lx b qC qM i) [] σ' τ') : LJ p l e s m below meth c b D ty qC qM 412 (Lx b qC qM i) [] σ τ := by
  refine lj_ax C dL_law_412 ?_
  refine lj_arg (j := 1) C hL (by omega) (by decide) dL_law_413 dL_law_414 dL_law_415 dL_law_416 dL_law_417 ?_
  refine lj_C (As := [.int (xs (i + 1))]) (rest := []) C yk_X8_pass vk_X8_pass lk_L_57 rfl dL_law_418 (mX8_pass (Y := (l, D, ty, qC, wC)) rfl (sim_pass hR)) rfl rfl ⟨by decide, by decide⟩ (Nat.zero_le _) (fun x σ' hs => ?_)
  refine lj_am C dL_law_421 ?_
  refine lj_arg (j := 1) C hL (by omega) (by decide) dL_law_422 dL_law_423 dL_law_424 dL_law_425 dL_law_426 ?_
  refine lj_M (As := [.int (xs (i + 1))]) (rest := [.int x]) C yk_X9_pass vk_X9_pass lk_L_60 rfl dL_law_427 (mX9_pass (Y := (l, D, ty, qM, wM)) rfl hs) rfl rfl ⟨by decide, by decide⟩ (Nat.le_of_ble_eq_true rfl) (fun y τ' hs => ?_)
  exact lj_eq C hs.1 dL_law_430 (by decide) (next σ' τ' hs.2)
theorem lc_undo (C : LC p s m c b L xs D ty qC qM) (hL : L ≤ 320) (hi : i + 5 ≤ L) (hR : Rel σ τ) (next : ∀ σ' τ', Rel σ' τ' → LJ p l e s m below meth c b D ty qC qM 975 (Lx b qC qM i) [] σ' τ') : LJ p l e s m below meth c b D ty qC qM 435 (Lx b qC qM i) [] σ τ := by
  refine lj_ax C dL_law_435 ?_
  refine lj_C (As := []) (rest := []) C yk_X8_undo vk_X8_undo lk_L_61 rfl dL_law_436 (mX8_undo (Y := (l, D, ty, qC, wC)) rfl (sim_undo hR)) rfl rfl ⟨by decide, by decide⟩ (Nat.zero_le _) (fun x σ' hs => ?_)
  refine lj_am C dL_law_439 ?_
  refine lj_M (As := []) (rest := [.int x]) C yk_X9_undo vk_X9_undo lk_L_64 rfl dL_law_440 (mX9_undo (Y := (l, D, ty, qM, wM)) rfl hs) rfl rfl ⟨by decide, by decide⟩ (Nat.le_of_ble_eq_true rfl) (fun y τ' hs => ?_)
  exact lj_eq C hs.1 dL_law_443 (by decide) (next σ' τ' hs.2)
theorem lc_behind (C : LC p s m c b L xs D ty qC qM) (hL : L ≤ 320) (hi : i + 5 ≤ L) (hR : Rel σ τ) (next : ∀ σ' τ', Rel σ' τ' → LJ p l e s m below meth c b D ty qC qM 975 (Lx b qC qM i) [] σ' τ') : LJ p l e s m below meth c b D ty qC qM 448 (Lx b qC qM i) [] σ τ := by
  refine lj_ax C dL_law_448 ?_
  refine lj_arg (j := 1) C hL (by omega) (by decide) dL_law_449 dL_law_450 dL_law_451 dL_law_452 dL_law_453 ?_
  refine lj_arg (j := 2) C hL (by omega) (by decide) dL_law_454 dL_law_455 dL_law_456 dL_law_457 dL_law_458 ?_
  refine lj_C (As := [.int (xs (i + 1)), .int (xs (i + 2))]) (rest := []) C yk_X8_behind vk_X8_behind lk_L_65 rfl dL_law_459 (mX8_behind (Y := (l, D, ty, qC, wC)) rfl (sim_behind hR)) rfl rfl ⟨by decide, by decide⟩ (Nat.zero_le _) (fun x σ' hs => ?_)
  refine lj_am C dL_law_462 ?_
  refine lj_arg (j := 1) C hL (by omega) (by decide) dL_law_463 dL_law_464 dL_law_465 dL_law_466 dL_law_467 ?_
  refine lj_arg (j := 2) C hL (by omega) (by decide) dL_law_468 dL_law_469 dL_law_470 dL_law_471 dL_law_472 ?_
  refine lj_M (As := [.int (xs (i + 1)), .int (xs (i + 2))]) (rest := [.int x]) C yk_X9_behind vk_X9_behind lk_L_68 rfl dL_law_473 (mX9_behind (Y := (l, D, ty, qM, wM)) rfl hs) rfl rfl ⟨by decide, by decide⟩ (Nat.le_of_ble_eq_true rfl) (fun y τ' hs => ?_)
  exact lj_eq C hs.1 dL_law_476 (by decide) (next σ' τ' hs.2)
theorem lc_worn (C : LC p s m c b L xs D ty qC qM) (hL : L ≤ 320) (hi : i + 5 ≤ L) (hR : Rel σ τ) (next : ∀ σ' τ', Rel σ' τ' → LJ p l e s m below meth c b D ty qC qM 975 (Lx b qC qM i) [] σ' τ') : LJ p l e s m below meth c b D ty qC qM 481 (Lx b qC qM i) [] σ τ := by
  refine lj_ax C dL_law_481 ?_
  refine lj_arg (j := 1) C hL (by omega) (by decide) dL_law_482 dL_law_483 dL_law_484 dL_law_485 dL_law_486 ?_
  refine lj_arg (j := 2) C hL (by omega) (by decide) dL_law_487 dL_law_488 dL_law_489 dL_law_490 dL_law_491 ?_
  refine lj_C (As := [.int (xs (i + 1)), .int (xs (i + 2))]) (rest := []) C yk_X8_worn vk_X8_worn lk_L_69 rfl dL_law_492 (mX8_worn (Y := (l, D, ty, qC, wC)) rfl (sim_worn hR)) rfl rfl ⟨by decide, by decide⟩ (Nat.zero_le _) (fun x σ' hs => ?_)
  refine lj_am C dL_law_495 ?_
  refine lj_arg (j := 1) C hL (by omega) (by decide) dL_law_496 dL_law_497 dL_law_498 dL_law_499 dL_law_500 ?_
  refine lj_arg (j := 2) C hL (by omega) (by decide) dL_law_501 dL_law_502 dL_law_503 dL_law_504 dL_law_505 ?_
  refine lj_M (As := [.int (xs (i + 1)), .int (xs (i + 2))]) (rest := [.int x]) C yk_X9_worn vk_X9_worn lk_L_72 rfl dL_law_506 (mX9_worn (Y := (l, D, ty, qM, wM)) rfl hs) rfl rfl ⟨by decide, by decide⟩ (Nat.le_of_ble_eq_true rfl) (fun y τ' hs => ?_)
  exact lj_eq C hs.1 dL_law_509 (by decide) (next σ' τ' hs.2)
theorem lc_over (C : LC p s m c b L xs D ty qC qM) (hL : L ≤ 320) (hi : i + 5 ≤ L) (hR : Rel σ τ) (next : ∀ σ' τ', Rel σ' τ' → LJ p l e s m below meth c b D ty qC qM 975 (Lx b qC qM i) [] σ' τ') : LJ p l e s m below meth c b D ty qC qM 514 (Lx b qC qM i) [] σ τ := by
  refine lj_ax C dL_law_514 ?_
  refine lj_arg (j := 1) C hL (by omega) (by decide) dL_law_515 dL_law_516 dL_law_517 dL_law_518 dL_law_519 ?_
  refine lj_C (As := [.int (xs (i + 1))]) (rest := []) C yk_X8_over vk_X8_over lk_L_73 rfl dL_law_520 (mX8_over (Y := (l, D, ty, qC, wC)) rfl (sim_over hR)) rfl rfl ⟨by decide, by decide⟩ (Nat.zero_le _) (fun x σ' hs => ?_)
  refine lj_am C dL_law_523 ?_
  refine lj_arg (j := 1) C hL (by omega) (by decide) dL_law_524 dL_law_525 dL_law_526 dL_law_527 dL_law_528 ?_
  refine lj_M (As := [.int (xs (i + 1))]) (rest := [.int x]) C yk_X9_over vk_X9_over lk_L_76 rfl dL_law_529 (mX9_over (Y := (l, D, ty, qM, wM)) rfl hs) rfl rfl ⟨by decide, by decide⟩ (Nat.le_of_ble_eq_true rfl) (fun y τ' hs => ?_)
  exact lj_eq C hs.1 dL_law_532 (by decide) (next σ' τ' hs.2)
theorem lc_gone (C : LC p s m c b L xs D ty qC qM) (hL : L ≤ 320) (hi : i + 5 ≤ L) (hR : Rel σ τ) (next : ∀ σ' τ', Rel σ' τ' → LJ p l e s m below meth c b D ty qC qM 975 (Lx b qC qM i) [] σ' τ') : LJ p l e s m below meth c b D ty qC qM 537 (Lx b qC qM i) [] σ τ := by
  refine lj_ax C dL_law_537 ?_
  refine lj_arg (j := 1) C hL (by omega) (by decide) dL_law_538 dL_law_539 dL_law_540 dL_law_541 dL_law_542 ?_
  refine lj_C (As := [.int (xs (i + 1))]) (rest := []) C yk_X8_gone vk_X8_gone lk_L_77 rfl dL_law_543 (mX8_gone (Y := (l, D, ty, qC, wC)) rfl (sim_gone hR)) rfl rfl ⟨by decide, by decide⟩ (Nat.zero_le _) (fun x σ' hs => ?_)
  refine lj_am C dL_law_546 ?_
  refine lj_arg (j := 1) C hL (by omega) (by decide) dL_law_547 dL_law_548 dL_law_549 dL_law_550 dL_law_551 ?_
  refine lj_M (As := [.int (xs (i + 1))]) (rest := [.int x]) C yk_X9_gone vk_X9_gone lk_L_80 rfl dL_law_552 (mX9_gone (Y := (l, D, ty, qM, wM)) rfl hs) rfl rfl ⟨by decide, by decide⟩ (Nat.le_of_ble_eq_true rfl) (fun y τ' hs => ?_)
  exact lj_eq C hs.1 dL_law_555 (by decide) (next σ' τ' hs.2)
theorem lc_best (C : LC p s m c b L xs D ty qC qM) (hL : L ≤ 320) (hi : i + 5 ≤ L) (hR : Rel σ τ) (next : ∀ σ' τ', Rel σ' τ' → LJ p l e s m below meth c b D ty qC qM 975 (Lx b qC qM i) [] σ' τ') : LJ p l e s m below meth c b D ty qC qM 560 (Lx b qC qM i) [] σ τ := by
  refine lj_ax C dL_law_560 ?_
  refine lj_arg (j := 1) C hL (by omega) (by decide) dL_law_561 dL_law_562 dL_law_563 dL_law_564 dL_law_565 ?_
  refine lj_arg (j := 2) C hL (by omega) (by decide) dL_law_566 dL_law_567 dL_law_568 dL_law_569 dL_law_570 ?_
  refine lj_arg (j := 3) C hL (by omega) (by decide) dL_law_571 dL_law_572 dL_law_573 dL_law_574 dL_law_575 ?_
  refine lj_arg (j := 4) C hL (by omega) (by decide) dL_law_576 dL_law_577 dL_law_578 dL_law_579 dL_law_580 ?_
  refine lj_C (As := [.int (xs (i + 1)), .int (xs (i + 2)), .int (xs (i + 3)), .int (xs (i + 4))]) (rest := []) C yk_X8_best vk_X8_best lk_L_81 rfl dL_law_581 (mX8_best (Y := (l, D, ty, qC, wC)) rfl (sim_best hR)) rfl rfl ⟨by decide, by decide⟩ (Nat.zero_le _) (fun x σ' hs => ?_)
  refine lj_am C dL_law_584 ?_
  refine lj_arg (j := 1) C hL (by omega) (by decide) dL_law_585 dL_law_586 dL_law_587 dL_law_588 dL_law_589 ?_
  refine lj_arg (j := 2) C hL (by omega) (by decide) dL_law_590 dL_law_591 dL_law_592 dL_law_593 dL_law_594 ?_
  refine lj_arg (j := 3) C hL (by omega) (by decide) dL_law_595 dL_law_596 dL_law_597 dL_law_598 dL_law_599 ?_
  refine lj_arg (j := 4) C hL (by omega) (by decide) dL_law_600 dL_law_601 dL_law_602 dL_law_603 dL_law_604 ?_
  refine lj_M (As := [.int (xs (i + 1)), .int (xs (i + 2)), .int (xs (i + 3)), .int (xs (i + 4))]) (rest := [.int x]) C yk_X9_best vk_X9_best lk_L_85 rfl dL_law_605 (mX9_best (Y := (l, D, ty, qM, wM)) rfl hs) rfl rfl ⟨by decide, by decide⟩ (Nat.le_of_ble_eq_true rfl) (fun y τ' hs => ?_)
  exact lj_eq C hs.1 dL_law_608 (by decide) (next σ' τ' hs.2)
theorem lc_gap (C : LC p s m c b L xs D ty qC qM) (hL : L ≤ 320) (hi : i + 5 ≤ L) (hR : Rel σ τ) (next : ∀ σ' τ', Rel σ' τ' → LJ p l e s m below meth c b D ty qC qM 975 (Lx b qC qM i) [] σ' τ') : LJ p l e s m below meth c b D ty qC qM 613 (Lx b qC qM i) [] σ τ := by
  refine lj_ax C dL_law_613 ?_
  refine lj_arg (j := 1) C hL (by omega) (by decide) dL_law_614 dL_law_615 dL_law_616 dL_law_617 dL_law_618 ?_
  refine lj_arg (j := 2) C hL (by omega) (by decide) dL_law_619 dL_law_620 dL_law_621 dL_law_622 dL_law_623 ?_
  refine lj_C (As := [.int (xs (i + 1)), .int (xs (i + 2))]) (rest := []) C yk_X8_gap vk_X8_gap lk_L_86 rfl dL_law_624 (mX8_gap (Y := (l, D, ty, qC, wC)) rfl (sim_gap hR)) rfl rfl ⟨by decide, by decide⟩ (Nat.zero_le _) (fun x σ' hs => ?_)
  refine lj_am C dL_law_627 ?_
  refine lj_arg (j := 1) C hL (by omega) (by decide) dL_law_628 dL_law_629 dL_law_630 dL_law_631 dL_law_632 ?_
  refine lj_arg (j := 2) C hL (by omega) (by decide) dL_law_633 dL_law_634 dL_law_635 dL_law_636 dL_law_637 ?_
  refine lj_M (As := [.int (xs (i + 1)), .int (xs (i + 2))]) (rest := [.int x]) C yk_X9_gap vk_X9_gap lk_L_89 rfl dL_law_638 (mX9_gap (Y := (l, D, ty, qM, wM)) rfl hs) rfl rfl ⟨by decide, by decide⟩ (Nat.le_of_ble_eq_true rfl) (fun y τ' hs => ?_)
  exact lj_eq C hs.1 dL_law_641 (by decide) (next σ' τ' hs.2)
theorem lc_together (C : LC p s m c b L xs D ty qC qM) (hL : L ≤ 320) (hi : i + 5 ≤ L) (hR : Rel σ τ) (next : ∀ σ' τ', Rel σ' τ' → LJ p l e s m below meth c b D ty qC qM 975 (Lx b qC qM i) [] σ' τ') : LJ p l e s m below meth c b D ty qC qM 646 (Lx b qC qM i) [] σ τ := by
  refine lj_ax C dL_law_646 ?_
  refine lj_arg (j := 1) C hL (by omega) (by decide) dL_law_647 dL_law_648 dL_law_649 dL_law_650 dL_law_651 ?_
  refine lj_C (As := [.int (xs (i + 1))]) (rest := []) C yk_X8_together vk_X8_together lk_L_90 rfl dL_law_652 (mX8_together (Y := (l, D, ty, qC, wC)) rfl (sim_together hR)) rfl rfl ⟨by decide, by decide⟩ (Nat.zero_le _) (fun x σ' hs => ?_)
  refine lj_am C dL_law_655 ?_
  refine lj_arg (j := 1) C hL (by omega) (by decide) dL_law_656 dL_law_657 dL_law_658 dL_law_659 dL_law_660 ?_
  refine lj_M (As := [.int (xs (i + 1))]) (rest := [.int x]) C yk_X9_together vk_X9_together lk_L_93 rfl dL_law_661 (mX9_together (Y := (l, D, ty, qM, wM)) rfl hs) rfl rfl ⟨by decide, by decide⟩ (Nat.le_of_ble_eq_true rfl) (fun y τ' hs => ?_)
  exact lj_eq C hs.1 dL_law_664 (by decide) (next σ' τ' hs.2)
theorem lc_slow (C : LC p s m c b L xs D ty qC qM) (hL : L ≤ 320) (hi : i + 5 ≤ L) (hR : Rel σ τ) (next : ∀ σ' τ', Rel σ' τ' → LJ p l e s m below meth c b D ty qC qM 975 (Lx b qC qM i) [] σ' τ') : LJ p l e s m below meth c b D ty qC qM 669 (Lx b qC qM i) [] σ τ := by
  refine lj_ax C dL_law_669 ?_
  refine lj_arg (j := 1) C hL (by omega) (by decide) dL_law_670 dL_law_671 dL_law_672 dL_law_673 dL_law_674 ?_
  refine lj_arg (j := 2) C hL (by omega) (by decide) dL_law_675 dL_law_676 dL_law_677 dL_law_678 dL_law_679 ?_
  refine lj_arg (j := 3) C hL (by omega) (by decide) dL_law_680 dL_law_681 dL_law_682 dL_law_683 dL_law_684 ?_
  refine lj_C (As := [.int (xs (i + 1)), .int (xs (i + 2)), .int (xs (i + 3))]) (rest := []) C yk_X8_slow vk_X8_slow lk_L_94 rfl dL_law_685 (mX8_slow (Y := (l, D, ty, qC, wC)) rfl (sim_slow hR)) rfl rfl ⟨by decide, by decide⟩ (Nat.zero_le _) (fun x σ' hs => ?_)
  refine lj_am C dL_law_688 ?_
  refine lj_arg (j := 1) C hL (by omega) (by decide) dL_law_689 dL_law_690 dL_law_691 dL_law_692 dL_law_693 ?_
  refine lj_arg (j := 2) C hL (by omega) (by decide) dL_law_694 dL_law_695 dL_law_696 dL_law_697 dL_law_698 ?_
  refine lj_arg (j := 3) C hL (by omega) (by decide) dL_law_699 dL_law_700 dL_law_701 dL_law_702 dL_law_703 ?_
  refine lj_M (As := [.int (xs (i + 1)), .int (xs (i + 2)), .int (xs (i + 3))]) (rest := [.int x]) C yk_X9_slow vk_X9_slow lk_L_97 rfl dL_law_704 (mX9_slow (Y := (l, D, ty, qM, wM)) rfl hs) rfl rfl ⟨by decide, by decide⟩ (Nat.le_of_ble_eq_true rfl) (fun y τ' hs => ?_)
  exact lj_eq C hs.1 dL_law_707 (by decide) (next σ' τ' hs.2)
theorem lc_fill (C : LC p s m c b L xs D ty qC qM) (hL : L ≤ 320) (hi : i + 5 ≤ L) (hR : Rel σ τ) (next : ∀ σ' τ', Rel σ' τ' → LJ p l e s m below meth c b D ty qC qM 975 (Lx b qC qM i) [] σ' τ') : LJ p l e s m below meth c b D ty qC qM 712 (Lx b qC qM i) [] σ τ := by
  refine lj_ax C dL_law_712 ?_
  refine lj_arg (j := 1) C hL (by omega) (by decide) dL_law_713 dL_law_714 dL_law_715 dL_law_716 dL_law_717 ?_
  refine lj_C (As := [.int (xs (i + 1))]) (rest := []) C yk_X8_fill vk_X8_fill lk_L_98 rfl dL_law_718 (mX8_fill (Y := (l, D, ty, qC, wC)) rfl (sim_fill hR)) rfl rfl ⟨by decide, by decide⟩ (Nat.zero_le _) (fun x σ' hs => ?_)
  refine lj_am C dL_law_721 ?_
  refine lj_arg (j := 1) C hL (by omega) (by decide) dL_law_722 dL_law_723 dL_law_724 dL_law_725 dL_law_726 ?_
  refine lj_M (As := [.int (xs (i + 1))]) (rest := [.int x]) C yk_X9_fill vk_X9_fill lk_L_101 rfl dL_law_727 (mX9_fill (Y := (l, D, ty, qM, wM)) rfl hs) rfl rfl ⟨by decide, by decide⟩ (Nat.le_of_ble_eq_true rfl) (fun y τ' hs => ?_)
  exact lj_eq C hs.1 dL_law_730 (by decide) (next σ' τ' hs.2)
theorem lc_trodden (C : LC p s m c b L xs D ty qC qM) (hL : L ≤ 320) (hi : i + 5 ≤ L) (hR : Rel σ τ) (next : ∀ σ' τ', Rel σ' τ' → LJ p l e s m below meth c b D ty qC qM 975 (Lx b qC qM i) [] σ' τ') : LJ p l e s m below meth c b D ty qC qM 735 (Lx b qC qM i) [] σ τ := by
  refine lj_ax C dL_law_735 ?_
  refine lj_arg (j := 1) C hL (by omega) (by decide) dL_law_736 dL_law_737 dL_law_738 dL_law_739 dL_law_740 ?_
  refine lj_arg (j := 2) C hL (by omega) (by decide) dL_law_741 dL_law_742 dL_law_743 dL_law_744 dL_law_745 ?_
  refine lj_C (As := [.int (xs (i + 1)), .int (xs (i + 2))]) (rest := []) C yk_X8_trodden vk_X8_trodden lk_L_102 rfl dL_law_746 (mX8_trodden (Y := (l, D, ty, qC, wC)) rfl (sim_trodden hR)) rfl rfl ⟨by decide, by decide⟩ (Nat.zero_le _) (fun x σ' hs => ?_)
  refine lj_am C dL_law_749 ?_
  refine lj_arg (j := 1) C hL (by omega) (by decide) dL_law_750 dL_law_751 dL_law_752 dL_law_753 dL_law_754 ?_
  refine lj_arg (j := 2) C hL (by omega) (by decide) dL_law_755 dL_law_756 dL_law_757 dL_law_758 dL_law_759 ?_
  refine lj_M (As := [.int (xs (i + 1)), .int (xs (i + 2))]) (rest := [.int x]) C yk_X9_trodden vk_X9_trodden lk_L_105 rfl dL_law_760 (mX9_trodden (Y := (l, D, ty, qM, wM)) rfl hs) rfl rfl ⟨by decide, by decide⟩ (Nat.le_of_ble_eq_true rfl) (fun y τ' hs => ?_)
  exact lj_eq C hs.1 dL_law_763 (by decide) (next σ' τ' hs.2)
theorem lc_blame (C : LC p s m c b L xs D ty qC qM) (hL : L ≤ 320) (hi : i + 5 ≤ L) (hR : Rel σ τ) (next : ∀ σ' τ', Rel σ' τ' → LJ p l e s m below meth c b D ty qC qM 975 (Lx b qC qM i) [] σ' τ') : LJ p l e s m below meth c b D ty qC qM 768 (Lx b qC qM i) [] σ τ := by
  refine lj_ax C dL_law_768 ?_
  refine lj_C (As := []) (rest := []) C yk_X8_blame vk_X8_blame lk_L_106 rfl dL_law_769 (mX8_blame (Y := (l, D, ty, qC, wC)) rfl (sim_blame hR)) rfl rfl ⟨by decide, by decide⟩ (Nat.zero_le _) (fun x σ' hs => ?_)
  refine lj_am C dL_law_772 ?_
  refine lj_M (As := []) (rest := [.int x]) C yk_X9_blame vk_X9_blame lk_L_109 rfl dL_law_773 (mX9_blame (Y := (l, D, ty, qM, wM)) rfl hs) rfl rfl ⟨by decide, by decide⟩ (Nat.le_of_ble_eq_true rfl) (fun y τ' hs => ?_)
  exact lj_eq C hs.1 dL_law_776 (by decide) (next σ' τ' hs.2)
theorem lc_seen (C : LC p s m c b L xs D ty qC qM) (hL : L ≤ 320) (hi : i + 5 ≤ L) (hR : Rel σ τ) (next : ∀ σ' τ', Rel σ' τ' → LJ p l e s m below meth c b D ty qC qM 975 (Lx b qC qM i) [] σ' τ') : LJ p l e s m below meth c b D ty qC qM 781 (Lx b qC qM i) [] σ τ := by
  refine lj_ax C dL_law_781 ?_
  refine lj_arg (j := 1) C hL (by omega) (by decide) dL_law_782 dL_law_783 dL_law_784 dL_law_785 dL_law_786 ?_
  refine lj_arg (j := 2) C hL (by omega) (by decide) dL_law_787 dL_law_788 dL_law_789 dL_law_790 dL_law_791 ?_
  refine lj_C (As := [.int (xs (i + 1)), .int (xs (i + 2))]) (rest := []) C yk_X8_seen vk_X8_seen lk_L_110 rfl dL_law_792 (mX8_seen (Y := (l, D, ty, qC, wC)) rfl (sim_seen hR)) rfl rfl ⟨by decide, by decide⟩ (Nat.zero_le _) (fun x σ' hs => ?_)
  refine lj_am C dL_law_795 ?_
  refine lj_arg (j := 1) C hL (by omega) (by decide) dL_law_796 dL_law_797 dL_law_798 dL_law_799 dL_law_800 ?_
  refine lj_arg (j := 2) C hL (by omega) (by decide) dL_law_801 dL_law_802 dL_law_803 dL_law_804 dL_law_805 ?_
  refine lj_M (As := [.int (xs (i + 1)), .int (xs (i + 2))]) (rest := [.int x]) C yk_X9_seen vk_X9_seen lk_L_113 rfl dL_law_806 (mX9_seen (Y := (l, D, ty, qM, wM)) rfl hs) rfl rfl ⟨by decide, by decide⟩ (Nat.le_of_ble_eq_true rfl) (fun y τ' hs => ?_)
  exact lj_eq C hs.1 dL_law_809 (by decide) (next σ' τ' hs.2)
theorem lc_forget (C : LC p s m c b L xs D ty qC qM) (hL : L ≤ 320) (hi : i + 5 ≤ L) (hR : Rel σ τ) (next : ∀ σ' τ', Rel σ' τ' → LJ p l e s m below meth c b D ty qC qM 975 (Lx b qC qM i) [] σ' τ') : LJ p l e s m below meth c b D ty qC qM 814 (Lx b qC qM i) [] σ τ := by
  refine lj_ax C dL_law_814 ?_
  refine lj_C (As := []) (rest := []) C yk_X8_forget vk_X8_forget lk_L_114 rfl dL_law_815 (mX8_forget (Y := (l, D, ty, qC, wC)) rfl (sim_forget hR)) rfl rfl ⟨by decide, by decide⟩ (Nat.zero_le _) (fun x σ' hs => ?_)
  refine lj_am C dL_law_818 ?_
  refine lj_M (As := []) (rest := [.int x]) C yk_X9_forget vk_X9_forget lk_L_117 rfl dL_law_819 (mX9_forget (Y := (l, D, ty, qM, wM)) rfl hs) rfl rfl ⟨by decide, by decide⟩ (Nat.le_of_ble_eq_true rfl) (fun y τ' hs => ?_)
  exact lj_eq C hs.1 dL_law_822 (by decide) (next σ' τ' hs.2)
theorem lc_flows (C : LC p s m c b L xs D ty qC qM) (hL : L ≤ 320) (hi : i + 5 ≤ L) (hR : Rel σ τ) (next : ∀ σ' τ', Rel σ' τ' → LJ p l e s m below meth c b D ty qC qM 975 (Lx b qC qM i) [] σ' τ') : LJ p l e s m below meth c b D ty qC qM 827 (Lx b qC qM i) [] σ τ := by
  refine lj_ax C dL_law_827 ?_
  refine lj_C (As := []) (rest := []) C yk_X8_flows vk_X8_flows lk_L_118 rfl dL_law_828 (mX8_flows (Y := (l, D, ty, qC, wC)) rfl (sim_flows hR)) rfl rfl ⟨by decide, by decide⟩ (Nat.zero_le _) (fun x σ' hs => ?_)
  refine lj_am C dL_law_831 ?_
  refine lj_M (As := []) (rest := [.int x]) C yk_X9_flows vk_X9_flows lk_L_121 rfl dL_law_832 (mX9_flows (Y := (l, D, ty, qM, wM)) rfl hs) rfl rfl ⟨by decide, by decide⟩ (Nat.le_of_ble_eq_true rfl) (fun y τ' hs => ?_)
  exact lj_eq C hs.1 dL_law_835 (by decide) (next σ' τ' hs.2)
theorem lc_odds (C : LC p s m c b L xs D ty qC qM) (hL : L ≤ 320) (hi : i + 5 ≤ L) (hR : Rel σ τ) (next : ∀ σ' τ', Rel σ' τ' → LJ p l e s m below meth c b D ty qC qM 975 (Lx b qC qM i) [] σ' τ') : LJ p l e s m below meth c b D ty qC qM 840 (Lx b qC qM i) [] σ τ := by
  refine lj_ax C dL_law_840 ?_
  refine lj_arg (j := 1) C hL (by omega) (by decide) dL_law_841 dL_law_842 dL_law_843 dL_law_844 dL_law_845 ?_
  refine lj_arg (j := 2) C hL (by omega) (by decide) dL_law_846 dL_law_847 dL_law_848 dL_law_849 dL_law_850 ?_
  refine lj_arg (j := 3) C hL (by omega) (by decide) dL_law_851 dL_law_852 dL_law_853 dL_law_854 dL_law_855 ?_
  refine lj_arg (j := 4) C hL (by omega) (by decide) dL_law_856 dL_law_857 dL_law_858 dL_law_859 dL_law_860 ?_
  refine lj_C (As := [.int (xs (i + 1)), .int (xs (i + 2)), .int (xs (i + 3)), .int (xs (i + 4))]) (rest := []) C yk_X8_odds vk_X8_odds lk_L_122 rfl dL_law_861 (mX8_odds (Y := (l, D, ty, qC, wC)) rfl (sim_odds hR)) rfl rfl ⟨by decide, by decide⟩ (Nat.zero_le _) (fun x σ' hs => ?_)
  refine lj_am C dL_law_864 ?_
  refine lj_arg (j := 1) C hL (by omega) (by decide) dL_law_865 dL_law_866 dL_law_867 dL_law_868 dL_law_869 ?_
  refine lj_arg (j := 2) C hL (by omega) (by decide) dL_law_870 dL_law_871 dL_law_872 dL_law_873 dL_law_874 ?_
  refine lj_arg (j := 3) C hL (by omega) (by decide) dL_law_875 dL_law_876 dL_law_877 dL_law_878 dL_law_879 ?_
  refine lj_arg (j := 4) C hL (by omega) (by decide) dL_law_880 dL_law_881 dL_law_882 dL_law_883 dL_law_884 ?_
  refine lj_M (As := [.int (xs (i + 1)), .int (xs (i + 2)), .int (xs (i + 3)), .int (xs (i + 4))]) (rest := [.int x]) C yk_X9_odds vk_X9_odds lk_L_125 rfl dL_law_885 (mX9_odds (Y := (l, D, ty, qM, wM)) rfl hs) rfl rfl ⟨by decide, by decide⟩ (Nat.le_of_ble_eq_true rfl) (fun y τ' hs => ?_)
  exact lj_eq C hs.1 dL_law_888 (by decide) (next σ' τ' hs.2)
theorem lc_night (C : LC p s m c b L xs D ty qC qM) (hL : L ≤ 320) (hi : i + 5 ≤ L) (hR : Rel σ τ) (next : ∀ σ' τ', Rel σ' τ' → LJ p l e s m below meth c b D ty qC qM 975 (Lx b qC qM i) [] σ' τ') : LJ p l e s m below meth c b D ty qC qM 893 (Lx b qC qM i) [] σ τ := by
  refine lj_ax C dL_law_893 ?_
  refine lj_arg (j := 1) C hL (by omega) (by decide) dL_law_894 dL_law_895 dL_law_896 dL_law_897 dL_law_898 ?_
  refine lj_arg (j := 2) C hL (by omega) (by decide) dL_law_899 dL_law_900 dL_law_901 dL_law_902 dL_law_903 ?_
  refine lj_C (As := [.int (xs (i + 1)), .int (xs (i + 2))]) (rest := []) C yk_X8_night vk_X8_night lk_L_126 rfl dL_law_904 (mX8_night (Y := (l, D, ty, qC, wC)) rfl (sim_night hR)) rfl rfl ⟨by decide, by decide⟩ (Nat.zero_le _) (fun x σ' hs => ?_)
  refine lj_am C dL_law_907 ?_
  refine lj_arg (j := 1) C hL (by omega) (by decide) dL_law_908 dL_law_909 dL_law_910 dL_law_911 dL_law_912 ?_
  refine lj_arg (j := 2) C hL (by omega) (by decide) dL_law_913 dL_law_914 dL_law_915 dL_law_916 dL_law_917 ?_
  refine lj_M (As := [.int (xs (i + 1)), .int (xs (i + 2))]) (rest := [.int x]) C yk_X9_night vk_X9_night lk_L_129 rfl dL_law_918 (mX9_night (Y := (l, D, ty, qM, wM)) rfl hs) rfl rfl ⟨by decide, by decide⟩ (Nat.le_of_ble_eq_true rfl) (fun y τ' hs => ?_)
  exact lj_eq C hs.1 dL_law_921 (by decide) (next σ' τ' hs.2)
theorem lc_keep (C : LC p s m c b L xs D ty qC qM) (hL : L ≤ 320) (hi : i + 5 ≤ L) (hR : Rel σ τ) (next : ∀ σ' τ', Rel σ' τ' → LJ p l e s m below meth c b D ty qC qM 975 (Lx b qC qM i) [] σ' τ') : LJ p l e s m below meth c b D ty qC qM 926 (Lx b qC qM i) [] σ τ := by
  refine lj_ax C dL_law_926 ?_
  refine lj_C (As := []) (rest := []) C yk_X8_keep vk_X8_keep lk_L_130 rfl dL_law_927 (mX8_keep (Y := (l, D, ty, qC, wC)) rfl (sim_keep hR)) rfl rfl ⟨by decide, by decide⟩ (Nat.zero_le _) (fun x σ' hs => ?_)
  refine lj_am C dL_law_930 ?_
  refine lj_M (As := []) (rest := [.int x]) C yk_X9_keep vk_X9_keep lk_L_133 rfl dL_law_931 (mX9_keep (Y := (l, D, ty, qM, wM)) rfl hs) rfl rfl ⟨by decide, by decide⟩ (Nat.le_of_ble_eq_true rfl) (fun y τ' hs => ?_)
  exact lj_eq C hs.1 dL_law_934 (by decide) (next σ' τ' hs.2)
theorem lc_back (C : LC p s m c b L xs D ty qC qM) (hL : L ≤ 320) (hi : i + 5 ≤ L) (hR : Rel σ τ) (next : ∀ σ' τ', Rel σ' τ' → LJ p l e s m below meth c b D ty qC qM 975 (Lx b qC qM i) [] σ' τ') : LJ p l e s m below meth c b D ty qC qM 939 (Lx b qC qM i) [] σ τ := by
  refine lj_ax C dL_law_939 ?_
  refine lj_C (As := []) (rest := []) C yk_X8_back vk_X8_back lk_L_134 rfl dL_law_940 (mX8_back (Y := (l, D, ty, qC, wC)) rfl (sim_back hR)) rfl rfl ⟨by decide, by decide⟩ (Nat.zero_le _) (fun x σ' hs => ?_)
  refine lj_am C dL_law_943 ?_
  refine lj_M (As := []) (rest := [.int x]) C yk_X9_back vk_X9_back lk_L_137 rfl dL_law_944 (mX9_back (Y := (l, D, ty, qM, wM)) rfl hs) rfl rfl ⟨by decide, by decide⟩ (Nat.le_of_ble_eq_true rfl) (fun y τ' hs => ?_)
  exact lj_eq C hs.1 dL_law_947 (by decide) (next σ' τ' hs.2)
theorem lc_count (C : LC p s m c b L xs D ty qC qM) (hL : L ≤ 320) (hi : i + 5 ≤ L) (hR : Rel σ τ) (next : ∀ σ' τ', Rel σ' τ' → LJ p l e s m below meth c b D ty qC qM 975 (Lx b qC qM i) [] σ' τ') : LJ p l e s m below meth c b D ty qC qM 952 (Lx b qC qM i) [] σ τ := by
  refine lj_ax C dL_law_952 ?_
  refine lj_arg (j := 1) C hL (by omega) (by decide) dL_law_953 dL_law_954 dL_law_955 dL_law_956 dL_law_957 ?_
  refine lj_C (As := [.int (xs (i + 1))]) (rest := []) C yk_X8_count vk_X8_count lk_L_138 rfl dL_law_958 (mX8_count (Y := (l, D, ty, qC, wC)) rfl (sim_count hR)) rfl rfl ⟨by decide, by decide⟩ (Nat.zero_le _) (fun x σ' hs => ?_)
  refine lj_am C dL_law_961 ?_
  refine lj_arg (j := 1) C hL (by omega) (by decide) dL_law_962 dL_law_963 dL_law_964 dL_law_965 dL_law_966 ?_
  refine lj_M (As := [.int (xs (i + 1))]) (rest := [.int x]) C yk_X9_count vk_X9_count lk_L_141 rfl dL_law_967 (mX9_count (Y := (l, D, ty, qM, wM)) rfl hs) rfl rfl ⟨by decide, by decide⟩ (Nat.le_of_ble_eq_true rfl) (fun y τ' hs => ?_)
  exact lj_eq C hs.1 dL_law_970 (by decide) (next σ' τ' hs.2)
theorem lc_next (C : LC p s m c b L xs D ty qC qM) (hL : L ≤ 320) (hi : i + 5 ≤ L) (k : LJ p l e s m below meth c b D ty qC qM 18 (Lx b qC qM (i + 5)) [] σ τ) : LJ p l e s m below meth c b D ty qC qM 975 (Lx b qC qM i) [] σ τ := fun H locs ls hC hM hS hl => by
  refine lv_iinc (v := nI (i + 5)) (lv' := Lx b qC qM (i + 5)) C.1 C.2.1 dL_law_975 hl (k := 0) rfl (by rw [← nI_add]; rfl) (by decide) rfl (fun ls hl => ?_)
  exact lv_goto (tgt := 18) C.1 C.2.1 dL_law_978 (by decide) (k H locs ls hC hM hS hl)
theorem lc_switch (C : LC p s m c b L xs D ty qC qM) (hL : L ≤ 320) (hi : i + 5 ≤ L) (hR : Rel σ τ) (next : ∀ σ' τ', Rel σ' τ' → LJ p l e s m below meth c b D ty qC qM 975 (Lx b qC qM i) [] σ' τ') {x : Int32} : LJ p l e s m below meth c b D ty qC qM 32 (Lx b qC qM i) [.int x] σ τ := fun H locs ls hC hM hS hl => by
  by_cases h1 : x.toInt < 0
  · exact lv_tableOut (tgt := 975) C.1 C.2.1 dL_law_32 (Or.inl h1) (by decide) (next σ τ hR H locs ls hC hM hS hl)
  by_cases h2 : 30 < x.toInt
  · exact lv_tableOut (tgt := 975) C.1 C.2.1 dL_law_32 (Or.inr h2) (by decide) (next σ τ hR H locs ls hC hM hS hl)
  obtain ⟨j, hj, hx⟩ : ∃ j : Nat, j ≤ 30 ∧ x = nI j := nI_of2 (M := 30) (n := 30) (by decide) (fun h => h1 (by rw [Int32.lt_iff_toInt_lt] at h; exact h)) (by rw [Int32.le_iff_toInt_le]; exact Int.not_lt.mp h2)
  subst hx
  clear h1 h2
  rcases (show j = 0 ∨ j = 1 ∨ j = 2 ∨ j = 3 ∨ j = 4 ∨ j = 5 ∨ j = 6 ∨ j = 7 ∨ j = 8 ∨ j = 9 ∨ j = 10 ∨ j = 11 ∨ j = 12 ∨ j = 13 ∨ j = 14 ∨ j = 15 ∨ j = 16 ∨ j = 17 ∨ j = 18 ∨ j = 19 ∨ j = 20 ∨ j = 21 ∨ j = 22 ∨ j = 23 ∨ j = 24 ∨ j = 25 ∨ j = 26 ∨ j = 27 ∨ j = 28 ∨ j = 29 ∨ j = 30 by omega) with rfl | rfl | rfl | rfl | rfl | rfl | rfl | rfl | rfl | rfl | rfl | rfl | rfl | rfl | rfl | rfl | rfl | rfl | rfl | rfl | rfl | rfl | rfl | rfl | rfl | rfl | rfl | rfl | rfl | rfl | rfl
  · exact lv_tableIn (off := 140) (tgt := 172) C.1 C.2.1 dL_law_32 (by decide) (by decide) rfl (by decide) (lc_write C hL hi hR next H locs ls hC hM hS hl)
  · exact lv_tableIn (off := 163) (tgt := 195) C.1 C.2.1 dL_law_32 (by decide) (by decide) rfl (by decide) (lc_wipe C hL hi hR next H locs ls hC hM hS hl)
  · exact lv_tableIn (off := 176) (tgt := 208) C.1 C.2.1 dL_law_32 (by decide) (by decide) rfl (by decide) (lc_fault C hL hi hR next H locs ls hC hM hS hl)
  · exact lv_tableIn (off := 189) (tgt := 221) C.1 C.2.1 dL_law_32 (by decide) (by decide) rfl (by decide) (lc_laid C hL hi hR next H locs ls hC hM hS hl)
  · exact lv_tableIn (off := 202) (tgt := 234) C.1 C.2.1 dL_law_32 (by decide) (by decide) rfl (by decide) (lc_cell C hL hi hR next H locs ls hC hM hS hl)
  · exact lv_tableIn (off := 235) (tgt := 267) C.1 C.2.1 dL_law_32 (by decide) (by decide) rfl (by decide) (lc_lake C hL hi hR next H locs ls hC hM hS hl)
  · exact lv_tableIn (off := 258) (tgt := 290) C.1 C.2.1 dL_law_32 (by decide) (by decide) rfl (by decide) (lc_edge C hL hi hR next H locs ls hC hM hS hl)
  · exact lv_tableIn (off := 281) (tgt := 313) C.1 C.2.1 dL_law_32 (by decide) (by decide) rfl (by decide) (lc_comes C hL hi hR next H locs ls hC hM hS hl)
  · exact lv_tableIn (off := 304) (tgt := 336) C.1 C.2.1 dL_law_32 (by decide) (by decide) rfl (by decide) (lc_put C hL hi hR next H locs ls hC hM hS hl)
  · exact lv_tableIn (off := 347) (tgt := 379) C.1 C.2.1 dL_law_32 (by decide) (by decide) rfl (by decide) (lc_dig C hL hi hR next H locs ls hC hM hS hl)
  · exact lv_tableIn (off := 380) (tgt := 412) C.1 C.2.1 dL_law_32 (by decide) (by decide) rfl (by decide) (lc_pass C hL hi hR next H locs ls hC hM hS hl)
  · exact lv_tableIn (off := 403) (tgt := 435) C.1 C.2.1 dL_law_32 (by decide) (by decide) rfl (by decide) (lc_undo C hL hi hR next H locs ls hC hM hS hl)
  · exact lv_tableIn (off := 416) (tgt := 448) C.1 C.2.1 dL_law_32 (by decide) (by decide) rfl (by decide) (lc_behind C hL hi hR next H locs ls hC hM hS hl)
  · exact lv_tableIn (off := 449) (tgt := 481) C.1 C.2.1 dL_law_32 (by decide) (by decide) rfl (by decide) (lc_worn C hL hi hR next H locs ls hC hM hS hl)
  · exact lv_tableIn (off := 482) (tgt := 514) C.1 C.2.1 dL_law_32 (by decide) (by decide) rfl (by decide) (lc_over C hL hi hR next H locs ls hC hM hS hl)
  · exact lv_tableIn (off := 505) (tgt := 537) C.1 C.2.1 dL_law_32 (by decide) (by decide) rfl (by decide) (lc_gone C hL hi hR next H locs ls hC hM hS hl)
  · exact lv_tableIn (off := 528) (tgt := 560) C.1 C.2.1 dL_law_32 (by decide) (by decide) rfl (by decide) (lc_best C hL hi hR next H locs ls hC hM hS hl)
  · exact lv_tableIn (off := 581) (tgt := 613) C.1 C.2.1 dL_law_32 (by decide) (by decide) rfl (by decide) (lc_gap C hL hi hR next H locs ls hC hM hS hl)
  · exact lv_tableIn (off := 614) (tgt := 646) C.1 C.2.1 dL_law_32 (by decide) (by decide) rfl (by decide) (lc_together C hL hi hR next H locs ls hC hM hS hl)
  · exact lv_tableIn (off := 637) (tgt := 669) C.1 C.2.1 dL_law_32 (by decide) (by decide) rfl (by decide) (lc_slow C hL hi hR next H locs ls hC hM hS hl)
  · exact lv_tableIn (off := 680) (tgt := 712) C.1 C.2.1 dL_law_32 (by decide) (by decide) rfl (by decide) (lc_fill C hL hi hR next H locs ls hC hM hS hl)
  · exact lv_tableIn (off := 703) (tgt := 735) C.1 C.2.1 dL_law_32 (by decide) (by decide) rfl (by decide) (lc_trodden C hL hi hR next H locs ls hC hM hS hl)
  · exact lv_tableIn (off := 736) (tgt := 768) C.1 C.2.1 dL_law_32 (by decide) (by decide) rfl (by decide) (lc_blame C hL hi hR next H locs ls hC hM hS hl)
  · exact lv_tableIn (off := 749) (tgt := 781) C.1 C.2.1 dL_law_32 (by decide) (by decide) rfl (by decide) (lc_seen C hL hi hR next H locs ls hC hM hS hl)
  · exact lv_tableIn (off := 782) (tgt := 814) C.1 C.2.1 dL_law_32 (by decide) (by decide) rfl (by decide) (lc_forget C hL hi hR next H locs ls hC hM hS hl)
  · exact lv_tableIn (off := 795) (tgt := 827) C.1 C.2.1 dL_law_32 (by decide) (by decide) rfl (by decide) (lc_flows C hL hi hR next H locs ls hC hM hS hl)
  · exact lv_tableIn (off := 808) (tgt := 840) C.1 C.2.1 dL_law_32 (by decide) (by decide) rfl (by decide) (lc_odds C hL hi hR next H locs ls hC hM hS hl)
  · exact lv_tableIn (off := 861) (tgt := 893) C.1 C.2.1 dL_law_32 (by decide) (by decide) rfl (by decide) (lc_night C hL hi hR next H locs ls hC hM hS hl)
  · exact lv_tableIn (off := 894) (tgt := 926) C.1 C.2.1 dL_law_32 (by decide) (by decide) rfl (by decide) (lc_keep C hL hi hR next H locs ls hC hM hS hl)
  · exact lv_tableIn (off := 907) (tgt := 939) C.1 C.2.1 dL_law_32 (by decide) (by decide) rfl (by decide) (lc_back C hL hi hR next H locs ls hC hM hS hl)
  · exact lv_tableIn (off := 920) (tgt := 952) C.1 C.2.1 dL_law_32 (by decide) (by decide) rfl (by decide) (lc_count C hL hi hR next H locs ls hC hM hS hl)
theorem law_loop (C : LC p s m c b L xs D ty qC qM) (hL : L ≤ 320) (hr : meth.sig.returnType = ret) (hlocks : meth.locks = false) : ∀ (n i : Nat) (σ τ : vv_S), L ≤ i + n → i ≤ L → Rel σ τ → LJ p l e s m below meth c b D ty qC qM 18 (Lx b qC qM i) [] σ τ := by
  intro n
  have exit : ∀ (i : Nat) (σ τ : vv_S), LJ p l e s m below meth c b D ty qC qM 981 (Lx b qC qM i) [] σ τ := fun i σ τ H locs ls hC hM hS hl => by
    refine lv_iconst (v := 1) C.1 C.2.1 dL_law_981 (by decide) ?_
    exact va_forget hS.2.2 (lw_ret C.1 C.2.1 hr hlocks dL_law_982)
  have head : ∀ (i : Nat) (σ τ : vv_S), i ≤ L → Rel σ τ → (i + 5 ≤ L → ∀ σ' τ', Rel σ' τ' → LJ p l e s m below meth c b D ty qC qM 975 (Lx b qC qM i) [] σ' τ') → LJ p l e s m below meth c b D ty qC qM 18 (Lx b qC qM i) [] σ τ := fun i σ τ hi hR next H locs ls hC hM hS hl => by
    obtain ⟨hx, hb, hml, hown, hts, hK, hN, hX, hbl, hDC, hDM, hap⟩ := id C
    refine lv_iload_n hx hb dL_law_18 rfl (lv_at hl 0 rfl) ?_
    refine lv_aload_n hx hb dL_law_19 rfl (lv_at hl 1 rfl) ?_
    refine va_slen hx hb hX hbl (Nat.not_le.mpr hbl) hS dL_law_20 ?_
    refine lv_iconst (v := 5) hx hb dL_law_21 (by decide) ?_
    refine lv_isub hx hb dL_law_22 ?_
    refine lv_icmp_gt (tgt := 981) hx hb dL_law_23 (by decide) (fun _ => exit i σ τ H locs ls hC hM hS hl) (fun h => ?_)
    have hi5 : i + 5 ≤ L := by
      rcases Nat.lt_or_ge L 5 with q | q
      · refine absurd ?_ h
        have hneg : Int32.ofNat L - 5 < 0 := by
          rcases (show L = 0 ∨ L = 1 ∨ L = 2 ∨ L = 3 ∨ L = 4 by omega) with rfl | rfl | rfl | rfl | rfl <;> decide
        rw [Int32.lt_iff_toInt_lt] at hneg ⊢
        rw [nI_toInt (by omega)]
        have : (0 : Int32).toInt = 0 := by decide
        omega
      · obtain ⟨L', rfl⟩ : ∃ L', L = L' + 5 := ⟨L - 5, by omega⟩
        have e5 : Int32.ofNat (L' + 5) - 5 = nI L' := by
          show nI (L' + 5) - 5 = nI L'
          rw [← nI_add, show nI 5 = (5 : Int32) by decide, Int32.add_sub_cancel]
        rw [e5, nI_ltI (by omega) (by omega)] at h
        omega
    refine lv_aload_n hx hb dL_law_26 rfl (lv_at hl 1 rfl) ?_
    refine lv_iload_n hx hb dL_law_27 rfl (lv_at hl 0 rfl) ?_
    refine va_sld hx hb hX hbl (Nat.not_le.mpr hbl) hS (vp_in_nI (show i < L by omega) (by omega)) dL_law_28 ?_
    refine lv_bipush (v := 31) hx hb dL_law_29 (by decide) ?_
    refine lv_iand hx hb dL_law_31 ?_
    exact lc_switch C hL hi5 hR (next hi5) H locs ls hC hM hS hl
  induction n with
  | zero =>
    intro i σ τ hn hi hR
    exact head i σ τ hi hR (fun h => absurd h (by omega))
  | succ n ih =>
    intro i σ τ hn hi hR
    exact head i σ τ hi hR (fun h σ' τ' hR' => lc_next C hL h (ih (i + 5) σ' τ' (by omega) (by omega) hR'))
end LAW
