/-! the law's calls, one by one (laid by wip/whole/lawgen.py) -/
theorem lg_self {x : Int64} : lg_cmp x x = 0 := by
  unfold lg_cmp
  rw [if_neg (show ¬ x > x from fun h => by have := Int64.lt_iff_toInt_lt.mp h; omega), if_pos rfl]
section
variable {E : Ec} {ad : Nat → Nat} {cy : Nat → ClassId} {A : Nat → Prop} {fin : Ec → State → Prop} {kc ks : Nat} {own : String} {cc : ByteArray} {nL : Nat} {rt : Option FieldType} {pc : Nat} {lv : List (Nat × Value)} {st : List Value}
theorem Y_Ci {index kk maxL : Nat} {y : MethodName} {bytes : ByteArray} {ret : Option FieldType} {av : List Value} {v : Int32} {τ : CS} {st0 : List Value} {σ : CS} {o : Ob} {u : Nat → Int64} (hd : decode cc pc = .ok (.invokevirtual index, 3)) (hM : Cn (El E) (Ed E) (ΓC ad cy) y bytes maxL ret kk (.ref (ad 0) :: av) σ (some (.int v), τ)) (hy1 : y.cls = RX11) (hl1 : Cond.methodLink own index y ∈ wU) (hl2 : Cond.instanceMethod y ∈ wU) (hl4 : Cond.code y bytes maxL ret ∈ wU) (hl5 : Cond.selects y.cls y y ∈ wU) (hy : (parseMethodDescriptor y.desc).map (fun d => d.parameters.length) = some av.length) (hst : st0 = av.reverse ++ .ref (ad 0) :: st) (hmx : maxL ≤ 21) (hL : Lv E 100) (hn : kk ≤ 99) (hW : (st.map fun v => v.category).sum ≤ 8) (k : Jx E (Γ3 ad cy) A fin kc ks own cc nL rt (pc + 3) lv (.int v :: st) (τ, o, u)) : Jx E (Γ3 ad cy) A fin kc ks own cc nL rt pc lv st0 (σ, o, u) :=
  Y_C (q := (some (.int v), τ)) hd hM hy1 hl1 hl2 hl4 hl5 hy hst hmx hL hn hW k
theorem Y_Cl {index kk maxL : Nat} {y : MethodName} {bytes : ByteArray} {ret : Option FieldType} {av : List Value} {v : Int64} {τ : CS} {st0 : List Value} {σ : CS} {o : Ob} {u : Nat → Int64} (hd : decode cc pc = .ok (.invokevirtual index, 3)) (hM : Cn (El E) (Ed E) (ΓC ad cy) y bytes maxL ret kk (.ref (ad 0) :: av) σ (some (.long v), τ)) (hy1 : y.cls = RX11) (hl1 : Cond.methodLink own index y ∈ wU) (hl2 : Cond.instanceMethod y ∈ wU) (hl4 : Cond.code y bytes maxL ret ∈ wU) (hl5 : Cond.selects y.cls y y ∈ wU) (hy : (parseMethodDescriptor y.desc).map (fun d => d.parameters.length) = some av.length) (hst : st0 = av.reverse ++ .ref (ad 0) :: st) (hmx : maxL ≤ 21) (hL : Lv E 100) (hn : kk ≤ 99) (hW : (st.map fun v => v.category).sum ≤ 8) (k : Jx E (Γ3 ad cy) A fin kc ks own cc nL rt (pc + 3) lv (.long v :: st) (τ, o, u)) : Jx E (Γ3 ad cy) A fin kc ks own cc nL rt pc lv st0 (σ, o, u) :=
  Y_C (q := (some (.long v), τ)) hd hM hy1 hl1 hl2 hl4 hl5 hy hst hmx hL hn hW k
theorem Y_Mi {index kk maxL : Nat} {y : MethodName} {bytes : ByteArray} {ret : Option FieldType} {av : List Value} {v : Int32} {o' : Ob} {st0 : List Value} {σ : CS} {o : Ob} {u : Nat → Int64} (hd : decode cc pc = .ok (.invokevirtual index, 3)) (hM : Cn (El E) (Ed E) (ΓM (fun i => ad (111 + i)) cy) y bytes maxL ret kk (.ref (ad 111) :: av) o (some (.int v), o')) (hy1 : y.cls = RX12) (hl1 : Cond.methodLink own index y ∈ wU) (hl2 : Cond.instanceMethod y ∈ wU) (hl4 : Cond.code y bytes maxL ret ∈ wU) (hl5 : Cond.selects y.cls y y ∈ wU) (hy : (parseMethodDescriptor y.desc).map (fun d => d.parameters.length) = some av.length) (hst : st0 = av.reverse ++ .ref (ad 111) :: st) (hmx : maxL ≤ 21) (hL : Lv E 100) (hn : kk ≤ 99) (hW : (st.map fun v => v.category).sum ≤ 8) (k : Jx E (Γ3 ad cy) A fin kc ks own cc nL rt (pc + 3) lv (.int v :: st) (σ, o', u)) : Jx E (Γ3 ad cy) A fin kc ks own cc nL rt pc lv st0 (σ, o, u) :=
  Y_M (q := (some (.int v), o')) hd hM hy1 hl1 hl2 hl4 hl5 hy hst hmx hL hn hW k
theorem Y_Ml {index kk maxL : Nat} {y : MethodName} {bytes : ByteArray} {ret : Option FieldType} {av : List Value} {v : Int64} {o' : Ob} {st0 : List Value} {σ : CS} {o : Ob} {u : Nat → Int64} (hd : decode cc pc = .ok (.invokevirtual index, 3)) (hM : Cn (El E) (Ed E) (ΓM (fun i => ad (111 + i)) cy) y bytes maxL ret kk (.ref (ad 111) :: av) o (some (.long v), o')) (hy1 : y.cls = RX12) (hl1 : Cond.methodLink own index y ∈ wU) (hl2 : Cond.instanceMethod y ∈ wU) (hl4 : Cond.code y bytes maxL ret ∈ wU) (hl5 : Cond.selects y.cls y y ∈ wU) (hy : (parseMethodDescriptor y.desc).map (fun d => d.parameters.length) = some av.length) (hst : st0 = av.reverse ++ .ref (ad 111) :: st) (hmx : maxL ≤ 21) (hL : Lv E 100) (hn : kk ≤ 99) (hW : (st.map fun v => v.category).sum ≤ 8) (k : Jx E (Γ3 ad cy) A fin kc ks own cc nL rt (pc + 3) lv (.long v :: st) (σ, o', u)) : Jx E (Γ3 ad cy) A fin kc ks own cc nL rt pc lv st0 (σ, o, u) :=
  Y_M (q := (some (.long v), o')) hd hM hy1 hl1 hl2 hl4 hl5 hy hst hmx hL hn hW k
end
theorem qX11_town : (parseMethodDescriptor yX11_town.desc).map (fun d => d.parameters.length) = some 1 := by decide +kernel
theorem qX12_town : (parseMethodDescriptor yX12_town.desc).map (fun d => d.parameters.length) = some 1 := by decide +kernel
theorem lcl_0 {E : Ec} {ad : Nat → Nat} {cy : Nat → ClassId} {A : Nat → Prop} {fin : Ec → State → Prop} {kc ks b L z j : Nat} {xs : Nat → Int32} {w : W3} (X : Lf E ad A b L z xs) (hi : wl_inj (Γ3 ad cy)) (hj : j + 6 ≤ L) (h1 : kc + 1 ≤ 601024) (h2 : ks + 6 ≤ 7293033) (h : RelE w.1 w.2.1) (kk : ∀ w' : W3, RelE w'.1 w'.2.1 → Jx E (Γ3 ad cy) A fin (kc + 1) (ks + 6) RL cL_law 8 (some .boolean) 1771 (lvL ad b j) [] w') : Jx E (Γ3 ad cy) A fin kc ks RL cL_law 8 (some .boolean) 212 (lvL ad b j) [] w := by
  obtain ⟨σ, o, u⟩ := w
  obtain ⟨n, hr⟩ := h
  obtain ⟨r, τ, o', e1, e2, hr'⟩ := r_town hr (xs (j + 1))
  have hiC := (s3_C (ad := ad) (cy := cy) (w := (σ, o, u))).inj hi
  have hiM := (s3_M (ad := ad) (cy := cy) (w := (σ, o, u))).inj hi
  refine Y_wid (Nat.le_succ kc) (Nat.le_add_right ks 6) (by rw [X.1]; exact h1) (by rw [X.2.1]; exact h2) ?_
  refine Y_aload_n (q := 3) dL_law_212 rfl rfl ?_
  refine Y_arg 1 (v := (1 : Int32)) (by decide) (by decide) X hj 4 0 rfl rfl dL_law_213 dL_law_214 dL_law_216 dL_law_217 dL_law_218 ?_
  refine Y_Ci (av := [.int (xs (j + 1))]) (st := []) (v := r) (τ := τ) dL_law_219 (kX11_town hiC e1) rfl tw_1_203 tw_1_204 tw_1_206 tw_1_205 qX11_town rfl (by decide) X.2.2.1 (by decide) (by decide) ?_
  refine Y_aload_n (q := 2) dL_law_222 rfl rfl ?_
  refine Y_arg 1 (v := (1 : Int32)) (by decide) (by decide) X hj 4 0 rfl rfl dL_law_223 dL_law_224 dL_law_226 dL_law_227 dL_law_228 ?_
  refine Y_Mi (av := [.int (xs (j + 1))]) (st := [.int r]) (v := r) (o' := o') dL_law_229 (kX12_town hiM e2) rfl tw_5_21 tw_5_22 tw_5_24 tw_5_23 qX12_town rfl (by decide) X.2.2.1 (by decide) (Nat.le_of_ble_eq_true rfl) ?_
  exact Y_icmp_eq (tgt := 1771) dL_law_232 (by decide) (fun _ => kk (τ, o', u) hr') (fun c => absurd rfl c)
theorem qX11_one : (parseMethodDescriptor yX11_one.desc).map (fun d => d.parameters.length) = some 2 := by decide +kernel
theorem qX12_one : (parseMethodDescriptor yX12_one.desc).map (fun d => d.parameters.length) = some 2 := by decide +kernel
theorem lcl_1 {E : Ec} {ad : Nat → Nat} {cy : Nat → ClassId} {A : Nat → Prop} {fin : Ec → State → Prop} {kc ks b L z j : Nat} {xs : Nat → Int32} {w : W3} (X : Lf E ad A b L z xs) (hi : wl_inj (Γ3 ad cy)) (hj : j + 6 ≤ L) (h1 : kc + 1 ≤ 601024) (h2 : ks + 6 ≤ 7293033) (h : RelE w.1 w.2.1) (kk : ∀ w' : W3, RelE w'.1 w'.2.1 → Jx E (Γ3 ad cy) A fin (kc + 1) (ks + 6) RL cL_law 8 (some .boolean) 1771 (lvL ad b j) [] w') : Jx E (Γ3 ad cy) A fin kc ks RL cL_law 8 (some .boolean) 237 (lvL ad b j) [] w := by
  obtain ⟨σ, o, u⟩ := w
  obtain ⟨n, hr⟩ := h
  obtain ⟨r, o', e1, e2, hr'⟩ := r_one hr (xs (j + 1)) (xs (j + 2))
  have hiC := (s3_C (ad := ad) (cy := cy) (w := (σ, o, u))).inj hi
  have hiM := (s3_M (ad := ad) (cy := cy) (w := (σ, o, u))).inj hi
  refine Y_wid (Nat.le_succ kc) (Nat.le_add_right ks 6) (by rw [X.1]; exact h1) (by rw [X.2.1]; exact h2) ?_
  refine Y_aload_n (q := 3) dL_law_237 rfl rfl ?_
  refine Y_arg 1 (v := (1 : Int32)) (by decide) (by decide) X hj 4 0 rfl rfl dL_law_238 dL_law_239 dL_law_241 dL_law_242 dL_law_243 ?_
  refine Y_arg 2 (v := (2 : Int32)) (by decide) (by decide) X hj 4 0 rfl rfl dL_law_244 dL_law_245 dL_law_247 dL_law_248 dL_law_249 ?_
  refine Y_Ci (av := [.int (xs (j + 1)), .int (xs (j + 2))]) (st := []) (v := r) (τ := σ) dL_law_250 (kX11_one hiC e1) rfl tw_2_155 tw_2_156 tw_2_158 tw_2_157 qX11_one rfl (by decide) X.2.2.1 (by decide) (by decide) ?_
  refine Y_aload_n (q := 2) dL_law_253 rfl rfl ?_
  refine Y_arg 1 (v := (1 : Int32)) (by decide) (by decide) X hj 4 0 rfl rfl dL_law_254 dL_law_255 dL_law_257 dL_law_258 dL_law_259 ?_
  refine Y_arg 2 (v := (2 : Int32)) (by decide) (by decide) X hj 4 0 rfl rfl dL_law_260 dL_law_261 dL_law_263 dL_law_264 dL_law_265 ?_
  refine Y_Mi (av := [.int (xs (j + 1)), .int (xs (j + 2))]) (st := [.int r]) (v := r) (o' := o') dL_law_266 (kX12_one hiM e2) rfl tw_5_147 tw_5_148 tw_5_150 tw_5_149 qX12_one rfl (by decide) X.2.2.1 (by decide) (Nat.le_of_ble_eq_true rfl) ?_
  exact Y_icmp_eq (tgt := 1771) dL_law_269 (by decide) (fun _ => kk (σ, o', u) hr') (fun c => absurd rfl c)
theorem qX11_thing : (parseMethodDescriptor yX11_thing.desc).map (fun d => d.parameters.length) = some 2 := by decide +kernel
theorem qX12_thing : (parseMethodDescriptor yX12_thing.desc).map (fun d => d.parameters.length) = some 2 := by decide +kernel
theorem lcl_2 {E : Ec} {ad : Nat → Nat} {cy : Nat → ClassId} {A : Nat → Prop} {fin : Ec → State → Prop} {kc ks b L z j : Nat} {xs : Nat → Int32} {w : W3} (X : Lf E ad A b L z xs) (hi : wl_inj (Γ3 ad cy)) (hj : j + 6 ≤ L) (h1 : kc + 1 ≤ 601024) (h2 : ks + 6 ≤ 7293033) (h : RelE w.1 w.2.1) (kk : ∀ w' : W3, RelE w'.1 w'.2.1 → Jx E (Γ3 ad cy) A fin (kc + 1) (ks + 6) RL cL_law 8 (some .boolean) 1771 (lvL ad b j) [] w') : Jx E (Γ3 ad cy) A fin kc ks RL cL_law 8 (some .boolean) 274 (lvL ad b j) [] w := by
  obtain ⟨σ, o, u⟩ := w
  obtain ⟨n, hr⟩ := h
  obtain ⟨r, o', e1, e2, hr'⟩ := r_thing hr (xs (j + 1)) (xs (j + 2))
  have hiC := (s3_C (ad := ad) (cy := cy) (w := (σ, o, u))).inj hi
  have hiM := (s3_M (ad := ad) (cy := cy) (w := (σ, o, u))).inj hi
  refine Y_wid (Nat.le_succ kc) (Nat.le_add_right ks 6) (by rw [X.1]; exact h1) (by rw [X.2.1]; exact h2) ?_
  refine Y_aload_n (q := 3) dL_law_274 rfl rfl ?_
  refine Y_arg 1 (v := (1 : Int32)) (by decide) (by decide) X hj 4 0 rfl rfl dL_law_275 dL_law_276 dL_law_278 dL_law_279 dL_law_280 ?_
  refine Y_arg 2 (v := (2 : Int32)) (by decide) (by decide) X hj 4 0 rfl rfl dL_law_281 dL_law_282 dL_law_284 dL_law_285 dL_law_286 ?_
  refine Y_Ci (av := [.int (xs (j + 1)), .int (xs (j + 2))]) (st := []) (v := r) (τ := σ) dL_law_287 (kX11_thing hiC e1) rfl tw_2_166 tw_2_167 tw_2_169 tw_2_168 qX11_thing rfl (by decide) X.2.2.1 (by decide) (by decide) ?_
  refine Y_aload_n (q := 2) dL_law_290 rfl rfl ?_
  refine Y_arg 1 (v := (1 : Int32)) (by decide) (by decide) X hj 4 0 rfl rfl dL_law_291 dL_law_292 dL_law_294 dL_law_295 dL_law_296 ?_
  refine Y_arg 2 (v := (2 : Int32)) (by decide) (by decide) X hj 4 0 rfl rfl dL_law_297 dL_law_298 dL_law_300 dL_law_301 dL_law_302 ?_
  refine Y_Mi (av := [.int (xs (j + 1)), .int (xs (j + 2))]) (st := [.int r]) (v := r) (o' := o') dL_law_303 (kX12_thing hiM e2) rfl tw_5_155 tw_5_156 tw_5_158 tw_5_157 qX12_thing rfl (by decide) X.2.2.1 (by decide) (Nat.le_of_ble_eq_true rfl) ?_
  exact Y_icmp_eq (tgt := 1771) dL_law_306 (by decide) (fun _ => kk (σ, o', u) hr') (fun c => absurd rfl c)
theorem qX11_story : (parseMethodDescriptor yX11_story.desc).map (fun d => d.parameters.length) = some 3 := by decide +kernel
theorem qX12_story : (parseMethodDescriptor yX12_story.desc).map (fun d => d.parameters.length) = some 3 := by decide +kernel
theorem lcl_3 {E : Ec} {ad : Nat → Nat} {cy : Nat → ClassId} {A : Nat → Prop} {fin : Ec → State → Prop} {kc ks b L z j : Nat} {xs : Nat → Int32} {w : W3} (X : Lf E ad A b L z xs) (hi : wl_inj (Γ3 ad cy)) (hj : j + 6 ≤ L) (h1 : kc + 1 ≤ 601024) (h2 : ks + 6 ≤ 7293033) (h : RelE w.1 w.2.1) (kk : ∀ w' : W3, RelE w'.1 w'.2.1 → Jx E (Γ3 ad cy) A fin (kc + 1) (ks + 6) RL cL_law 8 (some .boolean) 1771 (lvL ad b j) [] w') : Jx E (Γ3 ad cy) A fin kc ks RL cL_law 8 (some .boolean) 311 (lvL ad b j) [] w := by
  obtain ⟨σ, o, u⟩ := w
  obtain ⟨n, hr⟩ := h
  obtain ⟨r, o', e1, e2, hr'⟩ := r_story hr (xs (j + 1)) (xs (j + 2)) (xs (j + 3))
  have hiC := (s3_C (ad := ad) (cy := cy) (w := (σ, o, u))).inj hi
  have hiM := (s3_M (ad := ad) (cy := cy) (w := (σ, o, u))).inj hi
  refine Y_wid (Nat.le_succ kc) (Nat.le_add_right ks 6) (by rw [X.1]; exact h1) (by rw [X.2.1]; exact h2) ?_
  refine Y_aload_n (q := 3) dL_law_311 rfl rfl ?_
  refine Y_arg 1 (v := (1 : Int32)) (by decide) (by decide) X hj 4 0 rfl rfl dL_law_312 dL_law_313 dL_law_315 dL_law_316 dL_law_317 ?_
  refine Y_arg 2 (v := (2 : Int32)) (by decide) (by decide) X hj 4 0 rfl rfl dL_law_318 dL_law_319 dL_law_321 dL_law_322 dL_law_323 ?_
  refine Y_arg 3 (v := (3 : Int32)) (by decide) (by decide) X hj 4 0 rfl rfl dL_law_324 dL_law_325 dL_law_327 dL_law_328 dL_law_329 ?_
  refine Y_Ci (av := [.int (xs (j + 1)), .int (xs (j + 2)), .int (xs (j + 3))]) (st := []) (v := r) (τ := σ) dL_law_330 (kX11_story hiC e1) rfl tw_2_173 tw_2_174 tw_2_176 tw_2_175 qX11_story rfl (by decide) X.2.2.1 (by decide) (by decide) ?_
  refine Y_aload_n (q := 2) dL_law_333 rfl rfl ?_
  refine Y_arg 1 (v := (1 : Int32)) (by decide) (by decide) X hj 4 0 rfl rfl dL_law_334 dL_law_335 dL_law_337 dL_law_338 dL_law_339 ?_
  refine Y_arg 2 (v := (2 : Int32)) (by decide) (by decide) X hj 4 0 rfl rfl dL_law_340 dL_law_341 dL_law_343 dL_law_344 dL_law_345 ?_
  refine Y_arg 3 (v := (3 : Int32)) (by decide) (by decide) X hj 4 0 rfl rfl dL_law_346 dL_law_347 dL_law_349 dL_law_350 dL_law_351 ?_
  refine Y_Mi (av := [.int (xs (j + 1)), .int (xs (j + 2)), .int (xs (j + 3))]) (st := [.int r]) (v := r) (o' := o') dL_law_352 (kX12_story hiM e2) rfl tw_5_163 tw_5_164 tw_5_166 tw_5_165 qX12_story rfl (by decide) X.2.2.1 (by decide) (Nat.le_of_ble_eq_true rfl) ?_
  exact Y_icmp_eq (tgt := 1771) dL_law_355 (by decide) (fun _ => kk (σ, o', u) hr') (fun c => absurd rfl c)
theorem qX11_comes : (parseMethodDescriptor yX11_comes.desc).map (fun d => d.parameters.length) = some 2 := by decide +kernel
theorem qX12_comes : (parseMethodDescriptor yX12_comes.desc).map (fun d => d.parameters.length) = some 2 := by decide +kernel
theorem lcl_4 {E : Ec} {ad : Nat → Nat} {cy : Nat → ClassId} {A : Nat → Prop} {fin : Ec → State → Prop} {kc ks b L z j : Nat} {xs : Nat → Int32} {w : W3} (X : Lf E ad A b L z xs) (hi : wl_inj (Γ3 ad cy)) (hj : j + 6 ≤ L) (h1 : kc + 1 ≤ 601024) (h2 : ks + 6 ≤ 7293033) (h : RelE w.1 w.2.1) (kk : ∀ w' : W3, RelE w'.1 w'.2.1 → Jx E (Γ3 ad cy) A fin (kc + 1) (ks + 6) RL cL_law 8 (some .boolean) 1771 (lvL ad b j) [] w') : Jx E (Γ3 ad cy) A fin kc ks RL cL_law 8 (some .boolean) 360 (lvL ad b j) [] w := by
  obtain ⟨σ, o, u⟩ := w
  obtain ⟨n, hr⟩ := h
  obtain ⟨r, τ, o', e1, e2, hr'⟩ := r_comes hr (xs (j + 1)) (xs (j + 2))
  have hiC := (s3_C (ad := ad) (cy := cy) (w := (σ, o, u))).inj hi
  have hiM := (s3_M (ad := ad) (cy := cy) (w := (σ, o, u))).inj hi
  refine Y_wid (Nat.le_succ kc) (Nat.le_add_right ks 6) (by rw [X.1]; exact h1) (by rw [X.2.1]; exact h2) ?_
  refine Y_aload_n (q := 3) dL_law_360 rfl rfl ?_
  refine Y_arg 1 (v := (1 : Int32)) (by decide) (by decide) X hj 4 0 rfl rfl dL_law_361 dL_law_362 dL_law_364 dL_law_365 dL_law_366 ?_
  refine Y_arg 2 (v := (2 : Int32)) (by decide) (by decide) X hj 4 0 rfl rfl dL_law_367 dL_law_368 dL_law_370 dL_law_371 dL_law_372 ?_
  refine Y_Ci (av := [.int (xs (j + 1)), .int (xs (j + 2))]) (st := []) (v := r) (τ := τ) dL_law_373 (kX11_comes hiC e1) rfl tw_2_185 tw_2_186 tw_2_188 tw_2_187 qX11_comes rfl (by decide) X.2.2.1 (by decide) (by decide) ?_
  refine Y_aload_n (q := 2) dL_law_376 rfl rfl ?_
  refine Y_arg 1 (v := (1 : Int32)) (by decide) (by decide) X hj 4 0 rfl rfl dL_law_377 dL_law_378 dL_law_380 dL_law_381 dL_law_382 ?_
  refine Y_arg 2 (v := (2 : Int32)) (by decide) (by decide) X hj 4 0 rfl rfl dL_law_383 dL_law_384 dL_law_386 dL_law_387 dL_law_388 ?_
  refine Y_Mi (av := [.int (xs (j + 1)), .int (xs (j + 2))]) (st := [.int r]) (v := r) (o' := o') dL_law_389 (kX12_comes hiM e2) rfl tw_5_167 tw_5_168 tw_5_170 tw_5_169 qX12_comes rfl (by decide) X.2.2.1 (by decide) (Nat.le_of_ble_eq_true rfl) ?_
  exact Y_icmp_eq (tgt := 1771) dL_law_392 (by decide) (fun _ => kk (τ, o', u) hr') (fun c => absurd rfl c)
theorem qX11_learns : (parseMethodDescriptor yX11_learns.desc).map (fun d => d.parameters.length) = some 3 := by decide +kernel
theorem qX12_learns : (parseMethodDescriptor yX12_learns.desc).map (fun d => d.parameters.length) = some 3 := by decide +kernel
theorem lcl_5 {E : Ec} {ad : Nat → Nat} {cy : Nat → ClassId} {A : Nat → Prop} {fin : Ec → State → Prop} {kc ks b L z j : Nat} {xs : Nat → Int32} {w : W3} (X : Lf E ad A b L z xs) (hi : wl_inj (Γ3 ad cy)) (hj : j + 6 ≤ L) (h1 : kc + 1 ≤ 601024) (h2 : ks + 6 ≤ 7293033) (h : RelE w.1 w.2.1) (kk : ∀ w' : W3, RelE w'.1 w'.2.1 → Jx E (Γ3 ad cy) A fin (kc + 1) (ks + 6) RL cL_law 8 (some .boolean) 1771 (lvL ad b j) [] w') : Jx E (Γ3 ad cy) A fin kc ks RL cL_law 8 (some .boolean) 397 (lvL ad b j) [] w := by
  obtain ⟨σ, o, u⟩ := w
  obtain ⟨n, hr⟩ := h
  obtain ⟨r, τ, o', e1, e2, hr'⟩ := r_learns hr (xs (j + 1)) (xs (j + 2)) (xs (j + 3))
  have hiC := (s3_C (ad := ad) (cy := cy) (w := (σ, o, u))).inj hi
  have hiM := (s3_M (ad := ad) (cy := cy) (w := (σ, o, u))).inj hi
  refine Y_wid (Nat.le_succ kc) (Nat.le_add_right ks 6) (by rw [X.1]; exact h1) (by rw [X.2.1]; exact h2) ?_
  refine Y_aload_n (q := 3) dL_law_397 rfl rfl ?_
  refine Y_arg 1 (v := (1 : Int32)) (by decide) (by decide) X hj 4 0 rfl rfl dL_law_398 dL_law_399 dL_law_401 dL_law_402 dL_law_403 ?_
  refine Y_arg 2 (v := (2 : Int32)) (by decide) (by decide) X hj 4 0 rfl rfl dL_law_404 dL_law_405 dL_law_407 dL_law_408 dL_law_409 ?_
  refine Y_arg 3 (v := (3 : Int32)) (by decide) (by decide) X hj 4 0 rfl rfl dL_law_410 dL_law_411 dL_law_413 dL_law_414 dL_law_415 ?_
  refine Y_Ci (av := [.int (xs (j + 1)), .int (xs (j + 2)), .int (xs (j + 3))]) (st := []) (v := r) (τ := τ) dL_law_416 (kX11_learns hiC e1) rfl tw_2_195 tw_2_196 tw_2_198 tw_2_197 qX11_learns rfl (by decide) X.2.2.1 (by decide) (by decide) ?_
  refine Y_aload_n (q := 2) dL_law_419 rfl rfl ?_
  refine Y_arg 1 (v := (1 : Int32)) (by decide) (by decide) X hj 4 0 rfl rfl dL_law_420 dL_law_421 dL_law_423 dL_law_424 dL_law_425 ?_
  refine Y_arg 2 (v := (2 : Int32)) (by decide) (by decide) X hj 4 0 rfl rfl dL_law_426 dL_law_427 dL_law_429 dL_law_430 dL_law_431 ?_
  refine Y_arg 3 (v := (3 : Int32)) (by decide) (by decide) X hj 4 0 rfl rfl dL_law_432 dL_law_433 dL_law_435 dL_law_436 dL_law_437 ?_
  refine Y_Mi (av := [.int (xs (j + 1)), .int (xs (j + 2)), .int (xs (j + 3))]) (st := [.int r]) (v := r) (o' := o') dL_law_438 (kX12_learns hiM e2) rfl tw_5_175 tw_5_176 tw_5_178 tw_5_177 qX12_learns rfl (by decide) X.2.2.1 (by decide) (Nat.le_of_ble_eq_true rfl) ?_
  exact Y_icmp_eq (tgt := 1771) dL_law_441 (by decide) (fun _ => kk (τ, o', u) hr') (fun c => absurd rfl c)
theorem qX11_cares : (parseMethodDescriptor yX11_cares.desc).map (fun d => d.parameters.length) = some 2 := by decide +kernel
theorem qX12_cares : (parseMethodDescriptor yX12_cares.desc).map (fun d => d.parameters.length) = some 2 := by decide +kernel
theorem lcl_6 {E : Ec} {ad : Nat → Nat} {cy : Nat → ClassId} {A : Nat → Prop} {fin : Ec → State → Prop} {kc ks b L z j : Nat} {xs : Nat → Int32} {w : W3} (X : Lf E ad A b L z xs) (hi : wl_inj (Γ3 ad cy)) (hj : j + 6 ≤ L) (h1 : kc + 1 ≤ 601024) (h2 : ks + 6 ≤ 7293033) (h : RelE w.1 w.2.1) (kk : ∀ w' : W3, RelE w'.1 w'.2.1 → Jx E (Γ3 ad cy) A fin (kc + 1) (ks + 6) RL cL_law 8 (some .boolean) 1771 (lvL ad b j) [] w') : Jx E (Γ3 ad cy) A fin kc ks RL cL_law 8 (some .boolean) 446 (lvL ad b j) [] w := by
  obtain ⟨σ, o, u⟩ := w
  obtain ⟨n, hr⟩ := h
  obtain ⟨r, τ, o', e1, e2, hr'⟩ := r_cares hr (xs (j + 1)) (xs (j + 2))
  have hiC := (s3_C (ad := ad) (cy := cy) (w := (σ, o, u))).inj hi
  have hiM := (s3_M (ad := ad) (cy := cy) (w := (σ, o, u))).inj hi
  refine Y_wid (Nat.le_succ kc) (Nat.le_add_right ks 6) (by rw [X.1]; exact h1) (by rw [X.2.1]; exact h2) ?_
  refine Y_aload_n (q := 3) dL_law_446 rfl rfl ?_
  refine Y_arg 1 (v := (1 : Int32)) (by decide) (by decide) X hj 4 0 rfl rfl dL_law_447 dL_law_448 dL_law_450 dL_law_451 dL_law_452 ?_
  refine Y_arg 2 (v := (2 : Int32)) (by decide) (by decide) X hj 4 0 rfl rfl dL_law_453 dL_law_454 dL_law_456 dL_law_457 dL_law_458 ?_
  refine Y_Ci (av := [.int (xs (j + 1)), .int (xs (j + 2))]) (st := []) (v := r) (τ := τ) dL_law_459 (kX11_cares hiC e1) rfl tw_2_200 tw_2_201 tw_2_203 tw_2_202 qX11_cares rfl (by decide) X.2.2.1 (by decide) (by decide) ?_
  refine Y_aload_n (q := 2) dL_law_462 rfl rfl ?_
  refine Y_arg 1 (v := (1 : Int32)) (by decide) (by decide) X hj 4 0 rfl rfl dL_law_463 dL_law_464 dL_law_466 dL_law_467 dL_law_468 ?_
  refine Y_arg 2 (v := (2 : Int32)) (by decide) (by decide) X hj 4 0 rfl rfl dL_law_469 dL_law_470 dL_law_472 dL_law_473 dL_law_474 ?_
  refine Y_Mi (av := [.int (xs (j + 1)), .int (xs (j + 2))]) (st := [.int r]) (v := r) (o' := o') dL_law_475 (kX12_cares hiM e2) rfl tw_5_180 tw_5_181 tw_5_183 tw_5_182 qX12_cares rfl (by decide) X.2.2.1 (by decide) (Nat.le_of_ble_eq_true rfl) ?_
  exact Y_icmp_eq (tgt := 1771) dL_law_478 (by decide) (fun _ => kk (τ, o', u) hr') (fun c => absurd rfl c)
theorem qX11_gives : (parseMethodDescriptor yX11_gives.desc).map (fun d => d.parameters.length) = some 2 := by decide +kernel
theorem qX12_gives : (parseMethodDescriptor yX12_gives.desc).map (fun d => d.parameters.length) = some 2 := by decide +kernel
theorem lcl_7 {E : Ec} {ad : Nat → Nat} {cy : Nat → ClassId} {A : Nat → Prop} {fin : Ec → State → Prop} {kc ks b L z j : Nat} {xs : Nat → Int32} {w : W3} (X : Lf E ad A b L z xs) (hi : wl_inj (Γ3 ad cy)) (hj : j + 6 ≤ L) (h1 : kc + 1 ≤ 601024) (h2 : ks + 6 ≤ 7293033) (h : RelE w.1 w.2.1) (kk : ∀ w' : W3, RelE w'.1 w'.2.1 → Jx E (Γ3 ad cy) A fin (kc + 1) (ks + 6) RL cL_law 8 (some .boolean) 1771 (lvL ad b j) [] w') : Jx E (Γ3 ad cy) A fin kc ks RL cL_law 8 (some .boolean) 483 (lvL ad b j) [] w := by
  obtain ⟨σ, o, u⟩ := w
  obtain ⟨n, hr⟩ := h
  obtain ⟨r, τ, o', e1, e2, hr'⟩ := r_gives hr (xs (j + 1)) (xs (j + 2))
  have hiC := (s3_C (ad := ad) (cy := cy) (w := (σ, o, u))).inj hi
  have hiM := (s3_M (ad := ad) (cy := cy) (w := (σ, o, u))).inj hi
  refine Y_wid (Nat.le_succ kc) (Nat.le_add_right ks 6) (by rw [X.1]; exact h1) (by rw [X.2.1]; exact h2) ?_
  refine Y_aload_n (q := 3) dL_law_483 rfl rfl ?_
  refine Y_arg 1 (v := (1 : Int32)) (by decide) (by decide) X hj 4 0 rfl rfl dL_law_484 dL_law_485 dL_law_487 dL_law_488 dL_law_489 ?_
  refine Y_arg 2 (v := (2 : Int32)) (by decide) (by decide) X hj 4 0 rfl rfl dL_law_490 dL_law_491 dL_law_493 dL_law_494 dL_law_495 ?_
  refine Y_Ci (av := [.int (xs (j + 1)), .int (xs (j + 2))]) (st := []) (v := r) (τ := τ) dL_law_496 (kX11_gives hiC e1) rfl tw_2_205 tw_2_206 tw_2_208 tw_2_207 qX11_gives rfl (by decide) X.2.2.1 (by decide) (by decide) ?_
  refine Y_aload_n (q := 2) dL_law_499 rfl rfl ?_
  refine Y_arg 1 (v := (1 : Int32)) (by decide) (by decide) X hj 4 0 rfl rfl dL_law_500 dL_law_501 dL_law_503 dL_law_504 dL_law_505 ?_
  refine Y_arg 2 (v := (2 : Int32)) (by decide) (by decide) X hj 4 0 rfl rfl dL_law_506 dL_law_507 dL_law_509 dL_law_510 dL_law_511 ?_
  refine Y_Mi (av := [.int (xs (j + 1)), .int (xs (j + 2))]) (st := [.int r]) (v := r) (o' := o') dL_law_512 (kX12_gives hiM e2) rfl tw_5_184 tw_5_185 tw_5_187 tw_5_186 qX12_gives rfl (by decide) X.2.2.1 (by decide) (Nat.le_of_ble_eq_true rfl) ?_
  exact Y_icmp_eq (tgt := 1771) dL_law_515 (by decide) (fun _ => kk (τ, o', u) hr') (fun c => absurd rfl c)
theorem qX11_past : (parseMethodDescriptor yX11_past.desc).map (fun d => d.parameters.length) = some 2 := by decide +kernel
theorem qX12_past : (parseMethodDescriptor yX12_past.desc).map (fun d => d.parameters.length) = some 2 := by decide +kernel
theorem lcl_8 {E : Ec} {ad : Nat → Nat} {cy : Nat → ClassId} {A : Nat → Prop} {fin : Ec → State → Prop} {kc ks b L z j : Nat} {xs : Nat → Int32} {w : W3} (X : Lf E ad A b L z xs) (hi : wl_inj (Γ3 ad cy)) (hj : j + 6 ≤ L) (h1 : kc + 1 ≤ 601024) (h2 : ks + 6 ≤ 7293033) (h : RelE w.1 w.2.1) (kk : ∀ w' : W3, RelE w'.1 w'.2.1 → Jx E (Γ3 ad cy) A fin (kc + 1) (ks + 6) RL cL_law 8 (some .boolean) 1771 (lvL ad b j) [] w') : Jx E (Γ3 ad cy) A fin kc ks RL cL_law 8 (some .boolean) 520 (lvL ad b j) [] w := by
  obtain ⟨σ, o, u⟩ := w
  obtain ⟨n, hr⟩ := h
  obtain ⟨r, τ, o', e1, e2, hr'⟩ := r_past hr (xs (j + 1)) (xs (j + 2))
  have hiC := (s3_C (ad := ad) (cy := cy) (w := (σ, o, u))).inj hi
  have hiM := (s3_M (ad := ad) (cy := cy) (w := (σ, o, u))).inj hi
  refine Y_wid (Nat.le_succ kc) (Nat.le_add_right ks 6) (by rw [X.1]; exact h1) (by rw [X.2.1]; exact h2) ?_
  refine Y_aload_n (q := 3) dL_law_520 rfl rfl ?_
  refine Y_arg 1 (v := (1 : Int32)) (by decide) (by decide) X hj 4 0 rfl rfl dL_law_521 dL_law_522 dL_law_524 dL_law_525 dL_law_526 ?_
  refine Y_arg 2 (v := (2 : Int32)) (by decide) (by decide) X hj 4 0 rfl rfl dL_law_527 dL_law_528 dL_law_530 dL_law_531 dL_law_532 ?_
  refine Y_Ci (av := [.int (xs (j + 1)), .int (xs (j + 2))]) (st := []) (v := r) (τ := τ) dL_law_533 (kX11_past hiC e1) rfl tw_2_210 tw_2_211 tw_2_213 tw_2_212 qX11_past rfl (by decide) X.2.2.1 (by decide) (by decide) ?_
  refine Y_aload_n (q := 2) dL_law_536 rfl rfl ?_
  refine Y_arg 1 (v := (1 : Int32)) (by decide) (by decide) X hj 4 0 rfl rfl dL_law_537 dL_law_538 dL_law_540 dL_law_541 dL_law_542 ?_
  refine Y_arg 2 (v := (2 : Int32)) (by decide) (by decide) X hj 4 0 rfl rfl dL_law_543 dL_law_544 dL_law_546 dL_law_547 dL_law_548 ?_
  refine Y_Mi (av := [.int (xs (j + 1)), .int (xs (j + 2))]) (st := [.int r]) (v := r) (o' := o') dL_law_549 (kX12_past hiM e2) rfl tw_5_188 tw_5_189 tw_5_191 tw_5_190 qX12_past rfl (by decide) X.2.2.1 (by decide) (Nat.le_of_ble_eq_true rfl) ?_
  exact Y_icmp_eq (tgt := 1771) dL_law_552 (by decide) (fun _ => kk (τ, o', u) hr') (fun c => absurd rfl c)
theorem qX11_days : (parseMethodDescriptor yX11_days.desc).map (fun d => d.parameters.length) = some 1 := by decide +kernel
theorem qX12_days : (parseMethodDescriptor yX12_days.desc).map (fun d => d.parameters.length) = some 1 := by decide +kernel
theorem lcl_9 {E : Ec} {ad : Nat → Nat} {cy : Nat → ClassId} {A : Nat → Prop} {fin : Ec → State → Prop} {kc ks b L z j : Nat} {xs : Nat → Int32} {w : W3} (X : Lf E ad A b L z xs) (hi : wl_inj (Γ3 ad cy)) (hj : j + 6 ≤ L) (h1 : kc + 1 ≤ 601024) (h2 : ks + 6 ≤ 7293033) (h : RelE w.1 w.2.1) (kk : ∀ w' : W3, RelE w'.1 w'.2.1 → Jx E (Γ3 ad cy) A fin (kc + 1) (ks + 6) RL cL_law 8 (some .boolean) 1771 (lvL ad b j) [] w') : Jx E (Γ3 ad cy) A fin kc ks RL cL_law 8 (some .boolean) 557 (lvL ad b j) [] w := by
  obtain ⟨σ, o, u⟩ := w
  obtain ⟨n, hr⟩ := h
  obtain ⟨r, τ, o', e1, e2, hr'⟩ := r_days hr (xs (j + 1))
  have hiC := (s3_C (ad := ad) (cy := cy) (w := (σ, o, u))).inj hi
  have hiM := (s3_M (ad := ad) (cy := cy) (w := (σ, o, u))).inj hi
  refine Y_wid (Nat.le_succ kc) (Nat.le_add_right ks 6) (by rw [X.1]; exact h1) (by rw [X.2.1]; exact h2) ?_
  refine Y_aload_n (q := 3) dL_law_557 rfl rfl ?_
  refine Y_arg 1 (v := (1 : Int32)) (by decide) (by decide) X hj 4 0 rfl rfl dL_law_558 dL_law_559 dL_law_561 dL_law_562 dL_law_563 ?_
  refine Y_Ci (av := [.int (xs (j + 1))]) (st := []) (v := r) (τ := τ) dL_law_564 (kX11_days hiC e1) rfl tw_2_214 tw_2_215 tw_2_217 tw_2_216 qX11_days rfl (by decide) X.2.2.1 (by decide) (by decide) ?_
  refine Y_aload_n (q := 2) dL_law_567 rfl rfl ?_
  refine Y_arg 1 (v := (1 : Int32)) (by decide) (by decide) X hj 4 0 rfl rfl dL_law_568 dL_law_569 dL_law_571 dL_law_572 dL_law_573 ?_
  refine Y_Mi (av := [.int (xs (j + 1))]) (st := [.int r]) (v := r) (o' := o') dL_law_574 (kX12_days hiM e2) rfl tw_5_193 tw_5_194 tw_5_196 tw_5_195 qX12_days rfl (by decide) X.2.2.1 (by decide) (Nat.le_of_ble_eq_true rfl) ?_
  exact Y_icmp_eq (tgt := 1771) dL_law_577 (by decide) (fun _ => kk (τ, o', u) hr') (fun c => absurd rfl c)
theorem qX11_ownerThen : (parseMethodDescriptor yX11_ownerThen.desc).map (fun d => d.parameters.length) = some 2 := by decide +kernel
theorem qX12_ownerThen : (parseMethodDescriptor yX12_ownerThen.desc).map (fun d => d.parameters.length) = some 2 := by decide +kernel
theorem lcl_10 {E : Ec} {ad : Nat → Nat} {cy : Nat → ClassId} {A : Nat → Prop} {fin : Ec → State → Prop} {kc ks b L z j : Nat} {xs : Nat → Int32} {w : W3} (X : Lf E ad A b L z xs) (hi : wl_inj (Γ3 ad cy)) (hj : j + 6 ≤ L) (h1 : kc + 1 ≤ 601024) (h2 : ks + 6 ≤ 7293033) (h : RelE w.1 w.2.1) (kk : ∀ w' : W3, RelE w'.1 w'.2.1 → Jx E (Γ3 ad cy) A fin (kc + 1) (ks + 6) RL cL_law 8 (some .boolean) 1771 (lvL ad b j) [] w') : Jx E (Γ3 ad cy) A fin kc ks RL cL_law 8 (some .boolean) 582 (lvL ad b j) [] w := by
  obtain ⟨σ, o, u⟩ := w
  obtain ⟨n, hr⟩ := h
  obtain ⟨r, τ, o', e1, e2, hr'⟩ := r_ownerThen hr (xs (j + 1)) (xs (j + 2))
  have hiC := (s3_C (ad := ad) (cy := cy) (w := (σ, o, u))).inj hi
  have hiM := (s3_M (ad := ad) (cy := cy) (w := (σ, o, u))).inj hi
  refine Y_wid (Nat.le_succ kc) (Nat.le_add_right ks 6) (by rw [X.1]; exact h1) (by rw [X.2.1]; exact h2) ?_
  refine Y_aload_n (q := 3) dL_law_582 rfl rfl ?_
  refine Y_arg 1 (v := (1 : Int32)) (by decide) (by decide) X hj 4 0 rfl rfl dL_law_583 dL_law_584 dL_law_586 dL_law_587 dL_law_588 ?_
  refine Y_arg 2 (v := (2 : Int32)) (by decide) (by decide) X hj 4 0 rfl rfl dL_law_589 dL_law_590 dL_law_592 dL_law_593 dL_law_594 ?_
  refine Y_Ci (av := [.int (xs (j + 1)), .int (xs (j + 2))]) (st := []) (v := r) (τ := τ) dL_law_595 (kX11_ownerThen hiC e1) rfl tw_2_225 tw_2_226 tw_2_228 tw_2_227 qX11_ownerThen rfl (by decide) X.2.2.1 (by decide) (by decide) ?_
  refine Y_aload_n (q := 2) dL_law_598 rfl rfl ?_
  refine Y_arg 1 (v := (1 : Int32)) (by decide) (by decide) X hj 4 0 rfl rfl dL_law_599 dL_law_600 dL_law_602 dL_law_603 dL_law_604 ?_
  refine Y_arg 2 (v := (2 : Int32)) (by decide) (by decide) X hj 4 0 rfl rfl dL_law_605 dL_law_606 dL_law_608 dL_law_609 dL_law_610 ?_
  refine Y_Mi (av := [.int (xs (j + 1)), .int (xs (j + 2))]) (st := [.int r]) (v := r) (o' := o') dL_law_611 (kX12_ownerThen hiM e2) rfl tw_5_201 tw_5_202 tw_5_204 tw_5_203 qX12_ownerThen rfl (by decide) X.2.2.1 (by decide) (Nat.le_of_ble_eq_true rfl) ?_
  exact Y_icmp_eq (tgt := 1771) dL_law_614 (by decide) (fun _ => kk (τ, o', u) hr') (fun c => absurd rfl c)
theorem qX11_storyThen : (parseMethodDescriptor yX11_storyThen.desc).map (fun d => d.parameters.length) = some 3 := by decide +kernel
theorem qX12_storyThen : (parseMethodDescriptor yX12_storyThen.desc).map (fun d => d.parameters.length) = some 3 := by decide +kernel
theorem lcl_11 {E : Ec} {ad : Nat → Nat} {cy : Nat → ClassId} {A : Nat → Prop} {fin : Ec → State → Prop} {kc ks b L z j : Nat} {xs : Nat → Int32} {w : W3} (X : Lf E ad A b L z xs) (hi : wl_inj (Γ3 ad cy)) (hj : j + 6 ≤ L) (h1 : kc + 1 ≤ 601024) (h2 : ks + 6 ≤ 7293033) (h : RelE w.1 w.2.1) (kk : ∀ w' : W3, RelE w'.1 w'.2.1 → Jx E (Γ3 ad cy) A fin (kc + 1) (ks + 6) RL cL_law 8 (some .boolean) 1771 (lvL ad b j) [] w') : Jx E (Γ3 ad cy) A fin kc ks RL cL_law 8 (some .boolean) 619 (lvL ad b j) [] w := by
  obtain ⟨σ, o, u⟩ := w
  obtain ⟨n, hr⟩ := h
  obtain ⟨r, τ, o', e1, e2, hr'⟩ := r_storyThen hr (xs (j + 1)) (xs (j + 2)) (xs (j + 3))
  have hiC := (s3_C (ad := ad) (cy := cy) (w := (σ, o, u))).inj hi
  have hiM := (s3_M (ad := ad) (cy := cy) (w := (σ, o, u))).inj hi
  refine Y_wid (Nat.le_succ kc) (Nat.le_add_right ks 6) (by rw [X.1]; exact h1) (by rw [X.2.1]; exact h2) ?_
  refine Y_aload_n (q := 3) dL_law_619 rfl rfl ?_
  refine Y_arg 1 (v := (1 : Int32)) (by decide) (by decide) X hj 4 0 rfl rfl dL_law_620 dL_law_621 dL_law_623 dL_law_624 dL_law_625 ?_
  refine Y_arg 2 (v := (2 : Int32)) (by decide) (by decide) X hj 4 0 rfl rfl dL_law_626 dL_law_627 dL_law_629 dL_law_630 dL_law_631 ?_
  refine Y_arg 3 (v := (3 : Int32)) (by decide) (by decide) X hj 4 0 rfl rfl dL_law_632 dL_law_633 dL_law_635 dL_law_636 dL_law_637 ?_
  refine Y_Ci (av := [.int (xs (j + 1)), .int (xs (j + 2)), .int (xs (j + 3))]) (st := []) (v := r) (τ := τ) dL_law_638 (kX11_storyThen hiC e1) rfl tw_2_237 tw_2_238 tw_3_0 tw_2_239 qX11_storyThen rfl (by decide) X.2.2.1 (by decide) (by decide) ?_
  refine Y_aload_n (q := 2) dL_law_641 rfl rfl ?_
  refine Y_arg 1 (v := (1 : Int32)) (by decide) (by decide) X hj 4 0 rfl rfl dL_law_642 dL_law_643 dL_law_645 dL_law_646 dL_law_647 ?_
  refine Y_arg 2 (v := (2 : Int32)) (by decide) (by decide) X hj 4 0 rfl rfl dL_law_648 dL_law_649 dL_law_651 dL_law_652 dL_law_653 ?_
  refine Y_arg 3 (v := (3 : Int32)) (by decide) (by decide) X hj 4 0 rfl rfl dL_law_654 dL_law_655 dL_law_657 dL_law_658 dL_law_659 ?_
  refine Y_Mi (av := [.int (xs (j + 1)), .int (xs (j + 2)), .int (xs (j + 3))]) (st := [.int r]) (v := r) (o' := o') dL_law_660 (kX12_storyThen hiM e2) rfl tw_5_205 tw_5_206 tw_5_208 tw_5_207 qX12_storyThen rfl (by decide) X.2.2.1 (by decide) (Nat.le_of_ble_eq_true rfl) ?_
  exact Y_icmp_eq (tgt := 1771) dL_law_663 (by decide) (fun _ => kk (τ, o', u) hr') (fun c => absurd rfl c)
theorem qX11_ownsThen : (parseMethodDescriptor yX11_ownsThen.desc).map (fun d => d.parameters.length) = some 3 := by decide +kernel
theorem qX12_ownsThen : (parseMethodDescriptor yX12_ownsThen.desc).map (fun d => d.parameters.length) = some 3 := by decide +kernel
theorem lcl_12 {E : Ec} {ad : Nat → Nat} {cy : Nat → ClassId} {A : Nat → Prop} {fin : Ec → State → Prop} {kc ks b L z j : Nat} {xs : Nat → Int32} {w : W3} (X : Lf E ad A b L z xs) (hi : wl_inj (Γ3 ad cy)) (hj : j + 6 ≤ L) (h1 : kc + 1 ≤ 601024) (h2 : ks + 6 ≤ 7293033) (h : RelE w.1 w.2.1) (kk : ∀ w' : W3, RelE w'.1 w'.2.1 → Jx E (Γ3 ad cy) A fin (kc + 1) (ks + 6) RL cL_law 8 (some .boolean) 1771 (lvL ad b j) [] w') : Jx E (Γ3 ad cy) A fin kc ks RL cL_law 8 (some .boolean) 668 (lvL ad b j) [] w := by
  obtain ⟨σ, o, u⟩ := w
  obtain ⟨n, hr⟩ := h
  obtain ⟨r, τ, o', e1, e2, hr'⟩ := r_ownsThen hr (xs (j + 1)) (xs (j + 2)) (xs (j + 3))
  have hiC := (s3_C (ad := ad) (cy := cy) (w := (σ, o, u))).inj hi
  have hiM := (s3_M (ad := ad) (cy := cy) (w := (σ, o, u))).inj hi
  refine Y_wid (Nat.le_succ kc) (Nat.le_add_right ks 6) (by rw [X.1]; exact h1) (by rw [X.2.1]; exact h2) ?_
  refine Y_aload_n (q := 3) dL_law_668 rfl rfl ?_
  refine Y_arg 1 (v := (1 : Int32)) (by decide) (by decide) X hj 4 0 rfl rfl dL_law_669 dL_law_670 dL_law_672 dL_law_673 dL_law_674 ?_
  refine Y_arg 2 (v := (2 : Int32)) (by decide) (by decide) X hj 4 0 rfl rfl dL_law_675 dL_law_676 dL_law_678 dL_law_679 dL_law_680 ?_
  refine Y_arg 3 (v := (3 : Int32)) (by decide) (by decide) X hj 4 0 rfl rfl dL_law_681 dL_law_682 dL_law_684 dL_law_685 dL_law_686 ?_
  refine Y_Ci (av := [.int (xs (j + 1)), .int (xs (j + 2)), .int (xs (j + 3))]) (st := []) (v := r) (τ := τ) dL_law_687 (kX11_ownsThen hiC e1) rfl tw_3_1 tw_3_2 tw_3_4 tw_3_3 qX11_ownsThen rfl (by decide) X.2.2.1 (by decide) (by decide) ?_
  refine Y_aload_n (q := 2) dL_law_690 rfl rfl ?_
  refine Y_arg 1 (v := (1 : Int32)) (by decide) (by decide) X hj 4 0 rfl rfl dL_law_691 dL_law_692 dL_law_694 dL_law_695 dL_law_696 ?_
  refine Y_arg 2 (v := (2 : Int32)) (by decide) (by decide) X hj 4 0 rfl rfl dL_law_697 dL_law_698 dL_law_700 dL_law_701 dL_law_702 ?_
  refine Y_arg 3 (v := (3 : Int32)) (by decide) (by decide) X hj 4 0 rfl rfl dL_law_703 dL_law_704 dL_law_706 dL_law_707 dL_law_708 ?_
  refine Y_Mi (av := [.int (xs (j + 1)), .int (xs (j + 2)), .int (xs (j + 3))]) (st := [.int r]) (v := r) (o' := o') dL_law_709 (kX12_ownsThen hiM e2) rfl tw_5_209 tw_5_210 tw_5_212 tw_5_211 qX12_ownsThen rfl (by decide) X.2.2.1 (by decide) (Nat.le_of_ble_eq_true rfl) ?_
  exact Y_icmp_eq (tgt := 1771) dL_law_712 (by decide) (fun _ => kk (τ, o', u) hr') (fun c => absurd rfl c)
theorem qX11_when : (parseMethodDescriptor yX11_when.desc).map (fun d => d.parameters.length) = some 2 := by decide +kernel
theorem qX12_when : (parseMethodDescriptor yX12_when.desc).map (fun d => d.parameters.length) = some 2 := by decide +kernel
theorem lcl_13 {E : Ec} {ad : Nat → Nat} {cy : Nat → ClassId} {A : Nat → Prop} {fin : Ec → State → Prop} {kc ks b L z j : Nat} {xs : Nat → Int32} {w : W3} (X : Lf E ad A b L z xs) (hi : wl_inj (Γ3 ad cy)) (hj : j + 6 ≤ L) (h1 : kc + 1 ≤ 601024) (h2 : ks + 6 ≤ 7293033) (h : RelE w.1 w.2.1) (kk : ∀ w' : W3, RelE w'.1 w'.2.1 → Jx E (Γ3 ad cy) A fin (kc + 1) (ks + 6) RL cL_law 8 (some .boolean) 1771 (lvL ad b j) [] w') : Jx E (Γ3 ad cy) A fin kc ks RL cL_law 8 (some .boolean) 717 (lvL ad b j) [] w := by
  obtain ⟨σ, o, u⟩ := w
  obtain ⟨n, hr⟩ := h
  obtain ⟨r, τ, o', e1, e2, hr'⟩ := r_when hr (xs (j + 1)) (xs (j + 2))
  have hiC := (s3_C (ad := ad) (cy := cy) (w := (σ, o, u))).inj hi
  have hiM := (s3_M (ad := ad) (cy := cy) (w := (σ, o, u))).inj hi
  refine Y_wid (Nat.le_succ kc) (Nat.le_add_right ks 6) (by rw [X.1]; exact h1) (by rw [X.2.1]; exact h2) ?_
  refine Y_aload_n (q := 3) dL_law_717 rfl rfl ?_
  refine Y_arg 1 (v := (1 : Int32)) (by decide) (by decide) X hj 4 0 rfl rfl dL_law_718 dL_law_719 dL_law_721 dL_law_722 dL_law_723 ?_
  refine Y_arg 2 (v := (2 : Int32)) (by decide) (by decide) X hj 4 0 rfl rfl dL_law_724 dL_law_725 dL_law_727 dL_law_728 dL_law_729 ?_
  refine Y_Ci (av := [.int (xs (j + 1)), .int (xs (j + 2))]) (st := []) (v := r) (τ := τ) dL_law_730 (kX11_when hiC e1) rfl tw_3_9 tw_3_10 tw_3_12 tw_3_11 qX11_when rfl (by decide) X.2.2.1 (by decide) (by decide) ?_
  refine Y_aload_n (q := 2) dL_law_733 rfl rfl ?_
  refine Y_arg 1 (v := (1 : Int32)) (by decide) (by decide) X hj 4 0 rfl rfl dL_law_734 dL_law_735 dL_law_737 dL_law_738 dL_law_739 ?_
  refine Y_arg 2 (v := (2 : Int32)) (by decide) (by decide) X hj 4 0 rfl rfl dL_law_740 dL_law_741 dL_law_743 dL_law_744 dL_law_745 ?_
  refine Y_Mi (av := [.int (xs (j + 1)), .int (xs (j + 2))]) (st := [.int r]) (v := r) (o' := o') dL_law_746 (kX12_when hiM e2) rfl tw_5_217 tw_5_218 tw_5_220 tw_5_219 qX12_when rfl (by decide) X.2.2.1 (by decide) (Nat.le_of_ble_eq_true rfl) ?_
  exact Y_icmp_eq (tgt := 1771) dL_law_749 (by decide) (fun _ => kk (τ, o', u) hr') (fun c => absurd rfl c)
theorem qX11_loses : (parseMethodDescriptor yX11_loses.desc).map (fun d => d.parameters.length) = some 1 := by decide +kernel
theorem qX12_loses : (parseMethodDescriptor yX12_loses.desc).map (fun d => d.parameters.length) = some 1 := by decide +kernel
theorem lcl_14 {E : Ec} {ad : Nat → Nat} {cy : Nat → ClassId} {A : Nat → Prop} {fin : Ec → State → Prop} {kc ks b L z j : Nat} {xs : Nat → Int32} {w : W3} (X : Lf E ad A b L z xs) (hi : wl_inj (Γ3 ad cy)) (hj : j + 6 ≤ L) (h1 : kc + 1 ≤ 601024) (h2 : ks + 6 ≤ 7293033) (h : RelE w.1 w.2.1) (kk : ∀ w' : W3, RelE w'.1 w'.2.1 → Jx E (Γ3 ad cy) A fin (kc + 1) (ks + 6) RL cL_law 8 (some .boolean) 1771 (lvL ad b j) [] w') : Jx E (Γ3 ad cy) A fin kc ks RL cL_law 8 (some .boolean) 754 (lvL ad b j) [] w := by
  obtain ⟨σ, o, u⟩ := w
  obtain ⟨n, hr⟩ := h
  obtain ⟨r, τ, o', e1, e2, hr'⟩ := r_loses hr (xs (j + 1))
  have hiC := (s3_C (ad := ad) (cy := cy) (w := (σ, o, u))).inj hi
  have hiM := (s3_M (ad := ad) (cy := cy) (w := (σ, o, u))).inj hi
  refine Y_wid (Nat.le_succ kc) (Nat.le_add_right ks 6) (by rw [X.1]; exact h1) (by rw [X.2.1]; exact h2) ?_
  refine Y_aload_n (q := 3) dL_law_754 rfl rfl ?_
  refine Y_arg 1 (v := (1 : Int32)) (by decide) (by decide) X hj 4 0 rfl rfl dL_law_755 dL_law_756 dL_law_758 dL_law_759 dL_law_760 ?_
  refine Y_Ci (av := [.int (xs (j + 1))]) (st := []) (v := r) (τ := τ) dL_law_761 (kX11_loses hiC e1) rfl tw_3_14 tw_3_15 tw_3_17 tw_3_16 qX11_loses rfl (by decide) X.2.2.1 (by decide) (by decide) ?_
  refine Y_aload_n (q := 2) dL_law_764 rfl rfl ?_
  refine Y_arg 1 (v := (1 : Int32)) (by decide) (by decide) X hj 4 0 rfl rfl dL_law_765 dL_law_766 dL_law_768 dL_law_769 dL_law_770 ?_
  refine Y_Mi (av := [.int (xs (j + 1))]) (st := [.int r]) (v := r) (o' := o') dL_law_771 (kX12_loses hiM e2) rfl tw_5_221 tw_5_222 tw_5_224 tw_5_223 qX12_loses rfl (by decide) X.2.2.1 (by decide) (Nat.le_of_ble_eq_true rfl) ?_
  exact Y_icmp_eq (tgt := 1771) dL_law_774 (by decide) (fun _ => kk (τ, o', u) hr') (fun c => absurd rfl c)
theorem qX11_lookAfter : (parseMethodDescriptor yX11_lookAfter.desc).map (fun d => d.parameters.length) = some 3 := by decide +kernel
theorem qX12_lookAfter : (parseMethodDescriptor yX12_lookAfter.desc).map (fun d => d.parameters.length) = some 3 := by decide +kernel
theorem lcl_15 {E : Ec} {ad : Nat → Nat} {cy : Nat → ClassId} {A : Nat → Prop} {fin : Ec → State → Prop} {kc ks b L z j : Nat} {xs : Nat → Int32} {w : W3} (X : Lf E ad A b L z xs) (hi : wl_inj (Γ3 ad cy)) (hj : j + 6 ≤ L) (h1 : kc + 1 ≤ 601024) (h2 : ks + 6 ≤ 7293033) (h : RelE w.1 w.2.1) (kk : ∀ w' : W3, RelE w'.1 w'.2.1 → Jx E (Γ3 ad cy) A fin (kc + 1) (ks + 6) RL cL_law 8 (some .boolean) 1771 (lvL ad b j) [] w') : Jx E (Γ3 ad cy) A fin kc ks RL cL_law 8 (some .boolean) 779 (lvL ad b j) [] w := by
  obtain ⟨σ, o, u⟩ := w
  obtain ⟨n, hr⟩ := h
  obtain ⟨r, τ, o', e1, e2, hr'⟩ := r_lookAfter hr (xs (j + 1)) (xs (j + 2)) (xs (j + 3))
  have hiC := (s3_C (ad := ad) (cy := cy) (w := (σ, o, u))).inj hi
  have hiM := (s3_M (ad := ad) (cy := cy) (w := (σ, o, u))).inj hi
  refine Y_wid (Nat.le_succ kc) (Nat.le_add_right ks 6) (by rw [X.1]; exact h1) (by rw [X.2.1]; exact h2) ?_
  refine Y_aload_n (q := 3) dL_law_779 rfl rfl ?_
  refine Y_arg 1 (v := (1 : Int32)) (by decide) (by decide) X hj 4 0 rfl rfl dL_law_780 dL_law_781 dL_law_783 dL_law_784 dL_law_785 ?_
  refine Y_arg 2 (v := (2 : Int32)) (by decide) (by decide) X hj 4 0 rfl rfl dL_law_786 dL_law_787 dL_law_789 dL_law_790 dL_law_791 ?_
  refine Y_arg 3 (v := (3 : Int32)) (by decide) (by decide) X hj 4 0 rfl rfl dL_law_792 dL_law_793 dL_law_795 dL_law_796 dL_law_797 ?_
  refine Y_Ci (av := [.int (xs (j + 1)), .int (xs (j + 2)), .int (xs (j + 3))]) (st := []) (v := r) (τ := τ) dL_law_798 (kX11_lookAfter hiC e1) rfl tw_3_18 tw_3_19 tw_3_21 tw_3_20 qX11_lookAfter rfl (by decide) X.2.2.1 (by decide) (by decide) ?_
  refine Y_aload_n (q := 2) dL_law_801 rfl rfl ?_
  refine Y_arg 1 (v := (1 : Int32)) (by decide) (by decide) X hj 4 0 rfl rfl dL_law_802 dL_law_803 dL_law_805 dL_law_806 dL_law_807 ?_
  refine Y_arg 2 (v := (2 : Int32)) (by decide) (by decide) X hj 4 0 rfl rfl dL_law_808 dL_law_809 dL_law_811 dL_law_812 dL_law_813 ?_
  refine Y_arg 3 (v := (3 : Int32)) (by decide) (by decide) X hj 4 0 rfl rfl dL_law_814 dL_law_815 dL_law_817 dL_law_818 dL_law_819 ?_
  refine Y_Mi (av := [.int (xs (j + 1)), .int (xs (j + 2)), .int (xs (j + 3))]) (st := [.int r]) (v := r) (o' := o') dL_law_820 (kX12_lookAfter hiM e2) rfl tw_5_225 tw_5_226 tw_5_228 tw_5_227 qX12_lookAfter rfl (by decide) X.2.2.1 (by decide) (Nat.le_of_ble_eq_true rfl) ?_
  exact Y_icmp_eq (tgt := 1771) dL_law_823 (by decide) (fun _ => kk (τ, o', u) hr') (fun c => absurd rfl c)
theorem qX11_win : (parseMethodDescriptor yX11_win.desc).map (fun d => d.parameters.length) = some 2 := by decide +kernel
theorem qX12_win : (parseMethodDescriptor yX12_win.desc).map (fun d => d.parameters.length) = some 2 := by decide +kernel
theorem lcl_16 {E : Ec} {ad : Nat → Nat} {cy : Nat → ClassId} {A : Nat → Prop} {fin : Ec → State → Prop} {kc ks b L z j : Nat} {xs : Nat → Int32} {w : W3} (X : Lf E ad A b L z xs) (hi : wl_inj (Γ3 ad cy)) (hj : j + 6 ≤ L) (h1 : kc + 1 ≤ 601024) (h2 : ks + 6 ≤ 7293033) (h : RelE w.1 w.2.1) (kk : ∀ w' : W3, RelE w'.1 w'.2.1 → Jx E (Γ3 ad cy) A fin (kc + 1) (ks + 6) RL cL_law 8 (some .boolean) 1771 (lvL ad b j) [] w') : Jx E (Γ3 ad cy) A fin kc ks RL cL_law 8 (some .boolean) 828 (lvL ad b j) [] w := by
  obtain ⟨σ, o, u⟩ := w
  obtain ⟨n, hr⟩ := h
  obtain ⟨r, o', e1, e2, hr'⟩ := r_win hr (xs (j + 1)) (xs (j + 2))
  have hiC := (s3_C (ad := ad) (cy := cy) (w := (σ, o, u))).inj hi
  have hiM := (s3_M (ad := ad) (cy := cy) (w := (σ, o, u))).inj hi
  refine Y_wid (Nat.le_succ kc) (Nat.le_add_right ks 6) (by rw [X.1]; exact h1) (by rw [X.2.1]; exact h2) ?_
  refine Y_aload_n (q := 3) dL_law_828 rfl rfl ?_
  refine Y_arg 1 (v := (1 : Int32)) (by decide) (by decide) X hj 4 0 rfl rfl dL_law_829 dL_law_830 dL_law_832 dL_law_833 dL_law_834 ?_
  refine Y_arg 2 (v := (2 : Int32)) (by decide) (by decide) X hj 4 0 rfl rfl dL_law_835 dL_law_836 dL_law_838 dL_law_839 dL_law_840 ?_
  refine Y_Ci (av := [.int (xs (j + 1)), .int (xs (j + 2))]) (st := []) (v := r) (τ := σ) dL_law_841 (kX11_win hiC e1) rfl tw_3_22 tw_3_23 tw_3_25 tw_3_24 qX11_win rfl (by decide) X.2.2.1 (by decide) (by decide) ?_
  refine Y_aload_n (q := 2) dL_law_844 rfl rfl ?_
  refine Y_arg 1 (v := (1 : Int32)) (by decide) (by decide) X hj 4 0 rfl rfl dL_law_845 dL_law_846 dL_law_848 dL_law_849 dL_law_850 ?_
  refine Y_arg 2 (v := (2 : Int32)) (by decide) (by decide) X hj 4 0 rfl rfl dL_law_851 dL_law_852 dL_law_854 dL_law_855 dL_law_856 ?_
  refine Y_Mi (av := [.int (xs (j + 1)), .int (xs (j + 2))]) (st := [.int r]) (v := r) (o' := o') dL_law_857 (kX12_win hiM e2) rfl tw_5_229 tw_5_230 tw_5_232 tw_5_231 qX12_win rfl (by decide) X.2.2.1 (by decide) (Nat.le_of_ble_eq_true rfl) ?_
  exact Y_icmp_eq (tgt := 1771) dL_law_860 (by decide) (fun _ => kk (σ, o', u) hr') (fun c => absurd rfl c)
theorem qX11_ask : (parseMethodDescriptor yX11_ask.desc).map (fun d => d.parameters.length) = some 2 := by decide +kernel
theorem qX12_ask : (parseMethodDescriptor yX12_ask.desc).map (fun d => d.parameters.length) = some 2 := by decide +kernel
theorem lcl_17 {E : Ec} {ad : Nat → Nat} {cy : Nat → ClassId} {A : Nat → Prop} {fin : Ec → State → Prop} {kc ks b L z j : Nat} {xs : Nat → Int32} {w : W3} (X : Lf E ad A b L z xs) (hi : wl_inj (Γ3 ad cy)) (hj : j + 6 ≤ L) (h1 : kc + 1 ≤ 601024) (h2 : ks + 6 ≤ 7293033) (h : RelE w.1 w.2.1) (kk : ∀ w' : W3, RelE w'.1 w'.2.1 → Jx E (Γ3 ad cy) A fin (kc + 1) (ks + 6) RL cL_law 8 (some .boolean) 1771 (lvL ad b j) [] w') : Jx E (Γ3 ad cy) A fin kc ks RL cL_law 8 (some .boolean) 865 (lvL ad b j) [] w := by
  obtain ⟨σ, o, u⟩ := w
  obtain ⟨n, hr⟩ := h
  obtain ⟨r, o', e1, e2, hr'⟩ := r_ask hr (xs (j + 1)) (xs (j + 2))
  have hiC := (s3_C (ad := ad) (cy := cy) (w := (σ, o, u))).inj hi
  have hiM := (s3_M (ad := ad) (cy := cy) (w := (σ, o, u))).inj hi
  refine Y_wid (Nat.le_succ kc) (Nat.le_add_right ks 6) (by rw [X.1]; exact h1) (by rw [X.2.1]; exact h2) ?_
  refine Y_aload_n (q := 3) dL_law_865 rfl rfl ?_
  refine Y_arg 1 (v := (1 : Int32)) (by decide) (by decide) X hj 4 0 rfl rfl dL_law_866 dL_law_867 dL_law_869 dL_law_870 dL_law_871 ?_
  refine Y_arg 2 (v := (2 : Int32)) (by decide) (by decide) X hj 4 0 rfl rfl dL_law_872 dL_law_873 dL_law_875 dL_law_876 dL_law_877 ?_
  refine Y_Ci (av := [.int (xs (j + 1)), .int (xs (j + 2))]) (st := []) (v := r) (τ := σ) dL_law_878 (kX11_ask hiC e1) rfl tw_3_28 tw_3_29 tw_3_31 tw_3_30 qX11_ask rfl (by decide) X.2.2.1 (by decide) (by decide) ?_
  refine Y_aload_n (q := 2) dL_law_881 rfl rfl ?_
  refine Y_arg 1 (v := (1 : Int32)) (by decide) (by decide) X hj 4 0 rfl rfl dL_law_882 dL_law_883 dL_law_885 dL_law_886 dL_law_887 ?_
  refine Y_arg 2 (v := (2 : Int32)) (by decide) (by decide) X hj 4 0 rfl rfl dL_law_888 dL_law_889 dL_law_891 dL_law_892 dL_law_893 ?_
  refine Y_Mi (av := [.int (xs (j + 1)), .int (xs (j + 2))]) (st := [.int r]) (v := r) (o' := o') dL_law_894 (kX12_ask hiM e2) rfl tw_5_237 tw_5_238 tw_6_0 tw_5_239 qX12_ask rfl (by decide) X.2.2.1 (by decide) (Nat.le_of_ble_eq_true rfl) ?_
  exact Y_icmp_eq (tgt := 1771) dL_law_897 (by decide) (fun _ => kk (σ, o', u) hr') (fun c => absurd rfl c)
theorem qX11_care : (parseMethodDescriptor yX11_care.desc).map (fun d => d.parameters.length) = some 1 := by decide +kernel
theorem qX12_care : (parseMethodDescriptor yX12_care.desc).map (fun d => d.parameters.length) = some 1 := by decide +kernel
theorem lcl_18 {E : Ec} {ad : Nat → Nat} {cy : Nat → ClassId} {A : Nat → Prop} {fin : Ec → State → Prop} {kc ks b L z j : Nat} {xs : Nat → Int32} {w : W3} (X : Lf E ad A b L z xs) (hi : wl_inj (Γ3 ad cy)) (hj : j + 6 ≤ L) (h1 : kc + 1 ≤ 601024) (h2 : ks + 6 ≤ 7293033) (h : RelE w.1 w.2.1) (kk : ∀ w' : W3, RelE w'.1 w'.2.1 → Jx E (Γ3 ad cy) A fin (kc + 1) (ks + 6) RL cL_law 8 (some .boolean) 1771 (lvL ad b j) [] w') : Jx E (Γ3 ad cy) A fin kc ks RL cL_law 8 (some .boolean) 902 (lvL ad b j) [] w := by
  obtain ⟨σ, o, u⟩ := w
  obtain ⟨n, hr⟩ := h
  obtain ⟨r, τ, o', e1, e2, hr'⟩ := r_care hr (xs (j + 1))
  have hiC := (s3_C (ad := ad) (cy := cy) (w := (σ, o, u))).inj hi
  have hiM := (s3_M (ad := ad) (cy := cy) (w := (σ, o, u))).inj hi
  refine Y_wid (Nat.le_succ kc) (Nat.le_add_right ks 6) (by rw [X.1]; exact h1) (by rw [X.2.1]; exact h2) ?_
  refine Y_aload_n (q := 3) dL_law_902 rfl rfl ?_
  refine Y_arg 1 (v := (1 : Int32)) (by decide) (by decide) X hj 4 0 rfl rfl dL_law_903 dL_law_904 dL_law_906 dL_law_907 dL_law_908 ?_
  refine Y_Ci (av := [.int (xs (j + 1))]) (st := []) (v := r) (τ := τ) dL_law_909 (kX11_care hiC e1) rfl tw_3_32 tw_3_33 tw_3_35 tw_3_34 qX11_care rfl (by decide) X.2.2.1 (by decide) (by decide) ?_
  refine Y_aload_n (q := 2) dL_law_912 rfl rfl ?_
  refine Y_arg 1 (v := (1 : Int32)) (by decide) (by decide) X hj 4 0 rfl rfl dL_law_913 dL_law_914 dL_law_916 dL_law_917 dL_law_918 ?_
  refine Y_Mi (av := [.int (xs (j + 1))]) (st := [.int r]) (v := r) (o' := o') dL_law_919 (kX12_care hiM e2) rfl tw_6_1 tw_6_2 tw_6_4 tw_6_3 qX12_care rfl (by decide) X.2.2.1 (by decide) (Nat.le_of_ble_eq_true rfl) ?_
  exact Y_icmp_eq (tgt := 1771) dL_law_922 (by decide) (fun _ => kk (τ, o', u) hr') (fun c => absurd rfl c)
theorem qX11_richest : (parseMethodDescriptor yX11_richest.desc).map (fun d => d.parameters.length) = some 1 := by decide +kernel
theorem qX12_richest : (parseMethodDescriptor yX12_richest.desc).map (fun d => d.parameters.length) = some 1 := by decide +kernel
theorem lcl_19 {E : Ec} {ad : Nat → Nat} {cy : Nat → ClassId} {A : Nat → Prop} {fin : Ec → State → Prop} {kc ks b L z j : Nat} {xs : Nat → Int32} {w : W3} (X : Lf E ad A b L z xs) (hi : wl_inj (Γ3 ad cy)) (hj : j + 6 ≤ L) (h1 : kc + 1 ≤ 601024) (h2 : ks + 6 ≤ 7293033) (h : RelE w.1 w.2.1) (kk : ∀ w' : W3, RelE w'.1 w'.2.1 → Jx E (Γ3 ad cy) A fin (kc + 1) (ks + 6) RL cL_law 8 (some .boolean) 1771 (lvL ad b j) [] w') : Jx E (Γ3 ad cy) A fin kc ks RL cL_law 8 (some .boolean) 927 (lvL ad b j) [] w := by
  obtain ⟨σ, o, u⟩ := w
  obtain ⟨n, hr⟩ := h
  obtain ⟨r, τ, o', e1, e2, hr'⟩ := r_richest hr (xs (j + 1))
  have hiC := (s3_C (ad := ad) (cy := cy) (w := (σ, o, u))).inj hi
  have hiM := (s3_M (ad := ad) (cy := cy) (w := (σ, o, u))).inj hi
  refine Y_wid (Nat.le_succ kc) (Nat.le_add_right ks 6) (by rw [X.1]; exact h1) (by rw [X.2.1]; exact h2) ?_
  refine Y_aload_n (q := 3) dL_law_927 rfl rfl ?_
  refine Y_arg 1 (v := (1 : Int32)) (by decide) (by decide) X hj 4 0 rfl rfl dL_law_928 dL_law_929 dL_law_931 dL_law_932 dL_law_933 ?_
  refine Y_Ci (av := [.int (xs (j + 1))]) (st := []) (v := r) (τ := τ) dL_law_934 (kX11_richest hiC e1) rfl tw_3_52 tw_3_53 tw_3_55 tw_3_54 qX11_richest rfl (by decide) X.2.2.1 (by decide) (by decide) ?_
  refine Y_aload_n (q := 2) dL_law_937 rfl rfl ?_
  refine Y_arg 1 (v := (1 : Int32)) (by decide) (by decide) X hj 4 0 rfl rfl dL_law_938 dL_law_939 dL_law_941 dL_law_942 dL_law_943 ?_
  refine Y_Mi (av := [.int (xs (j + 1))]) (st := [.int r]) (v := r) (o' := o') dL_law_944 (kX12_richest hiM e2) rfl tw_6_14 tw_6_15 tw_6_17 tw_6_16 qX12_richest rfl (by decide) X.2.2.1 (by decide) (Nat.le_of_ble_eq_true rfl) ?_
  exact Y_icmp_eq (tgt := 1771) dL_law_947 (by decide) (fun _ => kk (τ, o', u) hr') (fun c => absurd rfl c)
theorem qX11_common : (parseMethodDescriptor yX11_common.desc).map (fun d => d.parameters.length) = some 2 := by decide +kernel
theorem qX12_common : (parseMethodDescriptor yX12_common.desc).map (fun d => d.parameters.length) = some 2 := by decide +kernel
theorem lcl_20 {E : Ec} {ad : Nat → Nat} {cy : Nat → ClassId} {A : Nat → Prop} {fin : Ec → State → Prop} {kc ks b L z j : Nat} {xs : Nat → Int32} {w : W3} (X : Lf E ad A b L z xs) (hi : wl_inj (Γ3 ad cy)) (hj : j + 6 ≤ L) (h1 : kc + 1 ≤ 601024) (h2 : ks + 6 ≤ 7293033) (h : RelE w.1 w.2.1) (kk : ∀ w' : W3, RelE w'.1 w'.2.1 → Jx E (Γ3 ad cy) A fin (kc + 1) (ks + 6) RL cL_law 8 (some .boolean) 1771 (lvL ad b j) [] w') : Jx E (Γ3 ad cy) A fin kc ks RL cL_law 8 (some .boolean) 952 (lvL ad b j) [] w := by
  obtain ⟨σ, o, u⟩ := w
  obtain ⟨n, hr⟩ := h
  obtain ⟨r, o', e1, e2, hr'⟩ := r_common hr (xs (j + 1)) (xs (j + 2))
  have hiC := (s3_C (ad := ad) (cy := cy) (w := (σ, o, u))).inj hi
  have hiM := (s3_M (ad := ad) (cy := cy) (w := (σ, o, u))).inj hi
  refine Y_wid (Nat.le_succ kc) (Nat.le_add_right ks 6) (by rw [X.1]; exact h1) (by rw [X.2.1]; exact h2) ?_
  refine Y_aload_n (q := 3) dL_law_952 rfl rfl ?_
  refine Y_arg 1 (v := (1 : Int32)) (by decide) (by decide) X hj 4 0 rfl rfl dL_law_953 dL_law_954 dL_law_956 dL_law_957 dL_law_958 ?_
  refine Y_arg 2 (v := (2 : Int32)) (by decide) (by decide) X hj 4 0 rfl rfl dL_law_959 dL_law_960 dL_law_962 dL_law_963 dL_law_964 ?_
  refine Y_Ci (av := [.int (xs (j + 1)), .int (xs (j + 2))]) (st := []) (v := r) (τ := σ) dL_law_965 (kX11_common hiC e1) rfl tw_3_68 tw_3_69 tw_3_71 tw_3_70 qX11_common rfl (by decide) X.2.2.1 (by decide) (by decide) ?_
  refine Y_aload_n (q := 2) dL_law_968 rfl rfl ?_
  refine Y_arg 1 (v := (1 : Int32)) (by decide) (by decide) X hj 4 0 rfl rfl dL_law_969 dL_law_970 dL_law_972 dL_law_973 dL_law_974 ?_
  refine Y_arg 2 (v := (2 : Int32)) (by decide) (by decide) X hj 4 0 rfl rfl dL_law_975 dL_law_976 dL_law_978 dL_law_979 dL_law_980 ?_
  refine Y_Mi (av := [.int (xs (j + 1)), .int (xs (j + 2))]) (st := [.int r]) (v := r) (o' := o') dL_law_981 (kX12_common hiM e2) rfl tw_6_30 tw_6_31 tw_6_33 tw_6_32 qX12_common rfl (by decide) X.2.2.1 (by decide) (Nat.le_of_ble_eq_true rfl) ?_
  exact Y_icmp_eq (tgt := 1771) dL_law_984 (by decide) (fun _ => kk (σ, o', u) hr') (fun c => absurd rfl c)
theorem qX11_whatIs : (parseMethodDescriptor yX11_whatIs.desc).map (fun d => d.parameters.length) = some 3 := by decide +kernel
theorem qX12_whatIs : (parseMethodDescriptor yX12_whatIs.desc).map (fun d => d.parameters.length) = some 3 := by decide +kernel
theorem lcl_21 {E : Ec} {ad : Nat → Nat} {cy : Nat → ClassId} {A : Nat → Prop} {fin : Ec → State → Prop} {kc ks b L z j : Nat} {xs : Nat → Int32} {w : W3} (X : Lf E ad A b L z xs) (hi : wl_inj (Γ3 ad cy)) (hj : j + 6 ≤ L) (h1 : kc + 1 ≤ 601024) (h2 : ks + 6 ≤ 7293033) (h : RelE w.1 w.2.1) (kk : ∀ w' : W3, RelE w'.1 w'.2.1 → Jx E (Γ3 ad cy) A fin (kc + 1) (ks + 6) RL cL_law 8 (some .boolean) 1771 (lvL ad b j) [] w') : Jx E (Γ3 ad cy) A fin kc ks RL cL_law 8 (some .boolean) 989 (lvL ad b j) [] w := by
  obtain ⟨σ, o, u⟩ := w
  obtain ⟨n, hr⟩ := h
  obtain ⟨r, τ, o', e1, e2, hr'⟩ := r_whatIs hr (xs (j + 1)) (xs (j + 2)) (xs (j + 3))
  have hiC := (s3_C (ad := ad) (cy := cy) (w := (σ, o, u))).inj hi
  have hiM := (s3_M (ad := ad) (cy := cy) (w := (σ, o, u))).inj hi
  refine Y_wid (Nat.le_succ kc) (Nat.le_add_right ks 6) (by rw [X.1]; exact h1) (by rw [X.2.1]; exact h2) ?_
  refine Y_aload_n (q := 3) dL_law_989 rfl rfl ?_
  refine Y_arg 1 (v := (1 : Int32)) (by decide) (by decide) X hj 4 0 rfl rfl dL_law_990 dL_law_991 dL_law_993 dL_law_994 dL_law_995 ?_
  refine Y_arg 2 (v := (2 : Int32)) (by decide) (by decide) X hj 4 0 rfl rfl dL_law_996 dL_law_997 dL_law_999 dL_law_1000 dL_law_1001 ?_
  refine Y_arg 3 (v := (3 : Int32)) (by decide) (by decide) X hj 4 0 rfl rfl dL_law_1002 dL_law_1003 dL_law_1005 dL_law_1006 dL_law_1007 ?_
  refine Y_Ci (av := [.int (xs (j + 1)), .int (xs (j + 2)), .int (xs (j + 3))]) (st := []) (v := r) (τ := τ) dL_law_1008 (kX11_whatIs hiC e1) rfl tw_3_76 tw_3_77 tw_3_79 tw_3_78 qX11_whatIs rfl (by decide) X.2.2.1 (by decide) (by decide) ?_
  refine Y_aload_n (q := 2) dL_law_1011 rfl rfl ?_
  refine Y_arg 1 (v := (1 : Int32)) (by decide) (by decide) X hj 4 0 rfl rfl dL_law_1012 dL_law_1013 dL_law_1015 dL_law_1016 dL_law_1017 ?_
  refine Y_arg 2 (v := (2 : Int32)) (by decide) (by decide) X hj 4 0 rfl rfl dL_law_1018 dL_law_1019 dL_law_1021 dL_law_1022 dL_law_1023 ?_
  refine Y_arg 3 (v := (3 : Int32)) (by decide) (by decide) X hj 4 0 rfl rfl dL_law_1024 dL_law_1025 dL_law_1027 dL_law_1028 dL_law_1029 ?_
  refine Y_Mi (av := [.int (xs (j + 1)), .int (xs (j + 2)), .int (xs (j + 3))]) (st := [.int r]) (v := r) (o' := o') dL_law_1030 (kX12_whatIs hiM e2) rfl tw_6_39 tw_6_40 tw_6_42 tw_6_41 qX12_whatIs rfl (by decide) X.2.2.1 (by decide) (Nat.le_of_ble_eq_true rfl) ?_
  exact Y_icmp_eq (tgt := 1771) dL_law_1033 (by decide) (fun _ => kk (τ, o', u) hr') (fun c => absurd rfl c)
theorem qX11_whichPast : (parseMethodDescriptor yX11_whichPast.desc).map (fun d => d.parameters.length) = some 3 := by decide +kernel
theorem qX12_whichPast : (parseMethodDescriptor yX12_whichPast.desc).map (fun d => d.parameters.length) = some 3 := by decide +kernel
theorem lcl_22 {E : Ec} {ad : Nat → Nat} {cy : Nat → ClassId} {A : Nat → Prop} {fin : Ec → State → Prop} {kc ks b L z j : Nat} {xs : Nat → Int32} {w : W3} (X : Lf E ad A b L z xs) (hi : wl_inj (Γ3 ad cy)) (hj : j + 6 ≤ L) (h1 : kc + 1 ≤ 601024) (h2 : ks + 6 ≤ 7293033) (h : RelE w.1 w.2.1) (kk : ∀ w' : W3, RelE w'.1 w'.2.1 → Jx E (Γ3 ad cy) A fin (kc + 1) (ks + 6) RL cL_law 8 (some .boolean) 1771 (lvL ad b j) [] w') : Jx E (Γ3 ad cy) A fin kc ks RL cL_law 8 (some .boolean) 1038 (lvL ad b j) [] w := by
  obtain ⟨σ, o, u⟩ := w
  obtain ⟨n, hr⟩ := h
  obtain ⟨r, τ, o', e1, e2, hr'⟩ := r_whichPast hr (xs (j + 1)) (xs (j + 2)) (xs (j + 3))
  have hiC := (s3_C (ad := ad) (cy := cy) (w := (σ, o, u))).inj hi
  have hiM := (s3_M (ad := ad) (cy := cy) (w := (σ, o, u))).inj hi
  refine Y_wid (Nat.le_succ kc) (Nat.le_add_right ks 6) (by rw [X.1]; exact h1) (by rw [X.2.1]; exact h2) ?_
  refine Y_aload_n (q := 3) dL_law_1038 rfl rfl ?_
  refine Y_arg 1 (v := (1 : Int32)) (by decide) (by decide) X hj 4 0 rfl rfl dL_law_1039 dL_law_1040 dL_law_1042 dL_law_1043 dL_law_1044 ?_
  refine Y_arg 2 (v := (2 : Int32)) (by decide) (by decide) X hj 4 0 rfl rfl dL_law_1045 dL_law_1046 dL_law_1048 dL_law_1049 dL_law_1050 ?_
  refine Y_arg 3 (v := (3 : Int32)) (by decide) (by decide) X hj 4 0 rfl rfl dL_law_1051 dL_law_1052 dL_law_1054 dL_law_1055 dL_law_1056 ?_
  refine Y_Ci (av := [.int (xs (j + 1)), .int (xs (j + 2)), .int (xs (j + 3))]) (st := []) (v := r) (τ := τ) dL_law_1057 (kX11_whichPast hiC e1) rfl tw_3_93 tw_3_94 tw_3_96 tw_3_95 qX11_whichPast rfl (by decide) X.2.2.1 (by decide) (by decide) ?_
  refine Y_aload_n (q := 2) dL_law_1060 rfl rfl ?_
  refine Y_arg 1 (v := (1 : Int32)) (by decide) (by decide) X hj 4 0 rfl rfl dL_law_1061 dL_law_1062 dL_law_1064 dL_law_1065 dL_law_1066 ?_
  refine Y_arg 2 (v := (2 : Int32)) (by decide) (by decide) X hj 4 0 rfl rfl dL_law_1067 dL_law_1068 dL_law_1070 dL_law_1071 dL_law_1072 ?_
  refine Y_arg 3 (v := (3 : Int32)) (by decide) (by decide) X hj 4 0 rfl rfl dL_law_1073 dL_law_1074 dL_law_1076 dL_law_1077 dL_law_1078 ?_
  refine Y_Mi (av := [.int (xs (j + 1)), .int (xs (j + 2)), .int (xs (j + 3))]) (st := [.int r]) (v := r) (o' := o') dL_law_1079 (kX12_whichPast hiM e2) rfl tw_6_57 tw_6_58 tw_6_60 tw_6_59 qX12_whichPast rfl (by decide) X.2.2.1 (by decide) (Nat.le_of_ble_eq_true rfl) ?_
  exact Y_icmp_eq (tgt := 1771) dL_law_1082 (by decide) (fun _ => kk (τ, o', u) hr') (fun c => absurd rfl c)
theorem qX11_two : (parseMethodDescriptor yX11_two.desc).map (fun d => d.parameters.length) = some 4 := by decide +kernel
theorem qX12_two : (parseMethodDescriptor yX12_two.desc).map (fun d => d.parameters.length) = some 4 := by decide +kernel
theorem lcl_23 {E : Ec} {ad : Nat → Nat} {cy : Nat → ClassId} {A : Nat → Prop} {fin : Ec → State → Prop} {kc ks b L z j : Nat} {xs : Nat → Int32} {w : W3} (X : Lf E ad A b L z xs) (hi : wl_inj (Γ3 ad cy)) (hj : j + 6 ≤ L) (h1 : kc + 1 ≤ 601024) (h2 : ks + 6 ≤ 7293033) (h : RelE w.1 w.2.1) (kk : ∀ w' : W3, RelE w'.1 w'.2.1 → Jx E (Γ3 ad cy) A fin (kc + 1) (ks + 6) RL cL_law 8 (some .boolean) 1771 (lvL ad b j) [] w') : Jx E (Γ3 ad cy) A fin kc ks RL cL_law 8 (some .boolean) 1087 (lvL ad b j) [] w := by
  obtain ⟨σ, o, u⟩ := w
  obtain ⟨n, hr⟩ := h
  obtain ⟨r, τ, o', e1, e2, hr'⟩ := r_two hr (xs (j + 1)) (xs (j + 2)) (xs (j + 3)) (xs (j + 4))
  have hiC := (s3_C (ad := ad) (cy := cy) (w := (σ, o, u))).inj hi
  have hiM := (s3_M (ad := ad) (cy := cy) (w := (σ, o, u))).inj hi
  refine Y_wid (Nat.le_succ kc) (Nat.le_add_right ks 6) (by rw [X.1]; exact h1) (by rw [X.2.1]; exact h2) ?_
  refine Y_aload_n (q := 3) dL_law_1087 rfl rfl ?_
  refine Y_arg 1 (v := (1 : Int32)) (by decide) (by decide) X hj 4 0 rfl rfl dL_law_1088 dL_law_1089 dL_law_1091 dL_law_1092 dL_law_1093 ?_
  refine Y_arg 2 (v := (2 : Int32)) (by decide) (by decide) X hj 4 0 rfl rfl dL_law_1094 dL_law_1095 dL_law_1097 dL_law_1098 dL_law_1099 ?_
  refine Y_arg 3 (v := (3 : Int32)) (by decide) (by decide) X hj 4 0 rfl rfl dL_law_1100 dL_law_1101 dL_law_1103 dL_law_1104 dL_law_1105 ?_
  refine Y_arg 4 (v := (4 : Int32)) (by decide) (by decide) X hj 4 0 rfl rfl dL_law_1106 dL_law_1107 dL_law_1109 dL_law_1110 dL_law_1111 ?_
  refine Y_Ci (av := [.int (xs (j + 1)), .int (xs (j + 2)), .int (xs (j + 3)), .int (xs (j + 4))]) (st := []) (v := r) (τ := τ) dL_law_1112 (kX11_two hiC e1) rfl tw_3_101 tw_3_102 tw_3_104 tw_3_103 qX11_two rfl (by decide) X.2.2.1 (by decide) (by decide) ?_
  refine Y_aload_n (q := 2) dL_law_1115 rfl rfl ?_
  refine Y_arg 1 (v := (1 : Int32)) (by decide) (by decide) X hj 4 0 rfl rfl dL_law_1116 dL_law_1117 dL_law_1119 dL_law_1120 dL_law_1121 ?_
  refine Y_arg 2 (v := (2 : Int32)) (by decide) (by decide) X hj 4 0 rfl rfl dL_law_1122 dL_law_1123 dL_law_1125 dL_law_1126 dL_law_1127 ?_
  refine Y_arg 3 (v := (3 : Int32)) (by decide) (by decide) X hj 4 0 rfl rfl dL_law_1128 dL_law_1129 dL_law_1131 dL_law_1132 dL_law_1133 ?_
  refine Y_arg 4 (v := (4 : Int32)) (by decide) (by decide) X hj 4 0 rfl rfl dL_law_1134 dL_law_1135 dL_law_1137 dL_law_1138 dL_law_1139 ?_
  refine Y_Mi (av := [.int (xs (j + 1)), .int (xs (j + 2)), .int (xs (j + 3)), .int (xs (j + 4))]) (st := [.int r]) (v := r) (o' := o') dL_law_1140 (kX12_two hiM e2) rfl tw_6_65 tw_6_66 tw_6_68 tw_6_67 qX12_two rfl (by decide) X.2.2.1 (by decide) (Nat.le_of_ble_eq_true rfl) ?_
  exact Y_icmp_eq (tgt := 1771) dL_law_1143 (by decide) (fun _ => kk (τ, o', u) hr') (fun c => absurd rfl c)
theorem qX11_floods : (parseMethodDescriptor yX11_floods.desc).map (fun d => d.parameters.length) = some 5 := by decide +kernel
theorem qX12_floods : (parseMethodDescriptor yX12_floods.desc).map (fun d => d.parameters.length) = some 5 := by decide +kernel
theorem lcl_24 {E : Ec} {ad : Nat → Nat} {cy : Nat → ClassId} {A : Nat → Prop} {fin : Ec → State → Prop} {kc ks b L z j : Nat} {xs : Nat → Int32} {w : W3} (X : Lf E ad A b L z xs) (hi : wl_inj (Γ3 ad cy)) (hj : j + 6 ≤ L) (h1 : kc + 1 ≤ 601024) (h2 : ks + 6 ≤ 7293033) (h : RelE w.1 w.2.1) (kk : ∀ w' : W3, RelE w'.1 w'.2.1 → Jx E (Γ3 ad cy) A fin (kc + 1) (ks + 6) RL cL_law 8 (some .boolean) 1771 (lvL ad b j) [] w') : Jx E (Γ3 ad cy) A fin kc ks RL cL_law 8 (some .boolean) 1148 (lvL ad b j) [] w := by
  obtain ⟨σ, o, u⟩ := w
  obtain ⟨n, hr⟩ := h
  obtain ⟨r, τ, o', e1, e2, hr'⟩ := r_floods hr (xs (j + 1)) (xs (j + 2)) (xs (j + 3)) (xs (j + 4)) (xs (j + 5))
  have hiC := (s3_C (ad := ad) (cy := cy) (w := (σ, o, u))).inj hi
  have hiM := (s3_M (ad := ad) (cy := cy) (w := (σ, o, u))).inj hi
  refine Y_wid (Nat.le_succ kc) (Nat.le_add_right ks 6) (by rw [X.1]; exact h1) (by rw [X.2.1]; exact h2) ?_
  refine Y_aload_n (q := 3) dL_law_1148 rfl rfl ?_
  refine Y_arg 1 (v := (1 : Int32)) (by decide) (by decide) X hj 4 0 rfl rfl dL_law_1149 dL_law_1150 dL_law_1152 dL_law_1153 dL_law_1154 ?_
  refine Y_arg 2 (v := (2 : Int32)) (by decide) (by decide) X hj 4 0 rfl rfl dL_law_1155 dL_law_1156 dL_law_1158 dL_law_1159 dL_law_1160 ?_
  refine Y_arg 3 (v := (3 : Int32)) (by decide) (by decide) X hj 4 0 rfl rfl dL_law_1161 dL_law_1162 dL_law_1164 dL_law_1165 dL_law_1166 ?_
  refine Y_arg 4 (v := (4 : Int32)) (by decide) (by decide) X hj 4 0 rfl rfl dL_law_1167 dL_law_1168 dL_law_1170 dL_law_1171 dL_law_1172 ?_
  refine Y_arg 5 (v := (5 : Int32)) (by decide) (by decide) X hj 4 0 rfl rfl dL_law_1173 dL_law_1174 dL_law_1176 dL_law_1177 dL_law_1178 ?_
  refine Y_Cl (av := [.int (xs (j + 1)), .int (xs (j + 2)), .int (xs (j + 3)), .int (xs (j + 4)), .int (xs (j + 5))]) (st := []) (v := r) (τ := τ) dL_law_1179 (kX11_floods hiC e1) rfl tw_3_105 tw_3_106 tw_3_108 tw_3_107 qX11_floods rfl (by decide) X.2.2.1 (by decide) (by decide) ?_
  refine Y_aload_n (q := 2) dL_law_1182 rfl rfl ?_
  refine Y_arg 1 (v := (1 : Int32)) (by decide) (by decide) X hj 4 0 rfl rfl dL_law_1183 dL_law_1184 dL_law_1186 dL_law_1187 dL_law_1188 ?_
  refine Y_arg 2 (v := (2 : Int32)) (by decide) (by decide) X hj 4 0 rfl rfl dL_law_1189 dL_law_1190 dL_law_1192 dL_law_1193 dL_law_1194 ?_
  refine Y_arg 3 (v := (3 : Int32)) (by decide) (by decide) X hj 4 0 rfl rfl dL_law_1195 dL_law_1196 dL_law_1198 dL_law_1199 dL_law_1200 ?_
  refine Y_arg 4 (v := (4 : Int32)) (by decide) (by decide) X hj 4 0 rfl rfl dL_law_1201 dL_law_1202 dL_law_1204 dL_law_1205 dL_law_1206 ?_
  refine Y_arg 5 (v := (5 : Int32)) (by decide) (by decide) X hj 4 0 rfl rfl dL_law_1207 dL_law_1208 dL_law_1210 dL_law_1211 dL_law_1212 ?_
  refine Y_Ml (av := [.int (xs (j + 1)), .int (xs (j + 2)), .int (xs (j + 3)), .int (xs (j + 4)), .int (xs (j + 5))]) (st := [.long r]) (v := r) (o' := o') dL_law_1213 (kX12_floods hiM e2) rfl tw_6_70 tw_6_71 tw_6_73 tw_6_72 qX12_floods rfl (by decide) X.2.2.1 (by decide) (Nat.le_of_ble_eq_true rfl) ?_
  refine Y_lcmp dL_law_1216 ?_
  exact Y_if_eq (tgt := 1771) dL_law_1217 (by decide) (fun _ => kk (τ, o', u) hr') (fun c => absurd lg_self c)
theorem qX11_share : (parseMethodDescriptor yX11_share.desc).map (fun d => d.parameters.length) = some 2 := by decide +kernel
theorem qX12_share : (parseMethodDescriptor yX12_share.desc).map (fun d => d.parameters.length) = some 2 := by decide +kernel
theorem lcl_25 {E : Ec} {ad : Nat → Nat} {cy : Nat → ClassId} {A : Nat → Prop} {fin : Ec → State → Prop} {kc ks b L z j : Nat} {xs : Nat → Int32} {w : W3} (X : Lf E ad A b L z xs) (hi : wl_inj (Γ3 ad cy)) (hj : j + 6 ≤ L) (h1 : kc + 1 ≤ 601024) (h2 : ks + 6 ≤ 7293033) (h : RelE w.1 w.2.1) (kk : ∀ w' : W3, RelE w'.1 w'.2.1 → Jx E (Γ3 ad cy) A fin (kc + 1) (ks + 6) RL cL_law 8 (some .boolean) 1771 (lvL ad b j) [] w') : Jx E (Γ3 ad cy) A fin kc ks RL cL_law 8 (some .boolean) 1222 (lvL ad b j) [] w := by
  obtain ⟨σ, o, u⟩ := w
  obtain ⟨n, hr⟩ := h
  obtain ⟨r, o', e1, e2, hr'⟩ := r_share hr (xs (j + 1)) (xs (j + 2))
  have hiC := (s3_C (ad := ad) (cy := cy) (w := (σ, o, u))).inj hi
  have hiM := (s3_M (ad := ad) (cy := cy) (w := (σ, o, u))).inj hi
  refine Y_wid (Nat.le_succ kc) (Nat.le_add_right ks 6) (by rw [X.1]; exact h1) (by rw [X.2.1]; exact h2) ?_
  refine Y_aload_n (q := 3) dL_law_1222 rfl rfl ?_
  refine Y_arg 1 (v := (1 : Int32)) (by decide) (by decide) X hj 4 0 rfl rfl dL_law_1223 dL_law_1224 dL_law_1226 dL_law_1227 dL_law_1228 ?_
  refine Y_arg 2 (v := (2 : Int32)) (by decide) (by decide) X hj 4 0 rfl rfl dL_law_1229 dL_law_1230 dL_law_1232 dL_law_1233 dL_law_1234 ?_
  refine Y_Cl (av := [.int (xs (j + 1)), .int (xs (j + 2))]) (st := []) (v := r) (τ := σ) dL_law_1235 (kX11_share hiC e1) rfl tw_3_120 tw_3_121 tw_3_123 tw_3_122 qX11_share rfl (by decide) X.2.2.1 (by decide) (by decide) ?_
  refine Y_aload_n (q := 2) dL_law_1238 rfl rfl ?_
  refine Y_arg 1 (v := (1 : Int32)) (by decide) (by decide) X hj 4 0 rfl rfl dL_law_1239 dL_law_1240 dL_law_1242 dL_law_1243 dL_law_1244 ?_
  refine Y_arg 2 (v := (2 : Int32)) (by decide) (by decide) X hj 4 0 rfl rfl dL_law_1245 dL_law_1246 dL_law_1248 dL_law_1249 dL_law_1250 ?_
  refine Y_Ml (av := [.int (xs (j + 1)), .int (xs (j + 2))]) (st := [.long r]) (v := r) (o' := o') dL_law_1251 (kX12_share hiM e2) rfl tw_6_82 tw_6_83 tw_6_85 tw_6_84 qX12_share rfl (by decide) X.2.2.1 (by decide) (Nat.le_of_ble_eq_true rfl) ?_
  refine Y_lcmp dL_law_1254 ?_
  exact Y_if_eq (tgt := 1771) dL_law_1255 (by decide) (fun _ => kk (σ, o', u) hr') (fun c => absurd lg_self c)
theorem qX11_forged : (parseMethodDescriptor yX11_forged.desc).map (fun d => d.parameters.length) = some 1 := by decide +kernel
theorem qX12_forged : (parseMethodDescriptor yX12_forged.desc).map (fun d => d.parameters.length) = some 1 := by decide +kernel
theorem lcl_26 {E : Ec} {ad : Nat → Nat} {cy : Nat → ClassId} {A : Nat → Prop} {fin : Ec → State → Prop} {kc ks b L z j : Nat} {xs : Nat → Int32} {w : W3} (X : Lf E ad A b L z xs) (hi : wl_inj (Γ3 ad cy)) (hj : j + 6 ≤ L) (h1 : kc + 1 ≤ 601024) (h2 : ks + 6 ≤ 7293033) (h : RelE w.1 w.2.1) (kk : ∀ w' : W3, RelE w'.1 w'.2.1 → Jx E (Γ3 ad cy) A fin (kc + 1) (ks + 6) RL cL_law 8 (some .boolean) 1771 (lvL ad b j) [] w') : Jx E (Γ3 ad cy) A fin kc ks RL cL_law 8 (some .boolean) 1260 (lvL ad b j) [] w := by
  obtain ⟨σ, o, u⟩ := w
  obtain ⟨n, hr⟩ := h
  obtain ⟨r, o', e1, e2, hr'⟩ := r_forged hr (xs (j + 1))
  have hiC := (s3_C (ad := ad) (cy := cy) (w := (σ, o, u))).inj hi
  have hiM := (s3_M (ad := ad) (cy := cy) (w := (σ, o, u))).inj hi
  refine Y_wid (Nat.le_succ kc) (Nat.le_add_right ks 6) (by rw [X.1]; exact h1) (by rw [X.2.1]; exact h2) ?_
  refine Y_aload_n (q := 3) dL_law_1260 rfl rfl ?_
  refine Y_arg 1 (v := (1 : Int32)) (by decide) (by decide) X hj 4 0 rfl rfl dL_law_1261 dL_law_1262 dL_law_1264 dL_law_1265 dL_law_1266 ?_
  refine Y_Ci (av := [.int (xs (j + 1))]) (st := []) (v := r) (τ := σ) dL_law_1267 (kX11_forged hiC e1) rfl tw_3_128 tw_3_129 tw_3_131 tw_3_130 qX11_forged rfl (by decide) X.2.2.1 (by decide) (by decide) ?_
  refine Y_aload_n (q := 2) dL_law_1270 rfl rfl ?_
  refine Y_arg 1 (v := (1 : Int32)) (by decide) (by decide) X hj 4 0 rfl rfl dL_law_1271 dL_law_1272 dL_law_1274 dL_law_1275 dL_law_1276 ?_
  refine Y_Mi (av := [.int (xs (j + 1))]) (st := [.int r]) (v := r) (o' := o') dL_law_1277 (kX12_forged hiM e2) rfl tw_6_90 tw_6_91 tw_6_93 tw_6_92 qX12_forged rfl (by decide) X.2.2.1 (by decide) (Nat.le_of_ble_eq_true rfl) ?_
  exact Y_icmp_eq (tgt := 1771) dL_law_1280 (by decide) (fun _ => kk (σ, o', u) hr') (fun c => absurd rfl c)
theorem qX11_judge : (parseMethodDescriptor yX11_judge.desc).map (fun d => d.parameters.length) = some 2 := by decide +kernel
theorem qX12_judge : (parseMethodDescriptor yX12_judge.desc).map (fun d => d.parameters.length) = some 2 := by decide +kernel
theorem lcl_27 {E : Ec} {ad : Nat → Nat} {cy : Nat → ClassId} {A : Nat → Prop} {fin : Ec → State → Prop} {kc ks b L z j : Nat} {xs : Nat → Int32} {w : W3} (X : Lf E ad A b L z xs) (hi : wl_inj (Γ3 ad cy)) (hj : j + 6 ≤ L) (h1 : kc + 1 ≤ 601024) (h2 : ks + 6 ≤ 7293033) (h : RelE w.1 w.2.1) (kk : ∀ w' : W3, RelE w'.1 w'.2.1 → Jx E (Γ3 ad cy) A fin (kc + 1) (ks + 6) RL cL_law 8 (some .boolean) 1771 (lvL ad b j) [] w') : Jx E (Γ3 ad cy) A fin kc ks RL cL_law 8 (some .boolean) 1285 (lvL ad b j) [] w := by
  obtain ⟨σ, o, u⟩ := w
  obtain ⟨n, hr⟩ := h
  obtain ⟨r, τ, o', e1, e2, hr'⟩ := r_judge hr (xs (j + 1)) (xs (j + 2))
  have hiC := (s3_C (ad := ad) (cy := cy) (w := (σ, o, u))).inj hi
  have hiM := (s3_M (ad := ad) (cy := cy) (w := (σ, o, u))).inj hi
  refine Y_wid (Nat.le_succ kc) (Nat.le_add_right ks 6) (by rw [X.1]; exact h1) (by rw [X.2.1]; exact h2) ?_
  refine Y_aload_n (q := 3) dL_law_1285 rfl rfl ?_
  refine Y_arg 1 (v := (1 : Int32)) (by decide) (by decide) X hj 4 0 rfl rfl dL_law_1286 dL_law_1287 dL_law_1289 dL_law_1290 dL_law_1291 ?_
  refine Y_arg 2 (v := (2 : Int32)) (by decide) (by decide) X hj 4 0 rfl rfl dL_law_1292 dL_law_1293 dL_law_1295 dL_law_1296 dL_law_1297 ?_
  refine Y_Ci (av := [.int (xs (j + 1)), .int (xs (j + 2))]) (st := []) (v := r) (τ := τ) dL_law_1298 (kX11_judge hiC e1) rfl tw_3_132 tw_3_133 tw_3_135 tw_3_134 qX11_judge rfl (by decide) X.2.2.1 (by decide) (by decide) ?_
  refine Y_aload_n (q := 2) dL_law_1301 rfl rfl ?_
  refine Y_arg 1 (v := (1 : Int32)) (by decide) (by decide) X hj 4 0 rfl rfl dL_law_1302 dL_law_1303 dL_law_1305 dL_law_1306 dL_law_1307 ?_
  refine Y_arg 2 (v := (2 : Int32)) (by decide) (by decide) X hj 4 0 rfl rfl dL_law_1308 dL_law_1309 dL_law_1311 dL_law_1312 dL_law_1313 ?_
  refine Y_Mi (av := [.int (xs (j + 1)), .int (xs (j + 2))]) (st := [.int r]) (v := r) (o' := o') dL_law_1314 (kX12_judge hiM e2) rfl tw_6_94 tw_6_95 tw_6_97 tw_6_96 qX12_judge rfl (by decide) X.2.2.1 (by decide) (Nat.le_of_ble_eq_true rfl) ?_
  exact Y_icmp_eq (tgt := 1771) dL_law_1317 (by decide) (fun _ => kk (τ, o', u) hr') (fun c => absurd rfl c)
theorem qX11_years : (parseMethodDescriptor yX11_years.desc).map (fun d => d.parameters.length) = some 3 := by decide +kernel
theorem qX12_years : (parseMethodDescriptor yX12_years.desc).map (fun d => d.parameters.length) = some 3 := by decide +kernel
theorem lcl_28 {E : Ec} {ad : Nat → Nat} {cy : Nat → ClassId} {A : Nat → Prop} {fin : Ec → State → Prop} {kc ks b L z j : Nat} {xs : Nat → Int32} {w : W3} (X : Lf E ad A b L z xs) (hi : wl_inj (Γ3 ad cy)) (hj : j + 6 ≤ L) (h1 : kc + 1 ≤ 601024) (h2 : ks + 6 ≤ 7293033) (h : RelE w.1 w.2.1) (kk : ∀ w' : W3, RelE w'.1 w'.2.1 → Jx E (Γ3 ad cy) A fin (kc + 1) (ks + 6) RL cL_law 8 (some .boolean) 1771 (lvL ad b j) [] w') : Jx E (Γ3 ad cy) A fin kc ks RL cL_law 8 (some .boolean) 1322 (lvL ad b j) [] w := by
  obtain ⟨σ, o, u⟩ := w
  obtain ⟨n, hr⟩ := h
  obtain ⟨r, τ, o', e1, e2, hr'⟩ := r_years hr (xs (j + 1)) (xs (j + 2)) (xs (j + 3))
  have hiC := (s3_C (ad := ad) (cy := cy) (w := (σ, o, u))).inj hi
  have hiM := (s3_M (ad := ad) (cy := cy) (w := (σ, o, u))).inj hi
  refine Y_wid (Nat.le_succ kc) (Nat.le_add_right ks 6) (by rw [X.1]; exact h1) (by rw [X.2.1]; exact h2) ?_
  refine Y_aload_n (q := 3) dL_law_1322 rfl rfl ?_
  refine Y_arg 1 (v := (1 : Int32)) (by decide) (by decide) X hj 4 0 rfl rfl dL_law_1323 dL_law_1324 dL_law_1326 dL_law_1327 dL_law_1328 ?_
  refine Y_arg 2 (v := (2 : Int32)) (by decide) (by decide) X hj 4 0 rfl rfl dL_law_1329 dL_law_1330 dL_law_1332 dL_law_1333 dL_law_1334 ?_
  refine Y_arg 3 (v := (3 : Int32)) (by decide) (by decide) X hj 4 0 rfl rfl dL_law_1335 dL_law_1336 dL_law_1338 dL_law_1339 dL_law_1340 ?_
  refine Y_Ci (av := [.int (xs (j + 1)), .int (xs (j + 2)), .int (xs (j + 3))]) (st := []) (v := r) (τ := τ) dL_law_1341 (kX11_years hiC e1) rfl tw_3_136 tw_3_137 tw_3_139 tw_3_138 qX11_years rfl (by decide) X.2.2.1 (by decide) (by decide) ?_
  refine Y_aload_n (q := 2) dL_law_1344 rfl rfl ?_
  refine Y_arg 1 (v := (1 : Int32)) (by decide) (by decide) X hj 4 0 rfl rfl dL_law_1345 dL_law_1346 dL_law_1348 dL_law_1349 dL_law_1350 ?_
  refine Y_arg 2 (v := (2 : Int32)) (by decide) (by decide) X hj 4 0 rfl rfl dL_law_1351 dL_law_1352 dL_law_1354 dL_law_1355 dL_law_1356 ?_
  refine Y_arg 3 (v := (3 : Int32)) (by decide) (by decide) X hj 4 0 rfl rfl dL_law_1357 dL_law_1358 dL_law_1360 dL_law_1361 dL_law_1362 ?_
  refine Y_Mi (av := [.int (xs (j + 1)), .int (xs (j + 2)), .int (xs (j + 3))]) (st := [.int r]) (v := r) (o' := o') dL_law_1363 (kX12_years hiM e2) rfl tw_6_98 tw_6_99 tw_6_101 tw_6_100 qX12_years rfl (by decide) X.2.2.1 (by decide) (Nat.le_of_ble_eq_true rfl) ?_
  exact Y_icmp_eq (tgt := 1771) dL_law_1366 (by decide) (fun _ => kk (τ, o', u) hr') (fun c => absurd rfl c)
theorem qX11_image : (parseMethodDescriptor yX11_image.desc).map (fun d => d.parameters.length) = some 0 := by decide +kernel
theorem qX12_image : (parseMethodDescriptor yX12_image.desc).map (fun d => d.parameters.length) = some 0 := by decide +kernel
theorem lcl_29 {E : Ec} {ad : Nat → Nat} {cy : Nat → ClassId} {A : Nat → Prop} {fin : Ec → State → Prop} {kc ks b L z j : Nat} {xs : Nat → Int32} {w : W3} (X : Lf E ad A b L z xs) (hi : wl_inj (Γ3 ad cy)) (hj : j + 6 ≤ L) (h1 : kc + 1 ≤ 601024) (h2 : ks + 6 ≤ 7293033) (h : RelE w.1 w.2.1) (kk : ∀ w' : W3, RelE w'.1 w'.2.1 → Jx E (Γ3 ad cy) A fin (kc + 1) (ks + 6) RL cL_law 8 (some .boolean) 1771 (lvL ad b j) [] w') : Jx E (Γ3 ad cy) A fin kc ks RL cL_law 8 (some .boolean) 1371 (lvL ad b j) [] w := by
  obtain ⟨σ, o, u⟩ := w
  obtain ⟨n, hr⟩ := h
  obtain ⟨r, τ, o', e1, e2, hr'⟩ := r_image hr 
  have hiC := (s3_C (ad := ad) (cy := cy) (w := (σ, o, u))).inj hi
  have hiM := (s3_M (ad := ad) (cy := cy) (w := (σ, o, u))).inj hi
  refine Y_wid (Nat.le_succ kc) (Nat.le_add_right ks 6) (by rw [X.1]; exact h1) (by rw [X.2.1]; exact h2) ?_
  refine Y_aload_n (q := 3) dL_law_1371 rfl rfl ?_
  refine Y_Ci (av := []) (st := []) (v := r) (τ := τ) dL_law_1372 (kX11_image hiC e1) rfl tw_3_157 tw_3_158 tw_3_160 tw_3_159 qX11_image rfl (by decide) X.2.2.1 (by decide) (by decide) ?_
  refine Y_aload_n (q := 2) dL_law_1375 rfl rfl ?_
  refine Y_Mi (av := []) (st := [.int r]) (v := r) (o' := o') dL_law_1376 (kX12_image hiM e2) rfl tw_5_139 tw_5_140 tw_5_142 tw_5_141 qX12_image rfl (by decide) X.2.2.1 (by decide) (Nat.le_of_ble_eq_true rfl) ?_
  exact Y_icmp_eq (tgt := 1771) dL_law_1379 (by decide) (fun _ => kk (τ, o', u) hr') (fun c => absurd rfl c)
theorem qX11_restore : (parseMethodDescriptor yX11_restore.desc).map (fun d => d.parameters.length) = some 0 := by decide +kernel
theorem qX12_restore : (parseMethodDescriptor yX12_restore.desc).map (fun d => d.parameters.length) = some 0 := by decide +kernel
theorem lcl_30 {E : Ec} {ad : Nat → Nat} {cy : Nat → ClassId} {A : Nat → Prop} {fin : Ec → State → Prop} {kc ks b L z j : Nat} {xs : Nat → Int32} {w : W3} (X : Lf E ad A b L z xs) (hi : wl_inj (Γ3 ad cy)) (hj : j + 6 ≤ L) (h1 : kc + 1 ≤ 601024) (h2 : ks + 6 ≤ 7293033) (h : RelE w.1 w.2.1) (kk : ∀ w' : W3, RelE w'.1 w'.2.1 → Jx E (Γ3 ad cy) A fin (kc + 1) (ks + 6) RL cL_law 8 (some .boolean) 1771 (lvL ad b j) [] w') : Jx E (Γ3 ad cy) A fin kc ks RL cL_law 8 (some .boolean) 1384 (lvL ad b j) [] w := by
  obtain ⟨σ, o, u⟩ := w
  obtain ⟨n, hr⟩ := h
  obtain ⟨r, τ, o', e1, e2, hr'⟩ := r_restore hr 
  have hiC := (s3_C (ad := ad) (cy := cy) (w := (σ, o, u))).inj hi
  have hiM := (s3_M (ad := ad) (cy := cy) (w := (σ, o, u))).inj hi
  refine Y_wid (Nat.le_succ kc) (Nat.le_add_right ks 6) (by rw [X.1]; exact h1) (by rw [X.2.1]; exact h2) ?_
  refine Y_aload_n (q := 3) dL_law_1384 rfl rfl ?_
  refine Y_Ci (av := []) (st := []) (v := r) (τ := τ) dL_law_1385 (kX11_restore hiC e1) rfl tw_3_161 tw_3_162 tw_3_164 tw_3_163 qX11_restore rfl (by decide) X.2.2.1 (by decide) (by decide) ?_
  refine Y_aload_n (q := 2) dL_law_1388 rfl rfl ?_
  refine Y_Mi (av := []) (st := [.int r]) (v := r) (o' := o') dL_law_1389 (kX12_restore hiM e2) rfl tw_5_143 tw_5_144 tw_5_146 tw_5_145 qX12_restore rfl (by decide) X.2.2.1 (by decide) (Nat.le_of_ble_eq_true rfl) ?_
  exact Y_icmp_eq (tgt := 1771) dL_law_1392 (by decide) (fun _ => kk (τ, o', u) hr') (fun c => absurd rfl c)
theorem qX11_count : (parseMethodDescriptor yX11_count.desc).map (fun d => d.parameters.length) = some 1 := by decide +kernel
theorem qX12_count : (parseMethodDescriptor yX12_count.desc).map (fun d => d.parameters.length) = some 1 := by decide +kernel
theorem lcl_31 {E : Ec} {ad : Nat → Nat} {cy : Nat → ClassId} {A : Nat → Prop} {fin : Ec → State → Prop} {kc ks b L z j : Nat} {xs : Nat → Int32} {w : W3} (X : Lf E ad A b L z xs) (hi : wl_inj (Γ3 ad cy)) (hj : j + 6 ≤ L) (h1 : kc + 1 ≤ 601024) (h2 : ks + 6 ≤ 7293033) (h : RelE w.1 w.2.1) (kk : ∀ w' : W3, RelE w'.1 w'.2.1 → Jx E (Γ3 ad cy) A fin (kc + 1) (ks + 6) RL cL_law 8 (some .boolean) 1771 (lvL ad b j) [] w') : Jx E (Γ3 ad cy) A fin kc ks RL cL_law 8 (some .boolean) 1397 (lvL ad b j) [] w := by
  obtain ⟨σ, o, u⟩ := w
  obtain ⟨n, hr⟩ := h
  obtain ⟨r, o', e1, e2, hr'⟩ := r_count hr (xs (j + 1))
  have hiC := (s3_C (ad := ad) (cy := cy) (w := (σ, o, u))).inj hi
  have hiM := (s3_M (ad := ad) (cy := cy) (w := (σ, o, u))).inj hi
  refine Y_wid (Nat.le_succ kc) (Nat.le_add_right ks 6) (by rw [X.1]; exact h1) (by rw [X.2.1]; exact h2) ?_
  refine Y_aload_n (q := 3) dL_law_1397 rfl rfl ?_
  refine Y_arg 1 (v := (1 : Int32)) (by decide) (by decide) X hj 4 0 rfl rfl dL_law_1398 dL_law_1399 dL_law_1401 dL_law_1402 dL_law_1403 ?_
  refine Y_Ci (av := [.int (xs (j + 1))]) (st := []) (v := r) (τ := σ) dL_law_1404 (kX11_count hiC e1) rfl tw_3_165 tw_3_166 tw_3_168 tw_3_167 qX11_count rfl (by decide) X.2.2.1 (by decide) (by decide) ?_
  refine Y_aload_n (q := 2) dL_law_1407 rfl rfl ?_
  refine Y_arg 1 (v := (1 : Int32)) (by decide) (by decide) X hj 4 0 rfl rfl dL_law_1408 dL_law_1409 dL_law_1411 dL_law_1412 dL_law_1413 ?_
  refine Y_Mi (av := [.int (xs (j + 1))]) (st := [.int r]) (v := r) (o' := o') dL_law_1414 (kX12_count hiM e2) rfl tw_6_113 tw_6_114 tw_6_116 tw_6_115 qX12_count rfl (by decide) X.2.2.1 (by decide) (Nat.le_of_ble_eq_true rfl) ?_
  exact Y_icmp_eq (tgt := 1771) dL_law_1417 (by decide) (fun _ => kk (σ, o', u) hr') (fun c => absurd rfl c)
theorem qX11_keep : (parseMethodDescriptor yX11_keep.desc).map (fun d => d.parameters.length) = some 4 := by decide +kernel
theorem qX12_keep : (parseMethodDescriptor yX12_keep.desc).map (fun d => d.parameters.length) = some 4 := by decide +kernel
theorem lcl_32 {E : Ec} {ad : Nat → Nat} {cy : Nat → ClassId} {A : Nat → Prop} {fin : Ec → State → Prop} {kc ks b L z j : Nat} {xs : Nat → Int32} {w : W3} (X : Lf E ad A b L z xs) (hi : wl_inj (Γ3 ad cy)) (hj : j + 6 ≤ L) (h1 : kc + 1 ≤ 601024) (h2 : ks + 6 ≤ 7293033) (h : RelE w.1 w.2.1) (kk : ∀ w' : W3, RelE w'.1 w'.2.1 → Jx E (Γ3 ad cy) A fin (kc + 1) (ks + 6) RL cL_law 8 (some .boolean) 1771 (lvL ad b j) [] w') : Jx E (Γ3 ad cy) A fin kc ks RL cL_law 8 (some .boolean) 1422 (lvL ad b j) [] w := by
  obtain ⟨σ, o, u⟩ := w
  obtain ⟨n, hr⟩ := h
  obtain ⟨r, τ, o', e1, e2, hr'⟩ := r_keep hr (xs (j + 1)) (xs (j + 2)) (xs (j + 3)) (xs (j + 4))
  have hiC := (s3_C (ad := ad) (cy := cy) (w := (σ, o, u))).inj hi
  have hiM := (s3_M (ad := ad) (cy := cy) (w := (σ, o, u))).inj hi
  refine Y_wid (Nat.le_succ kc) (Nat.le_add_right ks 6) (by rw [X.1]; exact h1) (by rw [X.2.1]; exact h2) ?_
  refine Y_aload_n (q := 3) dL_law_1422 rfl rfl ?_
  refine Y_arg 1 (v := (1 : Int32)) (by decide) (by decide) X hj 4 0 rfl rfl dL_law_1423 dL_law_1424 dL_law_1426 dL_law_1427 dL_law_1428 ?_
  refine Y_arg 2 (v := (2 : Int32)) (by decide) (by decide) X hj 4 0 rfl rfl dL_law_1429 dL_law_1430 dL_law_1432 dL_law_1433 dL_law_1434 ?_
  refine Y_arg 3 (v := (3 : Int32)) (by decide) (by decide) X hj 4 0 rfl rfl dL_law_1435 dL_law_1436 dL_law_1438 dL_law_1439 dL_law_1440 ?_
  refine Y_arg 4 (v := (4 : Int32)) (by decide) (by decide) X hj 4 0 rfl rfl dL_law_1441 dL_law_1442 dL_law_1444 dL_law_1445 dL_law_1446 ?_
  refine Y_Ci (av := [.int (xs (j + 1)), .int (xs (j + 2)), .int (xs (j + 3)), .int (xs (j + 4))]) (st := []) (v := r) (τ := τ) dL_law_1447 (kX11_keep hiC e1) rfl tw_3_174 tw_3_175 tw_3_177 tw_3_176 qX11_keep rfl (by decide) X.2.2.1 (by decide) (by decide) ?_
  refine Y_aload_n (q := 2) dL_law_1450 rfl rfl ?_
  refine Y_arg 1 (v := (1 : Int32)) (by decide) (by decide) X hj 4 0 rfl rfl dL_law_1451 dL_law_1452 dL_law_1454 dL_law_1455 dL_law_1456 ?_
  refine Y_arg 2 (v := (2 : Int32)) (by decide) (by decide) X hj 4 0 rfl rfl dL_law_1457 dL_law_1458 dL_law_1460 dL_law_1461 dL_law_1462 ?_
  refine Y_arg 3 (v := (3 : Int32)) (by decide) (by decide) X hj 4 0 rfl rfl dL_law_1463 dL_law_1464 dL_law_1466 dL_law_1467 dL_law_1468 ?_
  refine Y_arg 4 (v := (4 : Int32)) (by decide) (by decide) X hj 4 0 rfl rfl dL_law_1469 dL_law_1470 dL_law_1472 dL_law_1473 dL_law_1474 ?_
  refine Y_Mi (av := [.int (xs (j + 1)), .int (xs (j + 2)), .int (xs (j + 3)), .int (xs (j + 4))]) (st := [.int r]) (v := r) (o' := o') dL_law_1475 (kX12_keep hiM e2) rfl tw_6_121 tw_6_122 tw_6_124 tw_6_123 qX12_keep rfl (by decide) X.2.2.1 (by decide) (Nat.le_of_ble_eq_true rfl) ?_
  exact Y_icmp_eq (tgt := 1771) dL_law_1478 (by decide) (fun _ => kk (τ, o', u) hr') (fun c => absurd rfl c)
theorem qX11_row : (parseMethodDescriptor yX11_row.desc).map (fun d => d.parameters.length) = some 3 := by decide +kernel
theorem qX12_row : (parseMethodDescriptor yX12_row.desc).map (fun d => d.parameters.length) = some 3 := by decide +kernel
theorem lcl_33 {E : Ec} {ad : Nat → Nat} {cy : Nat → ClassId} {A : Nat → Prop} {fin : Ec → State → Prop} {kc ks b L z j : Nat} {xs : Nat → Int32} {w : W3} (X : Lf E ad A b L z xs) (hi : wl_inj (Γ3 ad cy)) (hj : j + 6 ≤ L) (h1 : kc + 1 ≤ 601024) (h2 : ks + 6 ≤ 7293033) (h : RelE w.1 w.2.1) (kk : ∀ w' : W3, RelE w'.1 w'.2.1 → Jx E (Γ3 ad cy) A fin (kc + 1) (ks + 6) RL cL_law 8 (some .boolean) 1771 (lvL ad b j) [] w') : Jx E (Γ3 ad cy) A fin kc ks RL cL_law 8 (some .boolean) 1483 (lvL ad b j) [] w := by
  obtain ⟨σ, o, u⟩ := w
  obtain ⟨n, hr⟩ := h
  obtain ⟨r, τ, o', e1, e2, hr'⟩ := r_row hr (xs (j + 1)) (xs (j + 2)) (xs (j + 3))
  have hiC := (s3_C (ad := ad) (cy := cy) (w := (σ, o, u))).inj hi
  have hiM := (s3_M (ad := ad) (cy := cy) (w := (σ, o, u))).inj hi
  refine Y_wid (Nat.le_succ kc) (Nat.le_add_right ks 6) (by rw [X.1]; exact h1) (by rw [X.2.1]; exact h2) ?_
  refine Y_aload_n (q := 3) dL_law_1483 rfl rfl ?_
  refine Y_arg 1 (v := (1 : Int32)) (by decide) (by decide) X hj 4 0 rfl rfl dL_law_1484 dL_law_1485 dL_law_1487 dL_law_1488 dL_law_1489 ?_
  refine Y_arg 2 (v := (2 : Int32)) (by decide) (by decide) X hj 4 0 rfl rfl dL_law_1490 dL_law_1491 dL_law_1493 dL_law_1494 dL_law_1495 ?_
  refine Y_arg 3 (v := (3 : Int32)) (by decide) (by decide) X hj 4 0 rfl rfl dL_law_1496 dL_law_1497 dL_law_1499 dL_law_1500 dL_law_1501 ?_
  refine Y_Ci (av := [.int (xs (j + 1)), .int (xs (j + 2)), .int (xs (j + 3))]) (st := []) (v := r) (τ := τ) dL_law_1502 (kX11_row hiC e1) rfl tw_3_182 tw_3_183 tw_3_185 tw_3_184 qX11_row rfl (by decide) X.2.2.1 (by decide) (by decide) ?_
  refine Y_aload_n (q := 2) dL_law_1505 rfl rfl ?_
  refine Y_arg 1 (v := (1 : Int32)) (by decide) (by decide) X hj 4 0 rfl rfl dL_law_1506 dL_law_1507 dL_law_1509 dL_law_1510 dL_law_1511 ?_
  refine Y_arg 2 (v := (2 : Int32)) (by decide) (by decide) X hj 4 0 rfl rfl dL_law_1512 dL_law_1513 dL_law_1515 dL_law_1516 dL_law_1517 ?_
  refine Y_arg 3 (v := (3 : Int32)) (by decide) (by decide) X hj 4 0 rfl rfl dL_law_1518 dL_law_1519 dL_law_1521 dL_law_1522 dL_law_1523 ?_
  refine Y_Mi (av := [.int (xs (j + 1)), .int (xs (j + 2)), .int (xs (j + 3))]) (st := [.int r]) (v := r) (o' := o') dL_law_1524 (kX12_row hiM e2) rfl tw_6_126 tw_6_127 tw_6_129 tw_6_128 qX12_row rfl (by decide) X.2.2.1 (by decide) (Nat.le_of_ble_eq_true rfl) ?_
  exact Y_icmp_eq (tgt := 1771) dL_law_1527 (by decide) (fun _ => kk (τ, o', u) hr') (fun c => absurd rfl c)
theorem qX11_put : (parseMethodDescriptor yX11_put.desc).map (fun d => d.parameters.length) = some 3 := by decide +kernel
theorem qX12_put : (parseMethodDescriptor yX12_put.desc).map (fun d => d.parameters.length) = some 3 := by decide +kernel
theorem lcl_34 {E : Ec} {ad : Nat → Nat} {cy : Nat → ClassId} {A : Nat → Prop} {fin : Ec → State → Prop} {kc ks b L z j : Nat} {xs : Nat → Int32} {w : W3} (X : Lf E ad A b L z xs) (hi : wl_inj (Γ3 ad cy)) (hj : j + 6 ≤ L) (h1 : kc + 1 ≤ 601024) (h2 : ks + 6 ≤ 7293033) (h : RelE w.1 w.2.1) (kk : ∀ w' : W3, RelE w'.1 w'.2.1 → Jx E (Γ3 ad cy) A fin (kc + 1) (ks + 6) RL cL_law 8 (some .boolean) 1771 (lvL ad b j) [] w') : Jx E (Γ3 ad cy) A fin kc ks RL cL_law 8 (some .boolean) 1532 (lvL ad b j) [] w := by
  obtain ⟨σ, o, u⟩ := w
  obtain ⟨n, hr⟩ := h
  obtain ⟨r, τ, o', e1, e2, hr'⟩ := r_put hr (xs (j + 1)) (xs (j + 2)) (xs (j + 3))
  have hiC := (s3_C (ad := ad) (cy := cy) (w := (σ, o, u))).inj hi
  have hiM := (s3_M (ad := ad) (cy := cy) (w := (σ, o, u))).inj hi
  refine Y_wid (Nat.le_succ kc) (Nat.le_add_right ks 6) (by rw [X.1]; exact h1) (by rw [X.2.1]; exact h2) ?_
  refine Y_aload_n (q := 3) dL_law_1532 rfl rfl ?_
  refine Y_arg 1 (v := (1 : Int32)) (by decide) (by decide) X hj 4 0 rfl rfl dL_law_1533 dL_law_1534 dL_law_1536 dL_law_1537 dL_law_1538 ?_
  refine Y_arg 2 (v := (2 : Int32)) (by decide) (by decide) X hj 4 0 rfl rfl dL_law_1539 dL_law_1540 dL_law_1542 dL_law_1543 dL_law_1544 ?_
  refine Y_arg 3 (v := (3 : Int32)) (by decide) (by decide) X hj 4 0 rfl rfl dL_law_1545 dL_law_1546 dL_law_1548 dL_law_1549 dL_law_1550 ?_
  refine Y_Ci (av := [.int (xs (j + 1)), .int (xs (j + 2)), .int (xs (j + 3))]) (st := []) (v := r) (τ := τ) dL_law_1551 (kX11_put hiC e1) rfl tw_3_191 tw_3_192 tw_3_194 tw_3_193 qX11_put rfl (by decide) X.2.2.1 (by decide) (by decide) ?_
  refine Y_aload_n (q := 2) dL_law_1554 rfl rfl ?_
  refine Y_arg 1 (v := (1 : Int32)) (by decide) (by decide) X hj 4 0 rfl rfl dL_law_1555 dL_law_1556 dL_law_1558 dL_law_1559 dL_law_1560 ?_
  refine Y_arg 2 (v := (2 : Int32)) (by decide) (by decide) X hj 4 0 rfl rfl dL_law_1561 dL_law_1562 dL_law_1564 dL_law_1565 dL_law_1566 ?_
  refine Y_arg 3 (v := (3 : Int32)) (by decide) (by decide) X hj 4 0 rfl rfl dL_law_1567 dL_law_1568 dL_law_1570 dL_law_1571 dL_law_1572 ?_
  refine Y_Mi (av := [.int (xs (j + 1)), .int (xs (j + 2)), .int (xs (j + 3))]) (st := [.int r]) (v := r) (o' := o') dL_law_1573 (kX12_put hiM e2) rfl tw_6_130 tw_6_131 tw_6_133 tw_6_132 qX12_put rfl (by decide) X.2.2.1 (by decide) (Nat.le_of_ble_eq_true rfl) ?_
  exact Y_icmp_eq (tgt := 1771) dL_law_1576 (by decide) (fun _ => kk (τ, o', u) hr') (fun c => absurd rfl c)
theorem qX11_copy : (parseMethodDescriptor yX11_copy.desc).map (fun d => d.parameters.length) = some 5 := by decide +kernel
theorem qX12_copy : (parseMethodDescriptor yX12_copy.desc).map (fun d => d.parameters.length) = some 5 := by decide +kernel
theorem lcl_36 {E : Ec} {ad : Nat → Nat} {cy : Nat → ClassId} {A : Nat → Prop} {fin : Ec → State → Prop} {kc ks b L z j : Nat} {xs : Nat → Int32} {w : W3} (X : Lf E ad A b L z xs) (hi : wl_inj (Γ3 ad cy)) (hj : j + 6 ≤ L) (h1 : kc + 1 ≤ 601024) (h2 : ks + 6 ≤ 7293033) (h : RelE w.1 w.2.1) (kk : ∀ w' : W3, RelE w'.1 w'.2.1 → Jx E (Γ3 ad cy) A fin (kc + 1) (ks + 6) RL cL_law 8 (some .boolean) 1771 (lvL ad b j) [] w') : Jx E (Γ3 ad cy) A fin kc ks RL cL_law 8 (some .boolean) 1648 (lvL ad b j) [] w := by
  obtain ⟨σ, o, u⟩ := w
  obtain ⟨n, hr⟩ := h
  obtain ⟨r, τ, o', e1, e2, hr'⟩ := r_copy hr (xs (j + 1)) (xs (j + 2)) (xs (j + 3)) (xs (j + 4)) (xs (j + 5))
  have hiC := (s3_C (ad := ad) (cy := cy) (w := (σ, o, u))).inj hi
  have hiM := (s3_M (ad := ad) (cy := cy) (w := (σ, o, u))).inj hi
  refine Y_wid (Nat.le_succ kc) (Nat.le_add_right ks 6) (by rw [X.1]; exact h1) (by rw [X.2.1]; exact h2) ?_
  refine Y_aload_n (q := 3) dL_law_1648 rfl rfl ?_
  refine Y_arg 1 (v := (1 : Int32)) (by decide) (by decide) X hj 4 0 rfl rfl dL_law_1649 dL_law_1650 dL_law_1652 dL_law_1653 dL_law_1654 ?_
  refine Y_arg 2 (v := (2 : Int32)) (by decide) (by decide) X hj 4 0 rfl rfl dL_law_1655 dL_law_1656 dL_law_1658 dL_law_1659 dL_law_1660 ?_
  refine Y_arg 3 (v := (3 : Int32)) (by decide) (by decide) X hj 4 0 rfl rfl dL_law_1661 dL_law_1662 dL_law_1664 dL_law_1665 dL_law_1666 ?_
  refine Y_arg 4 (v := (4 : Int32)) (by decide) (by decide) X hj 4 0 rfl rfl dL_law_1667 dL_law_1668 dL_law_1670 dL_law_1671 dL_law_1672 ?_
  refine Y_arg 5 (v := (5 : Int32)) (by decide) (by decide) X hj 4 0 rfl rfl dL_law_1673 dL_law_1674 dL_law_1676 dL_law_1677 dL_law_1678 ?_
  refine Y_Ci (av := [.int (xs (j + 1)), .int (xs (j + 2)), .int (xs (j + 3)), .int (xs (j + 4)), .int (xs (j + 5))]) (st := []) (v := r) (τ := τ) dL_law_1679 (kX11_copy hiC e1) rfl tw_3_203 tw_3_204 tw_3_206 tw_3_205 qX11_copy rfl (by decide) X.2.2.1 (by decide) (by decide) ?_
  refine Y_aload_n (q := 2) dL_law_1682 rfl rfl ?_
  refine Y_arg 1 (v := (1 : Int32)) (by decide) (by decide) X hj 4 0 rfl rfl dL_law_1683 dL_law_1684 dL_law_1686 dL_law_1687 dL_law_1688 ?_
  refine Y_arg 2 (v := (2 : Int32)) (by decide) (by decide) X hj 4 0 rfl rfl dL_law_1689 dL_law_1690 dL_law_1692 dL_law_1693 dL_law_1694 ?_
  refine Y_arg 3 (v := (3 : Int32)) (by decide) (by decide) X hj 4 0 rfl rfl dL_law_1695 dL_law_1696 dL_law_1698 dL_law_1699 dL_law_1700 ?_
  refine Y_arg 4 (v := (4 : Int32)) (by decide) (by decide) X hj 4 0 rfl rfl dL_law_1701 dL_law_1702 dL_law_1704 dL_law_1705 dL_law_1706 ?_
  refine Y_arg 5 (v := (5 : Int32)) (by decide) (by decide) X hj 4 0 rfl rfl dL_law_1707 dL_law_1708 dL_law_1710 dL_law_1711 dL_law_1712 ?_
  refine Y_Mi (av := [.int (xs (j + 1)), .int (xs (j + 2)), .int (xs (j + 3)), .int (xs (j + 4)), .int (xs (j + 5))]) (st := [.int r]) (v := r) (o' := o') dL_law_1713 (kX12_copy hiM e2) rfl tw_6_141 tw_6_142 tw_6_144 tw_6_143 qX12_copy rfl (by decide) X.2.2.1 (by decide) (Nat.le_of_ble_eq_true rfl) ?_
  exact Y_icmp_eq (tgt := 1771) dL_law_1716 (by decide) (fun _ => kk (τ, o', u) hr') (fun c => absurd rfl c)
theorem qX11_cost : (parseMethodDescriptor yX11_cost.desc).map (fun d => d.parameters.length) = some 1 := by decide +kernel
theorem qX12_cost : (parseMethodDescriptor yX12_cost.desc).map (fun d => d.parameters.length) = some 1 := by decide +kernel
theorem lcl_37 {E : Ec} {ad : Nat → Nat} {cy : Nat → ClassId} {A : Nat → Prop} {fin : Ec → State → Prop} {kc ks b L z j : Nat} {xs : Nat → Int32} {w : W3} (X : Lf E ad A b L z xs) (hi : wl_inj (Γ3 ad cy)) (hj : j + 6 ≤ L) (h1 : kc + 1 ≤ 601024) (h2 : ks + 6 ≤ 7293033) (h : RelE w.1 w.2.1) (kk : ∀ w' : W3, RelE w'.1 w'.2.1 → Jx E (Γ3 ad cy) A fin (kc + 1) (ks + 6) RL cL_law 8 (some .boolean) 1771 (lvL ad b j) [] w') : Jx E (Γ3 ad cy) A fin kc ks RL cL_law 8 (some .boolean) 1721 (lvL ad b j) [] w := by
  obtain ⟨σ, o, u⟩ := w
  obtain ⟨n, hr⟩ := h
  obtain ⟨r, o', e1, e2, hr'⟩ := r_cost hr (xs (j + 1))
  have hiC := (s3_C (ad := ad) (cy := cy) (w := (σ, o, u))).inj hi
  have hiM := (s3_M (ad := ad) (cy := cy) (w := (σ, o, u))).inj hi
  refine Y_wid (Nat.le_succ kc) (Nat.le_add_right ks 6) (by rw [X.1]; exact h1) (by rw [X.2.1]; exact h2) ?_
  refine Y_aload_n (q := 3) dL_law_1721 rfl rfl ?_
  refine Y_arg 1 (v := (1 : Int32)) (by decide) (by decide) X hj 4 0 rfl rfl dL_law_1722 dL_law_1723 dL_law_1725 dL_law_1726 dL_law_1727 ?_
  refine Y_Ci (av := [.int (xs (j + 1))]) (st := []) (v := r) (τ := σ) dL_law_1728 (kX11_cost hiC e1) rfl tw_3_208 tw_3_209 tw_3_211 tw_3_210 qX11_cost rfl (by decide) X.2.2.1 (by decide) (by decide) ?_
  refine Y_aload_n (q := 2) dL_law_1731 rfl rfl ?_
  refine Y_arg 1 (v := (1 : Int32)) (by decide) (by decide) X hj 4 0 rfl rfl dL_law_1732 dL_law_1733 dL_law_1735 dL_law_1736 dL_law_1737 ?_
  refine Y_Mi (av := [.int (xs (j + 1))]) (st := [.int r]) (v := r) (o' := o') dL_law_1738 (kX12_cost hiM e2) rfl tw_6_145 tw_6_146 tw_6_148 tw_6_147 qX12_cost rfl (by decide) X.2.2.1 (by decide) (Nat.le_of_ble_eq_true rfl) ?_
  exact Y_icmp_eq (tgt := 1771) dL_law_1741 (by decide) (fun _ => kk (σ, o', u) hr') (fun c => absurd rfl c)
theorem qX12_toss : (parseMethodDescriptor yX12_toss.desc).map (fun d => d.parameters.length) = some 1 := by decide +kernel
theorem lcl_38 {E : Ec} {ad : Nat → Nat} {cy : Nat → ClassId} {A : Nat → Prop} {fin : Ec → State → Prop} {kc ks b L z j : Nat} {xs : Nat → Int32} {w : W3} (X : Lf E ad A b L z xs) (hi : wl_inj (Γ3 ad cy)) (hj : j + 6 ≤ L) (h1 : kc + 1 ≤ 601024) (h2 : ks + 6 ≤ 7293033) (h : RelE w.1 w.2.1) (kk : ∀ w' : W3, RelE w'.1 w'.2.1 → Jx E (Γ3 ad cy) A fin (kc + 1) (ks + 6) RL cL_law 8 (some .boolean) 1771 (lvL ad b j) [] w') : Jx E (Γ3 ad cy) A fin kc ks RL cL_law 8 (some .boolean) 1746 (lvL ad b j) [] w := by
  obtain ⟨σ, o, u⟩ := w
  obtain ⟨n, hr⟩ := h
  obtain ⟨r, o', e1, e2, hr'⟩ := r_toss hr (xs (j + 1))
  have hiC := (s3_C (ad := ad) (cy := cy) (w := (σ, o, u))).inj hi
  have hiM := (s3_M (ad := ad) (cy := cy) (w := (σ, o, u))).inj hi
  refine Y_aload_n (q := 3) dL_law_1746 rfl rfl ?_
  refine Y_arg 1 (v := (1 : Int32)) (by decide) (by decide) X hj 4 0 rfl rfl dL_law_1747 dL_law_1748 dL_law_1750 dL_law_1751 dL_law_1752 ?_
  refine Y_toss dL_law_1753 rfl X.2.2.2.2.2.2.2.1 X.2.2.2.2.2.2.2.2.1 e1 X.2.2.1 (by decide) (by rw [X.1]; exact h1) (by rw [X.2.1]; exact h2) X.2.2.2.2.2.2.2.2.2.1 X.2.2.2.2.2.2.2.2.2.2.1 X.2.2.2.2.2.2.2.2.2.2.2 (by decide) ?_
  refine Y_aload_n (q := 2) dL_law_1756 rfl rfl ?_
  refine Y_arg 1 (v := (1 : Int32)) (by decide) (by decide) X hj 4 0 rfl rfl dL_law_1757 dL_law_1758 dL_law_1760 dL_law_1761 dL_law_1762 ?_
  refine Y_Mi (av := [.int (xs (j + 1))]) (st := [.int r]) (v := r) (o' := o') dL_law_1763 (kX12_toss hiM e2) rfl tw_6_152 tw_6_153 tw_6_155 tw_6_154 qX12_toss rfl (by decide) X.2.2.1 (by decide) (Nat.le_of_ble_eq_true rfl) ?_
  exact Y_icmp_eq (tgt := 1771) dL_law_1766 (by decide) (fun _ => kk (σ, o', u) hr') (fun c => absurd rfl c)
theorem qX12_element : (parseMethodDescriptor yX12_element.desc).map (fun d => d.parameters.length) = some 2 := by decide +kernel
theorem qX12_thrown : (parseMethodDescriptor yX12_thrown.desc).map (fun d => d.parameters.length) = some 0 := by decide +kernel
theorem lcl_35 {E : Ec} {ad : Nat → Nat} {cy : Nat → ClassId} {A : Nat → Prop} {fin : Ec → State → Prop} {kc ks b L z j : Nat} {xs : Nat → Int32} {w : W3} (X : Lf E ad A b L z xs) (hi : wl_inj (Γ3 ad cy)) (hj : j + 6 ≤ L) (h1 : kc + 1 ≤ 601024) (h2 : ks + 6 ≤ 7293033) (h : RelE w.1 w.2.1) (kk : ∀ w' : W3, RelE w'.1 w'.2.1 → Jx E (Γ3 ad cy) A fin (kc + 1) (ks + 6) RL cL_law 8 (some .boolean) 1771 (lvL ad b j) [] w') : Jx E (Γ3 ad cy) A fin kc ks RL cL_law 8 (some .boolean) 1581 (lvL ad b j) [] w := by
  obtain ⟨σ, o, u⟩ := w
  obtain ⟨n, hr⟩ := h
  obtain ⟨k, v, o', e2, hr', h15, hsp⟩ := r_element hr (xs (j + 1)) (xs (j + 2))
  have hiM := (s3_M (ad := ad) (cy := cy) (w := (σ, o, u))).inj hi
  obtain ⟨u', eu, hu'⟩ : ∃ u', outE (σ, o, u) k v = (σ, o, u') ∧ (k = 0 → u' 0 = v) := by
    unfold outE
    by_cases hk : k = 0
    · rw [if_pos hk]; exact ⟨_, rfl, fun _ => by simp [vp_updL]⟩
    · rw [if_neg hk]; exact ⟨u, rfl, fun h => absurd h hk⟩
  refine Y_aload_n (q := 3) dL_law_1581 rfl rfl ?_
  refine Y_arg 1 (v := (1 : Int32)) (by decide) (by decide) X hj 4 0 rfl rfl dL_law_1582 dL_law_1583 dL_law_1585 dL_law_1586 dL_law_1587 ?_
  refine Y_arg 2 (v := (2 : Int32)) (by decide) (by decide) X hj 4 0 rfl rfl dL_law_1588 dL_law_1589 dL_law_1591 dL_law_1592 dL_law_1593 ?_
  refine Y_aload_n (q := 1) dL_law_1594 rfl rfl ?_
  refine Y_Lelement dL_law_1595 rfl X.2.2.2.2.2.2.2.1 X.2.2.2.2.2.2.2.2.1 hsp X.2.2.1 (by decide) (by rw [X.1]; exact h1) (by rw [X.2.1]; exact h2) X.2.2.2.2.2.2.2.2.2.1 X.2.2.2.2.2.2.2.2.2.2.1 X.2.2.2.2.2.2.2.2.2.2.2 (by decide) ?_
  rw [eu]
  refine Y_istore (lv' := [(5, .int k), (4, .int (nI j)), (3, .ref (ad 134)), (2, .ref (ad 111)), (1, .ref (ad 0)), (0, .ref b)]) dL_law_1598 (by decide) rfl ?_
  refine Y_aload_n (q := 3) dL_law_1600 rfl rfl ?_
  refine Y_arg 1 (v := (1 : Int32)) (by decide) (by decide) X hj 5 1 rfl rfl dL_law_1601 dL_law_1602 dL_law_1604 dL_law_1605 dL_law_1606 ?_
  refine Y_arg 2 (v := (2 : Int32)) (by decide) (by decide) X hj 5 1 rfl rfl dL_law_1607 dL_law_1608 dL_law_1610 dL_law_1611 dL_law_1612 ?_
  refine Y_Ml (av := [.int (xs (j + 1)), .int (xs (j + 2))]) (st := []) (v := v) (o' := o') dL_law_1613 (kX12_element hiM e2) rfl tw_6_137 tw_6_138 tw_6_140 tw_6_139 qX12_element rfl (by decide) X.2.2.1 (by decide) (by decide) ?_
  refine Y_lstore (lv' := [(6, .long v), (5, .int k), (4, .int (nI j)), (3, .ref (ad 134)), (2, .ref (ad 111)), (1, .ref (ad 0)), (0, .ref b)]) dL_law_1616 (by decide) rfl ?_
  refine Y_aload_n (q := 4) dL_law_1618 rfl rfl ?_
  refine Y_Mi (av := []) (st := []) (v := oS o' 15) (o' := o') dL_law_1619 (kX12_thrown hiM (show M_thrown o' = some (oS o' 15) from rfl)) rfl tw_5_17 tw_5_18 tw_5_20 tw_5_19 qX12_thrown rfl (by decide) X.2.2.1 (by decide) (by decide) ?_
  refine Y_iload (q := 1) dL_law_1622 rfl ?_
  refine Y_icmp_eq (tgt := 1629) dL_law_1624 (by decide) (fun _ => ?_) (fun c => absurd h15 c)
  refine Y_iload (q := 1) dL_law_1629 rfl ?_
  have last : Jx E (Γ3 ad cy) A fin (kc + 1) (ks + 6) RL cL_law 8 (some .boolean) 1645 [(6, .long v), (5, .int k), (4, .int (nI j)), (3, .ref (ad 134)), (2, .ref (ad 111)), (1, .ref (ad 0)), (0, .ref b)] [] (σ, o', u') := by
    refine Y_goto (tgt := 1771) dL_law_1645 (by decide) ?_
    exact Y_pick [2, 3, 4, 5, 6] rfl (kk (σ, o', u') hr')
  refine Y_if_ne (tgt := 1645) dL_law_1631 (by decide) (fun _ => last) (fun c => ?_)
  refine Y_aload_n (q := 3) dL_law_1634 rfl rfl ?_
  refine Y_iconst (v := (0 : Int32)) dL_law_1635 (by decide) ?_
  refine Y_lald (Γ := Γ3 ad cy) (h := 134) (n := 1) (f := u') dL_law_1636 (by decide) (by show 134 < 135; decide) rfl ?_
  refine Y_lload (q := 0) dL_law_1637 rfl ?_
  refine Y_lcmp dL_law_1639 ?_
  have ev : ixL u' 0 = v := hu' c
  rw [ev]
  exact Y_if_eq (tgt := 1645) dL_law_1640 (by decide) (fun _ => last) (fun c => absurd lg_self c)
