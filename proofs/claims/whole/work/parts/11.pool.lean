/-! What the entries of the pool say of the words. -/
def am_MW (m n k : Nat) : Prop := ((am_Y am_t m).cls ≠ "java/lang/invoke/MethodHandle" ∧ (am_Y am_t m).cls ≠ "java/lang/invoke/VarHandle") ∧ (parseMethodDescriptor (am_Y am_t m).desc).map (fun d => d.parameters.length) = some n ∧ plainName (am_Y am_t m).cls = true ∧ am_W (.code (am_Y am_t m) (am_B am_t m) (am_ML am_t m) (am_RT am_t m)) ∧ am_W (.initialized (am_Y am_t m).cls) ∧ (k = 99 → am_W (.static (am_Y am_t m))) ∧ (k = 98 → (am_Y am_t m).name = "<init>" ∧ am_RT am_t m = none ∧ am_W (.instanceMethod (am_Y am_t m))) ∧ (k < 98 → (am_Y am_t m).cls = am_cn k ∧ am_W (.instanceMethod (am_Y am_t m)) ∧ am_W (.selects (am_Y am_t m).cls (am_Y am_t m) (am_Y am_t m))) ∧ am_ML am_t m ≤ 150 ∧ m < 1000
theorem am_eqc {own : String} {x : Nat} {a b : Int32} (h : a = b) (w : am_W (.constant own x b)) : am_W (.constant own x a) := h ▸ w
theorem am_eqcl {own : String} {x : Nat} {a b : Int64} (h : a = b) (w : am_W (.constantLong own x b)) : am_W (.constantLong own x a) := h ▸ w
theorem am_eqco {y : MethodName} {a b : ByteArray} {n : Nat} {r : Option FieldType} (h : a = b) (w : am_W (.code y b n r)) : am_W (.code y a n r) := h ▸ w
theorem am_PW1 {own : String} {x m n k : Nat} (h : am_MW m n k) (hl : am_W (.methodLink own x (am_Y am_t m)) ∨ ∃ oc, own = am_cn oc ∧ (oc, x, m) ∈ am_ns am_t) : am_PW am_t own x (1, m, n, k) := ⟨h.1, h.2.1, h.2.2.1, h.2.2.2.1, h.2.2.2.2.1, hl, h.2.2.2.2.2⟩
set_option maxRecDepth 20000 in
theorem am_m92 : am_MW 92 0 98 := ⟨⟨by decide +kernel, by decide +kernel⟩, by decide +kernel, by decide +kernel, am_w0, am_w1, fun h => absurd h (by decide), fun _ => ⟨rfl, rfl, am_w2⟩, fun h => absurd h (by decide), by decide +kernel, by decide⟩
set_option maxRecDepth 20000 in
theorem am_m146 : am_MW 146 0 98 := ⟨⟨by decide +kernel, by decide +kernel⟩, by decide +kernel, by decide +kernel, am_w3, am_w4, fun h => absurd h (by decide), fun _ => ⟨rfl, rfl, am_w5⟩, fun h => absurd h (by decide), by decide +kernel, by decide⟩
set_option maxRecDepth 20000 in
theorem am_m93 : am_MW 93 2 10 := ⟨⟨by decide +kernel, by decide +kernel⟩, by decide +kernel, by decide +kernel, am_w6, am_w1, fun h => absurd h (by decide), fun h => absurd h (by decide), fun _ => ⟨rfl, am_w7, am_w8⟩, by decide +kernel, by decide⟩
set_option maxRecDepth 20000 in
theorem am_m149 : am_MW 149 2 11 := ⟨⟨by decide +kernel, by decide +kernel⟩, by decide +kernel, by decide +kernel, am_w9, am_w4, fun h => absurd h (by decide), fun h => absurd h (by decide), fun _ => ⟨rfl, am_w10, am_w11⟩, by decide +kernel, by decide⟩
set_option maxRecDepth 20000 in
theorem am_m94 : am_MW 94 3 10 := ⟨⟨by decide +kernel, by decide +kernel⟩, by decide +kernel, by decide +kernel, am_w12, am_w1, fun h => absurd h (by decide), fun h => absurd h (by decide), fun _ => ⟨rfl, am_w13, am_w14⟩, by decide +kernel, by decide⟩
set_option maxRecDepth 20000 in
theorem am_m150 : am_MW 150 3 11 := ⟨⟨by decide +kernel, by decide +kernel⟩, by decide +kernel, by decide +kernel, am_w15, am_w4, fun h => absurd h (by decide), fun h => absurd h (by decide), fun _ => ⟨rfl, am_w16, am_w17⟩, by decide +kernel, by decide⟩
set_option maxRecDepth 20000 in
theorem am_m95 : am_MW 95 3 10 := ⟨⟨by decide +kernel, by decide +kernel⟩, by decide +kernel, by decide +kernel, am_w18, am_w1, fun h => absurd h (by decide), fun h => absurd h (by decide), fun _ => ⟨rfl, am_w19, am_w20⟩, by decide +kernel, by decide⟩
set_option maxRecDepth 20000 in
theorem am_m151 : am_MW 151 3 11 := ⟨⟨by decide +kernel, by decide +kernel⟩, by decide +kernel, by decide +kernel, am_w21, am_w4, fun h => absurd h (by decide), fun h => absurd h (by decide), fun _ => ⟨rfl, am_w22, am_w23⟩, by decide +kernel, by decide⟩
set_option maxRecDepth 20000 in
theorem am_m96 : am_MW 96 5 10 := ⟨⟨by decide +kernel, by decide +kernel⟩, by decide +kernel, by decide +kernel, am_w24, am_w1, fun h => absurd h (by decide), fun h => absurd h (by decide), fun _ => ⟨rfl, am_w25, am_w26⟩, by decide +kernel, by decide⟩
set_option maxRecDepth 20000 in
theorem am_m155 : am_MW 155 5 11 := ⟨⟨by decide +kernel, by decide +kernel⟩, by decide +kernel, by decide +kernel, am_w27, am_w4, fun h => absurd h (by decide), fun h => absurd h (by decide), fun _ => ⟨rfl, am_w28, am_w29⟩, by decide +kernel, by decide⟩
set_option maxRecDepth 20000 in
theorem am_m97 : am_MW 97 1 10 := ⟨⟨by decide +kernel, by decide +kernel⟩, by decide +kernel, by decide +kernel, am_w30, am_w1, fun h => absurd h (by decide), fun h => absurd h (by decide), fun _ => ⟨rfl, am_w31, am_w32⟩, by decide +kernel, by decide⟩
set_option maxRecDepth 20000 in
theorem am_m156 : am_MW 156 1 11 := ⟨⟨by decide +kernel, by decide +kernel⟩, by decide +kernel, by decide +kernel, am_w33, am_w4, fun h => absurd h (by decide), fun h => absurd h (by decide), fun _ => ⟨rfl, am_w34, am_w35⟩, by decide +kernel, by decide⟩
set_option maxRecDepth 20000 in
theorem am_m98 : am_MW 98 1 10 := ⟨⟨by decide +kernel, by decide +kernel⟩, by decide +kernel, by decide +kernel, am_w36, am_w1, fun h => absurd h (by decide), fun h => absurd h (by decide), fun _ => ⟨rfl, am_w37, am_w38⟩, by decide +kernel, by decide⟩
set_option maxRecDepth 20000 in
theorem am_m176 : am_MW 176 1 11 := ⟨⟨by decide +kernel, by decide +kernel⟩, by decide +kernel, by decide +kernel, am_w39, am_w4, fun h => absurd h (by decide), fun h => absurd h (by decide), fun _ => ⟨rfl, am_w40, am_w41⟩, by decide +kernel, by decide⟩
set_option maxRecDepth 20000 in
theorem am_m99 : am_MW 99 1 10 := ⟨⟨by decide +kernel, by decide +kernel⟩, by decide +kernel, by decide +kernel, am_w42, am_w1, fun h => absurd h (by decide), fun h => absurd h (by decide), fun _ => ⟨rfl, am_w43, am_w44⟩, by decide +kernel, by decide⟩
set_option maxRecDepth 20000 in
theorem am_m177 : am_MW 177 1 11 := ⟨⟨by decide +kernel, by decide +kernel⟩, by decide +kernel, by decide +kernel, am_w45, am_w4, fun h => absurd h (by decide), fun h => absurd h (by decide), fun _ => ⟨rfl, am_w46, am_w47⟩, by decide +kernel, by decide⟩
set_option maxRecDepth 20000 in
theorem am_m100 : am_MW 100 3 10 := ⟨⟨by decide +kernel, by decide +kernel⟩, by decide +kernel, by decide +kernel, am_w48, am_w1, fun h => absurd h (by decide), fun h => absurd h (by decide), fun _ => ⟨rfl, am_w49, am_w50⟩, by decide +kernel, by decide⟩
set_option maxRecDepth 20000 in
theorem am_m190 : am_MW 190 3 11 := ⟨⟨by decide +kernel, by decide +kernel⟩, by decide +kernel, by decide +kernel, am_w51, am_w4, fun h => absurd h (by decide), fun h => absurd h (by decide), fun _ => ⟨rfl, am_w52, am_w53⟩, by decide +kernel, by decide⟩
set_option maxRecDepth 20000 in
theorem am_m101 : am_MW 101 5 10 := ⟨⟨by decide +kernel, by decide +kernel⟩, by decide +kernel, by decide +kernel, am_w54, am_w1, fun h => absurd h (by decide), fun h => absurd h (by decide), fun _ => ⟨rfl, am_w55, am_w56⟩, by decide +kernel, by decide⟩
set_option maxRecDepth 20000 in
theorem am_m191 : am_MW 191 5 11 := ⟨⟨by decide +kernel, by decide +kernel⟩, by decide +kernel, by decide +kernel, am_w57, am_w4, fun h => absurd h (by decide), fun h => absurd h (by decide), fun _ => ⟨rfl, am_w58, am_w59⟩, by decide +kernel, by decide⟩
set_option maxRecDepth 20000 in
theorem am_m102 : am_MW 102 0 10 := ⟨⟨by decide +kernel, by decide +kernel⟩, by decide +kernel, by decide +kernel, am_w60, am_w1, fun h => absurd h (by decide), fun h => absurd h (by decide), fun _ => ⟨rfl, am_w61, am_w62⟩, by decide +kernel, by decide⟩
set_option maxRecDepth 20000 in
theorem am_m208 : am_MW 208 0 11 := ⟨⟨by decide +kernel, by decide +kernel⟩, by decide +kernel, by decide +kernel, am_w63, am_w4, fun h => absurd h (by decide), fun h => absurd h (by decide), fun _ => ⟨rfl, am_w64, am_w65⟩, by decide +kernel, by decide⟩
set_option maxRecDepth 20000 in
theorem am_m103 : am_MW 103 3 10 := ⟨⟨by decide +kernel, by decide +kernel⟩, by decide +kernel, by decide +kernel, am_w66, am_w1, fun h => absurd h (by decide), fun h => absurd h (by decide), fun _ => ⟨rfl, am_w67, am_w68⟩, by decide +kernel, by decide⟩
set_option maxRecDepth 20000 in
theorem am_m192 : am_MW 192 3 11 := ⟨⟨by decide +kernel, by decide +kernel⟩, by decide +kernel, by decide +kernel, am_w69, am_w4, fun h => absurd h (by decide), fun h => absurd h (by decide), fun _ => ⟨rfl, am_w70, am_w71⟩, by decide +kernel, by decide⟩
set_option maxRecDepth 20000 in
theorem am_m104 : am_MW 104 2 10 := ⟨⟨by decide +kernel, by decide +kernel⟩, by decide +kernel, by decide +kernel, am_w72, am_w1, fun h => absurd h (by decide), fun h => absurd h (by decide), fun _ => ⟨rfl, am_w73, am_w74⟩, by decide +kernel, by decide⟩
set_option maxRecDepth 20000 in
theorem am_m193 : am_MW 193 2 11 := ⟨⟨by decide +kernel, by decide +kernel⟩, by decide +kernel, by decide +kernel, am_w75, am_w4, fun h => absurd h (by decide), fun h => absurd h (by decide), fun _ => ⟨rfl, am_w76, am_w77⟩, by decide +kernel, by decide⟩
set_option maxRecDepth 20000 in
theorem am_m105 : am_MW 105 2 10 := ⟨⟨by decide +kernel, by decide +kernel⟩, by decide +kernel, by decide +kernel, am_w78, am_w1, fun h => absurd h (by decide), fun h => absurd h (by decide), fun _ => ⟨rfl, am_w79, am_w80⟩, by decide +kernel, by decide⟩
set_option maxRecDepth 20000 in
theorem am_m198 : am_MW 198 2 11 := ⟨⟨by decide +kernel, by decide +kernel⟩, by decide +kernel, by decide +kernel, am_w81, am_w4, fun h => absurd h (by decide), fun h => absurd h (by decide), fun _ => ⟨rfl, am_w82, am_w83⟩, by decide +kernel, by decide⟩
set_option maxRecDepth 20000 in
theorem am_m106 : am_MW 106 3 10 := ⟨⟨by decide +kernel, by decide +kernel⟩, by decide +kernel, by decide +kernel, am_w84, am_w1, fun h => absurd h (by decide), fun h => absurd h (by decide), fun _ => ⟨rfl, am_w85, am_w86⟩, by decide +kernel, by decide⟩
set_option maxRecDepth 20000 in
theorem am_m199 : am_MW 199 3 11 := ⟨⟨by decide +kernel, by decide +kernel⟩, by decide +kernel, by decide +kernel, am_w87, am_w4, fun h => absurd h (by decide), fun h => absurd h (by decide), fun _ => ⟨rfl, am_w88, am_w89⟩, by decide +kernel, by decide⟩
set_option maxRecDepth 20000 in
theorem am_m107 : am_MW 107 1 10 := ⟨⟨by decide +kernel, by decide +kernel⟩, by decide +kernel, by decide +kernel, am_w90, am_w1, fun h => absurd h (by decide), fun h => absurd h (by decide), fun _ => ⟨rfl, am_w91, am_w92⟩, by decide +kernel, by decide⟩
set_option maxRecDepth 20000 in
theorem am_m202 : am_MW 202 1 11 := ⟨⟨by decide +kernel, by decide +kernel⟩, by decide +kernel, by decide +kernel, am_w93, am_w4, fun h => absurd h (by decide), fun h => absurd h (by decide), fun _ => ⟨rfl, am_w94, am_w95⟩, by decide +kernel, by decide⟩
set_option maxRecDepth 20000 in
theorem am_m108 : am_MW 108 3 10 := ⟨⟨by decide +kernel, by decide +kernel⟩, by decide +kernel, by decide +kernel, am_w96, am_w1, fun h => absurd h (by decide), fun h => absurd h (by decide), fun _ => ⟨rfl, am_w97, am_w98⟩, by decide +kernel, by decide⟩
set_option maxRecDepth 20000 in
theorem am_m211 : am_MW 211 3 11 := ⟨⟨by decide +kernel, by decide +kernel⟩, by decide +kernel, by decide +kernel, am_w99, am_w4, fun h => absurd h (by decide), fun h => absurd h (by decide), fun _ => ⟨rfl, am_w100, am_w101⟩, by decide +kernel, by decide⟩
set_option maxRecDepth 20000 in
theorem am_m109 : am_MW 109 4 10 := ⟨⟨by decide +kernel, by decide +kernel⟩, by decide +kernel, by decide +kernel, am_w102, am_w1, fun h => absurd h (by decide), fun h => absurd h (by decide), fun _ => ⟨rfl, am_w103, am_w104⟩, by decide +kernel, by decide⟩
set_option maxRecDepth 20000 in
theorem am_m214 : am_MW 214 4 11 := ⟨⟨by decide +kernel, by decide +kernel⟩, by decide +kernel, by decide +kernel, am_w105, am_w4, fun h => absurd h (by decide), fun h => absurd h (by decide), fun _ => ⟨rfl, am_w106, am_w107⟩, by decide +kernel, by decide⟩
set_option maxRecDepth 20000 in
theorem am_m110 : am_MW 110 4 10 := ⟨⟨by decide +kernel, by decide +kernel⟩, by decide +kernel, by decide +kernel, am_w108, am_w1, fun h => absurd h (by decide), fun h => absurd h (by decide), fun _ => ⟨rfl, am_w109, am_w110⟩, by decide +kernel, by decide⟩
set_option maxRecDepth 20000 in
theorem am_m215 : am_MW 215 4 11 := ⟨⟨by decide +kernel, by decide +kernel⟩, by decide +kernel, by decide +kernel, am_w111, am_w4, fun h => absurd h (by decide), fun h => absurd h (by decide), fun _ => ⟨rfl, am_w112, am_w113⟩, by decide +kernel, by decide⟩
set_option maxRecDepth 20000 in
theorem am_m111 : am_MW 111 3 10 := ⟨⟨by decide +kernel, by decide +kernel⟩, by decide +kernel, by decide +kernel, am_w114, am_w1, fun h => absurd h (by decide), fun h => absurd h (by decide), fun _ => ⟨rfl, am_w115, am_w116⟩, by decide +kernel, by decide⟩
set_option maxRecDepth 20000 in
theorem am_m216 : am_MW 216 3 11 := ⟨⟨by decide +kernel, by decide +kernel⟩, by decide +kernel, by decide +kernel, am_w117, am_w4, fun h => absurd h (by decide), fun h => absurd h (by decide), fun _ => ⟨rfl, am_w118, am_w119⟩, by decide +kernel, by decide⟩
set_option maxRecDepth 20000 in
theorem am_m112 : am_MW 112 2 10 := ⟨⟨by decide +kernel, by decide +kernel⟩, by decide +kernel, by decide +kernel, am_w120, am_w1, fun h => absurd h (by decide), fun h => absurd h (by decide), fun _ => ⟨rfl, am_w121, am_w122⟩, by decide +kernel, by decide⟩
set_option maxRecDepth 20000 in
theorem am_m195 : am_MW 195 2 11 := ⟨⟨by decide +kernel, by decide +kernel⟩, by decide +kernel, by decide +kernel, am_w123, am_w4, fun h => absurd h (by decide), fun h => absurd h (by decide), fun _ => ⟨rfl, am_w124, am_w125⟩, by decide +kernel, by decide⟩
set_option maxRecDepth 20000 in
theorem am_m113 : am_MW 113 2 10 := ⟨⟨by decide +kernel, by decide +kernel⟩, by decide +kernel, by decide +kernel, am_w126, am_w1, fun h => absurd h (by decide), fun h => absurd h (by decide), fun _ => ⟨rfl, am_w127, am_w128⟩, by decide +kernel, by decide⟩
set_option maxRecDepth 20000 in
theorem am_m189 : am_MW 189 2 11 := ⟨⟨by decide +kernel, by decide +kernel⟩, by decide +kernel, by decide +kernel, am_w129, am_w4, fun h => absurd h (by decide), fun h => absurd h (by decide), fun _ => ⟨rfl, am_w130, am_w131⟩, by decide +kernel, by decide⟩
set_option maxRecDepth 20000 in
theorem am_m114 : am_MW 114 3 10 := ⟨⟨by decide +kernel, by decide +kernel⟩, by decide +kernel, by decide +kernel, am_w132, am_w1, fun h => absurd h (by decide), fun h => absurd h (by decide), fun _ => ⟨rfl, am_w133, am_w134⟩, by decide +kernel, by decide⟩
set_option maxRecDepth 20000 in
theorem am_m217 : am_MW 217 3 11 := ⟨⟨by decide +kernel, by decide +kernel⟩, by decide +kernel, by decide +kernel, am_w135, am_w4, fun h => absurd h (by decide), fun h => absurd h (by decide), fun _ => ⟨rfl, am_w136, am_w137⟩, by decide +kernel, by decide⟩
set_option maxRecDepth 20000 in
theorem am_m115 : am_MW 115 3 10 := ⟨⟨by decide +kernel, by decide +kernel⟩, by decide +kernel, by decide +kernel, am_w138, am_w1, fun h => absurd h (by decide), fun h => absurd h (by decide), fun _ => ⟨rfl, am_w139, am_w140⟩, by decide +kernel, by decide⟩
set_option maxRecDepth 20000 in
theorem am_m221 : am_MW 221 3 11 := ⟨⟨by decide +kernel, by decide +kernel⟩, by decide +kernel, by decide +kernel, am_w141, am_w4, fun h => absurd h (by decide), fun h => absurd h (by decide), fun _ => ⟨rfl, am_w142, am_w143⟩, by decide +kernel, by decide⟩
set_option maxRecDepth 20000 in
theorem am_m116 : am_MW 116 1 10 := ⟨⟨by decide +kernel, by decide +kernel⟩, by decide +kernel, by decide +kernel, am_w144, am_w1, fun h => absurd h (by decide), fun h => absurd h (by decide), fun _ => ⟨rfl, am_w145, am_w146⟩, by decide +kernel, by decide⟩
set_option maxRecDepth 20000 in
theorem am_m222 : am_MW 222 1 11 := ⟨⟨by decide +kernel, by decide +kernel⟩, by decide +kernel, by decide +kernel, am_w147, am_w4, fun h => absurd h (by decide), fun h => absurd h (by decide), fun _ => ⟨rfl, am_w148, am_w149⟩, by decide +kernel, by decide⟩
set_option maxRecDepth 20000 in
theorem am_m117 : am_MW 117 2 10 := ⟨⟨by decide +kernel, by decide +kernel⟩, by decide +kernel, by decide +kernel, am_w150, am_w1, fun h => absurd h (by decide), fun h => absurd h (by decide), fun _ => ⟨rfl, am_w151, am_w152⟩, by decide +kernel, by decide⟩
set_option maxRecDepth 20000 in
theorem am_m224 : am_MW 224 2 11 := ⟨⟨by decide +kernel, by decide +kernel⟩, by decide +kernel, by decide +kernel, am_w153, am_w4, fun h => absurd h (by decide), fun h => absurd h (by decide), fun _ => ⟨rfl, am_w154, am_w155⟩, by decide +kernel, by decide⟩
set_option maxRecDepth 20000 in
theorem am_m118 : am_MW 118 3 10 := ⟨⟨by decide +kernel, by decide +kernel⟩, by decide +kernel, by decide +kernel, am_w156, am_w1, fun h => absurd h (by decide), fun h => absurd h (by decide), fun _ => ⟨rfl, am_w157, am_w158⟩, by decide +kernel, by decide⟩
set_option maxRecDepth 20000 in
theorem am_m225 : am_MW 225 3 11 := ⟨⟨by decide +kernel, by decide +kernel⟩, by decide +kernel, by decide +kernel, am_w159, am_w4, fun h => absurd h (by decide), fun h => absurd h (by decide), fun _ => ⟨rfl, am_w160, am_w161⟩, by decide +kernel, by decide⟩
set_option maxRecDepth 20000 in
theorem am_m119 : am_MW 119 2 10 := ⟨⟨by decide +kernel, by decide +kernel⟩, by decide +kernel, by decide +kernel, am_w162, am_w1, fun h => absurd h (by decide), fun h => absurd h (by decide), fun _ => ⟨rfl, am_w163, am_w164⟩, by decide +kernel, by decide⟩
set_option maxRecDepth 20000 in
theorem am_m226 : am_MW 226 2 11 := ⟨⟨by decide +kernel, by decide +kernel⟩, by decide +kernel, by decide +kernel, am_w165, am_w4, fun h => absurd h (by decide), fun h => absurd h (by decide), fun _ => ⟨rfl, am_w166, am_w167⟩, by decide +kernel, by decide⟩
set_option maxRecDepth 20000 in
theorem am_m120 : am_MW 120 2 10 := ⟨⟨by decide +kernel, by decide +kernel⟩, by decide +kernel, by decide +kernel, am_w168, am_w1, fun h => absurd h (by decide), fun h => absurd h (by decide), fun _ => ⟨rfl, am_w169, am_w170⟩, by decide +kernel, by decide⟩
set_option maxRecDepth 20000 in
theorem am_m230 : am_MW 230 2 11 := ⟨⟨by decide +kernel, by decide +kernel⟩, by decide +kernel, by decide +kernel, am_w171, am_w4, fun h => absurd h (by decide), fun h => absurd h (by decide), fun _ => ⟨rfl, am_w172, am_w173⟩, by decide +kernel, by decide⟩
set_option maxRecDepth 20000 in
theorem am_m121 : am_MW 121 0 10 := ⟨⟨by decide +kernel, by decide +kernel⟩, by decide +kernel, by decide +kernel, am_w174, am_w1, fun h => absurd h (by decide), fun h => absurd h (by decide), fun _ => ⟨rfl, am_w175, am_w176⟩, by decide +kernel, by decide⟩
set_option maxRecDepth 20000 in
theorem am_m231 : am_MW 231 0 11 := ⟨⟨by decide +kernel, by decide +kernel⟩, by decide +kernel, by decide +kernel, am_w177, am_w4, fun h => absurd h (by decide), fun h => absurd h (by decide), fun _ => ⟨rfl, am_w178, am_w179⟩, by decide +kernel, by decide⟩
set_option maxRecDepth 20000 in
theorem am_m122 : am_MW 122 2 10 := ⟨⟨by decide +kernel, by decide +kernel⟩, by decide +kernel, by decide +kernel, am_w180, am_w1, fun h => absurd h (by decide), fun h => absurd h (by decide), fun _ => ⟨rfl, am_w181, am_w182⟩, by decide +kernel, by decide⟩
set_option maxRecDepth 20000 in
theorem am_m232 : am_MW 232 2 11 := ⟨⟨by decide +kernel, by decide +kernel⟩, by decide +kernel, by decide +kernel, am_w183, am_w4, fun h => absurd h (by decide), fun h => absurd h (by decide), fun _ => ⟨rfl, am_w184, am_w185⟩, by decide +kernel, by decide⟩
set_option maxRecDepth 20000 in
theorem am_m123 : am_MW 123 2 10 := ⟨⟨by decide +kernel, by decide +kernel⟩, by decide +kernel, by decide +kernel, am_w186, am_w1, fun h => absurd h (by decide), fun h => absurd h (by decide), fun _ => ⟨rfl, am_w187, am_w188⟩, by decide +kernel, by decide⟩
set_option maxRecDepth 20000 in
theorem am_m234 : am_MW 234 2 11 := ⟨⟨by decide +kernel, by decide +kernel⟩, by decide +kernel, by decide +kernel, am_w189, am_w4, fun h => absurd h (by decide), fun h => absurd h (by decide), fun _ => ⟨rfl, am_w190, am_w191⟩, by decide +kernel, by decide⟩
set_option maxRecDepth 20000 in
theorem am_m124 : am_MW 124 2 10 := ⟨⟨by decide +kernel, by decide +kernel⟩, by decide +kernel, by decide +kernel, am_w192, am_w1, fun h => absurd h (by decide), fun h => absurd h (by decide), fun _ => ⟨rfl, am_w193, am_w194⟩, by decide +kernel, by decide⟩
set_option maxRecDepth 20000 in
theorem am_m235 : am_MW 235 2 11 := ⟨⟨by decide +kernel, by decide +kernel⟩, by decide +kernel, by decide +kernel, am_w195, am_w4, fun h => absurd h (by decide), fun h => absurd h (by decide), fun _ => ⟨rfl, am_w196, am_w197⟩, by decide +kernel, by decide⟩
set_option maxRecDepth 20000 in
theorem am_m125 : am_MW 125 1 10 := ⟨⟨by decide +kernel, by decide +kernel⟩, by decide +kernel, by decide +kernel, am_w198, am_w1, fun h => absurd h (by decide), fun h => absurd h (by decide), fun _ => ⟨rfl, am_w199, am_w200⟩, by decide +kernel, by decide⟩
set_option maxRecDepth 20000 in
theorem am_m236 : am_MW 236 1 11 := ⟨⟨by decide +kernel, by decide +kernel⟩, by decide +kernel, by decide +kernel, am_w201, am_w4, fun h => absurd h (by decide), fun h => absurd h (by decide), fun _ => ⟨rfl, am_w202, am_w203⟩, by decide +kernel, by decide⟩
set_option maxRecDepth 20000 in
theorem am_m126 : am_MW 126 4 10 := ⟨⟨by decide +kernel, by decide +kernel⟩, by decide +kernel, by decide +kernel, am_w204, am_w1, fun h => absurd h (by decide), fun h => absurd h (by decide), fun _ => ⟨rfl, am_w205, am_w206⟩, by decide +kernel, by decide⟩
set_option maxRecDepth 20000 in
theorem am_m237 : am_MW 237 4 11 := ⟨⟨by decide +kernel, by decide +kernel⟩, by decide +kernel, by decide +kernel, am_w207, am_w4, fun h => absurd h (by decide), fun h => absurd h (by decide), fun _ => ⟨rfl, am_w208, am_w209⟩, by decide +kernel, by decide⟩
set_option maxRecDepth 20000 in
theorem am_m127 : am_MW 127 1 10 := ⟨⟨by decide +kernel, by decide +kernel⟩, by decide +kernel, by decide +kernel, am_w210, am_w1, fun h => absurd h (by decide), fun h => absurd h (by decide), fun _ => ⟨rfl, am_w211, am_w212⟩, by decide +kernel, by decide⟩
set_option maxRecDepth 20000 in
theorem am_m238 : am_MW 238 1 11 := ⟨⟨by decide +kernel, by decide +kernel⟩, by decide +kernel, by decide +kernel, am_w213, am_w4, fun h => absurd h (by decide), fun h => absurd h (by decide), fun _ => ⟨rfl, am_w214, am_w215⟩, by decide +kernel, by decide⟩
set_option maxRecDepth 20000 in
theorem am_m128 : am_MW 128 1 10 := ⟨⟨by decide +kernel, by decide +kernel⟩, by decide +kernel, by decide +kernel, am_w216, am_w1, fun h => absurd h (by decide), fun h => absurd h (by decide), fun _ => ⟨rfl, am_w217, am_w218⟩, by decide +kernel, by decide⟩
set_option maxRecDepth 20000 in
theorem am_m239 : am_MW 239 1 11 := ⟨⟨by decide +kernel, by decide +kernel⟩, by decide +kernel, by decide +kernel, am_w219, am_w4, fun h => absurd h (by decide), fun h => absurd h (by decide), fun _ => ⟨rfl, am_w220, am_w221⟩, by decide +kernel, by decide⟩
set_option maxRecDepth 20000 in
theorem am_m129 : am_MW 129 1 10 := ⟨⟨by decide +kernel, by decide +kernel⟩, by decide +kernel, by decide +kernel, am_w222, am_w1, fun h => absurd h (by decide), fun h => absurd h (by decide), fun _ => ⟨rfl, am_w223, am_w224⟩, by decide +kernel, by decide⟩
set_option maxRecDepth 20000 in
theorem am_m240 : am_MW 240 1 11 := ⟨⟨by decide +kernel, by decide +kernel⟩, by decide +kernel, by decide +kernel, am_w225, am_w4, fun h => absurd h (by decide), fun h => absurd h (by decide), fun _ => ⟨rfl, am_w226, am_w227⟩, by decide +kernel, by decide⟩
set_option maxRecDepth 20000 in
theorem am_m60 : am_MW 60 0 98 := ⟨⟨by decide +kernel, by decide +kernel⟩, by decide +kernel, by decide +kernel, am_w228, am_w229, fun h => absurd h (by decide), fun _ => ⟨rfl, rfl, am_w230⟩, fun h => absurd h (by decide), by decide +kernel, by decide⟩
set_option maxRecDepth 20000 in
theorem am_m66 : am_MW 66 1 5 := ⟨⟨by decide +kernel, by decide +kernel⟩, by decide +kernel, by decide +kernel, am_w231, am_w229, fun h => absurd h (by decide), fun h => absurd h (by decide), fun _ => ⟨rfl, am_w232, am_w233⟩, by decide +kernel, by decide⟩
set_option maxRecDepth 20000 in
theorem am_m133 : am_MW 133 1 99 := ⟨⟨by decide +kernel, by decide +kernel⟩, by decide +kernel, by decide +kernel, am_w234, am_w1, fun _ => am_w235, fun h => absurd h (by decide), fun h => absurd h (by decide), by decide +kernel, by decide⟩
set_option maxRecDepth 20000 in
theorem am_m6 : am_MW 6 2 0 := ⟨⟨by decide +kernel, by decide +kernel⟩, by decide +kernel, by decide +kernel, am_w236, am_w237, fun h => absurd h (by decide), fun h => absurd h (by decide), fun _ => ⟨rfl, am_w238, am_w239⟩, by decide +kernel, by decide⟩
set_option maxRecDepth 20000 in
theorem am_m4 : am_MW 4 1 0 := ⟨⟨by decide +kernel, by decide +kernel⟩, by decide +kernel, by decide +kernel, am_w240, am_w237, fun h => absurd h (by decide), fun h => absurd h (by decide), fun _ => ⟨rfl, am_w241, am_w242⟩, by decide +kernel, by decide⟩
set_option maxRecDepth 20000 in
theorem am_m3 : am_MW 3 1 0 := ⟨⟨by decide +kernel, by decide +kernel⟩, by decide +kernel, by decide +kernel, am_w243, am_w237, fun h => absurd h (by decide), fun h => absurd h (by decide), fun _ => ⟨rfl, am_w244, am_w245⟩, by decide +kernel, by decide⟩
set_option maxRecDepth 20000 in
theorem am_m13 : am_MW 13 2 2 := ⟨⟨by decide +kernel, by decide +kernel⟩, by decide +kernel, by decide +kernel, am_w246, am_w247, fun h => absurd h (by decide), fun h => absurd h (by decide), fun _ => ⟨rfl, am_w248, am_w249⟩, by decide +kernel, by decide⟩
set_option maxRecDepth 20000 in
theorem am_m16 : am_MW 16 3 2 := ⟨⟨by decide +kernel, by decide +kernel⟩, by decide +kernel, by decide +kernel, am_w250, am_w247, fun h => absurd h (by decide), fun h => absurd h (by decide), fun _ => ⟨rfl, am_w251, am_w252⟩, by decide +kernel, by decide⟩
set_option maxRecDepth 20000 in
theorem am_m18 : am_MW 18 2 2 := ⟨⟨by decide +kernel, by decide +kernel⟩, by decide +kernel, by decide +kernel, am_w253, am_w247, fun h => absurd h (by decide), fun h => absurd h (by decide), fun _ => ⟨rfl, am_w254, am_w255⟩, by decide +kernel, by decide⟩
set_option maxRecDepth 20000 in
theorem am_m17 : am_MW 17 1 2 := ⟨⟨by decide +kernel, by decide +kernel⟩, by decide +kernel, by decide +kernel, am_w256, am_w247, fun h => absurd h (by decide), fun h => absurd h (by decide), fun _ => ⟨rfl, am_w257, am_w258⟩, by decide +kernel, by decide⟩
set_option maxRecDepth 20000 in
theorem am_m5 : am_MW 5 2 0 := ⟨⟨by decide +kernel, by decide +kernel⟩, by decide +kernel, by decide +kernel, am_w259, am_w237, fun h => absurd h (by decide), fun h => absurd h (by decide), fun _ => ⟨rfl, am_w260, am_w261⟩, by decide +kernel, by decide⟩
set_option maxRecDepth 20000 in
theorem am_m20 : am_MW 20 2 2 := ⟨⟨by decide +kernel, by decide +kernel⟩, by decide +kernel, by decide +kernel, am_w262, am_w247, fun h => absurd h (by decide), fun h => absurd h (by decide), fun _ => ⟨rfl, am_w263, am_w264⟩, by decide +kernel, by decide⟩
set_option maxRecDepth 20000 in
theorem am_m67 : am_MW 67 2 5 := ⟨⟨by decide +kernel, by decide +kernel⟩, by decide +kernel, by decide +kernel, am_w265, am_w229, fun h => absurd h (by decide), fun h => absurd h (by decide), fun _ => ⟨rfl, am_w266, am_w267⟩, by decide +kernel, by decide⟩
set_option maxRecDepth 20000 in
theorem am_m9 : am_MW 9 6 1 := ⟨⟨by decide +kernel, by decide +kernel⟩, by decide +kernel, by decide +kernel, am_w268, am_w269, fun h => absurd h (by decide), fun h => absurd h (by decide), fun _ => ⟨rfl, am_w270, am_w271⟩, by decide +kernel, by decide⟩
set_option maxRecDepth 20000 in
theorem am_m21 : am_MW 21 6 2 := ⟨⟨by decide +kernel, by decide +kernel⟩, by decide +kernel, by decide +kernel, am_w272, am_w247, fun h => absurd h (by decide), fun h => absurd h (by decide), fun _ => ⟨rfl, am_w273, am_w274⟩, by decide +kernel, by decide⟩
set_option maxRecDepth 20000 in
theorem am_m14 : am_MW 14 3 2 := ⟨⟨by decide +kernel, by decide +kernel⟩, by decide +kernel, by decide +kernel, am_w275, am_w247, fun h => absurd h (by decide), fun h => absurd h (by decide), fun _ => ⟨rfl, am_w276, am_w277⟩, by decide +kernel, by decide⟩
set_option maxRecDepth 20000 in
theorem am_m22 : am_MW 22 5 2 := ⟨⟨by decide +kernel, by decide +kernel⟩, by decide +kernel, by decide +kernel, am_w278, am_w247, fun h => absurd h (by decide), fun h => absurd h (by decide), fun _ => ⟨rfl, am_w279, am_w280⟩, by decide +kernel, by decide⟩
set_option maxRecDepth 20000 in
theorem am_m25 : am_MW 25 0 2 := ⟨⟨by decide +kernel, by decide +kernel⟩, by decide +kernel, by decide +kernel, am_w281, am_w247, fun h => absurd h (by decide), fun h => absurd h (by decide), fun _ => ⟨rfl, am_w282, am_w283⟩, by decide +kernel, by decide⟩
set_option maxRecDepth 20000 in
theorem am_m26 : am_MW 26 0 2 := ⟨⟨by decide +kernel, by decide +kernel⟩, by decide +kernel, by decide +kernel, am_w284, am_w247, fun h => absurd h (by decide), fun h => absurd h (by decide), fun _ => ⟨rfl, am_w285, am_w286⟩, by decide +kernel, by decide⟩
set_option maxRecDepth 20000 in
theorem am_m27 : am_MW 27 2 2 := ⟨⟨by decide +kernel, by decide +kernel⟩, by decide +kernel, by decide +kernel, am_w287, am_w247, fun h => absurd h (by decide), fun h => absurd h (by decide), fun _ => ⟨rfl, am_w288, am_w289⟩, by decide +kernel, by decide⟩
set_option maxRecDepth 20000 in
theorem am_m29 : am_MW 29 1 2 := ⟨⟨by decide +kernel, by decide +kernel⟩, by decide +kernel, by decide +kernel, am_w290, am_w247, fun h => absurd h (by decide), fun h => absurd h (by decide), fun _ => ⟨rfl, am_w291, am_w292⟩, by decide +kernel, by decide⟩
set_option maxRecDepth 20000 in
theorem am_m15 : am_MW 15 1 2 := ⟨⟨by decide +kernel, by decide +kernel⟩, by decide +kernel, by decide +kernel, am_w293, am_w247, fun h => absurd h (by decide), fun h => absurd h (by decide), fun _ => ⟨rfl, am_w294, am_w295⟩, by decide +kernel, by decide⟩
set_option maxRecDepth 20000 in
theorem am_m28 : am_MW 28 3 2 := ⟨⟨by decide +kernel, by decide +kernel⟩, by decide +kernel, by decide +kernel, am_w296, am_w247, fun h => absurd h (by decide), fun h => absurd h (by decide), fun _ => ⟨rfl, am_w297, am_w298⟩, by decide +kernel, by decide⟩
set_option maxRecDepth 20000 in
theorem am_m19 : am_MW 19 2 2 := ⟨⟨by decide +kernel, by decide +kernel⟩, by decide +kernel, by decide +kernel, am_w299, am_w247, fun h => absurd h (by decide), fun h => absurd h (by decide), fun _ => ⟨rfl, am_w300, am_w301⟩, by decide +kernel, by decide⟩
set_option maxRecDepth 20000 in
theorem am_m34 : am_MW 34 1 2 := ⟨⟨by decide +kernel, by decide +kernel⟩, by decide +kernel, by decide +kernel, am_w302, am_w247, fun h => absurd h (by decide), fun h => absurd h (by decide), fun _ => ⟨rfl, am_w303, am_w304⟩, by decide +kernel, by decide⟩
set_option maxRecDepth 20000 in
theorem am_m48 : am_MW 48 1 3 := ⟨⟨by decide +kernel, by decide +kernel⟩, by decide +kernel, by decide +kernel, am_w305, am_w306, fun h => absurd h (by decide), fun h => absurd h (by decide), fun _ => ⟨rfl, am_w307, am_w308⟩, by decide +kernel, by decide⟩
set_option maxRecDepth 20000 in
theorem am_m61 : am_MW 61 0 5 := ⟨⟨by decide +kernel, by decide +kernel⟩, by decide +kernel, by decide +kernel, am_w309, am_w229, fun h => absurd h (by decide), fun h => absurd h (by decide), fun _ => ⟨rfl, am_w310, am_w311⟩, by decide +kernel, by decide⟩
set_option maxRecDepth 20000 in
theorem am_m41 : am_MW 41 0 3 := ⟨⟨by decide +kernel, by decide +kernel⟩, by decide +kernel, by decide +kernel, am_w312, am_w306, fun h => absurd h (by decide), fun h => absurd h (by decide), fun _ => ⟨rfl, am_w313, am_w314⟩, by decide +kernel, by decide⟩
set_option maxRecDepth 20000 in
theorem am_m40 : am_MW 40 1 3 := ⟨⟨by decide +kernel, by decide +kernel⟩, by decide +kernel, by decide +kernel, am_w315, am_w306, fun h => absurd h (by decide), fun h => absurd h (by decide), fun _ => ⟨rfl, am_w316, am_w317⟩, by decide +kernel, by decide⟩
set_option maxRecDepth 20000 in
theorem am_m42 : am_MW 42 1 3 := ⟨⟨by decide +kernel, by decide +kernel⟩, by decide +kernel, by decide +kernel, am_w318, am_w306, fun h => absurd h (by decide), fun h => absurd h (by decide), fun _ => ⟨rfl, am_w319, am_w320⟩, by decide +kernel, by decide⟩
set_option maxRecDepth 20000 in
theorem am_m63 : am_MW 63 1 5 := ⟨⟨by decide +kernel, by decide +kernel⟩, by decide +kernel, by decide +kernel, am_w321, am_w229, fun h => absurd h (by decide), fun h => absurd h (by decide), fun _ => ⟨rfl, am_w322, am_w323⟩, by decide +kernel, by decide⟩
set_option maxRecDepth 20000 in
theorem am_m46 : am_MW 46 0 3 := ⟨⟨by decide +kernel, by decide +kernel⟩, by decide +kernel, by decide +kernel, am_w324, am_w306, fun h => absurd h (by decide), fun h => absurd h (by decide), fun _ => ⟨rfl, am_w325, am_w326⟩, by decide +kernel, by decide⟩
set_option maxRecDepth 20000 in
theorem am_m64 : am_MW 64 0 5 := ⟨⟨by decide +kernel, by decide +kernel⟩, by decide +kernel, by decide +kernel, am_w327, am_w229, fun h => absurd h (by decide), fun h => absurd h (by decide), fun _ => ⟨rfl, am_w328, am_w329⟩, by decide +kernel, by decide⟩
set_option maxRecDepth 20000 in
theorem am_m43 : am_MW 43 1 3 := ⟨⟨by decide +kernel, by decide +kernel⟩, by decide +kernel, by decide +kernel, am_w330, am_w306, fun h => absurd h (by decide), fun h => absurd h (by decide), fun _ => ⟨rfl, am_w331, am_w332⟩, by decide +kernel, by decide⟩
set_option maxRecDepth 20000 in
theorem am_m65 : am_MW 65 0 5 := ⟨⟨by decide +kernel, by decide +kernel⟩, by decide +kernel, by decide +kernel, am_w333, am_w229, fun h => absurd h (by decide), fun h => absurd h (by decide), fun _ => ⟨rfl, am_w334, am_w335⟩, by decide +kernel, by decide⟩
set_option maxRecDepth 20000 in
theorem am_m44 : am_MW 44 1 3 := ⟨⟨by decide +kernel, by decide +kernel⟩, by decide +kernel, by decide +kernel, am_w336, am_w306, fun h => absurd h (by decide), fun h => absurd h (by decide), fun _ => ⟨rfl, am_w337, am_w338⟩, by decide +kernel, by decide⟩
set_option maxRecDepth 20000 in
theorem am_m62 : am_MW 62 1 5 := ⟨⟨by decide +kernel, by decide +kernel⟩, by decide +kernel, by decide +kernel, am_w339, am_w229, fun h => absurd h (by decide), fun h => absurd h (by decide), fun _ => ⟨rfl, am_w340, am_w341⟩, by decide +kernel, by decide⟩
set_option maxRecDepth 20000 in
theorem am_m45 : am_MW 45 1 3 := ⟨⟨by decide +kernel, by decide +kernel⟩, by decide +kernel, by decide +kernel, am_w342, am_w306, fun h => absurd h (by decide), fun h => absurd h (by decide), fun _ => ⟨rfl, am_w343, am_w344⟩, by decide +kernel, by decide⟩
set_option maxRecDepth 20000 in
theorem am_m47 : am_MW 47 0 3 := ⟨⟨by decide +kernel, by decide +kernel⟩, by decide +kernel, by decide +kernel, am_w345, am_w306, fun h => absurd h (by decide), fun h => absurd h (by decide), fun _ => ⟨rfl, am_w346, am_w347⟩, by decide +kernel, by decide⟩
set_option maxRecDepth 20000 in
theorem am_m49 : am_MW 49 1 99 := ⟨⟨by decide +kernel, by decide +kernel⟩, by decide +kernel, by decide +kernel, am_w348, am_w306, fun _ => am_w349, fun h => absurd h (by decide), fun h => absurd h (by decide), by decide +kernel, by decide⟩
set_option maxRecDepth 20000 in
theorem am_m53 : am_MW 53 3 3 := ⟨⟨by decide +kernel, by decide +kernel⟩, by decide +kernel, by decide +kernel, am_w350, am_w306, fun h => absurd h (by decide), fun h => absurd h (by decide), fun _ => ⟨rfl, am_w351, am_w352⟩, by decide +kernel, by decide⟩
set_option maxRecDepth 20000 in
theorem am_m50 : am_MW 50 1 99 := ⟨⟨by decide +kernel, by decide +kernel⟩, by decide +kernel, by decide +kernel, am_w353, am_w306, fun _ => am_w354, fun h => absurd h (by decide), fun h => absurd h (by decide), by decide +kernel, by decide⟩
set_option maxRecDepth 20000 in
theorem am_m52 : am_MW 52 3 3 := ⟨⟨by decide +kernel, by decide +kernel⟩, by decide +kernel, by decide +kernel, am_w355, am_w306, fun h => absurd h (by decide), fun h => absurd h (by decide), fun _ => ⟨rfl, am_w356, am_w357⟩, by decide +kernel, by decide⟩
set_option maxRecDepth 20000 in
theorem am_m243 : am_MW 243 1 20 := ⟨⟨by decide +kernel, by decide +kernel⟩, by decide +kernel, by decide +kernel, am_w358, am_w359, fun h => absurd h (by decide), fun h => absurd h (by decide), fun _ => ⟨rfl, am_w360, am_w361⟩, by decide +kernel, by decide⟩
set_option maxRecDepth 20000 in
theorem am_m51 : am_MW 51 3 3 := ⟨⟨by decide +kernel, by decide +kernel⟩, by decide +kernel, by decide +kernel, am_w362, am_w306, fun h => absurd h (by decide), fun h => absurd h (by decide), fun _ => ⟨rfl, am_w363, am_w364⟩, by decide +kernel, by decide⟩
set_option maxRecDepth 20000 in
theorem am_m56 : am_MW 56 1 99 := ⟨⟨by decide +kernel, by decide +kernel⟩, by decide +kernel, by decide +kernel, am_w365, am_w306, fun _ => am_w366, fun h => absurd h (by decide), fun h => absurd h (by decide), by decide +kernel, by decide⟩
set_option maxRecDepth 20000 in
theorem am_m55 : am_MW 55 1 99 := ⟨⟨by decide +kernel, by decide +kernel⟩, by decide +kernel, by decide +kernel, am_w367, am_w306, fun _ => am_w368, fun h => absurd h (by decide), fun h => absurd h (by decide), by decide +kernel, by decide⟩
set_option maxRecDepth 20000 in
theorem am_m54 : am_MW 54 4 99 := ⟨⟨by decide +kernel, by decide +kernel⟩, by decide +kernel, by decide +kernel, am_w369, am_w306, fun _ => am_w370, fun h => absurd h (by decide), fun h => absurd h (by decide), by decide +kernel, by decide⟩
set_option maxRecDepth 20000 in
theorem am_m241 : am_MW 241 0 20 := ⟨⟨by decide +kernel, by decide +kernel⟩, by decide +kernel, by decide +kernel, am_w371, am_w359, fun h => absurd h (by decide), fun h => absurd h (by decide), fun _ => ⟨rfl, am_w372, am_w373⟩, by decide +kernel, by decide⟩
set_option maxRecDepth 20000 in
theorem am_m242 : am_MW 242 1 20 := ⟨⟨by decide +kernel, by decide +kernel⟩, by decide +kernel, by decide +kernel, am_w374, am_w359, fun h => absurd h (by decide), fun h => absurd h (by decide), fun _ => ⟨rfl, am_w375, am_w376⟩, by decide +kernel, by decide⟩
set_option maxRecDepth 20000 in
theorem am_m59 : am_MW 59 2 4 := ⟨⟨by decide +kernel, by decide +kernel⟩, by decide +kernel, by decide +kernel, am_w377, am_w378, fun h => absurd h (by decide), fun h => absurd h (by decide), fun _ => ⟨rfl, am_w379, am_w380⟩, by decide +kernel, by decide⟩
set_option maxRecDepth 20000 in
theorem am_m253 : am_MW 253 1 99 := ⟨⟨by decide +kernel, by decide +kernel⟩, by decide +kernel, by decide +kernel, am_w381, am_w382, fun _ => am_w383, fun h => absurd h (by decide), fun h => absurd h (by decide), by decide +kernel, by decide⟩
set_option maxRecDepth 20000 in
theorem am_m69 : am_MW 69 2 5 := ⟨⟨by decide +kernel, by decide +kernel⟩, by decide +kernel, by decide +kernel, am_w384, am_w229, fun h => absurd h (by decide), fun h => absurd h (by decide), fun _ => ⟨rfl, am_w385, am_w386⟩, by decide +kernel, by decide⟩
set_option maxRecDepth 20000 in
theorem am_m70 : am_MW 70 3 5 := ⟨⟨by decide +kernel, by decide +kernel⟩, by decide +kernel, by decide +kernel, am_w387, am_w229, fun h => absurd h (by decide), fun h => absurd h (by decide), fun _ => ⟨rfl, am_w388, am_w389⟩, by decide +kernel, by decide⟩
set_option maxRecDepth 20000 in
theorem am_m78 : am_MW 78 2 7 := ⟨⟨by decide +kernel, by decide +kernel⟩, by decide +kernel, by decide +kernel, am_w390, am_w391, fun h => absurd h (by decide), fun h => absurd h (by decide), fun _ => ⟨rfl, am_w392, am_w393⟩, by decide +kernel, by decide⟩
set_option maxRecDepth 20000 in
theorem am_m68 : am_MW 68 1 5 := ⟨⟨by decide +kernel, by decide +kernel⟩, by decide +kernel, by decide +kernel, am_w394, am_w229, fun h => absurd h (by decide), fun h => absurd h (by decide), fun _ => ⟨rfl, am_w395, am_w396⟩, by decide +kernel, by decide⟩
set_option maxRecDepth 20000 in
theorem am_m74 : am_MW 74 2 7 := ⟨⟨by decide +kernel, by decide +kernel⟩, by decide +kernel, by decide +kernel, am_w397, am_w391, fun h => absurd h (by decide), fun h => absurd h (by decide), fun _ => ⟨rfl, am_w398, am_w399⟩, by decide +kernel, by decide⟩
set_option maxRecDepth 20000 in
theorem am_m79 : am_MW 79 3 7 := ⟨⟨by decide +kernel, by decide +kernel⟩, by decide +kernel, by decide +kernel, am_w400, am_w391, fun h => absurd h (by decide), fun h => absurd h (by decide), fun _ => ⟨rfl, am_w401, am_w402⟩, by decide +kernel, by decide⟩
set_option maxRecDepth 20000 in
theorem am_m80 : am_MW 80 3 7 := ⟨⟨by decide +kernel, by decide +kernel⟩, by decide +kernel, by decide +kernel, am_w403, am_w391, fun h => absurd h (by decide), fun h => absurd h (by decide), fun _ => ⟨rfl, am_w404, am_w405⟩, by decide +kernel, by decide⟩
set_option maxRecDepth 20000 in
theorem am_m81 : am_MW 81 3 7 := ⟨⟨by decide +kernel, by decide +kernel⟩, by decide +kernel, by decide +kernel, am_w406, am_w391, fun h => absurd h (by decide), fun h => absurd h (by decide), fun _ => ⟨rfl, am_w407, am_w408⟩, by decide +kernel, by decide⟩
set_option maxRecDepth 20000 in
theorem am_m91 : am_MW 91 3 9 := ⟨⟨by decide +kernel, by decide +kernel⟩, by decide +kernel, by decide +kernel, am_w409, am_w410, fun h => absurd h (by decide), fun h => absurd h (by decide), fun _ => ⟨rfl, am_w411, am_w412⟩, by decide +kernel, by decide⟩
set_option maxRecDepth 20000 in
theorem am_m85 : am_MW 85 2 8 := ⟨⟨by decide +kernel, by decide +kernel⟩, by decide +kernel, by decide +kernel, am_w413, am_w414, fun h => absurd h (by decide), fun h => absurd h (by decide), fun _ => ⟨rfl, am_w415, am_w416⟩, by decide +kernel, by decide⟩
set_option maxRecDepth 20000 in
theorem am_m86 : am_MW 86 2 8 := ⟨⟨by decide +kernel, by decide +kernel⟩, by decide +kernel, by decide +kernel, am_w417, am_w414, fun h => absurd h (by decide), fun h => absurd h (by decide), fun _ => ⟨rfl, am_w418, am_w419⟩, by decide +kernel, by decide⟩
set_option maxRecDepth 20000 in
theorem am_m84 : am_MW 84 3 8 := ⟨⟨by decide +kernel, by decide +kernel⟩, by decide +kernel, by decide +kernel, am_w420, am_w414, fun h => absurd h (by decide), fun h => absurd h (by decide), fun _ => ⟨rfl, am_w421, am_w422⟩, by decide +kernel, by decide⟩
set_option maxRecDepth 20000 in
theorem am_m1 : am_MW 1 0 98 := ⟨⟨by decide +kernel, by decide +kernel⟩, by decide +kernel, by decide +kernel, am_w423, am_w237, fun h => absurd h (by decide), fun _ => ⟨rfl, rfl, am_w424⟩, fun h => absurd h (by decide), by decide +kernel, by decide⟩
set_option maxRecDepth 20000 in
theorem am_m8 : am_MW 8 0 98 := ⟨⟨by decide +kernel, by decide +kernel⟩, by decide +kernel, by decide +kernel, am_w425, am_w269, fun h => absurd h (by decide), fun _ => ⟨rfl, rfl, am_w426⟩, fun h => absurd h (by decide), by decide +kernel, by decide⟩
set_option maxRecDepth 20000 in
theorem am_m11 : am_MW 11 2 98 := ⟨⟨by decide +kernel, by decide +kernel⟩, by decide +kernel, by decide +kernel, am_w427, am_w247, fun h => absurd h (by decide), fun _ => ⟨rfl, rfl, am_w428⟩, fun h => absurd h (by decide), by decide +kernel, by decide⟩
set_option maxRecDepth 20000 in
theorem am_m2 : am_MW 2 1 0 := ⟨⟨by decide +kernel, by decide +kernel⟩, by decide +kernel, by decide +kernel, am_w429, am_w237, fun h => absurd h (by decide), fun h => absurd h (by decide), fun _ => ⟨rfl, am_w430, am_w431⟩, by decide +kernel, by decide⟩
set_option maxRecDepth 20000 in
theorem am_m10 : am_MW 10 1 1 := ⟨⟨by decide +kernel, by decide +kernel⟩, by decide +kernel, by decide +kernel, am_w432, am_w269, fun h => absurd h (by decide), fun h => absurd h (by decide), fun _ => ⟨rfl, am_w433, am_w434⟩, by decide +kernel, by decide⟩
set_option maxRecDepth 20000 in
theorem am_m12 : am_MW 12 1 2 := ⟨⟨by decide +kernel, by decide +kernel⟩, by decide +kernel, by decide +kernel, am_w435, am_w247, fun h => absurd h (by decide), fun h => absurd h (by decide), fun _ => ⟨rfl, am_w436, am_w437⟩, by decide +kernel, by decide⟩
set_option maxRecDepth 20000 in
theorem am_m30 : am_MW 30 1 2 := ⟨⟨by decide +kernel, by decide +kernel⟩, by decide +kernel, by decide +kernel, am_w438, am_w247, fun h => absurd h (by decide), fun h => absurd h (by decide), fun _ => ⟨rfl, am_w439, am_w440⟩, by decide +kernel, by decide⟩
set_option maxRecDepth 20000 in
theorem am_m31 : am_MW 31 1 2 := ⟨⟨by decide +kernel, by decide +kernel⟩, by decide +kernel, by decide +kernel, am_w441, am_w247, fun h => absurd h (by decide), fun h => absurd h (by decide), fun _ => ⟨rfl, am_w442, am_w443⟩, by decide +kernel, by decide⟩
set_option maxRecDepth 20000 in
theorem am_m71 : am_MW 71 0 98 := ⟨⟨by decide +kernel, by decide +kernel⟩, by decide +kernel, by decide +kernel, am_w444, am_w445, fun h => absurd h (by decide), fun _ => ⟨rfl, rfl, am_w446⟩, fun h => absurd h (by decide), by decide +kernel, by decide⟩
set_option maxRecDepth 20000 in
theorem am_m38 : am_MW 38 0 98 := ⟨⟨by decide +kernel, by decide +kernel⟩, by decide +kernel, by decide +kernel, am_w447, am_w306, fun h => absurd h (by decide), fun _ => ⟨rfl, rfl, am_w448⟩, fun h => absurd h (by decide), by decide +kernel, by decide⟩
set_option maxRecDepth 20000 in
theorem am_m87 : am_MW 87 0 98 := ⟨⟨by decide +kernel, by decide +kernel⟩, by decide +kernel, by decide +kernel, am_w449, am_w410, fun h => absurd h (by decide), fun _ => ⟨rfl, rfl, am_w450⟩, fun h => absurd h (by decide), by decide +kernel, by decide⟩
set_option maxRecDepth 20000 in
theorem am_m73 : am_MW 73 1 98 := ⟨⟨by decide +kernel, by decide +kernel⟩, by decide +kernel, by decide +kernel, am_w451, am_w391, fun h => absurd h (by decide), fun _ => ⟨rfl, rfl, am_w452⟩, fun h => absurd h (by decide), by decide +kernel, by decide⟩
set_option maxRecDepth 20000 in
theorem am_m57 : am_MW 57 0 98 := ⟨⟨by decide +kernel, by decide +kernel⟩, by decide +kernel, by decide +kernel, am_w453, am_w378, fun h => absurd h (by decide), fun _ => ⟨rfl, rfl, am_w454⟩, fun h => absurd h (by decide), by decide +kernel, by decide⟩
set_option maxRecDepth 20000 in
theorem am_m82 : am_MW 82 0 98 := ⟨⟨by decide +kernel, by decide +kernel⟩, by decide +kernel, by decide +kernel, am_w455, am_w414, fun h => absurd h (by decide), fun _ => ⟨rfl, rfl, am_w456⟩, fun h => absurd h (by decide), by decide +kernel, by decide⟩
set_option maxRecDepth 20000 in
theorem am_m130 : am_MW 130 1 99 := ⟨⟨by decide +kernel, by decide +kernel⟩, by decide +kernel, by decide +kernel, am_w457, am_w1, fun _ => am_w458, fun h => absurd h (by decide), fun h => absurd h (by decide), by decide +kernel, by decide⟩
set_option maxRecDepth 20000 in
theorem am_m132 : am_MW 132 1 99 := ⟨⟨by decide +kernel, by decide +kernel⟩, by decide +kernel, by decide +kernel, am_w459, am_w1, fun _ => am_w460, fun h => absurd h (by decide), fun h => absurd h (by decide), by decide +kernel, by decide⟩
set_option maxRecDepth 20000 in
theorem am_m72 : am_MW 72 1 6 := ⟨⟨by decide +kernel, by decide +kernel⟩, by decide +kernel, by decide +kernel, am_w461, am_w445, fun h => absurd h (by decide), fun h => absurd h (by decide), fun _ => ⟨rfl, am_w462, am_w463⟩, by decide +kernel, by decide⟩
set_option maxRecDepth 20000 in
theorem am_m39 : am_MW 39 2 3 := ⟨⟨by decide +kernel, by decide +kernel⟩, by decide +kernel, by decide +kernel, am_w464, am_w306, fun h => absurd h (by decide), fun h => absurd h (by decide), fun _ => ⟨rfl, am_w465, am_w466⟩, by decide +kernel, by decide⟩
set_option maxRecDepth 20000 in
theorem am_m131 : am_MW 131 1 99 := ⟨⟨by decide +kernel, by decide +kernel⟩, by decide +kernel, by decide +kernel, am_w467, am_w1, fun _ => am_w468, fun h => absurd h (by decide), fun h => absurd h (by decide), by decide +kernel, by decide⟩
set_option maxRecDepth 20000 in
theorem am_m134 : am_MW 134 1 99 := ⟨⟨by decide +kernel, by decide +kernel⟩, by decide +kernel, by decide +kernel, am_w469, am_w1, fun _ => am_w470, fun h => absurd h (by decide), fun h => absurd h (by decide), by decide +kernel, by decide⟩
set_option maxRecDepth 20000 in
theorem am_m23 : am_MW 23 5 2 := ⟨⟨by decide +kernel, by decide +kernel⟩, by decide +kernel, by decide +kernel, am_w471, am_w247, fun h => absurd h (by decide), fun h => absurd h (by decide), fun _ => ⟨rfl, am_w472, am_w473⟩, by decide +kernel, by decide⟩
set_option maxRecDepth 20000 in
theorem am_m24 : am_MW 24 1 2 := ⟨⟨by decide +kernel, by decide +kernel⟩, by decide +kernel, by decide +kernel, am_w474, am_w247, fun h => absurd h (by decide), fun h => absurd h (by decide), fun _ => ⟨rfl, am_w475, am_w476⟩, by decide +kernel, by decide⟩
set_option maxRecDepth 20000 in
theorem am_m90 : am_MW 90 0 9 := ⟨⟨by decide +kernel, by decide +kernel⟩, by decide +kernel, by decide +kernel, am_w477, am_w410, fun h => absurd h (by decide), fun h => absurd h (by decide), fun _ => ⟨rfl, am_w478, am_w479⟩, by decide +kernel, by decide⟩
set_option maxRecDepth 20000 in
theorem am_m76 : am_MW 76 0 7 := ⟨⟨by decide +kernel, by decide +kernel⟩, by decide +kernel, by decide +kernel, am_w480, am_w391, fun h => absurd h (by decide), fun h => absurd h (by decide), fun _ => ⟨rfl, am_w481, am_w482⟩, by decide +kernel, by decide⟩
set_option maxRecDepth 20000 in
theorem am_m136 : am_MW 136 1 10 := ⟨⟨by decide +kernel, by decide +kernel⟩, by decide +kernel, by decide +kernel, am_w483, am_w1, fun h => absurd h (by decide), fun h => absurd h (by decide), fun _ => ⟨rfl, am_w484, am_w485⟩, by decide +kernel, by decide⟩
set_option maxRecDepth 20000 in
theorem am_m139 : am_MW 139 1 99 := ⟨⟨by decide +kernel, by decide +kernel⟩, by decide +kernel, by decide +kernel, am_w486, am_w1, fun _ => am_w487, fun h => absurd h (by decide), fun h => absurd h (by decide), by decide +kernel, by decide⟩
set_option maxRecDepth 20000 in
theorem am_m32 : am_MW 32 0 2 := ⟨⟨by decide +kernel, by decide +kernel⟩, by decide +kernel, by decide +kernel, am_w488, am_w247, fun h => absurd h (by decide), fun h => absurd h (by decide), fun _ => ⟨rfl, am_w489, am_w490⟩, by decide +kernel, by decide⟩
set_option maxRecDepth 20000 in
theorem am_m33 : am_MW 33 0 2 := ⟨⟨by decide +kernel, by decide +kernel⟩, by decide +kernel, by decide +kernel, am_w491, am_w247, fun h => absurd h (by decide), fun h => absurd h (by decide), fun _ => ⟨rfl, am_w492, am_w493⟩, by decide +kernel, by decide⟩
set_option maxRecDepth 20000 in
theorem am_m137 : am_MW 137 1 10 := ⟨⟨by decide +kernel, by decide +kernel⟩, by decide +kernel, by decide +kernel, am_w494, am_w1, fun h => absurd h (by decide), fun h => absurd h (by decide), fun _ => ⟨rfl, am_w495, am_w496⟩, by decide +kernel, by decide⟩
set_option maxRecDepth 20000 in
theorem am_m7 : am_MW 7 3 0 := ⟨⟨by decide +kernel, by decide +kernel⟩, by decide +kernel, by decide +kernel, am_w497, am_w237, fun h => absurd h (by decide), fun h => absurd h (by decide), fun _ => ⟨rfl, am_w498, am_w499⟩, by decide +kernel, by decide⟩
set_option maxRecDepth 20000 in
theorem am_m138 : am_MW 138 3 10 := ⟨⟨by decide +kernel, by decide +kernel⟩, by decide +kernel, by decide +kernel, am_w500, am_w1, fun h => absurd h (by decide), fun h => absurd h (by decide), fun _ => ⟨rfl, am_w501, am_w502⟩, by decide +kernel, by decide⟩
set_option maxRecDepth 20000 in
theorem am_m140 : am_MW 140 3 10 := ⟨⟨by decide +kernel, by decide +kernel⟩, by decide +kernel, by decide +kernel, am_w503, am_w1, fun h => absurd h (by decide), fun h => absurd h (by decide), fun _ => ⟨rfl, am_w504, am_w505⟩, by decide +kernel, by decide⟩
set_option maxRecDepth 20000 in
theorem am_m58 : am_MW 58 1 4 := ⟨⟨by decide +kernel, by decide +kernel⟩, by decide +kernel, by decide +kernel, am_w506, am_w378, fun h => absurd h (by decide), fun h => absurd h (by decide), fun _ => ⟨rfl, am_w507, am_w508⟩, by decide +kernel, by decide⟩
set_option maxRecDepth 20000 in
theorem am_m36 : am_MW 36 1 2 := ⟨⟨by decide +kernel, by decide +kernel⟩, by decide +kernel, by decide +kernel, am_w509, am_w247, fun h => absurd h (by decide), fun h => absurd h (by decide), fun _ => ⟨rfl, am_w510, am_w511⟩, by decide +kernel, by decide⟩
set_option maxRecDepth 20000 in
theorem am_m135 : am_MW 135 1 99 := ⟨⟨by decide +kernel, by decide +kernel⟩, by decide +kernel, by decide +kernel, am_w512, am_w1, fun _ => am_w513, fun h => absurd h (by decide), fun h => absurd h (by decide), by decide +kernel, by decide⟩
set_option maxRecDepth 20000 in
theorem am_m75 : am_MW 75 1 7 := ⟨⟨by decide +kernel, by decide +kernel⟩, by decide +kernel, by decide +kernel, am_w514, am_w391, fun h => absurd h (by decide), fun h => absurd h (by decide), fun _ => ⟨rfl, am_w515, am_w516⟩, by decide +kernel, by decide⟩
set_option maxRecDepth 20000 in
theorem am_m77 : am_MW 77 2 7 := ⟨⟨by decide +kernel, by decide +kernel⟩, by decide +kernel, by decide +kernel, am_w517, am_w391, fun h => absurd h (by decide), fun h => absurd h (by decide), fun _ => ⟨rfl, am_w518, am_w519⟩, by decide +kernel, by decide⟩
set_option maxRecDepth 20000 in
theorem am_m89 : am_MW 89 1 9 := ⟨⟨by decide +kernel, by decide +kernel⟩, by decide +kernel, by decide +kernel, am_w520, am_w410, fun h => absurd h (by decide), fun h => absurd h (by decide), fun _ => ⟨rfl, am_w521, am_w522⟩, by decide +kernel, by decide⟩
set_option maxRecDepth 20000 in
theorem am_m141 : am_MW 141 1 10 := ⟨⟨by decide +kernel, by decide +kernel⟩, by decide +kernel, by decide +kernel, am_w523, am_w1, fun h => absurd h (by decide), fun h => absurd h (by decide), fun _ => ⟨rfl, am_w524, am_w525⟩, by decide +kernel, by decide⟩
set_option maxRecDepth 20000 in
theorem am_m83 : am_MW 83 2 8 := ⟨⟨by decide +kernel, by decide +kernel⟩, by decide +kernel, by decide +kernel, am_w526, am_w414, fun h => absurd h (by decide), fun h => absurd h (by decide), fun _ => ⟨rfl, am_w527, am_w528⟩, by decide +kernel, by decide⟩
set_option maxRecDepth 20000 in
theorem am_m142 : am_MW 142 1 10 := ⟨⟨by decide +kernel, by decide +kernel⟩, by decide +kernel, by decide +kernel, am_w529, am_w1, fun h => absurd h (by decide), fun h => absurd h (by decide), fun _ => ⟨rfl, am_w530, am_w531⟩, by decide +kernel, by decide⟩
set_option maxRecDepth 20000 in
theorem am_m143 : am_MW 143 0 10 := ⟨⟨by decide +kernel, by decide +kernel⟩, by decide +kernel, by decide +kernel, am_w532, am_w1, fun h => absurd h (by decide), fun h => absurd h (by decide), fun _ => ⟨rfl, am_w533, am_w534⟩, by decide +kernel, by decide⟩
set_option maxRecDepth 20000 in
theorem am_m37 : am_MW 37 2 2 := ⟨⟨by decide +kernel, by decide +kernel⟩, by decide +kernel, by decide +kernel, am_w535, am_w247, fun h => absurd h (by decide), fun h => absurd h (by decide), fun _ => ⟨rfl, am_w536, am_w537⟩, by decide +kernel, by decide⟩
set_option maxRecDepth 20000 in
theorem am_m88 : am_MW 88 1 9 := ⟨⟨by decide +kernel, by decide +kernel⟩, by decide +kernel, by decide +kernel, am_w538, am_w410, fun h => absurd h (by decide), fun h => absurd h (by decide), fun _ => ⟨rfl, am_w539, am_w540⟩, by decide +kernel, by decide⟩
set_option maxRecDepth 20000 in
theorem am_m35 : am_MW 35 0 2 := ⟨⟨by decide +kernel, by decide +kernel⟩, by decide +kernel, by decide +kernel, am_w541, am_w247, fun h => absurd h (by decide), fun h => absurd h (by decide), fun _ => ⟨rfl, am_w542, am_w543⟩, by decide +kernel, by decide⟩
set_option maxRecDepth 20000 in
theorem am_m144 : am_MW 144 3 99 := ⟨⟨by decide +kernel, by decide +kernel⟩, by decide +kernel, by decide +kernel, am_w544, am_w4, fun _ => am_w545, fun h => absurd h (by decide), fun h => absurd h (by decide), by decide +kernel, by decide⟩
set_option maxRecDepth 20000 in
theorem am_m147 : am_MW 147 1 99 := ⟨⟨by decide +kernel, by decide +kernel⟩, by decide +kernel, by decide +kernel, am_w546, am_w4, fun _ => am_w547, fun h => absurd h (by decide), fun h => absurd h (by decide), by decide +kernel, by decide⟩
set_option maxRecDepth 20000 in
theorem am_m160 : am_MW 160 1 11 := ⟨⟨by decide +kernel, by decide +kernel⟩, by decide +kernel, by decide +kernel, am_w548, am_w4, fun h => absurd h (by decide), fun h => absurd h (by decide), fun _ => ⟨rfl, am_w549, am_w550⟩, by decide +kernel, by decide⟩
set_option maxRecDepth 20000 in
theorem am_m161 : am_MW 161 0 11 := ⟨⟨by decide +kernel, by decide +kernel⟩, by decide +kernel, by decide +kernel, am_w551, am_w4, fun h => absurd h (by decide), fun h => absurd h (by decide), fun _ => ⟨rfl, am_w552, am_w553⟩, by decide +kernel, by decide⟩
set_option maxRecDepth 20000 in
theorem am_m162 : am_MW 162 0 11 := ⟨⟨by decide +kernel, by decide +kernel⟩, by decide +kernel, by decide +kernel, am_w554, am_w4, fun h => absurd h (by decide), fun h => absurd h (by decide), fun _ => ⟨rfl, am_w555, am_w556⟩, by decide +kernel, by decide⟩
set_option maxRecDepth 20000 in
theorem am_m157 : am_MW 157 1 11 := ⟨⟨by decide +kernel, by decide +kernel⟩, by decide +kernel, by decide +kernel, am_w557, am_w4, fun h => absurd h (by decide), fun h => absurd h (by decide), fun _ => ⟨rfl, am_w558, am_w559⟩, by decide +kernel, by decide⟩
set_option maxRecDepth 20000 in
theorem am_m158 : am_MW 158 1 99 := ⟨⟨by decide +kernel, by decide +kernel⟩, by decide +kernel, by decide +kernel, am_w560, am_w4, fun _ => am_w561, fun h => absurd h (by decide), fun h => absurd h (by decide), by decide +kernel, by decide⟩
set_option maxRecDepth 20000 in
theorem am_m163 : am_MW 163 0 11 := ⟨⟨by decide +kernel, by decide +kernel⟩, by decide +kernel, by decide +kernel, am_w562, am_w4, fun h => absurd h (by decide), fun h => absurd h (by decide), fun _ => ⟨rfl, am_w563, am_w564⟩, by decide +kernel, by decide⟩
set_option maxRecDepth 20000 in
theorem am_m159 : am_MW 159 1 99 := ⟨⟨by decide +kernel, by decide +kernel⟩, by decide +kernel, by decide +kernel, am_w565, am_w4, fun _ => am_w566, fun h => absurd h (by decide), fun h => absurd h (by decide), by decide +kernel, by decide⟩
set_option maxRecDepth 20000 in
theorem am_m165 : am_MW 165 1 11 := ⟨⟨by decide +kernel, by decide +kernel⟩, by decide +kernel, by decide +kernel, am_w567, am_w4, fun h => absurd h (by decide), fun h => absurd h (by decide), fun _ => ⟨rfl, am_w568, am_w569⟩, by decide +kernel, by decide⟩
set_option maxRecDepth 20000 in
theorem am_m164 : am_MW 164 0 11 := ⟨⟨by decide +kernel, by decide +kernel⟩, by decide +kernel, by decide +kernel, am_w570, am_w4, fun h => absurd h (by decide), fun h => absurd h (by decide), fun _ => ⟨rfl, am_w571, am_w572⟩, by decide +kernel, by decide⟩
set_option maxRecDepth 20000 in
theorem am_m170 : am_MW 170 0 11 := ⟨⟨by decide +kernel, by decide +kernel⟩, by decide +kernel, by decide +kernel, am_w573, am_w4, fun h => absurd h (by decide), fun h => absurd h (by decide), fun _ => ⟨rfl, am_w574, am_w575⟩, by decide +kernel, by decide⟩
set_option maxRecDepth 20000 in
theorem am_m167 : am_MW 167 2 11 := ⟨⟨by decide +kernel, by decide +kernel⟩, by decide +kernel, by decide +kernel, am_w576, am_w4, fun h => absurd h (by decide), fun h => absurd h (by decide), fun _ => ⟨rfl, am_w577, am_w578⟩, by decide +kernel, by decide⟩
set_option maxRecDepth 20000 in
theorem am_m171 : am_MW 171 0 11 := ⟨⟨by decide +kernel, by decide +kernel⟩, by decide +kernel, by decide +kernel, am_w579, am_w4, fun h => absurd h (by decide), fun h => absurd h (by decide), fun _ => ⟨rfl, am_w580, am_w581⟩, by decide +kernel, by decide⟩
set_option maxRecDepth 20000 in
theorem am_m173 : am_MW 173 0 11 := ⟨⟨by decide +kernel, by decide +kernel⟩, by decide +kernel, by decide +kernel, am_w582, am_w4, fun h => absurd h (by decide), fun h => absurd h (by decide), fun _ => ⟨rfl, am_w583, am_w584⟩, by decide +kernel, by decide⟩
set_option maxRecDepth 20000 in
theorem am_m174 : am_MW 174 0 11 := ⟨⟨by decide +kernel, by decide +kernel⟩, by decide +kernel, by decide +kernel, am_w585, am_w4, fun h => absurd h (by decide), fun h => absurd h (by decide), fun _ => ⟨rfl, am_w586, am_w587⟩, by decide +kernel, by decide⟩
set_option maxRecDepth 20000 in
theorem am_m168 : am_MW 168 0 11 := ⟨⟨by decide +kernel, by decide +kernel⟩, by decide +kernel, by decide +kernel, am_w588, am_w4, fun h => absurd h (by decide), fun h => absurd h (by decide), fun _ => ⟨rfl, am_w589, am_w590⟩, by decide +kernel, by decide⟩
set_option maxRecDepth 20000 in
theorem am_m172 : am_MW 172 0 11 := ⟨⟨by decide +kernel, by decide +kernel⟩, by decide +kernel, by decide +kernel, am_w591, am_w4, fun h => absurd h (by decide), fun h => absurd h (by decide), fun _ => ⟨rfl, am_w592, am_w593⟩, by decide +kernel, by decide⟩
set_option maxRecDepth 20000 in
theorem am_m166 : am_MW 166 1 11 := ⟨⟨by decide +kernel, by decide +kernel⟩, by decide +kernel, by decide +kernel, am_w594, am_w4, fun h => absurd h (by decide), fun h => absurd h (by decide), fun _ => ⟨rfl, am_w595, am_w596⟩, by decide +kernel, by decide⟩
set_option maxRecDepth 20000 in
theorem am_m169 : am_MW 169 0 11 := ⟨⟨by decide +kernel, by decide +kernel⟩, by decide +kernel, by decide +kernel, am_w597, am_w4, fun h => absurd h (by decide), fun h => absurd h (by decide), fun _ => ⟨rfl, am_w598, am_w599⟩, by decide +kernel, by decide⟩
set_option maxRecDepth 20000 in
theorem am_m175 : am_MW 175 0 11 := ⟨⟨by decide +kernel, by decide +kernel⟩, by decide +kernel, by decide +kernel, am_w600, am_w4, fun h => absurd h (by decide), fun h => absurd h (by decide), fun _ => ⟨rfl, am_w601, am_w602⟩, by decide +kernel, by decide⟩
set_option maxRecDepth 20000 in
theorem am_m178 : am_MW 178 3 99 := ⟨⟨by decide +kernel, by decide +kernel⟩, by decide +kernel, by decide +kernel, am_w603, am_w4, fun _ => am_w604, fun h => absurd h (by decide), fun h => absurd h (by decide), by decide +kernel, by decide⟩
set_option maxRecDepth 20000 in
theorem am_m179 : am_MW 179 3 11 := ⟨⟨by decide +kernel, by decide +kernel⟩, by decide +kernel, by decide +kernel, am_w605, am_w4, fun h => absurd h (by decide), fun h => absurd h (by decide), fun _ => ⟨rfl, am_w606, am_w607⟩, by decide +kernel, by decide⟩
set_option maxRecDepth 20000 in
theorem am_m181 : am_MW 181 2 11 := ⟨⟨by decide +kernel, by decide +kernel⟩, by decide +kernel, by decide +kernel, am_w608, am_w4, fun h => absurd h (by decide), fun h => absurd h (by decide), fun _ => ⟨rfl, am_w609, am_w610⟩, by decide +kernel, by decide⟩
set_option maxRecDepth 20000 in
theorem am_m182 : am_MW 182 2 11 := ⟨⟨by decide +kernel, by decide +kernel⟩, by decide +kernel, by decide +kernel, am_w611, am_w4, fun h => absurd h (by decide), fun h => absurd h (by decide), fun _ => ⟨rfl, am_w612, am_w613⟩, by decide +kernel, by decide⟩
set_option maxRecDepth 20000 in
theorem am_m154 : am_MW 154 2 11 := ⟨⟨by decide +kernel, by decide +kernel⟩, by decide +kernel, by decide +kernel, am_w614, am_w4, fun h => absurd h (by decide), fun h => absurd h (by decide), fun _ => ⟨rfl, am_w615, am_w616⟩, by decide +kernel, by decide⟩
set_option maxRecDepth 20000 in
theorem am_m184 : am_MW 184 2 11 := ⟨⟨by decide +kernel, by decide +kernel⟩, by decide +kernel, by decide +kernel, am_w617, am_w4, fun h => absurd h (by decide), fun h => absurd h (by decide), fun _ => ⟨rfl, am_w618, am_w619⟩, by decide +kernel, by decide⟩
set_option maxRecDepth 20000 in
theorem am_m183 : am_MW 183 6 11 := ⟨⟨by decide +kernel, by decide +kernel⟩, by decide +kernel, by decide +kernel, am_w620, am_w4, fun h => absurd h (by decide), fun h => absurd h (by decide), fun _ => ⟨rfl, am_w621, am_w622⟩, by decide +kernel, by decide⟩
set_option maxRecDepth 20000 in
theorem am_m186 : am_MW 186 2 11 := ⟨⟨by decide +kernel, by decide +kernel⟩, by decide +kernel, by decide +kernel, am_w623, am_w4, fun h => absurd h (by decide), fun h => absurd h (by decide), fun _ => ⟨rfl, am_w624, am_w625⟩, by decide +kernel, by decide⟩
set_option maxRecDepth 20000 in
theorem am_m148 : am_MW 148 1 99 := ⟨⟨by decide +kernel, by decide +kernel⟩, by decide +kernel, by decide +kernel, am_w626, am_w4, fun _ => am_w627, fun h => absurd h (by decide), fun h => absurd h (by decide), by decide +kernel, by decide⟩
set_option maxRecDepth 20000 in
theorem am_m152 : am_MW 152 1 11 := ⟨⟨by decide +kernel, by decide +kernel⟩, by decide +kernel, by decide +kernel, am_w628, am_w4, fun h => absurd h (by decide), fun h => absurd h (by decide), fun _ => ⟨rfl, am_w629, am_w630⟩, by decide +kernel, by decide⟩
set_option maxRecDepth 20000 in
theorem am_m187 : am_MW 187 2 11 := ⟨⟨by decide +kernel, by decide +kernel⟩, by decide +kernel, by decide +kernel, am_w631, am_w4, fun h => absurd h (by decide), fun h => absurd h (by decide), fun _ => ⟨rfl, am_w632, am_w633⟩, by decide +kernel, by decide⟩
set_option maxRecDepth 20000 in
theorem am_m180 : am_MW 180 2 11 := ⟨⟨by decide +kernel, by decide +kernel⟩, by decide +kernel, by decide +kernel, am_w634, am_w4, fun h => absurd h (by decide), fun h => absurd h (by decide), fun _ => ⟨rfl, am_w635, am_w636⟩, by decide +kernel, by decide⟩
set_option maxRecDepth 20000 in
theorem am_m188 : am_MW 188 5 11 := ⟨⟨by decide +kernel, by decide +kernel⟩, by decide +kernel, by decide +kernel, am_w637, am_w4, fun h => absurd h (by decide), fun h => absurd h (by decide), fun _ => ⟨rfl, am_w638, am_w639⟩, by decide +kernel, by decide⟩
set_option maxRecDepth 20000 in
theorem am_m194 : am_MW 194 1 11 := ⟨⟨by decide +kernel, by decide +kernel⟩, by decide +kernel, by decide +kernel, am_w640, am_w4, fun h => absurd h (by decide), fun h => absurd h (by decide), fun _ => ⟨rfl, am_w641, am_w642⟩, by decide +kernel, by decide⟩
set_option maxRecDepth 20000 in
theorem am_m196 : am_MW 196 1 11 := ⟨⟨by decide +kernel, by decide +kernel⟩, by decide +kernel, by decide +kernel, am_w643, am_w4, fun h => absurd h (by decide), fun h => absurd h (by decide), fun _ => ⟨rfl, am_w644, am_w645⟩, by decide +kernel, by decide⟩
set_option maxRecDepth 20000 in
theorem am_m197 : am_MW 197 1 11 := ⟨⟨by decide +kernel, by decide +kernel⟩, by decide +kernel, by decide +kernel, am_w646, am_w4, fun h => absurd h (by decide), fun h => absurd h (by decide), fun _ => ⟨rfl, am_w647, am_w648⟩, by decide +kernel, by decide⟩
set_option maxRecDepth 20000 in
theorem am_m200 : am_MW 200 1 11 := ⟨⟨by decide +kernel, by decide +kernel⟩, by decide +kernel, by decide +kernel, am_w649, am_w4, fun h => absurd h (by decide), fun h => absurd h (by decide), fun _ => ⟨rfl, am_w650, am_w651⟩, by decide +kernel, by decide⟩
set_option maxRecDepth 20000 in
theorem am_m201 : am_MW 201 1 11 := ⟨⟨by decide +kernel, by decide +kernel⟩, by decide +kernel, by decide +kernel, am_w652, am_w4, fun h => absurd h (by decide), fun h => absurd h (by decide), fun _ => ⟨rfl, am_w653, am_w654⟩, by decide +kernel, by decide⟩
set_option maxRecDepth 20000 in
theorem am_m203 : am_MW 203 2 11 := ⟨⟨by decide +kernel, by decide +kernel⟩, by decide +kernel, by decide +kernel, am_w655, am_w4, fun h => absurd h (by decide), fun h => absurd h (by decide), fun _ => ⟨rfl, am_w656, am_w657⟩, by decide +kernel, by decide⟩
set_option maxRecDepth 20000 in
theorem am_m204 : am_MW 204 3 11 := ⟨⟨by decide +kernel, by decide +kernel⟩, by decide +kernel, by decide +kernel, am_w658, am_w4, fun h => absurd h (by decide), fun h => absurd h (by decide), fun _ => ⟨rfl, am_w659, am_w660⟩, by decide +kernel, by decide⟩
set_option maxRecDepth 20000 in
theorem am_m185 : am_MW 185 3 11 := ⟨⟨by decide +kernel, by decide +kernel⟩, by decide +kernel, by decide +kernel, am_w661, am_w4, fun h => absurd h (by decide), fun h => absurd h (by decide), fun _ => ⟨rfl, am_w662, am_w663⟩, by decide +kernel, by decide⟩
set_option maxRecDepth 20000 in
theorem am_m153 : am_MW 153 1 11 := ⟨⟨by decide +kernel, by decide +kernel⟩, by decide +kernel, by decide +kernel, am_w664, am_w4, fun h => absurd h (by decide), fun h => absurd h (by decide), fun _ => ⟨rfl, am_w665, am_w666⟩, by decide +kernel, by decide⟩
set_option maxRecDepth 20000 in
theorem am_m205 : am_MW 205 2 11 := ⟨⟨by decide +kernel, by decide +kernel⟩, by decide +kernel, by decide +kernel, am_w667, am_w4, fun h => absurd h (by decide), fun h => absurd h (by decide), fun _ => ⟨rfl, am_w668, am_w669⟩, by decide +kernel, by decide⟩
set_option maxRecDepth 20000 in
theorem am_m206 : am_MW 206 1 11 := ⟨⟨by decide +kernel, by decide +kernel⟩, by decide +kernel, by decide +kernel, am_w670, am_w4, fun h => absurd h (by decide), fun h => absurd h (by decide), fun _ => ⟨rfl, am_w671, am_w672⟩, by decide +kernel, by decide⟩
set_option maxRecDepth 20000 in
theorem am_m207 : am_MW 207 1 11 := ⟨⟨by decide +kernel, by decide +kernel⟩, by decide +kernel, by decide +kernel, am_w673, am_w4, fun h => absurd h (by decide), fun h => absurd h (by decide), fun _ => ⟨rfl, am_w674, am_w675⟩, by decide +kernel, by decide⟩
set_option maxRecDepth 20000 in
theorem am_m220 : am_MW 220 2 11 := ⟨⟨by decide +kernel, by decide +kernel⟩, by decide +kernel, by decide +kernel, am_w676, am_w4, fun h => absurd h (by decide), fun h => absurd h (by decide), fun _ => ⟨rfl, am_w677, am_w678⟩, by decide +kernel, by decide⟩
set_option maxRecDepth 20000 in
theorem am_m210 : am_MW 210 1 11 := ⟨⟨by decide +kernel, by decide +kernel⟩, by decide +kernel, by decide +kernel, am_w679, am_w4, fun h => absurd h (by decide), fun h => absurd h (by decide), fun _ => ⟨rfl, am_w680, am_w681⟩, by decide +kernel, by decide⟩
set_option maxRecDepth 20000 in
theorem am_m209 : am_MW 209 3 11 := ⟨⟨by decide +kernel, by decide +kernel⟩, by decide +kernel, by decide +kernel, am_w682, am_w4, fun h => absurd h (by decide), fun h => absurd h (by decide), fun _ => ⟨rfl, am_w683, am_w684⟩, by decide +kernel, by decide⟩
set_option maxRecDepth 20000 in
theorem am_m212 : am_MW 212 4 11 := ⟨⟨by decide +kernel, by decide +kernel⟩, by decide +kernel, by decide +kernel, am_w685, am_w4, fun h => absurd h (by decide), fun h => absurd h (by decide), fun _ => ⟨rfl, am_w686, am_w687⟩, by decide +kernel, by decide⟩
set_option maxRecDepth 20000 in
theorem am_m213 : am_MW 213 5 11 := ⟨⟨by decide +kernel, by decide +kernel⟩, by decide +kernel, by decide +kernel, am_w688, am_w4, fun h => absurd h (by decide), fun h => absurd h (by decide), fun _ => ⟨rfl, am_w689, am_w690⟩, by decide +kernel, by decide⟩
set_option maxRecDepth 20000 in
theorem am_m145 : am_MW 145 2 99 := ⟨⟨by decide +kernel, by decide +kernel⟩, by decide +kernel, by decide +kernel, am_w691, am_w4, fun _ => am_w692, fun h => absurd h (by decide), fun h => absurd h (by decide), by decide +kernel, by decide⟩
set_option maxRecDepth 20000 in
theorem am_m218 : am_MW 218 1 11 := ⟨⟨by decide +kernel, by decide +kernel⟩, by decide +kernel, by decide +kernel, am_w693, am_w4, fun h => absurd h (by decide), fun h => absurd h (by decide), fun _ => ⟨rfl, am_w694, am_w695⟩, by decide +kernel, by decide⟩
set_option maxRecDepth 20000 in
theorem am_m219 : am_MW 219 2 11 := ⟨⟨by decide +kernel, by decide +kernel⟩, by decide +kernel, by decide +kernel, am_w696, am_w4, fun h => absurd h (by decide), fun h => absurd h (by decide), fun _ => ⟨rfl, am_w697, am_w698⟩, by decide +kernel, by decide⟩
set_option maxRecDepth 20000 in
theorem am_m223 : am_MW 223 1 99 := ⟨⟨by decide +kernel, by decide +kernel⟩, by decide +kernel, by decide +kernel, am_w699, am_w4, fun _ => am_w700, fun h => absurd h (by decide), fun h => absurd h (by decide), by decide +kernel, by decide⟩
set_option maxRecDepth 20000 in
theorem am_m227 : am_MW 227 1 11 := ⟨⟨by decide +kernel, by decide +kernel⟩, by decide +kernel, by decide +kernel, am_w701, am_w4, fun h => absurd h (by decide), fun h => absurd h (by decide), fun _ => ⟨rfl, am_w702, am_w703⟩, by decide +kernel, by decide⟩
set_option maxRecDepth 20000 in
theorem am_m228 : am_MW 228 0 11 := ⟨⟨by decide +kernel, by decide +kernel⟩, by decide +kernel, by decide +kernel, am_w704, am_w4, fun h => absurd h (by decide), fun h => absurd h (by decide), fun _ => ⟨rfl, am_w705, am_w706⟩, by decide +kernel, by decide⟩
set_option maxRecDepth 20000 in
theorem am_m229 : am_MW 229 2 11 := ⟨⟨by decide +kernel, by decide +kernel⟩, by decide +kernel, by decide +kernel, am_w707, am_w4, fun h => absurd h (by decide), fun h => absurd h (by decide), fun _ => ⟨rfl, am_w708, am_w709⟩, by decide +kernel, by decide⟩
set_option maxRecDepth 20000 in
theorem am_m233 : am_MW 233 2 11 := ⟨⟨by decide +kernel, by decide +kernel⟩, by decide +kernel, by decide +kernel, am_w710, am_w4, fun h => absurd h (by decide), fun h => absurd h (by decide), fun _ => ⟨rfl, am_w711, am_w712⟩, by decide +kernel, by decide⟩
set_option maxRecDepth 20000 in
theorem am_m245 : am_MW 245 0 20 := ⟨⟨by decide +kernel, by decide +kernel⟩, by decide +kernel, by decide +kernel, am_w713, am_w359, fun h => absurd h (by decide), fun h => absurd h (by decide), fun _ => ⟨rfl, am_w714, am_w715⟩, by decide +kernel, by decide⟩
set_option maxRecDepth 20000 in
theorem am_m246 : am_MW 246 0 20 := ⟨⟨by decide +kernel, by decide +kernel⟩, by decide +kernel, by decide +kernel, am_w716, am_w359, fun h => absurd h (by decide), fun h => absurd h (by decide), fun _ => ⟨rfl, am_w717, am_w718⟩, by decide +kernel, by decide⟩
set_option maxRecDepth 20000 in
theorem am_m248 : am_MW 248 2 99 := ⟨⟨by decide +kernel, by decide +kernel⟩, by decide +kernel, by decide +kernel, am_w719, am_w720, fun _ => am_w721, fun h => absurd h (by decide), fun h => absurd h (by decide), by decide +kernel, by decide⟩
set_option maxRecDepth 20000 in
theorem am_m244 : am_MW 244 2 20 := ⟨⟨by decide +kernel, by decide +kernel⟩, by decide +kernel, by decide +kernel, am_w722, am_w359, fun h => absurd h (by decide), fun h => absurd h (by decide), fun _ => ⟨rfl, am_w723, am_w724⟩, by decide +kernel, by decide⟩
set_option maxRecDepth 20000 in
theorem am_m250 : am_MW 250 4 99 := ⟨⟨by decide +kernel, by decide +kernel⟩, by decide +kernel, by decide +kernel, am_w725, am_w720, fun _ => am_w726, fun h => absurd h (by decide), fun h => absurd h (by decide), by decide +kernel, by decide⟩
set_option maxRecDepth 20000 in
theorem am_m252 : am_MW 252 3 99 := ⟨⟨by decide +kernel, by decide +kernel⟩, by decide +kernel, by decide +kernel, am_w727, am_w728, fun _ => am_w729, fun h => absurd h (by decide), fun h => absurd h (by decide), by decide +kernel, by decide⟩
set_option maxRecDepth 20000 in
theorem am_m247 : am_MW 247 2 99 := ⟨⟨by decide +kernel, by decide +kernel⟩, by decide +kernel, by decide +kernel, am_w730, am_w359, fun _ => am_w731, fun h => absurd h (by decide), fun h => absurd h (by decide), by decide +kernel, by decide⟩
set_option maxRecDepth 20000 in
theorem am_m249 : am_MW 249 1 99 := ⟨⟨by decide +kernel, by decide +kernel⟩, by decide +kernel, by decide +kernel, am_w732, am_w720, fun _ => am_w733, fun h => absurd h (by decide), fun h => absurd h (by decide), by decide +kernel, by decide⟩
set_option maxRecDepth 20000 in
theorem am_m251 : am_MW 251 4 99 := ⟨⟨by decide +kernel, by decide +kernel⟩, by decide +kernel, by decide +kernel, am_w734, am_w720, fun _ => am_w735, fun h => absurd h (by decide), fun h => absurd h (by decide), by decide +kernel, by decide⟩
def am_PL (l : List (Nat × Nat × am_R)) : Prop := ∀ e ∈ l, am_PW am_t (am_cn e.1) e.2.1 e.2.2
theorem am_PL0 : am_PL [] := fun e h => by cases h
theorem am_PLc {a b : Nat} {r : am_R} {l : List (Nat × Nat × am_R)} (h : am_PW am_t (am_cn a) b r) (hl : am_PL l) : am_PL ((a, b, r) :: l) := fun e he => by
  rcases List.mem_cons.mp he with he | he
  · rw [he]; exact h
  · exact hl e he
theorem am_e0_0 : am_PW am_t (am_cn 0) 3 (8, 0, 0, 0) := ⟨am_w816, am_w817, am_w818⟩
theorem am_e0_1 : am_PW am_t (am_cn 0) 9 (0, 0, 0, 2) := ⟨RX0, TX0, 6, tyX0 0, rfl, by decide, by decide, rfl, am_w819, tyX0_ok 0 (by decide), fun h => absurd h (by decide), fun h => absurd h (by decide), fun _ => Or.inr ⟨_, rfl⟩⟩
theorem am_e0_2 : am_PW am_t (am_cn 0) 15 (0, 0, 1, 2) := ⟨RX0, TX0, 6, tyX0 1, rfl, by decide, by decide, rfl, am_w820, tyX0_ok 1 (by decide), fun h => absurd h (by decide), fun h => absurd h (by decide), fun _ => Or.inr ⟨_, rfl⟩⟩
theorem am_e0_3 : am_PW am_t (am_cn 0) 18 (0, 0, 2, 2) := ⟨RX0, TX0, 6, tyX0 2, rfl, by decide, by decide, rfl, am_w821, tyX0_ok 2 (by decide), fun h => absurd h (by decide), fun h => absurd h (by decide), fun _ => Or.inr ⟨_, rfl⟩⟩
theorem am_e0_4 : am_PW am_t (am_cn 0) 21 (0, 0, 3, 2) := ⟨RX0, TX0, 6, tyX0 3, rfl, by decide, by decide, rfl, am_w822, tyX0_ok 3 (by decide), fun h => absurd h (by decide), fun h => absurd h (by decide), fun _ => Or.inr ⟨_, rfl⟩⟩
theorem am_e0_5 : am_PW am_t (am_cn 0) 24 (10, 0, 0, 0) := am_w823
theorem am_e0_6 : am_PW am_t (am_cn 0) 26 (0, 0, 4, 2) := ⟨RX0, TX0, 6, tyX0 4, rfl, by decide, by decide, rfl, am_w824, tyX0_ok 4 (by decide), fun h => absurd h (by decide), fun h => absurd h (by decide), fun _ => Or.inr ⟨_, rfl⟩⟩
theorem am_e0_7 : am_PW am_t (am_cn 0) 30 (0, 0, 5, 0) := ⟨RX0, TX0, 6, tyX0 5, rfl, by decide, by decide, rfl, am_w825, tyX0_ok 5 (by decide), fun _ => rfl, fun h => absurd h (by decide), fun h => absurd h (by decide)⟩
theorem am_e0_8 : am_PW am_t (am_cn 0) 24 (2, 5, 0, 0) := ⟨RX5, TX5, 8, rfl, am_w823, am_w826, am_w229⟩
theorem am_e0_9 : am_PW am_t (am_cn 0) 34 (1, 60, 0, 98) := am_PW1 am_m60 (Or.inr ⟨_, rfl, by decide +kernel⟩)
theorem am_e0_10 : am_PW am_t (am_cn 0) 35 (7, 0, 0, 0) := ⟨am_w827, am_w828, am_w829, am_w830⟩
theorem am_e0_11 : am_PW am_t (am_cn 0) 41 (1, 66, 1, 5) := am_PW1 am_m66 (Or.inl am_w831)
theorem am_e0_12 : am_PW am_t (am_cn 0) 45 (1, 133, 1, 99) := am_PW1 am_m133 (Or.inr ⟨_, rfl, by decide +kernel⟩)
theorem am_e0_13 : am_PW am_t (am_cn 0) 49 (1, 6, 2, 0) := am_PW1 am_m6 (Or.inl am_w832)
theorem am_e0_14 : am_PW am_t (am_cn 0) 53 (1, 4, 1, 0) := am_PW1 am_m4 (Or.inl am_w833)
theorem am_e0_15 : am_PW am_t (am_cn 0) 56 (1, 3, 1, 0) := am_PW1 am_m3 (Or.inl am_w834)
set_option maxRecDepth 20000 in
theorem am_pok0 : am_PL am_p0 := am_PLc am_e0_0 (am_PLc am_e0_1 (am_PLc am_e0_2 (am_PLc am_e0_3 (am_PLc am_e0_4 (am_PLc am_e0_5 (am_PLc am_e0_6 (am_PLc am_e0_7 (am_PLc am_e0_8 (am_PLc am_e0_9 (am_PLc am_e0_10 (am_PLc am_e0_11 (am_PLc am_e0_12 (am_PLc am_e0_13 (am_PLc am_e0_14 (am_PLc am_e0_15 (am_PL0))))))))))))))))
theorem am_e1_0 : am_PW am_t (am_cn 1) 3 (8, 0, 0, 0) := ⟨am_w835, am_w817, am_w818⟩
theorem am_e1_1 : am_PW am_t (am_cn 1) 9 (0, 1, 0, 2) := ⟨RX1, TX1, 2, tyX1 0, rfl, by decide, by decide, rfl, am_w836, tyX1_ok 0 (by decide), fun h => absurd h (by decide), fun h => absurd h (by decide), fun _ => Or.inr ⟨_, rfl⟩⟩
theorem am_e1_2 : am_PW am_t (am_cn 1) 15 (0, 1, 1, 0) := ⟨RX1, TX1, 2, tyX1 1, rfl, by decide, by decide, rfl, am_w837, tyX1_ok 1 (by decide), fun _ => rfl, fun h => absurd h (by decide), fun h => absurd h (by decide)⟩
theorem am_e1_3 : am_PW am_t (am_cn 1) 19 (7, 0, 0, 0) := ⟨am_w838, am_w828, am_w829, am_w830⟩
set_option maxRecDepth 20000 in
theorem am_pok1 : am_PL am_p1 := am_PLc am_e1_0 (am_PLc am_e1_1 (am_PLc am_e1_2 (am_PLc am_e1_3 (am_PL0))))
theorem am_e2_0 : am_PW am_t (am_cn 2) 3 (8, 0, 0, 0) := ⟨am_w839, am_w817, am_w818⟩
theorem am_e2_1 : am_PW am_t (am_cn 2) 9 (0, 2, 2, 2) := ⟨RX2, TX2, 10, tyX2 2, rfl, by decide, by decide, rfl, am_w840, tyX2_ok 2 (by decide), fun h => absurd h (by decide), fun h => absurd h (by decide), fun _ => Or.inr ⟨_, rfl⟩⟩
theorem am_e2_2 : am_PW am_t (am_cn 2) 15 (0, 2, 3, 2) := ⟨RX2, TX2, 10, tyX2 3, rfl, by decide, by decide, rfl, am_w841, tyX2_ok 3 (by decide), fun h => absurd h (by decide), fun h => absurd h (by decide), fun _ => Or.inr ⟨_, rfl⟩⟩
theorem am_e2_3 : am_PW am_t (am_cn 2) 18 (0, 2, 4, 2) := ⟨RX2, TX2, 10, tyX2 4, rfl, by decide, by decide, rfl, am_w842, tyX2_ok 4 (by decide), fun h => absurd h (by decide), fun h => absurd h (by decide), fun _ => Or.inr ⟨_, rfl⟩⟩
theorem am_e2_4 : am_PW am_t (am_cn 2) 21 (0, 2, 5, 2) := ⟨RX2, TX2, 10, tyX2 5, rfl, by decide, by decide, rfl, am_w843, tyX2_ok 5 (by decide), fun h => absurd h (by decide), fun h => absurd h (by decide), fun _ => Or.inr ⟨_, rfl⟩⟩
theorem am_e2_5 : am_PW am_t (am_cn 2) 24 (0, 2, 6, 2) := ⟨RX2, TX2, 10, tyX2 6, rfl, by decide, by decide, rfl, am_w844, tyX2_ok 6 (by decide), fun h => absurd h (by decide), fun h => absurd h (by decide), fun _ => Or.inr ⟨_, rfl⟩⟩
theorem am_e2_6 : am_PW am_t (am_cn 2) 27 (0, 2, 7, 2) := ⟨RX2, TX2, 10, tyX2 7, rfl, by decide, by decide, rfl, am_w845, tyX2_ok 7 (by decide), fun h => absurd h (by decide), fun h => absurd h (by decide), fun _ => Or.inr ⟨_, rfl⟩⟩
theorem am_e2_7 : am_PW am_t (am_cn 2) 30 (0, 2, 0, 2) := ⟨RX2, TX2, 10, tyX2 0, rfl, by decide, by decide, rfl, am_w846, tyX2_ok 0 (by decide), fun h => absurd h (by decide), fun h => absurd h (by decide), fun _ => Or.inl ⟨_, rfl⟩⟩
theorem am_e2_8 : am_PW am_t (am_cn 2) 34 (0, 2, 1, 2) := ⟨RX2, TX2, 10, tyX2 1, rfl, by decide, by decide, rfl, am_w847, tyX2_ok 1 (by decide), fun h => absurd h (by decide), fun h => absurd h (by decide), fun _ => Or.inl ⟨_, rfl⟩⟩
theorem am_e2_9 : am_PW am_t (am_cn 2) 38 (0, 2, 8, 0) := ⟨RX2, TX2, 10, tyX2 8, rfl, by decide, by decide, rfl, am_w848, tyX2_ok 8 (by decide), fun _ => rfl, fun h => absurd h (by decide), fun h => absurd h (by decide)⟩
theorem am_e2_10 : am_PW am_t (am_cn 2) 42 (0, 2, 9, 0) := ⟨RX2, TX2, 10, tyX2 9, rfl, by decide, by decide, rfl, am_w849, tyX2_ok 9 (by decide), fun _ => rfl, fun h => absurd h (by decide), fun h => absurd h (by decide)⟩
theorem am_e2_11 : am_PW am_t (am_cn 2) 45 (7, 0, 0, 0) := ⟨am_w850, am_w828, am_w829, am_w830⟩
theorem am_e2_12 : am_PW am_t (am_cn 2) 51 (1, 13, 2, 2) := am_PW1 am_m13 (Or.inl am_w851)
theorem am_e2_13 : am_PW am_t (am_cn 2) 55 (1, 16, 3, 2) := am_PW1 am_m16 (Or.inl am_w852)
theorem am_e2_14 : am_PW am_t (am_cn 2) 59 (1, 18, 2, 2) := am_PW1 am_m18 (Or.inl am_w853)
theorem am_e2_15 : am_PW am_t (am_cn 2) 62 (1, 17, 1, 2) := am_PW1 am_m17 (Or.inl am_w854)
theorem am_e2_16 : am_PW am_t (am_cn 2) 66 (1, 5, 2, 0) := am_PW1 am_m5 (Or.inl am_w855)
theorem am_e2_17 : am_PW am_t (am_cn 2) 72 (1, 6, 2, 0) := am_PW1 am_m6 (Or.inl am_w856)
theorem am_e2_18 : am_PW am_t (am_cn 2) 75 (1, 20, 2, 2) := am_PW1 am_m20 (Or.inl am_w857)
theorem am_e2_19 : am_PW am_t (am_cn 2) 78 (3, 999999, 0, 0) := am_eqc (by decide +kernel) am_w858
theorem am_e2_20 : am_PW am_t (am_cn 2) 79 (0, 0, 4, 2) := ⟨RX0, TX0, 6, tyX0 4, rfl, by decide, by decide, rfl, am_w859, tyX0_ok 4 (by decide), fun h => absurd h (by decide), fun h => absurd h (by decide), fun _ => Or.inr ⟨_, rfl⟩⟩
theorem am_e2_21 : am_PW am_t (am_cn 2) 83 (1, 67, 2, 5) := am_PW1 am_m67 (Or.inl am_w860)
theorem am_e2_22 : am_PW am_t (am_cn 2) 89 (12, 0, 0, 0) := ⟨am_w861, am_w862, am_w863, am_eqco (by decide +kernel) am_w864⟩
theorem am_e2_23 : am_PW am_t (am_cn 2) 94 (11, 0, 0, 0) := ⟨am_w865, am_w866, am_w863, am_eqco (by decide +kernel) am_w867⟩
theorem am_e2_24 : am_PW am_t (am_cn 2) 97 (1, 9, 6, 1) := am_PW1 am_m9 (Or.inl am_w868)
theorem am_e2_25 : am_PW am_t (am_cn 2) 103 (1, 21, 6, 2) := am_PW1 am_m21 (Or.inl am_w869)
theorem am_e2_26 : am_PW am_t (am_cn 2) 107 (1, 14, 3, 2) := am_PW1 am_m14 (Or.inl am_w870)
theorem am_e2_27 : am_PW am_t (am_cn 2) 111 (1, 22, 5, 2) := am_PW1 am_m22 (Or.inl am_w871)
theorem am_e2_28 : am_PW am_t (am_cn 2) 115 (1, 25, 0, 2) := am_PW1 am_m25 (Or.inl am_w872)
theorem am_e2_29 : am_PW am_t (am_cn 2) 118 (1, 3, 1, 0) := am_PW1 am_m3 (Or.inl am_w873)
theorem am_e2_30 : am_PW am_t (am_cn 2) 121 (1, 26, 0, 2) := am_PW1 am_m26 (Or.inl am_w874)
theorem am_e2_31 : am_PW am_t (am_cn 2) 124 (1, 27, 2, 2) := am_PW1 am_m27 (Or.inl am_w875)
theorem am_e2_32 : am_PW am_t (am_cn 2) 127 (1, 29, 1, 2) := am_PW1 am_m29 (Or.inl am_w876)
theorem am_e2_33 : am_PW am_t (am_cn 2) 130 (1, 4, 1, 0) := am_PW1 am_m4 (Or.inl am_w877)
theorem am_e2_34 : am_PW am_t (am_cn 2) 133 (1, 15, 1, 2) := am_PW1 am_m15 (Or.inl am_w878)
theorem am_e2_35 : am_PW am_t (am_cn 2) 136 (1, 28, 3, 2) := am_PW1 am_m28 (Or.inl am_w879)
theorem am_e2_36 : am_PW am_t (am_cn 2) 139 (1, 19, 2, 2) := am_PW1 am_m19 (Or.inl am_w880)
theorem am_e2_37 : am_PW am_t (am_cn 2) 142 (1, 34, 1, 2) := am_PW1 am_m34 (Or.inl am_w881)
set_option maxRecDepth 20000 in
theorem am_pok2 : am_PL am_p2 := am_PLc am_e2_0 (am_PLc am_e2_1 (am_PLc am_e2_2 (am_PLc am_e2_3 (am_PLc am_e2_4 (am_PLc am_e2_5 (am_PLc am_e2_6 (am_PLc am_e2_7 (am_PLc am_e2_8 (am_PLc am_e2_9 (am_PLc am_e2_10 (am_PLc am_e2_11 (am_PLc am_e2_12 (am_PLc am_e2_13 (am_PLc am_e2_14 (am_PLc am_e2_15 (am_PLc am_e2_16 (am_PLc am_e2_17 (am_PLc am_e2_18 (am_PLc am_e2_19 (am_PLc am_e2_20 (am_PLc am_e2_21 (am_PLc am_e2_22 (am_PLc am_e2_23 (am_PLc am_e2_24 (am_PLc am_e2_25 (am_PLc am_e2_26 (am_PLc am_e2_27 (am_PLc am_e2_28 (am_PLc am_e2_29 (am_PLc am_e2_30 (am_PLc am_e2_31 (am_PLc am_e2_32 (am_PLc am_e2_33 (am_PLc am_e2_34 (am_PLc am_e2_35 (am_PLc am_e2_36 (am_PLc am_e2_37 (am_PL0))))))))))))))))))))))))))))))))))))))
theorem am_e3_0 : am_PW am_t (am_cn 3) 3 (8, 0, 0, 0) := ⟨am_w882, am_w817, am_w818⟩
theorem am_e3_1 : am_PW am_t (am_cn 3) 9 (2, 5, 0, 0) := ⟨RX5, TX5, 8, rfl, am_w883, am_w826, am_w229⟩
theorem am_e3_2 : am_PW am_t (am_cn 3) 11 (1, 60, 0, 98) := am_PW1 am_m60 (Or.inr ⟨_, rfl, by decide +kernel⟩)
theorem am_e3_3 : am_PW am_t (am_cn 3) 12 (0, 3, 0, 2) := ⟨RX3, TX3, 9, tyX3 0, rfl, by decide, by decide, rfl, am_w884, tyX3_ok 0 (by decide), fun h => absurd h (by decide), fun h => absurd h (by decide), fun _ => Or.inl ⟨_, rfl⟩⟩
theorem am_e3_4 : am_PW am_t (am_cn 3) 18 (0, 3, 1, 2) := ⟨RX3, TX3, 9, tyX3 1, rfl, by decide, by decide, rfl, am_w885, tyX3_ok 1 (by decide), fun h => absurd h (by decide), fun h => absurd h (by decide), fun _ => Or.inr ⟨_, rfl⟩⟩
theorem am_e3_5 : am_PW am_t (am_cn 3) 22 (0, 3, 2, 2) := ⟨RX3, TX3, 9, tyX3 2, rfl, by decide, by decide, rfl, am_w886, tyX3_ok 2 (by decide), fun h => absurd h (by decide), fun h => absurd h (by decide), fun _ => Or.inr ⟨_, rfl⟩⟩
theorem am_e3_6 : am_PW am_t (am_cn 3) 25 (0, 3, 3, 2) := ⟨RX3, TX3, 9, tyX3 3, rfl, by decide, by decide, rfl, am_w887, tyX3_ok 3 (by decide), fun h => absurd h (by decide), fun h => absurd h (by decide), fun _ => Or.inr ⟨_, rfl⟩⟩
theorem am_e3_7 : am_PW am_t (am_cn 3) 28 (0, 3, 6, 1) := ⟨RX3, TX3, 9, tyX3 6, rfl, by decide, by decide, rfl, am_w888, tyX3_ok 6 (by decide), fun h => absurd h (by decide), fun _ => rfl, fun h => absurd h (by decide)⟩
theorem am_e3_8 : am_PW am_t (am_cn 3) 32 (1, 48, 1, 3) := am_PW1 am_m48 (Or.inl am_w889)
theorem am_e3_9 : am_PW am_t (am_cn 3) 36 (0, 3, 5, 0) := ⟨RX3, TX3, 9, tyX3 5, rfl, by decide, by decide, rfl, am_w890, tyX3_ok 5 (by decide), fun _ => rfl, fun h => absurd h (by decide), fun h => absurd h (by decide)⟩
theorem am_e3_10 : am_PW am_t (am_cn 3) 40 (1, 61, 0, 5) := am_PW1 am_m61 (Or.inl am_w891)
theorem am_e3_11 : am_PW am_t (am_cn 3) 43 (1, 41, 0, 3) := am_PW1 am_m41 (Or.inl am_w892)
theorem am_e3_12 : am_PW am_t (am_cn 3) 47 (1, 40, 1, 3) := am_PW1 am_m40 (Or.inl am_w893)
theorem am_e3_13 : am_PW am_t (am_cn 3) 51 (1, 42, 1, 3) := am_PW1 am_m42 (Or.inl am_w894)
theorem am_e3_14 : am_PW am_t (am_cn 3) 54 (1, 63, 1, 5) := am_PW1 am_m63 (Or.inl am_w895)
theorem am_e3_15 : am_PW am_t (am_cn 3) 58 (1, 46, 0, 3) := am_PW1 am_m46 (Or.inl am_w896)
theorem am_e3_16 : am_PW am_t (am_cn 3) 62 (1, 64, 0, 5) := am_PW1 am_m64 (Or.inl am_w897)
theorem am_e3_17 : am_PW am_t (am_cn 3) 65 (1, 43, 1, 3) := am_PW1 am_m43 (Or.inl am_w898)
theorem am_e3_18 : am_PW am_t (am_cn 3) 68 (1, 65, 0, 5) := am_PW1 am_m65 (Or.inl am_w899)
theorem am_e3_19 : am_PW am_t (am_cn 3) 71 (0, 3, 4, 0) := ⟨RX3, TX3, 9, tyX3 4, rfl, by decide, by decide, rfl, am_w900, tyX3_ok 4 (by decide), fun _ => rfl, fun h => absurd h (by decide), fun h => absurd h (by decide)⟩
theorem am_e3_20 : am_PW am_t (am_cn 3) 74 (0, 3, 7, 0) := ⟨RX3, TX3, 9, tyX3 7, rfl, by decide, by decide, rfl, am_w901, tyX3_ok 7 (by decide), fun _ => rfl, fun h => absurd h (by decide), fun h => absurd h (by decide)⟩
theorem am_e3_21 : am_PW am_t (am_cn 3) 77 (0, 3, 8, 0) := ⟨RX3, TX3, 9, tyX3 8, rfl, by decide, by decide, rfl, am_w902, tyX3_ok 8 (by decide), fun _ => rfl, fun h => absurd h (by decide), fun h => absurd h (by decide)⟩
theorem am_e3_22 : am_PW am_t (am_cn 3) 80 (1, 44, 1, 3) := am_PW1 am_m44 (Or.inl am_w903)
theorem am_e3_23 : am_PW am_t (am_cn 3) 83 (1, 62, 1, 5) := am_PW1 am_m62 (Or.inl am_w904)
theorem am_e3_24 : am_PW am_t (am_cn 3) 86 (1, 45, 1, 3) := am_PW1 am_m45 (Or.inl am_w905)
theorem am_e3_25 : am_PW am_t (am_cn 3) 89 (1, 47, 0, 3) := am_PW1 am_m47 (Or.inl am_w906)
theorem am_e3_26 : am_PW am_t (am_cn 3) 92 (0, 6, 1, 0) := ⟨RX6, TX6, 2, tyX6 1, rfl, by decide, by decide, rfl, am_w907, tyX6_ok 1 (by decide), fun _ => rfl, fun h => absurd h (by decide), fun h => absurd h (by decide)⟩
theorem am_e3_27 : am_PW am_t (am_cn 3) 97 (0, 6, 0, 2) := ⟨RX6, TX6, 2, tyX6 0, rfl, by decide, by decide, rfl, am_w908, tyX6_ok 0 (by decide), fun h => absurd h (by decide), fun h => absurd h (by decide), fun _ => Or.inr ⟨_, rfl⟩⟩
theorem am_e3_28 : am_PW am_t (am_cn 3) 100 (1, 49, 1, 99) := am_PW1 am_m49 (Or.inl am_w909)
theorem am_e3_29 : am_PW am_t (am_cn 3) 103 (1, 53, 3, 3) := am_PW1 am_m53 (Or.inl am_w910)
theorem am_e3_30 : am_PW am_t (am_cn 3) 107 (1, 50, 1, 99) := am_PW1 am_m50 (Or.inl am_w911)
theorem am_e3_31 : am_PW am_t (am_cn 3) 110 (1, 52, 3, 3) := am_PW1 am_m52 (Or.inl am_w912)
theorem am_e3_32 : am_PW am_t (am_cn 3) 115 (1, 243, 1, 20) := am_PW1 am_m243 (Or.inl am_w913)
theorem am_e3_33 : am_PW am_t (am_cn 3) 121 (1, 51, 3, 3) := am_PW1 am_m51 (Or.inl am_w914)
theorem am_e3_34 : am_PW am_t (am_cn 3) 125 (1, 56, 1, 99) := am_PW1 am_m56 (Or.inl am_w915)
theorem am_e3_35 : am_PW am_t (am_cn 3) 129 (1, 55, 1, 99) := am_PW1 am_m55 (Or.inl am_w916)
theorem am_e3_36 : am_PW am_t (am_cn 3) 132 (1, 54, 4, 99) := am_PW1 am_m54 (Or.inl am_w917)
theorem am_e3_37 : am_PW am_t (am_cn 3) 136 (1, 241, 0, 20) := am_PW1 am_m241 (Or.inl am_w918)
theorem am_e3_38 : am_PW am_t (am_cn 3) 138 (1, 242, 1, 20) := am_PW1 am_m242 (Or.inl am_w919)
set_option maxRecDepth 20000 in
theorem am_pok3 : am_PL am_p3 := am_PLc am_e3_0 (am_PLc am_e3_1 (am_PLc am_e3_2 (am_PLc am_e3_3 (am_PLc am_e3_4 (am_PLc am_e3_5 (am_PLc am_e3_6 (am_PLc am_e3_7 (am_PLc am_e3_8 (am_PLc am_e3_9 (am_PLc am_e3_10 (am_PLc am_e3_11 (am_PLc am_e3_12 (am_PLc am_e3_13 (am_PLc am_e3_14 (am_PLc am_e3_15 (am_PLc am_e3_16 (am_PLc am_e3_17 (am_PLc am_e3_18 (am_PLc am_e3_19 (am_PLc am_e3_20 (am_PLc am_e3_21 (am_PLc am_e3_22 (am_PLc am_e3_23 (am_PLc am_e3_24 (am_PLc am_e3_25 (am_PLc am_e3_26 (am_PLc am_e3_27 (am_PLc am_e3_28 (am_PLc am_e3_29 (am_PLc am_e3_30 (am_PLc am_e3_31 (am_PLc am_e3_32 (am_PLc am_e3_33 (am_PLc am_e3_34 (am_PLc am_e3_35 (am_PLc am_e3_36 (am_PLc am_e3_37 (am_PLc am_e3_38 (am_PL0)))))))))))))))))))))))))))))))))))))))
theorem am_e4_0 : am_PW am_t (am_cn 4) 3 (8, 0, 0, 0) := ⟨am_w920, am_w817, am_w818⟩
theorem am_e4_1 : am_PW am_t (am_cn 4) 9 (0, 4, 0, 2) := ⟨RX4, TX4, 4, tyX4 0, rfl, by decide, by decide, rfl, am_w921, tyX4_ok 0 (by decide), fun h => absurd h (by decide), fun h => absurd h (by decide), fun _ => Or.inr ⟨_, rfl⟩⟩
theorem am_e4_2 : am_PW am_t (am_cn 4) 15 (0, 4, 1, 2) := ⟨RX4, TX4, 4, tyX4 1, rfl, by decide, by decide, rfl, am_w922, tyX4_ok 1 (by decide), fun h => absurd h (by decide), fun h => absurd h (by decide), fun _ => Or.inr ⟨_, rfl⟩⟩
theorem am_e4_3 : am_PW am_t (am_cn 4) 18 (0, 4, 2, 0) := ⟨RX4, TX4, 4, tyX4 2, rfl, by decide, by decide, rfl, am_w923, tyX4_ok 2 (by decide), fun _ => rfl, fun h => absurd h (by decide), fun h => absurd h (by decide)⟩
theorem am_e4_4 : am_PW am_t (am_cn 4) 22 (0, 4, 3, 0) := ⟨RX4, TX4, 4, tyX4 3, rfl, by decide, by decide, rfl, am_w924, tyX4_ok 3 (by decide), fun _ => rfl, fun h => absurd h (by decide), fun h => absurd h (by decide)⟩
theorem am_e4_5 : am_PW am_t (am_cn 4) 25 (1, 59, 2, 4) := am_PW1 am_m59 (Or.inl am_w925)
theorem am_e4_6 : am_PW am_t (am_cn 4) 29 (1, 253, 1, 99) := am_PW1 am_m253 (Or.inl am_w926)
set_option maxRecDepth 20000 in
theorem am_pok4 : am_PL am_p4 := am_PLc am_e4_0 (am_PLc am_e4_1 (am_PLc am_e4_2 (am_PLc am_e4_3 (am_PLc am_e4_4 (am_PLc am_e4_5 (am_PLc am_e4_6 (am_PL0)))))))
theorem am_e5_0 : am_PW am_t (am_cn 5) 3 (8, 0, 0, 0) := ⟨am_w927, am_w817, am_w818⟩
theorem am_e5_1 : am_PW am_t (am_cn 5) 9 (0, 5, 0, 2) := ⟨RX5, TX5, 8, tyX5 0, rfl, by decide, by decide, rfl, am_w928, tyX5_ok 0 (by decide), fun h => absurd h (by decide), fun h => absurd h (by decide), fun _ => Or.inr ⟨_, rfl⟩⟩
theorem am_e5_2 : am_PW am_t (am_cn 5) 15 (0, 5, 1, 2) := ⟨RX5, TX5, 8, tyX5 1, rfl, by decide, by decide, rfl, am_w929, tyX5_ok 1 (by decide), fun h => absurd h (by decide), fun h => absurd h (by decide), fun _ => Or.inr ⟨_, rfl⟩⟩
theorem am_e5_3 : am_PW am_t (am_cn 5) 18 (0, 5, 2, 2) := ⟨RX5, TX5, 8, tyX5 2, rfl, by decide, by decide, rfl, am_w930, tyX5_ok 2 (by decide), fun h => absurd h (by decide), fun h => absurd h (by decide), fun _ => Or.inr ⟨_, rfl⟩⟩
theorem am_e5_4 : am_PW am_t (am_cn 5) 21 (0, 5, 3, 2) := ⟨RX5, TX5, 8, tyX5 3, rfl, by decide, by decide, rfl, am_w931, tyX5_ok 3 (by decide), fun h => absurd h (by decide), fun h => absurd h (by decide), fun _ => Or.inr ⟨_, rfl⟩⟩
theorem am_e5_5 : am_PW am_t (am_cn 5) 24 (0, 5, 4, 2) := ⟨RX5, TX5, 8, tyX5 4, rfl, by decide, by decide, rfl, am_w932, tyX5_ok 4 (by decide), fun h => absurd h (by decide), fun h => absurd h (by decide), fun _ => Or.inr ⟨_, rfl⟩⟩
theorem am_e5_6 : am_PW am_t (am_cn 5) 27 (0, 5, 5, 2) := ⟨RX5, TX5, 8, tyX5 5, rfl, by decide, by decide, rfl, am_w933, tyX5_ok 5 (by decide), fun h => absurd h (by decide), fun h => absurd h (by decide), fun _ => Or.inr ⟨_, rfl⟩⟩
theorem am_e5_7 : am_PW am_t (am_cn 5) 30 (0, 5, 6, 0) := ⟨RX5, TX5, 8, tyX5 6, rfl, by decide, by decide, rfl, am_w934, tyX5_ok 6 (by decide), fun _ => rfl, fun h => absurd h (by decide), fun h => absurd h (by decide)⟩
theorem am_e5_8 : am_PW am_t (am_cn 5) 34 (0, 5, 7, 0) := ⟨RX5, TX5, 8, tyX5 7, rfl, by decide, by decide, rfl, am_w935, tyX5_ok 7 (by decide), fun _ => rfl, fun h => absurd h (by decide), fun h => absurd h (by decide)⟩
theorem am_e5_9 : am_PW am_t (am_cn 5) 37 (7, 0, 0, 0) := ⟨am_w936, am_w828, am_w829, am_w830⟩
theorem am_e5_10 : am_PW am_t (am_cn 5) 43 (1, 69, 2, 5) := am_PW1 am_m69 (Or.inl am_w937)
theorem am_e5_11 : am_PW am_t (am_cn 5) 47 (1, 70, 3, 5) := am_PW1 am_m70 (Or.inl am_w938)
set_option maxRecDepth 20000 in
theorem am_pok5 : am_PL am_p5 := am_PLc am_e5_0 (am_PLc am_e5_1 (am_PLc am_e5_2 (am_PLc am_e5_3 (am_PLc am_e5_4 (am_PLc am_e5_5 (am_PLc am_e5_6 (am_PLc am_e5_7 (am_PLc am_e5_8 (am_PLc am_e5_9 (am_PLc am_e5_10 (am_PLc am_e5_11 (am_PL0))))))))))))
theorem am_e6_0 : am_PW am_t (am_cn 6) 3 (8, 0, 0, 0) := ⟨am_w939, am_w817, am_w818⟩
theorem am_e6_1 : am_PW am_t (am_cn 6) 9 (0, 6, 0, 2) := ⟨RX6, TX6, 2, tyX6 0, rfl, by decide, by decide, rfl, am_w940, tyX6_ok 0 (by decide), fun h => absurd h (by decide), fun h => absurd h (by decide), fun _ => Or.inr ⟨_, rfl⟩⟩
theorem am_e6_2 : am_PW am_t (am_cn 6) 15 (0, 6, 1, 0) := ⟨RX6, TX6, 2, tyX6 1, rfl, by decide, by decide, rfl, am_w941, tyX6_ok 1 (by decide), fun _ => rfl, fun h => absurd h (by decide), fun h => absurd h (by decide)⟩
set_option maxRecDepth 20000 in
theorem am_pok6 : am_PL am_p6 := am_PLc am_e6_0 (am_PLc am_e6_1 (am_PLc am_e6_2 (am_PL0)))
theorem am_e7_0 : am_PW am_t (am_cn 7) 3 (8, 0, 0, 0) := ⟨am_w942, am_w817, am_w818⟩
theorem am_e7_1 : am_PW am_t (am_cn 7) 9 (0, 7, 1, 2) := ⟨RX7, TX7, 2, tyX7 1, rfl, by decide, by decide, rfl, am_w943, tyX7_ok 1 (by decide), fun h => absurd h (by decide), fun h => absurd h (by decide), fun _ => Or.inr ⟨_, rfl⟩⟩
theorem am_e7_2 : am_PW am_t (am_cn 7) 15 (0, 7, 0, 2) := ⟨RX7, TX7, 2, tyX7 0, rfl, by decide, by decide, rfl, am_w944, tyX7_ok 0 (by decide), fun h => absurd h (by decide), fun h => absurd h (by decide), fun _ => Or.inl ⟨_, rfl⟩⟩
theorem am_e7_3 : am_PW am_t (am_cn 7) 19 (1, 78, 2, 7) := am_PW1 am_m78 (Or.inl am_w945)
theorem am_e7_4 : am_PW am_t (am_cn 7) 23 (0, 9, 0, 2) := ⟨RX9, TX9, 9, tyX9 0, rfl, by decide, by decide, rfl, am_w946, tyX9_ok 0 (by decide), fun h => absurd h (by decide), fun h => absurd h (by decide), fun _ => Or.inl ⟨_, rfl⟩⟩
theorem am_e7_5 : am_PW am_t (am_cn 7) 29 (0, 0, 4, 2) := ⟨RX0, TX0, 6, tyX0 4, rfl, by decide, by decide, rfl, am_w947, tyX0_ok 4 (by decide), fun h => absurd h (by decide), fun h => absurd h (by decide), fun _ => Or.inr ⟨_, rfl⟩⟩
theorem am_e7_6 : am_PW am_t (am_cn 7) 35 (1, 68, 1, 5) := am_PW1 am_m68 (Or.inl am_w948)
theorem am_e7_7 : am_PW am_t (am_cn 7) 41 (1, 74, 2, 7) := am_PW1 am_m74 (Or.inl am_w949)
theorem am_e7_8 : am_PW am_t (am_cn 7) 45 (0, 9, 4, 2) := ⟨RX9, TX9, 9, tyX9 4, rfl, by decide, by decide, rfl, am_w950, tyX9_ok 4 (by decide), fun h => absurd h (by decide), fun h => absurd h (by decide), fun _ => Or.inr ⟨_, rfl⟩⟩
theorem am_e7_9 : am_PW am_t (am_cn 7) 48 (0, 9, 2, 2) := ⟨RX9, TX9, 9, tyX9 2, rfl, by decide, by decide, rfl, am_w951, tyX9_ok 2 (by decide), fun h => absurd h (by decide), fun h => absurd h (by decide), fun _ => Or.inl ⟨_, rfl⟩⟩
theorem am_e7_10 : am_PW am_t (am_cn 7) 52 (0, 2, 8, 0) := ⟨RX2, TX2, 10, tyX2 8, rfl, by decide, by decide, rfl, am_w952, tyX2_ok 8 (by decide), fun _ => rfl, fun h => absurd h (by decide), fun h => absurd h (by decide)⟩
theorem am_e7_11 : am_PW am_t (am_cn 7) 58 (0, 2, 9, 0) := ⟨RX2, TX2, 10, tyX2 9, rfl, by decide, by decide, rfl, am_w953, tyX2_ok 9 (by decide), fun _ => rfl, fun h => absurd h (by decide), fun h => absurd h (by decide)⟩
theorem am_e7_12 : am_PW am_t (am_cn 7) 61 (1, 79, 3, 7) := am_PW1 am_m79 (Or.inl am_w954)
theorem am_e7_13 : am_PW am_t (am_cn 7) 65 (1, 13, 2, 2) := am_PW1 am_m13 (Or.inl am_w955)
theorem am_e7_14 : am_PW am_t (am_cn 7) 69 (1, 80, 3, 7) := am_PW1 am_m80 (Or.inl am_w956)
theorem am_e7_15 : am_PW am_t (am_cn 7) 72 (1, 5, 2, 0) := am_PW1 am_m5 (Or.inl am_w957)
theorem am_e7_16 : am_PW am_t (am_cn 7) 75 (0, 2, 3, 2) := ⟨RX2, TX2, 10, tyX2 3, rfl, by decide, by decide, rfl, am_w958, tyX2_ok 3 (by decide), fun h => absurd h (by decide), fun h => absurd h (by decide), fun _ => Or.inr ⟨_, rfl⟩⟩
theorem am_e7_17 : am_PW am_t (am_cn 7) 78 (1, 81, 3, 7) := am_PW1 am_m81 (Or.inl am_w959)
theorem am_e7_18 : am_PW am_t (am_cn 7) 82 (1, 17, 1, 2) := am_PW1 am_m17 (Or.inl am_w960)
theorem am_e7_19 : am_PW am_t (am_cn 7) 86 (13, 0, 0, 0) := ⟨am_w961, am_w962, am_w863, am_eqco (by decide +kernel) am_w963⟩
theorem am_e7_20 : am_PW am_t (am_cn 7) 92 (11, 0, 0, 0) := ⟨am_w964, am_w866, am_w863, am_eqco (by decide +kernel) am_w867⟩
theorem am_e7_21 : am_PW am_t (am_cn 7) 95 (1, 91, 3, 9) := am_PW1 am_m91 (Or.inl am_w965)
set_option maxRecDepth 20000 in
theorem am_pok7 : am_PL am_p7 := am_PLc am_e7_0 (am_PLc am_e7_1 (am_PLc am_e7_2 (am_PLc am_e7_3 (am_PLc am_e7_4 (am_PLc am_e7_5 (am_PLc am_e7_6 (am_PLc am_e7_7 (am_PLc am_e7_8 (am_PLc am_e7_9 (am_PLc am_e7_10 (am_PLc am_e7_11 (am_PLc am_e7_12 (am_PLc am_e7_13 (am_PLc am_e7_14 (am_PLc am_e7_15 (am_PLc am_e7_16 (am_PLc am_e7_17 (am_PLc am_e7_18 (am_PLc am_e7_19 (am_PLc am_e7_20 (am_PLc am_e7_21 (am_PL0))))))))))))))))))))))
theorem am_e8_0 : am_PW am_t (am_cn 8) 3 (8, 0, 0, 0) := ⟨am_w966, am_w817, am_w818⟩
theorem am_e8_1 : am_PW am_t (am_cn 8) 9 (0, 8, 0, 2) := ⟨RX8, TX8, 6, tyX8 0, rfl, by decide, by decide, rfl, am_w967, tyX8_ok 0 (by decide), fun h => absurd h (by decide), fun h => absurd h (by decide), fun _ => Or.inr ⟨_, rfl⟩⟩
theorem am_e8_2 : am_PW am_t (am_cn 8) 15 (0, 8, 1, 2) := ⟨RX8, TX8, 6, tyX8 1, rfl, by decide, by decide, rfl, am_w968, tyX8_ok 1 (by decide), fun h => absurd h (by decide), fun h => absurd h (by decide), fun _ => Or.inr ⟨_, rfl⟩⟩
theorem am_e8_3 : am_PW am_t (am_cn 8) 18 (0, 9, 2, 2) := ⟨RX9, TX9, 9, tyX9 2, rfl, by decide, by decide, rfl, am_w969, tyX9_ok 2 (by decide), fun h => absurd h (by decide), fun h => absurd h (by decide), fun _ => Or.inl ⟨_, rfl⟩⟩
theorem am_e8_4 : am_PW am_t (am_cn 8) 24 (1, 19, 2, 2) := am_PW1 am_m19 (Or.inl am_w970)
theorem am_e8_5 : am_PW am_t (am_cn 8) 29 (0, 9, 7, 0) := ⟨RX9, TX9, 9, tyX9 7, rfl, by decide, by decide, rfl, am_w971, tyX9_ok 7 (by decide), fun _ => rfl, fun h => absurd h (by decide), fun h => absurd h (by decide)⟩
theorem am_e8_6 : am_PW am_t (am_cn 8) 33 (1, 85, 2, 8) := am_PW1 am_m85 (Or.inl am_w972)
theorem am_e8_7 : am_PW am_t (am_cn 8) 37 (1, 86, 2, 8) := am_PW1 am_m86 (Or.inl am_w973)
theorem am_e8_8 : am_PW am_t (am_cn 8) 41 (0, 8, 2, 0) := ⟨RX8, TX8, 6, tyX8 2, rfl, by decide, by decide, rfl, am_w974, tyX8_ok 2 (by decide), fun _ => rfl, fun h => absurd h (by decide), fun h => absurd h (by decide)⟩
theorem am_e8_9 : am_PW am_t (am_cn 8) 44 (0, 8, 4, 0) := ⟨RX8, TX8, 6, tyX8 4, rfl, by decide, by decide, rfl, am_w975, tyX8_ok 4 (by decide), fun _ => rfl, fun h => absurd h (by decide), fun h => absurd h (by decide)⟩
theorem am_e8_10 : am_PW am_t (am_cn 8) 47 (0, 8, 3, 0) := ⟨RX8, TX8, 6, tyX8 3, rfl, by decide, by decide, rfl, am_w976, tyX8_ok 3 (by decide), fun _ => rfl, fun h => absurd h (by decide), fun h => absurd h (by decide)⟩
theorem am_e8_11 : am_PW am_t (am_cn 8) 50 (0, 8, 5, 0) := ⟨RX8, TX8, 6, tyX8 5, rfl, by decide, by decide, rfl, am_w977, tyX8_ok 5 (by decide), fun _ => rfl, fun h => absurd h (by decide), fun h => absurd h (by decide)⟩
theorem am_e8_12 : am_PW am_t (am_cn 8) 53 (1, 84, 3, 8) := am_PW1 am_m84 (Or.inl am_w978)
theorem am_e8_13 : am_PW am_t (am_cn 8) 57 (0, 9, 5, 2) := ⟨RX9, TX9, 9, tyX9 5, rfl, by decide, by decide, rfl, am_w979, tyX9_ok 5 (by decide), fun h => absurd h (by decide), fun h => absurd h (by decide), fun _ => Or.inr ⟨_, rfl⟩⟩
theorem am_e8_14 : am_PW am_t (am_cn 8) 60 (0, 9, 0, 2) := ⟨RX9, TX9, 9, tyX9 0, rfl, by decide, by decide, rfl, am_w980, tyX9_ok 0 (by decide), fun h => absurd h (by decide), fun h => absurd h (by decide), fun _ => Or.inl ⟨_, rfl⟩⟩
theorem am_e8_15 : am_PW am_t (am_cn 8) 64 (0, 0, 0, 2) := ⟨RX0, TX0, 6, tyX0 0, rfl, by decide, by decide, rfl, am_w981, tyX0_ok 0 (by decide), fun h => absurd h (by decide), fun h => absurd h (by decide), fun _ => Or.inr ⟨_, rfl⟩⟩
theorem am_e8_16 : am_PW am_t (am_cn 8) 69 (0, 0, 1, 2) := ⟨RX0, TX0, 6, tyX0 1, rfl, by decide, by decide, rfl, am_w982, tyX0_ok 1 (by decide), fun h => absurd h (by decide), fun h => absurd h (by decide), fun _ => Or.inr ⟨_, rfl⟩⟩
theorem am_e8_17 : am_PW am_t (am_cn 8) 72 (0, 9, 6, 2) := ⟨RX9, TX9, 9, tyX9 6, rfl, by decide, by decide, rfl, am_w983, tyX9_ok 6 (by decide), fun h => absurd h (by decide), fun h => absurd h (by decide), fun _ => Or.inr ⟨_, rfl⟩⟩
set_option maxRecDepth 20000 in
theorem am_pok8 : am_PL am_p8 := am_PLc am_e8_0 (am_PLc am_e8_1 (am_PLc am_e8_2 (am_PLc am_e8_3 (am_PLc am_e8_4 (am_PLc am_e8_5 (am_PLc am_e8_6 (am_PLc am_e8_7 (am_PLc am_e8_8 (am_PLc am_e8_9 (am_PLc am_e8_10 (am_PLc am_e8_11 (am_PLc am_e8_12 (am_PLc am_e8_13 (am_PLc am_e8_14 (am_PLc am_e8_15 (am_PLc am_e8_16 (am_PLc am_e8_17 (am_PL0))))))))))))))))))
theorem am_e9_0 : am_PW am_t (am_cn 9) 3 (8, 0, 0, 0) := ⟨am_w984, am_w817, am_w818⟩
theorem am_e9_1 : am_PW am_t (am_cn 9) 9 (2, 0, 0, 0) := ⟨RX0, TX0, 6, rfl, am_w985, am_w986, am_w237⟩
theorem am_e9_2 : am_PW am_t (am_cn 9) 11 (1, 1, 0, 98) := am_PW1 am_m1 (Or.inl am_w987)
theorem am_e9_3 : am_PW am_t (am_cn 9) 12 (0, 9, 0, 2) := ⟨RX9, TX9, 9, tyX9 0, rfl, by decide, by decide, rfl, am_w988, tyX9_ok 0 (by decide), fun h => absurd h (by decide), fun h => absurd h (by decide), fun _ => Or.inl ⟨_, rfl⟩⟩
theorem am_e9_4 : am_PW am_t (am_cn 9) 18 (2, 1, 0, 0) := ⟨RX1, TX1, 2, rfl, am_w989, am_w990, am_w269⟩
theorem am_e9_5 : am_PW am_t (am_cn 9) 20 (1, 8, 0, 98) := am_PW1 am_m8 (Or.inr ⟨_, rfl, by decide +kernel⟩)
theorem am_e9_6 : am_PW am_t (am_cn 9) 21 (0, 9, 1, 2) := ⟨RX9, TX9, 9, tyX9 1, rfl, by decide, by decide, rfl, am_w991, tyX9_ok 1 (by decide), fun h => absurd h (by decide), fun h => absurd h (by decide), fun _ => Or.inl ⟨_, rfl⟩⟩
theorem am_e9_7 : am_PW am_t (am_cn 9) 25 (2, 2, 0, 0) := ⟨RX2, TX2, 10, rfl, am_w992, am_w993, am_w247⟩
theorem am_e9_8 : am_PW am_t (am_cn 9) 27 (1, 11, 2, 98) := am_PW1 am_m11 (Or.inl am_w994)
theorem am_e9_9 : am_PW am_t (am_cn 9) 30 (0, 9, 2, 2) := ⟨RX9, TX9, 9, tyX9 2, rfl, by decide, by decide, rfl, am_w995, tyX9_ok 2 (by decide), fun h => absurd h (by decide), fun h => absurd h (by decide), fun _ => Or.inl ⟨_, rfl⟩⟩
theorem am_e9_10 : am_PW am_t (am_cn 9) 34 (0, 9, 3, 2) := ⟨RX9, TX9, 9, tyX9 3, rfl, by decide, by decide, rfl, am_w996, tyX9_ok 3 (by decide), fun h => absurd h (by decide), fun h => absurd h (by decide), fun _ => Or.inr ⟨_, rfl⟩⟩
theorem am_e9_11 : am_PW am_t (am_cn 9) 38 (0, 9, 4, 2) := ⟨RX9, TX9, 9, tyX9 4, rfl, by decide, by decide, rfl, am_w997, tyX9_ok 4 (by decide), fun h => absurd h (by decide), fun h => absurd h (by decide), fun _ => Or.inr ⟨_, rfl⟩⟩
theorem am_e9_12 : am_PW am_t (am_cn 9) 41 (0, 9, 5, 2) := ⟨RX9, TX9, 9, tyX9 5, rfl, by decide, by decide, rfl, am_w998, tyX9_ok 5 (by decide), fun h => absurd h (by decide), fun h => absurd h (by decide), fun _ => Or.inr ⟨_, rfl⟩⟩
theorem am_e9_13 : am_PW am_t (am_cn 9) 44 (0, 9, 6, 2) := ⟨RX9, TX9, 9, tyX9 6, rfl, by decide, by decide, rfl, am_w999, tyX9_ok 6 (by decide), fun h => absurd h (by decide), fun h => absurd h (by decide), fun _ => Or.inr ⟨_, rfl⟩⟩
theorem am_e9_14 : am_PW am_t (am_cn 9) 47 (1, 2, 1, 0) := am_PW1 am_m2 (Or.inl am_w1000)
theorem am_e9_15 : am_PW am_t (am_cn 9) 51 (1, 10, 1, 1) := am_PW1 am_m10 (Or.inl am_w1001)
theorem am_e9_16 : am_PW am_t (am_cn 9) 54 (1, 12, 1, 2) := am_PW1 am_m12 (Or.inl am_w1002)
theorem am_e9_17 : am_PW am_t (am_cn 9) 57 (7, 0, 0, 0) := ⟨am_w1003, am_w828, am_w829, am_w830⟩
theorem am_e9_18 : am_PW am_t (am_cn 9) 63 (0, 9, 7, 0) := ⟨RX9, TX9, 9, tyX9 7, rfl, by decide, by decide, rfl, am_w1004, tyX9_ok 7 (by decide), fun _ => rfl, fun h => absurd h (by decide), fun h => absurd h (by decide)⟩
theorem am_e9_19 : am_PW am_t (am_cn 9) 67 (0, 9, 8, 0) := ⟨RX9, TX9, 9, tyX9 8, rfl, by decide, by decide, rfl, am_w1005, tyX9_ok 8 (by decide), fun _ => rfl, fun h => absurd h (by decide), fun h => absurd h (by decide)⟩
theorem am_e9_20 : am_PW am_t (am_cn 9) 70 (0, 2, 8, 0) := ⟨RX2, TX2, 10, tyX2 8, rfl, by decide, by decide, rfl, am_w1006, tyX2_ok 8 (by decide), fun _ => rfl, fun h => absurd h (by decide), fun h => absurd h (by decide)⟩
theorem am_e9_21 : am_PW am_t (am_cn 9) 73 (1, 133, 1, 99) := am_PW1 am_m133 (Or.inr ⟨_, rfl, by decide +kernel⟩)
theorem am_e9_22 : am_PW am_t (am_cn 9) 77 (1, 30, 1, 2) := am_PW1 am_m30 (Or.inl am_w1007)
theorem am_e9_23 : am_PW am_t (am_cn 9) 81 (1, 31, 1, 2) := am_PW1 am_m31 (Or.inl am_w1008)
theorem am_e9_24 : am_PW am_t (am_cn 9) 84 (0, 2, 3, 2) := ⟨RX2, TX2, 10, tyX2 3, rfl, by decide, by decide, rfl, am_w1009, tyX2_ok 3 (by decide), fun h => absurd h (by decide), fun h => absurd h (by decide), fun _ => Or.inr ⟨_, rfl⟩⟩
set_option maxRecDepth 20000 in
theorem am_pok9 : am_PL am_p9 := am_PLc am_e9_0 (am_PLc am_e9_1 (am_PLc am_e9_2 (am_PLc am_e9_3 (am_PLc am_e9_4 (am_PLc am_e9_5 (am_PLc am_e9_6 (am_PLc am_e9_7 (am_PLc am_e9_8 (am_PLc am_e9_9 (am_PLc am_e9_10 (am_PLc am_e9_11 (am_PLc am_e9_12 (am_PLc am_e9_13 (am_PLc am_e9_14 (am_PLc am_e9_15 (am_PLc am_e9_16 (am_PLc am_e9_17 (am_PLc am_e9_18 (am_PLc am_e9_19 (am_PLc am_e9_20 (am_PLc am_e9_21 (am_PLc am_e9_22 (am_PLc am_e9_23 (am_PLc am_e9_24 (am_PL0)))))))))))))))))))))))))
theorem am_e10_0 : am_PW am_t (am_cn 10) 3 (8, 0, 0, 0) := ⟨am_w1010, am_w817, am_w818⟩
theorem am_e10_1 : am_PW am_t (am_cn 10) 9 (2, 6, 0, 0) := ⟨RX6, TX6, 2, rfl, am_w1011, am_w1012, am_w445⟩
theorem am_e10_2 : am_PW am_t (am_cn 10) 11 (1, 71, 0, 98) := am_PW1 am_m71 (Or.inr ⟨_, rfl, by decide +kernel⟩)
theorem am_e10_3 : am_PW am_t (am_cn 10) 12 (0, 10, 0, 2) := ⟨RX10, TX10, 15, tyX10 0, rfl, by decide, by decide, rfl, am_w1013, tyX10_ok 0 (by decide), fun h => absurd h (by decide), fun h => absurd h (by decide), fun _ => Or.inl ⟨_, rfl⟩⟩
theorem am_e10_4 : am_PW am_t (am_cn 10) 16 (2, 3, 0, 0) := ⟨RX3, TX3, 9, rfl, am_w1014, am_w1015, am_w306⟩
theorem am_e10_5 : am_PW am_t (am_cn 10) 18 (1, 38, 0, 98) := am_PW1 am_m38 (Or.inr ⟨_, rfl, by decide +kernel⟩)
theorem am_e10_6 : am_PW am_t (am_cn 10) 19 (0, 10, 1, 2) := ⟨RX10, TX10, 15, tyX10 1, rfl, by decide, by decide, rfl, am_w1016, tyX10_ok 1 (by decide), fun h => absurd h (by decide), fun h => absurd h (by decide), fun _ => Or.inl ⟨_, rfl⟩⟩
theorem am_e10_7 : am_PW am_t (am_cn 10) 23 (2, 9, 0, 0) := ⟨RX9, TX9, 9, rfl, am_w1017, am_w1018, am_w410⟩
theorem am_e10_8 : am_PW am_t (am_cn 10) 25 (1, 87, 0, 98) := am_PW1 am_m87 (Or.inl am_w1019)
theorem am_e10_9 : am_PW am_t (am_cn 10) 26 (0, 10, 2, 2) := ⟨RX10, TX10, 15, tyX10 2, rfl, by decide, by decide, rfl, am_w1020, tyX10_ok 2 (by decide), fun h => absurd h (by decide), fun h => absurd h (by decide), fun _ => Or.inl ⟨_, rfl⟩⟩
theorem am_e10_10 : am_PW am_t (am_cn 10) 30 (0, 10, 3, 2) := ⟨RX10, TX10, 15, tyX10 3, rfl, by decide, by decide, rfl, am_w1021, tyX10_ok 3 (by decide), fun h => absurd h (by decide), fun h => absurd h (by decide), fun _ => Or.inl ⟨_, rfl⟩⟩
theorem am_e10_11 : am_PW am_t (am_cn 10) 33 (2, 2, 0, 0) := ⟨RX2, TX2, 10, rfl, am_w1022, am_w993, am_w247⟩
theorem am_e10_12 : am_PW am_t (am_cn 10) 35 (0, 9, 0, 2) := ⟨RX9, TX9, 9, tyX9 0, rfl, by decide, by decide, rfl, am_w1023, tyX9_ok 0 (by decide), fun h => absurd h (by decide), fun h => absurd h (by decide), fun _ => Or.inl ⟨_, rfl⟩⟩
theorem am_e10_13 : am_PW am_t (am_cn 10) 39 (1, 11, 2, 98) := am_PW1 am_m11 (Or.inl am_w1024)
theorem am_e10_14 : am_PW am_t (am_cn 10) 42 (0, 10, 4, 2) := ⟨RX10, TX10, 15, tyX10 4, rfl, by decide, by decide, rfl, am_w1025, tyX10_ok 4 (by decide), fun h => absurd h (by decide), fun h => absurd h (by decide), fun _ => Or.inl ⟨_, rfl⟩⟩
theorem am_e10_15 : am_PW am_t (am_cn 10) 46 (2, 7, 0, 0) := ⟨RX7, TX7, 2, rfl, am_w1026, am_w1027, am_w391⟩
theorem am_e10_16 : am_PW am_t (am_cn 10) 48 (1, 73, 1, 98) := am_PW1 am_m73 (Or.inl am_w1028)
theorem am_e10_17 : am_PW am_t (am_cn 10) 51 (0, 10, 5, 2) := ⟨RX10, TX10, 15, tyX10 5, rfl, by decide, by decide, rfl, am_w1029, tyX10_ok 5 (by decide), fun h => absurd h (by decide), fun h => absurd h (by decide), fun _ => Or.inl ⟨_, rfl⟩⟩
theorem am_e10_18 : am_PW am_t (am_cn 10) 55 (2, 4, 0, 0) := ⟨RX4, TX4, 4, rfl, am_w1030, am_w1031, am_w378⟩
theorem am_e10_19 : am_PW am_t (am_cn 10) 57 (1, 57, 0, 98) := am_PW1 am_m57 (Or.inr ⟨_, rfl, by decide +kernel⟩)
theorem am_e10_20 : am_PW am_t (am_cn 10) 58 (0, 10, 6, 2) := ⟨RX10, TX10, 15, tyX10 6, rfl, by decide, by decide, rfl, am_w1032, tyX10_ok 6 (by decide), fun h => absurd h (by decide), fun h => absurd h (by decide), fun _ => Or.inl ⟨_, rfl⟩⟩
theorem am_e10_21 : am_PW am_t (am_cn 10) 62 (2, 8, 0, 0) := ⟨RX8, TX8, 6, rfl, am_w1033, am_w1034, am_w414⟩
theorem am_e10_22 : am_PW am_t (am_cn 10) 64 (1, 82, 0, 98) := am_PW1 am_m82 (Or.inr ⟨_, rfl, by decide +kernel⟩)
theorem am_e10_23 : am_PW am_t (am_cn 10) 65 (0, 10, 7, 2) := ⟨RX10, TX10, 15, tyX10 7, rfl, by decide, by decide, rfl, am_w1035, tyX10_ok 7 (by decide), fun h => absurd h (by decide), fun h => absurd h (by decide), fun _ => Or.inl ⟨_, rfl⟩⟩
theorem am_e10_24 : am_PW am_t (am_cn 10) 69 (0, 10, 8, 2) := ⟨RX10, TX10, 15, tyX10 8, rfl, by decide, by decide, rfl, am_w1036, tyX10_ok 8 (by decide), fun h => absurd h (by decide), fun h => absurd h (by decide), fun _ => Or.inr ⟨_, rfl⟩⟩
theorem am_e10_25 : am_PW am_t (am_cn 10) 73 (0, 10, 11, 0) := ⟨RX10, TX10, 15, tyX10 11, rfl, by decide, by decide, rfl, am_w1037, tyX10_ok 11 (by decide), fun _ => rfl, fun h => absurd h (by decide), fun h => absurd h (by decide)⟩
theorem am_e10_26 : am_PW am_t (am_cn 10) 77 (1, 130, 1, 99) := am_PW1 am_m130 (Or.inl am_w1038)
theorem am_e10_27 : am_PW am_t (am_cn 10) 81 (1, 132, 1, 99) := am_PW1 am_m132 (Or.inl am_w1039)
theorem am_e10_28 : am_PW am_t (am_cn 10) 84 (0, 9, 2, 2) := ⟨RX9, TX9, 9, tyX9 2, rfl, by decide, by decide, rfl, am_w1040, tyX9_ok 2 (by decide), fun h => absurd h (by decide), fun h => absurd h (by decide), fun _ => Or.inl ⟨_, rfl⟩⟩
theorem am_e10_29 : am_PW am_t (am_cn 10) 87 (0, 2, 9, 0) := ⟨RX2, TX2, 10, tyX2 9, rfl, by decide, by decide, rfl, am_w1041, tyX2_ok 9 (by decide), fun _ => rfl, fun h => absurd h (by decide), fun h => absurd h (by decide)⟩
theorem am_e10_30 : am_PW am_t (am_cn 10) 90 (0, 0, 0, 2) := ⟨RX0, TX0, 6, tyX0 0, rfl, by decide, by decide, rfl, am_w1042, tyX0_ok 0 (by decide), fun h => absurd h (by decide), fun h => absurd h (by decide), fun _ => Or.inr ⟨_, rfl⟩⟩
theorem am_e10_31 : am_PW am_t (am_cn 10) 95 (0, 0, 1, 2) := ⟨RX0, TX0, 6, tyX0 1, rfl, by decide, by decide, rfl, am_w1043, tyX0_ok 1 (by decide), fun h => absurd h (by decide), fun h => absurd h (by decide), fun _ => Or.inr ⟨_, rfl⟩⟩
theorem am_e10_32 : am_PW am_t (am_cn 10) 98 (1, 133, 1, 99) := am_PW1 am_m133 (Or.inl am_w1044)
theorem am_e10_33 : am_PW am_t (am_cn 10) 101 (0, 2, 8, 0) := ⟨RX2, TX2, 10, tyX2 8, rfl, by decide, by decide, rfl, am_w1045, tyX2_ok 8 (by decide), fun _ => rfl, fun h => absurd h (by decide), fun h => absurd h (by decide)⟩
theorem am_e10_34 : am_PW am_t (am_cn 10) 104 (0, 0, 2, 2) := ⟨RX0, TX0, 6, tyX0 2, rfl, by decide, by decide, rfl, am_w1046, tyX0_ok 2 (by decide), fun h => absurd h (by decide), fun h => absurd h (by decide), fun _ => Or.inr ⟨_, rfl⟩⟩
theorem am_e10_35 : am_PW am_t (am_cn 10) 107 (0, 0, 3, 2) := ⟨RX0, TX0, 6, tyX0 3, rfl, by decide, by decide, rfl, am_w1047, tyX0_ok 3 (by decide), fun h => absurd h (by decide), fun h => absurd h (by decide), fun _ => Or.inr ⟨_, rfl⟩⟩
theorem am_e10_36 : am_PW am_t (am_cn 10) 110 (0, 6, 1, 0) := ⟨RX6, TX6, 2, tyX6 1, rfl, by decide, by decide, rfl, am_w1048, tyX6_ok 1 (by decide), fun _ => rfl, fun h => absurd h (by decide), fun h => absurd h (by decide)⟩
theorem am_e10_37 : am_PW am_t (am_cn 10) 113 (1, 72, 1, 6) := am_PW1 am_m72 (Or.inl am_w1049)
theorem am_e10_38 : am_PW am_t (am_cn 10) 117 (0, 10, 10, 0) := ⟨RX10, TX10, 15, tyX10 10, rfl, by decide, by decide, rfl, am_w1050, tyX10_ok 10 (by decide), fun _ => rfl, fun h => absurd h (by decide), fun h => absurd h (by decide)⟩
theorem am_e10_39 : am_PW am_t (am_cn 10) 120 (1, 39, 2, 3) := am_PW1 am_m39 (Or.inl am_w1051)
theorem am_e10_40 : am_PW am_t (am_cn 10) 124 (0, 3, 7, 0) := ⟨RX3, TX3, 9, tyX3 7, rfl, by decide, by decide, rfl, am_w1052, tyX3_ok 7 (by decide), fun _ => rfl, fun h => absurd h (by decide), fun h => absurd h (by decide)⟩
theorem am_e10_41 : am_PW am_t (am_cn 10) 127 (0, 3, 8, 0) := ⟨RX3, TX3, 9, tyX3 8, rfl, by decide, by decide, rfl, am_w1053, tyX3_ok 8 (by decide), fun _ => rfl, fun h => absurd h (by decide), fun h => absurd h (by decide)⟩
theorem am_e10_42 : am_PW am_t (am_cn 10) 130 (0, 0, 4, 2) := ⟨RX0, TX0, 6, tyX0 4, rfl, by decide, by decide, rfl, am_w1054, tyX0_ok 4 (by decide), fun h => absurd h (by decide), fun h => absurd h (by decide), fun _ => Or.inr ⟨_, rfl⟩⟩
theorem am_e10_43 : am_PW am_t (am_cn 10) 134 (0, 3, 0, 2) := ⟨RX3, TX3, 9, tyX3 0, rfl, by decide, by decide, rfl, am_w1055, tyX3_ok 0 (by decide), fun h => absurd h (by decide), fun h => absurd h (by decide), fun _ => Or.inl ⟨_, rfl⟩⟩
theorem am_e10_44 : am_PW am_t (am_cn 10) 138 (1, 66, 1, 5) := am_PW1 am_m66 (Or.inl am_w1056)
theorem am_e10_45 : am_PW am_t (am_cn 10) 144 (0, 5, 6, 0) := ⟨RX5, TX5, 8, tyX5 6, rfl, by decide, by decide, rfl, am_w1057, tyX5_ok 6 (by decide), fun _ => rfl, fun h => absurd h (by decide), fun h => absurd h (by decide)⟩
theorem am_e10_46 : am_PW am_t (am_cn 10) 147 (1, 131, 1, 99) := am_PW1 am_m131 (Or.inl am_w1058)
theorem am_e10_47 : am_PW am_t (am_cn 10) 150 (3, 999999, 0, 0) := am_eqc (by decide +kernel) am_w1059
theorem am_e10_48 : am_PW am_t (am_cn 10) 151 (3, 999999, 1, 0) := am_eqc (by decide +kernel) am_w1060
theorem am_e10_49 : am_PW am_t (am_cn 10) 152 (1, 3, 1, 0) := am_PW1 am_m3 (Or.inl am_w1061)
theorem am_e10_50 : am_PW am_t (am_cn 10) 155 (1, 21, 6, 2) := am_PW1 am_m21 (Or.inl am_w1062)
theorem am_e10_51 : am_PW am_t (am_cn 10) 159 (1, 19, 2, 2) := am_PW1 am_m19 (Or.inl am_w1063)
theorem am_e10_52 : am_PW am_t (am_cn 10) 163 (0, 2, 4, 2) := ⟨RX2, TX2, 10, tyX2 4, rfl, by decide, by decide, rfl, am_w1064, tyX2_ok 4 (by decide), fun h => absurd h (by decide), fun h => absurd h (by decide), fun _ => Or.inr ⟨_, rfl⟩⟩
theorem am_e10_53 : am_PW am_t (am_cn 10) 166 (1, 22, 5, 2) := am_PW1 am_m22 (Or.inl am_w1065)
theorem am_e10_54 : am_PW am_t (am_cn 10) 170 (1, 134, 1, 99) := am_PW1 am_m134 (Or.inl am_w1066)
theorem am_e10_55 : am_PW am_t (am_cn 10) 173 (1, 23, 5, 2) := am_PW1 am_m23 (Or.inl am_w1067)
theorem am_e10_56 : am_PW am_t (am_cn 10) 177 (1, 24, 1, 2) := am_PW1 am_m24 (Or.inl am_w1068)
theorem am_e10_57 : am_PW am_t (am_cn 10) 181 (1, 90, 0, 9) := am_PW1 am_m90 (Or.inl am_w1069)
theorem am_e10_58 : am_PW am_t (am_cn 10) 184 (1, 76, 0, 7) := am_PW1 am_m76 (Or.inl am_w1070)
theorem am_e10_59 : am_PW am_t (am_cn 10) 187 (3, 100000000, 1, 0) := am_eqc (by decide +kernel) am_w1071
theorem am_e10_60 : am_PW am_t (am_cn 10) 188 (0, 2, 3, 2) := ⟨RX2, TX2, 10, tyX2 3, rfl, by decide, by decide, rfl, am_w1072, tyX2_ok 3 (by decide), fun h => absurd h (by decide), fun h => absurd h (by decide), fun _ => Or.inr ⟨_, rfl⟩⟩
theorem am_e10_61 : am_PW am_t (am_cn 10) 191 (1, 18, 2, 2) := am_PW1 am_m18 (Or.inl am_w1073)
theorem am_e10_62 : am_PW am_t (am_cn 10) 194 (1, 20, 2, 2) := am_PW1 am_m20 (Or.inl am_w1074)
theorem am_e10_63 : am_PW am_t (am_cn 10) 197 (1, 136, 1, 10) := am_PW1 am_m136 (Or.inl am_w1075)
theorem am_e10_64 : am_PW am_t (am_cn 10) 200 (0, 2, 2, 2) := ⟨RX2, TX2, 10, tyX2 2, rfl, by decide, by decide, rfl, am_w1076, tyX2_ok 2 (by decide), fun h => absurd h (by decide), fun h => absurd h (by decide), fun _ => Or.inr ⟨_, rfl⟩⟩
theorem am_e10_65 : am_PW am_t (am_cn 10) 203 (1, 30, 1, 2) := am_PW1 am_m30 (Or.inl am_w1077)
theorem am_e10_66 : am_PW am_t (am_cn 10) 206 (1, 31, 1, 2) := am_PW1 am_m31 (Or.inl am_w1078)
theorem am_e10_67 : am_PW am_t (am_cn 10) 209 (0, 9, 3, 2) := ⟨RX9, TX9, 9, tyX9 3, rfl, by decide, by decide, rfl, am_w1079, tyX9_ok 3 (by decide), fun h => absurd h (by decide), fun h => absurd h (by decide), fun _ => Or.inr ⟨_, rfl⟩⟩
theorem am_e10_68 : am_PW am_t (am_cn 10) 212 (1, 139, 1, 99) := am_PW1 am_m139 (Or.inl am_w1080)
theorem am_e10_69 : am_PW am_t (am_cn 10) 216 (1, 32, 0, 2) := am_PW1 am_m32 (Or.inl am_w1081)
theorem am_e10_70 : am_PW am_t (am_cn 10) 220 (0, 2, 5, 2) := ⟨RX2, TX2, 10, tyX2 5, rfl, by decide, by decide, rfl, am_w1082, tyX2_ok 5 (by decide), fun h => absurd h (by decide), fun h => absurd h (by decide), fun _ => Or.inr ⟨_, rfl⟩⟩
theorem am_e10_71 : am_PW am_t (am_cn 10) 223 (1, 33, 0, 2) := am_PW1 am_m33 (Or.inl am_w1083)
theorem am_e10_72 : am_PW am_t (am_cn 10) 226 (1, 137, 1, 10) := am_PW1 am_m137 (Or.inl am_w1084)
theorem am_e10_73 : am_PW am_t (am_cn 10) 229 (1, 7, 3, 0) := am_PW1 am_m7 (Or.inl am_w1085)
theorem am_e10_74 : am_PW am_t (am_cn 10) 233 (1, 138, 3, 10) := am_PW1 am_m138 (Or.inl am_w1086)
theorem am_e10_75 : am_PW am_t (am_cn 10) 237 (1, 140, 3, 10) := am_PW1 am_m140 (Or.inl am_w1087)
theorem am_e10_76 : am_PW am_t (am_cn 10) 241 (1, 58, 1, 4) := am_PW1 am_m58 (Or.inl am_w1088)
theorem am_e10_77 : am_PW am_t (am_cn 10) 244 (0, 4, 2, 0) := ⟨RX4, TX4, 4, tyX4 2, rfl, by decide, by decide, rfl, am_w1089, tyX4_ok 2 (by decide), fun _ => rfl, fun h => absurd h (by decide), fun h => absurd h (by decide)⟩
theorem am_e10_78 : am_PW am_t (am_cn 10) 247 (0, 4, 3, 0) := ⟨RX4, TX4, 4, tyX4 3, rfl, by decide, by decide, rfl, am_w1090, tyX4_ok 3 (by decide), fun _ => rfl, fun h => absurd h (by decide), fun h => absurd h (by decide)⟩
theorem am_e10_79 : am_PW am_t (am_cn 10) 250 (1, 5, 2, 0) := am_PW1 am_m5 (Or.inl am_w1091)
theorem am_e10_80 : am_PW am_t (am_cn 10) 254 (11, 0, 0, 0) := ⟨am_w1092, am_w866, am_w863, am_eqco (by decide +kernel) am_w867⟩
theorem am_e10_81 : am_PW am_t (am_cn 10) 259 (1, 36, 1, 2) := am_PW1 am_m36 (Or.inl am_w1093)
theorem am_e10_82 : am_PW am_t (am_cn 10) 262 (1, 13, 2, 2) := am_PW1 am_m13 (Or.inl am_w1094)
theorem am_e10_83 : am_PW am_t (am_cn 10) 265 (0, 9, 1, 2) := ⟨RX9, TX9, 9, tyX9 1, rfl, by decide, by decide, rfl, am_w1095, tyX9_ok 1 (by decide), fun h => absurd h (by decide), fun h => absurd h (by decide), fun _ => Or.inl ⟨_, rfl⟩⟩
theorem am_e10_84 : am_PW am_t (am_cn 10) 269 (0, 1, 1, 0) := ⟨RX1, TX1, 2, tyX1 1, rfl, by decide, by decide, rfl, am_w1096, tyX1_ok 1 (by decide), fun _ => rfl, fun h => absurd h (by decide), fun h => absurd h (by decide)⟩
theorem am_e10_85 : am_PW am_t (am_cn 10) 272 (0, 1, 0, 2) := ⟨RX1, TX1, 2, tyX1 0, rfl, by decide, by decide, rfl, am_w1097, tyX1_ok 0 (by decide), fun h => absurd h (by decide), fun h => absurd h (by decide), fun _ => Or.inr ⟨_, rfl⟩⟩
theorem am_e10_86 : am_PW am_t (am_cn 10) 273 (3, 999999999, 0, 0) := am_eqc (by decide +kernel) am_w1098
theorem am_e10_87 : am_PW am_t (am_cn 10) 274 (5, 999999999, 0, 0) := am_eqcl (by decide +kernel) am_w1099
theorem am_e10_88 : am_PW am_t (am_cn 10) 276 (5, 1000, 0, 0) := am_eqcl (by decide +kernel) am_w1100
theorem am_e10_89 : am_PW am_t (am_cn 10) 278 (14, 0, 0, 0) := ⟨am_w1101, am_w1102, am_w863, am_eqco (by decide +kernel) am_w1103⟩
theorem am_e10_90 : am_PW am_t (am_cn 10) 282 (1, 135, 1, 99) := am_PW1 am_m135 (Or.inl am_w1104)
theorem am_e10_91 : am_PW am_t (am_cn 10) 285 (1, 74, 2, 7) := am_PW1 am_m74 (Or.inl am_w1105)
theorem am_e10_92 : am_PW am_t (am_cn 10) 288 (1, 78, 2, 7) := am_PW1 am_m78 (Or.inl am_w1106)
theorem am_e10_93 : am_PW am_t (am_cn 10) 292 (0, 7, 1, 2) := ⟨RX7, TX7, 2, tyX7 1, rfl, by decide, by decide, rfl, am_w1107, tyX7_ok 1 (by decide), fun h => absurd h (by decide), fun h => absurd h (by decide), fun _ => Or.inr ⟨_, rfl⟩⟩
theorem am_e10_94 : am_PW am_t (am_cn 10) 295 (0, 9, 8, 0) := ⟨RX9, TX9, 9, tyX9 8, rfl, by decide, by decide, rfl, am_w1108, tyX9_ok 8 (by decide), fun _ => rfl, fun h => absurd h (by decide), fun h => absurd h (by decide)⟩
theorem am_e10_95 : am_PW am_t (am_cn 10) 298 (1, 75, 1, 7) := am_PW1 am_m75 (Or.inl am_w1109)
theorem am_e10_96 : am_PW am_t (am_cn 10) 301 (1, 253, 1, 99) := am_PW1 am_m253 (Or.inl am_w1110)
theorem am_e10_97 : am_PW am_t (am_cn 10) 306 (1, 77, 2, 7) := am_PW1 am_m77 (Or.inl am_w1111)
theorem am_e10_98 : am_PW am_t (am_cn 10) 309 (1, 89, 1, 9) := am_PW1 am_m89 (Or.inl am_w1112)
theorem am_e10_99 : am_PW am_t (am_cn 10) 312 (0, 9, 4, 2) := ⟨RX9, TX9, 9, tyX9 4, rfl, by decide, by decide, rfl, am_w1113, tyX9_ok 4 (by decide), fun h => absurd h (by decide), fun h => absurd h (by decide), fun _ => Or.inr ⟨_, rfl⟩⟩
theorem am_e10_100 : am_PW am_t (am_cn 10) 315 (1, 141, 1, 10) := am_PW1 am_m141 (Or.inl am_w1114)
theorem am_e10_101 : am_PW am_t (am_cn 10) 318 (1, 34, 1, 2) := am_PW1 am_m34 (Or.inl am_w1115)
theorem am_e10_102 : am_PW am_t (am_cn 10) 321 (0, 10, 13, 0) := ⟨RX10, TX10, 15, tyX10 13, rfl, by decide, by decide, rfl, am_w1116, tyX10_ok 13 (by decide), fun _ => rfl, fun h => absurd h (by decide), fun h => absurd h (by decide)⟩
theorem am_e10_103 : am_PW am_t (am_cn 10) 324 (0, 10, 14, 0) := ⟨RX10, TX10, 15, tyX10 14, rfl, by decide, by decide, rfl, am_w1117, tyX10_ok 14 (by decide), fun _ => rfl, fun h => absurd h (by decide), fun h => absurd h (by decide)⟩
theorem am_e10_104 : am_PW am_t (am_cn 10) 327 (12, 0, 0, 0) := ⟨am_w1118, am_w862, am_w863, am_eqco (by decide +kernel) am_w864⟩
theorem am_e10_105 : am_PW am_t (am_cn 10) 329 (1, 4, 1, 0) := am_PW1 am_m4 (Or.inl am_w1119)
theorem am_e10_106 : am_PW am_t (am_cn 10) 332 (0, 0, 5, 0) := ⟨RX0, TX0, 6, tyX0 5, rfl, by decide, by decide, rfl, am_w1120, tyX0_ok 5 (by decide), fun _ => rfl, fun h => absurd h (by decide), fun h => absurd h (by decide)⟩
theorem am_e10_107 : am_PW am_t (am_cn 10) 335 (0, 9, 7, 0) := ⟨RX9, TX9, 9, tyX9 7, rfl, by decide, by decide, rfl, am_w1121, tyX9_ok 7 (by decide), fun _ => rfl, fun h => absurd h (by decide), fun h => absurd h (by decide)⟩
theorem am_e10_108 : am_PW am_t (am_cn 10) 338 (0, 9, 5, 2) := ⟨RX9, TX9, 9, tyX9 5, rfl, by decide, by decide, rfl, am_w1122, tyX9_ok 5 (by decide), fun h => absurd h (by decide), fun h => absurd h (by decide), fun _ => Or.inr ⟨_, rfl⟩⟩
theorem am_e10_109 : am_PW am_t (am_cn 10) 341 (0, 9, 6, 2) := ⟨RX9, TX9, 9, tyX9 6, rfl, by decide, by decide, rfl, am_w1123, tyX9_ok 6 (by decide), fun h => absurd h (by decide), fun h => absurd h (by decide), fun _ => Or.inr ⟨_, rfl⟩⟩
theorem am_e10_110 : am_PW am_t (am_cn 10) 344 (1, 83, 2, 8) := am_PW1 am_m83 (Or.inl am_w1124)
theorem am_e10_111 : am_PW am_t (am_cn 10) 347 (0, 8, 2, 0) := ⟨RX8, TX8, 6, tyX8 2, rfl, by decide, by decide, rfl, am_w1125, tyX8_ok 2 (by decide), fun _ => rfl, fun h => absurd h (by decide), fun h => absurd h (by decide)⟩
theorem am_e10_112 : am_PW am_t (am_cn 10) 348 (0, 8, 3, 0) := ⟨RX8, TX8, 6, tyX8 3, rfl, by decide, by decide, rfl, am_w1126, tyX8_ok 3 (by decide), fun _ => rfl, fun h => absurd h (by decide), fun h => absurd h (by decide)⟩
theorem am_e10_113 : am_PW am_t (am_cn 10) 351 (0, 8, 4, 0) := ⟨RX8, TX8, 6, tyX8 4, rfl, by decide, by decide, rfl, am_w1127, tyX8_ok 4 (by decide), fun _ => rfl, fun h => absurd h (by decide), fun h => absurd h (by decide)⟩
theorem am_e10_114 : am_PW am_t (am_cn 10) 354 (1, 84, 3, 8) := am_PW1 am_m84 (Or.inl am_w1128)
theorem am_e10_115 : am_PW am_t (am_cn 10) 357 (0, 8, 5, 0) := ⟨RX8, TX8, 6, tyX8 5, rfl, by decide, by decide, rfl, am_w1129, tyX8_ok 5 (by decide), fun _ => rfl, fun h => absurd h (by decide), fun h => absurd h (by decide)⟩
theorem am_e10_116 : am_PW am_t (am_cn 10) 360 (1, 142, 1, 10) := am_PW1 am_m142 (Or.inl am_w1130)
theorem am_e10_117 : am_PW am_t (am_cn 10) 363 (0, 10, 12, 0) := ⟨RX10, TX10, 15, tyX10 12, rfl, by decide, by decide, rfl, am_w1131, tyX10_ok 12 (by decide), fun _ => rfl, fun h => absurd h (by decide), fun h => absurd h (by decide)⟩
theorem am_e10_118 : am_PW am_t (am_cn 10) 366 (1, 143, 0, 10) := am_PW1 am_m143 (Or.inl am_w1132)
theorem am_e10_119 : am_PW am_t (am_cn 10) 369 (3, 99999, 0, 0) := am_eqc (by decide +kernel) am_w1133
theorem am_e10_120 : am_PW am_t (am_cn 10) 370 (1, 37, 2, 2) := am_PW1 am_m37 (Or.inl am_w1134)
theorem am_e10_121 : am_PW am_t (am_cn 10) 373 (1, 88, 1, 9) := am_PW1 am_m88 (Or.inl am_w1135)
theorem am_e10_122 : am_PW am_t (am_cn 10) 375 (0, 10, 9, 1) := ⟨RX10, TX10, 15, tyX10 9, rfl, by decide, by decide, rfl, am_w1136, tyX10_ok 9 (by decide), fun h => absurd h (by decide), fun _ => rfl, fun h => absurd h (by decide)⟩
theorem am_e10_123 : am_PW am_t (am_cn 10) 379 (0, 4, 0, 2) := ⟨RX4, TX4, 4, tyX4 0, rfl, by decide, by decide, rfl, am_w1137, tyX4_ok 0 (by decide), fun h => absurd h (by decide), fun h => absurd h (by decide), fun _ => Or.inr ⟨_, rfl⟩⟩
theorem am_e10_124 : am_PW am_t (am_cn 10) 382 (1, 12, 1, 2) := am_PW1 am_m12 (Or.inl am_w1138)
theorem am_e10_125 : am_PW am_t (am_cn 10) 385 (1, 35, 0, 2) := am_PW1 am_m35 (Or.inl am_w1139)
theorem am_e10_126 : am_PW am_t (am_cn 10) 388 (13, 0, 0, 0) := ⟨am_w1140, am_w962, am_w863, am_eqco (by decide +kernel) am_w963⟩
set_option maxRecDepth 20000 in
theorem am_pok10 : am_PL am_p10 := am_PLc am_e10_0 (am_PLc am_e10_1 (am_PLc am_e10_2 (am_PLc am_e10_3 (am_PLc am_e10_4 (am_PLc am_e10_5 (am_PLc am_e10_6 (am_PLc am_e10_7 (am_PLc am_e10_8 (am_PLc am_e10_9 (am_PLc am_e10_10 (am_PLc am_e10_11 (am_PLc am_e10_12 (am_PLc am_e10_13 (am_PLc am_e10_14 (am_PLc am_e10_15 (am_PLc am_e10_16 (am_PLc am_e10_17 (am_PLc am_e10_18 (am_PLc am_e10_19 (am_PLc am_e10_20 (am_PLc am_e10_21 (am_PLc am_e10_22 (am_PLc am_e10_23 (am_PLc am_e10_24 (am_PLc am_e10_25 (am_PLc am_e10_26 (am_PLc am_e10_27 (am_PLc am_e10_28 (am_PLc am_e10_29 (am_PLc am_e10_30 (am_PLc am_e10_31 (am_PLc am_e10_32 (am_PLc am_e10_33 (am_PLc am_e10_34 (am_PLc am_e10_35 (am_PLc am_e10_36 (am_PLc am_e10_37 (am_PLc am_e10_38 (am_PLc am_e10_39 (am_PLc am_e10_40 (am_PLc am_e10_41 (am_PLc am_e10_42 (am_PLc am_e10_43 (am_PLc am_e10_44 (am_PLc am_e10_45 (am_PLc am_e10_46 (am_PLc am_e10_47 (am_PLc am_e10_48 (am_PLc am_e10_49 (am_PLc am_e10_50 (am_PLc am_e10_51 (am_PLc am_e10_52 (am_PLc am_e10_53 (am_PLc am_e10_54 (am_PLc am_e10_55 (am_PLc am_e10_56 (am_PLc am_e10_57 (am_PLc am_e10_58 (am_PLc am_e10_59 (am_PLc am_e10_60 (am_PLc am_e10_61 (am_PLc am_e10_62 (am_PLc am_e10_63 (am_PLc am_e10_64 (am_PLc am_e10_65 (am_PLc am_e10_66 (am_PLc am_e10_67 (am_PLc am_e10_68 (am_PLc am_e10_69 (am_PLc am_e10_70 (am_PLc am_e10_71 (am_PLc am_e10_72 (am_PLc am_e10_73 (am_PLc am_e10_74 (am_PLc am_e10_75 (am_PLc am_e10_76 (am_PLc am_e10_77 (am_PLc am_e10_78 (am_PLc am_e10_79 (am_PLc am_e10_80 (am_PLc am_e10_81 (am_PLc am_e10_82 (am_PLc am_e10_83 (am_PLc am_e10_84 (am_PLc am_e10_85 (am_PLc am_e10_86 (am_PLc am_e10_87 (am_PLc am_e10_88 (am_PLc am_e10_89 (am_PLc am_e10_90 (am_PLc am_e10_91 (am_PLc am_e10_92 (am_PLc am_e10_93 (am_PLc am_e10_94 (am_PLc am_e10_95 (am_PLc am_e10_96 (am_PLc am_e10_97 (am_PLc am_e10_98 (am_PLc am_e10_99 (am_PLc am_e10_100 (am_PLc am_e10_101 (am_PLc am_e10_102 (am_PLc am_e10_103 (am_PLc am_e10_104 (am_PLc am_e10_105 (am_PLc am_e10_106 (am_PLc am_e10_107 (am_PLc am_e10_108 (am_PLc am_e10_109 (am_PLc am_e10_110 (am_PLc am_e10_111 (am_PLc am_e10_112 (am_PLc am_e10_113 (am_PLc am_e10_114 (am_PLc am_e10_115 (am_PLc am_e10_116 (am_PLc am_e10_117 (am_PLc am_e10_118 (am_PLc am_e10_119 (am_PLc am_e10_120 (am_PLc am_e10_121 (am_PLc am_e10_122 (am_PLc am_e10_123 (am_PLc am_e10_124 (am_PLc am_e10_125 (am_PLc am_e10_126 (am_PL0)))))))))))))))))))))))))))))))))))))))))))))))))))))))))))))))))))))))))))))))))))))))))))))))))))))))))))))))))))))))))))))))
theorem am_e11_0 : am_PW am_t (am_cn 11) 1 (8, 0, 0, 0) := ⟨am_w1141, am_w817, am_w818⟩
theorem am_e11_1 : am_PW am_t (am_cn 11) 7 (0, 11, 0, 2) := ⟨RX11, TX11, 31, tyX11 0, rfl, by decide, by decide, rfl, am_w1142, tyX11_ok 0 (by decide), fun h => absurd h (by decide), fun h => absurd h (by decide), fun _ => Or.inr ⟨_, rfl⟩⟩
theorem am_e11_2 : am_PW am_t (am_cn 11) 13 (0, 11, 1, 2) := ⟨RX11, TX11, 31, tyX11 1, rfl, by decide, by decide, rfl, am_w1143, tyX11_ok 1 (by decide), fun h => absurd h (by decide), fun h => absurd h (by decide), fun _ => Or.inr ⟨_, rfl⟩⟩
theorem am_e11_3 : am_PW am_t (am_cn 11) 16 (0, 11, 2, 2) := ⟨RX11, TX11, 31, tyX11 2, rfl, by decide, by decide, rfl, am_w1144, tyX11_ok 2 (by decide), fun h => absurd h (by decide), fun h => absurd h (by decide), fun _ => Or.inr ⟨_, rfl⟩⟩
theorem am_e11_4 : am_PW am_t (am_cn 11) 19 (0, 11, 4, 2) := ⟨RX11, TX11, 31, tyX11 4, rfl, by decide, by decide, rfl, am_w1145, tyX11_ok 4 (by decide), fun h => absurd h (by decide), fun h => absurd h (by decide), fun _ => Or.inr ⟨_, rfl⟩⟩
theorem am_e11_5 : am_PW am_t (am_cn 11) 22 (0, 11, 5, 2) := ⟨RX11, TX11, 31, tyX11 5, rfl, by decide, by decide, rfl, am_w1146, tyX11_ok 5 (by decide), fun h => absurd h (by decide), fun h => absurd h (by decide), fun _ => Or.inr ⟨_, rfl⟩⟩
theorem am_e11_6 : am_PW am_t (am_cn 11) 25 (0, 11, 6, 2) := ⟨RX11, TX11, 31, tyX11 6, rfl, by decide, by decide, rfl, am_w1147, tyX11_ok 6 (by decide), fun h => absurd h (by decide), fun h => absurd h (by decide), fun _ => Or.inr ⟨_, rfl⟩⟩
theorem am_e11_7 : am_PW am_t (am_cn 11) 28 (0, 11, 7, 2) := ⟨RX11, TX11, 31, tyX11 7, rfl, by decide, by decide, rfl, am_w1148, tyX11_ok 7 (by decide), fun h => absurd h (by decide), fun h => absurd h (by decide), fun _ => Or.inr ⟨_, rfl⟩⟩
theorem am_e11_8 : am_PW am_t (am_cn 11) 31 (0, 11, 8, 2) := ⟨RX11, TX11, 31, tyX11 8, rfl, by decide, by decide, rfl, am_w1149, tyX11_ok 8 (by decide), fun h => absurd h (by decide), fun h => absurd h (by decide), fun _ => Or.inr ⟨_, rfl⟩⟩
theorem am_e11_9 : am_PW am_t (am_cn 11) 34 (0, 11, 21, 0) := ⟨RX11, TX11, 31, tyX11 21, rfl, by decide, by decide, rfl, am_w1150, tyX11_ok 21 (by decide), fun _ => rfl, fun h => absurd h (by decide), fun h => absurd h (by decide)⟩
theorem am_e11_10 : am_PW am_t (am_cn 11) 38 (0, 11, 22, 2) := ⟨RX11, TX11, 31, tyX11 22, rfl, by decide, by decide, rfl, am_w1151, tyX11_ok 22 (by decide), fun h => absurd h (by decide), fun h => absurd h (by decide), fun _ => Or.inr ⟨_, rfl⟩⟩
theorem am_e11_11 : am_PW am_t (am_cn 11) 41 (0, 11, 24, 2) := ⟨RX11, TX11, 31, tyX11 24, rfl, by decide, by decide, rfl, am_w1152, tyX11_ok 24 (by decide), fun h => absurd h (by decide), fun h => absurd h (by decide), fun _ => Or.inr ⟨_, rfl⟩⟩
theorem am_e11_12 : am_PW am_t (am_cn 11) 44 (0, 11, 25, 2) := ⟨RX11, TX11, 31, tyX11 25, rfl, by decide, by decide, rfl, am_w1153, tyX11_ok 25 (by decide), fun h => absurd h (by decide), fun h => absurd h (by decide), fun _ => Or.inr ⟨_, rfl⟩⟩
theorem am_e11_13 : am_PW am_t (am_cn 11) 47 (0, 11, 27, 0) := ⟨RX11, TX11, 31, tyX11 27, rfl, by decide, by decide, rfl, am_w1154, tyX11_ok 27 (by decide), fun _ => rfl, fun h => absurd h (by decide), fun h => absurd h (by decide)⟩
theorem am_e11_14 : am_PW am_t (am_cn 11) 50 (0, 11, 30, 2) := ⟨RX11, TX11, 31, tyX11 30, rfl, by decide, by decide, rfl, am_w1155, tyX11_ok 30 (by decide), fun h => absurd h (by decide), fun h => absurd h (by decide), fun _ => Or.inr ⟨_, rfl⟩⟩
theorem am_e11_15 : am_PW am_t (am_cn 11) 53 (1, 144, 3, 99) := am_PW1 am_m144 (Or.inl am_w1156)
theorem am_e11_16 : am_PW am_t (am_cn 11) 57 (1, 147, 1, 99) := am_PW1 am_m147 (Or.inl am_w1157)
theorem am_e11_17 : am_PW am_t (am_cn 11) 61 (0, 11, 12, 0) := ⟨RX11, TX11, 31, tyX11 12, rfl, by decide, by decide, rfl, am_w1158, tyX11_ok 12 (by decide), fun _ => rfl, fun h => absurd h (by decide), fun h => absurd h (by decide)⟩
theorem am_e11_18 : am_PW am_t (am_cn 11) 64 (0, 11, 13, 0) := ⟨RX11, TX11, 31, tyX11 13, rfl, by decide, by decide, rfl, am_w1159, tyX11_ok 13 (by decide), fun _ => rfl, fun h => absurd h (by decide), fun h => absurd h (by decide)⟩
theorem am_e11_19 : am_PW am_t (am_cn 11) 67 (0, 11, 15, 0) := ⟨RX11, TX11, 31, tyX11 15, rfl, by decide, by decide, rfl, am_w1160, tyX11_ok 15 (by decide), fun _ => rfl, fun h => absurd h (by decide), fun h => absurd h (by decide)⟩
theorem am_e11_20 : am_PW am_t (am_cn 11) 70 (1, 241, 0, 20) := am_PW1 am_m241 (Or.inl am_w1161)
theorem am_e11_21 : am_PW am_t (am_cn 11) 76 (1, 242, 1, 20) := am_PW1 am_m242 (Or.inl am_w1162)
theorem am_e11_22 : am_PW am_t (am_cn 11) 82 (1, 160, 1, 11) := am_PW1 am_m160 (Or.inl am_w1163)
theorem am_e11_23 : am_PW am_t (am_cn 11) 122 (0, 11, 9, 0) := ⟨RX11, TX11, 31, tyX11 9, rfl, by decide, by decide, rfl, am_w1164, tyX11_ok 9 (by decide), fun _ => rfl, fun h => absurd h (by decide), fun h => absurd h (by decide)⟩
theorem am_e11_24 : am_PW am_t (am_cn 11) 125 (1, 161, 0, 11) := am_PW1 am_m161 (Or.inl am_w1165)
theorem am_e11_25 : am_PW am_t (am_cn 11) 128 (1, 162, 0, 11) := am_PW1 am_m162 (Or.inl am_w1166)
theorem am_e11_26 : am_PW am_t (am_cn 11) 131 (1, 157, 1, 11) := am_PW1 am_m157 (Or.inl am_w1167)
theorem am_e11_27 : am_PW am_t (am_cn 11) 135 (0, 11, 14, 0) := ⟨RX11, TX11, 31, tyX11 14, rfl, by decide, by decide, rfl, am_w1168, tyX11_ok 14 (by decide), fun _ => rfl, fun h => absurd h (by decide), fun h => absurd h (by decide)⟩
theorem am_e11_28 : am_PW am_t (am_cn 11) 138 (1, 158, 1, 99) := am_PW1 am_m158 (Or.inl am_w1169)
theorem am_e11_29 : am_PW am_t (am_cn 11) 141 (1, 163, 0, 11) := am_PW1 am_m163 (Or.inl am_w1170)
theorem am_e11_30 : am_PW am_t (am_cn 11) 144 (1, 159, 1, 99) := am_PW1 am_m159 (Or.inl am_w1171)
theorem am_e11_31 : am_PW am_t (am_cn 11) 147 (0, 11, 16, 0) := ⟨RX11, TX11, 31, tyX11 16, rfl, by decide, by decide, rfl, am_w1172, tyX11_ok 16 (by decide), fun _ => rfl, fun h => absurd h (by decide), fun h => absurd h (by decide)⟩
theorem am_e11_32 : am_PW am_t (am_cn 11) 150 (0, 11, 17, 0) := ⟨RX11, TX11, 31, tyX11 17, rfl, by decide, by decide, rfl, am_w1173, tyX11_ok 17 (by decide), fun _ => rfl, fun h => absurd h (by decide), fun h => absurd h (by decide)⟩
theorem am_e11_33 : am_PW am_t (am_cn 11) 153 (0, 11, 18, 0) := ⟨RX11, TX11, 31, tyX11 18, rfl, by decide, by decide, rfl, am_w1174, tyX11_ok 18 (by decide), fun _ => rfl, fun h => absurd h (by decide), fun h => absurd h (by decide)⟩
theorem am_e11_34 : am_PW am_t (am_cn 11) 156 (1, 165, 1, 11) := am_PW1 am_m165 (Or.inl am_w1175)
theorem am_e11_35 : am_PW am_t (am_cn 11) 159 (1, 164, 0, 11) := am_PW1 am_m164 (Or.inl am_w1176)
theorem am_e11_36 : am_PW am_t (am_cn 11) 162 (0, 11, 11, 0) := ⟨RX11, TX11, 31, tyX11 11, rfl, by decide, by decide, rfl, am_w1177, tyX11_ok 11 (by decide), fun _ => rfl, fun h => absurd h (by decide), fun h => absurd h (by decide)⟩
theorem am_e11_37 : am_PW am_t (am_cn 11) 165 (0, 11, 20, 0) := ⟨RX11, TX11, 31, tyX11 20, rfl, by decide, by decide, rfl, am_w1178, tyX11_ok 20 (by decide), fun _ => rfl, fun h => absurd h (by decide), fun h => absurd h (by decide)⟩
theorem am_e11_38 : am_PW am_t (am_cn 11) 168 (1, 170, 0, 11) := am_PW1 am_m170 (Or.inl am_w1179)
theorem am_e11_39 : am_PW am_t (am_cn 11) 172 (1, 167, 2, 11) := am_PW1 am_m167 (Or.inl am_w1180)
theorem am_e11_40 : am_PW am_t (am_cn 11) 176 (1, 171, 0, 11) := am_PW1 am_m171 (Or.inl am_w1181)
theorem am_e11_41 : am_PW am_t (am_cn 11) 179 (1, 173, 0, 11) := am_PW1 am_m173 (Or.inl am_w1182)
theorem am_e11_42 : am_PW am_t (am_cn 11) 182 (1, 174, 0, 11) := am_PW1 am_m174 (Or.inl am_w1183)
theorem am_e11_43 : am_PW am_t (am_cn 11) 185 (1, 168, 0, 11) := am_PW1 am_m168 (Or.inl am_w1184)
theorem am_e11_44 : am_PW am_t (am_cn 11) 188 (1, 172, 0, 11) := am_PW1 am_m172 (Or.inl am_w1185)
theorem am_e11_45 : am_PW am_t (am_cn 11) 191 (1, 166, 1, 11) := am_PW1 am_m166 (Or.inl am_w1186)
theorem am_e11_46 : am_PW am_t (am_cn 11) 194 (1, 169, 0, 11) := am_PW1 am_m169 (Or.inl am_w1187)
theorem am_e11_47 : am_PW am_t (am_cn 11) 197 (0, 11, 10, 0) := ⟨RX11, TX11, 31, tyX11 10, rfl, by decide, by decide, rfl, am_w1188, tyX11_ok 10 (by decide), fun _ => rfl, fun h => absurd h (by decide), fun h => absurd h (by decide)⟩
theorem am_e11_48 : am_PW am_t (am_cn 11) 200 (0, 11, 19, 0) := ⟨RX11, TX11, 31, tyX11 19, rfl, by decide, by decide, rfl, am_w1189, tyX11_ok 19 (by decide), fun _ => rfl, fun h => absurd h (by decide), fun h => absurd h (by decide)⟩
theorem am_e11_49 : am_PW am_t (am_cn 11) 203 (1, 175, 0, 11) := am_PW1 am_m175 (Or.inl am_w1190)
theorem am_e11_50 : am_PW am_t (am_cn 11) 206 (1, 178, 3, 99) := am_PW1 am_m178 (Or.inl am_w1191)
theorem am_e11_51 : am_PW am_t (am_cn 11) 210 (3, 999999, 0, 0) := am_eqc (by decide +kernel) am_w1192
theorem am_e11_52 : am_PW am_t (am_cn 11) 211 (1, 179, 3, 11) := am_PW1 am_m179 (Or.inl am_w1193)
theorem am_e11_53 : am_PW am_t (am_cn 11) 214 (1, 181, 2, 11) := am_PW1 am_m181 (Or.inl am_w1194)
theorem am_e11_54 : am_PW am_t (am_cn 11) 218 (1, 182, 2, 11) := am_PW1 am_m182 (Or.inl am_w1195)
theorem am_e11_55 : am_PW am_t (am_cn 11) 221 (1, 154, 2, 11) := am_PW1 am_m154 (Or.inl am_w1196)
theorem am_e11_56 : am_PW am_t (am_cn 11) 224 (1, 184, 2, 11) := am_PW1 am_m184 (Or.inl am_w1197)
theorem am_e11_57 : am_PW am_t (am_cn 11) 228 (1, 183, 6, 11) := am_PW1 am_m183 (Or.inl am_w1198)
theorem am_e11_58 : am_PW am_t (am_cn 11) 232 (1, 186, 2, 11) := am_PW1 am_m186 (Or.inl am_w1199)
theorem am_e11_59 : am_PW am_t (am_cn 11) 235 (3, 100000000, 1, 0) := am_eqc (by decide +kernel) am_w1200
theorem am_e11_60 : am_PW am_t (am_cn 11) 236 (1, 148, 1, 99) := am_PW1 am_m148 (Or.inl am_w1201)
theorem am_e11_61 : am_PW am_t (am_cn 11) 239 (3, 999999, 1, 0) := am_eqc (by decide +kernel) am_w1202
theorem am_e11_62 : am_PW am_t (am_cn 11) 240 (1, 152, 1, 11) := am_PW1 am_m152 (Or.inl am_w1203)
theorem am_e11_63 : am_PW am_t (am_cn 11) 243 (1, 187, 2, 11) := am_PW1 am_m187 (Or.inl am_w1204)
theorem am_e11_64 : am_PW am_t (am_cn 11) 246 (1, 180, 2, 11) := am_PW1 am_m180 (Or.inl am_w1205)
theorem am_e11_65 : am_PW am_t (am_cn 11) 249 (1, 188, 5, 11) := am_PW1 am_m188 (Or.inl am_w1206)
theorem am_e11_66 : am_PW am_t (am_cn 11) 253 (3, 99999, 0, 0) := am_eqc (by decide +kernel) am_w1207
theorem am_e11_67 : am_PW am_t (am_cn 11) 254 (1, 194, 1, 11) := am_PW1 am_m194 (Or.inl am_w1208)
theorem am_e11_68 : am_PW am_t (am_cn 11) 257 (1, 196, 1, 11) := am_PW1 am_m196 (Or.inl am_w1209)
theorem am_e11_69 : am_PW am_t (am_cn 11) 260 (1, 197, 1, 11) := am_PW1 am_m197 (Or.inl am_w1210)
theorem am_e11_70 : am_PW am_t (am_cn 11) 263 (1, 200, 1, 11) := am_PW1 am_m200 (Or.inl am_w1211)
theorem am_e11_71 : am_PW am_t (am_cn 11) 266 (1, 201, 1, 11) := am_PW1 am_m201 (Or.inl am_w1212)
theorem am_e11_72 : am_PW am_t (am_cn 11) 270 (0, 11, 23, 0) := ⟨RX11, TX11, 31, tyX11 23, rfl, by decide, by decide, rfl, am_w1213, tyX11_ok 23 (by decide), fun _ => rfl, fun h => absurd h (by decide), fun h => absurd h (by decide)⟩
theorem am_e11_73 : am_PW am_t (am_cn 11) 273 (1, 203, 2, 11) := am_PW1 am_m203 (Or.inl am_w1214)
theorem am_e11_74 : am_PW am_t (am_cn 11) 276 (1, 204, 3, 11) := am_PW1 am_m204 (Or.inl am_w1215)
theorem am_e11_75 : am_PW am_t (am_cn 11) 279 (1, 185, 3, 11) := am_PW1 am_m185 (Or.inl am_w1216)
theorem am_e11_76 : am_PW am_t (am_cn 11) 283 (1, 153, 1, 11) := am_PW1 am_m153 (Or.inl am_w1217)
theorem am_e11_77 : am_PW am_t (am_cn 11) 286 (1, 205, 2, 11) := am_PW1 am_m205 (Or.inl am_w1218)
theorem am_e11_78 : am_PW am_t (am_cn 11) 289 (1, 206, 1, 11) := am_PW1 am_m206 (Or.inl am_w1219)
theorem am_e11_79 : am_PW am_t (am_cn 11) 292 (1, 207, 1, 11) := am_PW1 am_m207 (Or.inl am_w1220)
theorem am_e11_80 : am_PW am_t (am_cn 11) 295 (1, 220, 2, 11) := am_PW1 am_m220 (Or.inl am_w1221)
theorem am_e11_81 : am_PW am_t (am_cn 11) 298 (1, 210, 1, 11) := am_PW1 am_m210 (Or.inl am_w1222)
theorem am_e11_82 : am_PW am_t (am_cn 11) 301 (1, 209, 3, 11) := am_PW1 am_m209 (Or.inl am_w1223)
theorem am_e11_83 : am_PW am_t (am_cn 11) 304 (1, 212, 4, 11) := am_PW1 am_m212 (Or.inl am_w1224)
theorem am_e11_84 : am_PW am_t (am_cn 11) 308 (0, 11, 26, 0) := ⟨RX11, TX11, 31, tyX11 26, rfl, by decide, by decide, rfl, am_w1225, tyX11_ok 26 (by decide), fun _ => rfl, fun h => absurd h (by decide), fun h => absurd h (by decide)⟩
theorem am_e11_85 : am_PW am_t (am_cn 11) 311 (1, 213, 5, 11) := am_PW1 am_m213 (Or.inl am_w1226)
theorem am_e11_86 : am_PW am_t (am_cn 11) 314 (1, 214, 4, 11) := am_PW1 am_m214 (Or.inl am_w1227)
theorem am_e11_87 : am_PW am_t (am_cn 11) 316 (3, 999999999, 0, 0) := am_eqc (by decide +kernel) am_w1228
theorem am_e11_88 : am_PW am_t (am_cn 11) 317 (5, 1000, 0, 0) := am_eqcl (by decide +kernel) am_w1229
theorem am_e11_89 : am_PW am_t (am_cn 11) 319 (5, 999999999, 0, 0) := am_eqcl (by decide +kernel) am_w1230
theorem am_e11_90 : am_PW am_t (am_cn 11) 321 (1, 145, 2, 99) := am_PW1 am_m145 (Or.inl am_w1231)
theorem am_e11_91 : am_PW am_t (am_cn 11) 324 (1, 218, 1, 11) := am_PW1 am_m218 (Or.inl am_w1232)
theorem am_e11_92 : am_PW am_t (am_cn 11) 327 (1, 219, 2, 11) := am_PW1 am_m219 (Or.inl am_w1233)
theorem am_e11_93 : am_PW am_t (am_cn 11) 330 (1, 223, 1, 99) := am_PW1 am_m223 (Or.inl am_w1234)
theorem am_e11_94 : am_PW am_t (am_cn 11) 332 (1, 227, 1, 11) := am_PW1 am_m227 (Or.inl am_w1235)
theorem am_e11_95 : am_PW am_t (am_cn 11) 335 (0, 11, 28, 0) := ⟨RX11, TX11, 31, tyX11 28, rfl, by decide, by decide, rfl, am_w1236, tyX11_ok 28 (by decide), fun _ => rfl, fun h => absurd h (by decide), fun h => absurd h (by decide)⟩
theorem am_e11_96 : am_PW am_t (am_cn 11) 338 (0, 11, 29, 0) := ⟨RX11, TX11, 31, tyX11 29, rfl, by decide, by decide, rfl, am_w1237, tyX11_ok 29 (by decide), fun _ => rfl, fun h => absurd h (by decide), fun h => absurd h (by decide)⟩
theorem am_e11_97 : am_PW am_t (am_cn 11) 341 (1, 228, 0, 11) := am_PW1 am_m228 (Or.inl am_w1238)
theorem am_e11_98 : am_PW am_t (am_cn 11) 344 (1, 229, 2, 11) := am_PW1 am_m229 (Or.inl am_w1239)
theorem am_e11_99 : am_PW am_t (am_cn 11) 347 (1, 233, 2, 11) := am_PW1 am_m233 (Or.inl am_w1240)
theorem am_e11_100 : am_PW am_t (am_cn 11) 350 (1, 235, 2, 11) := am_PW1 am_m235 (Or.inl am_w1241)
theorem am_e11_101 : am_PW am_t (am_cn 11) 353 (0, 11, 3, 1) := ⟨RX11, TX11, 31, tyX11 3, rfl, by decide, by decide, rfl, am_w1242, tyX11_ok 3 (by decide), fun h => absurd h (by decide), fun _ => rfl, fun h => absurd h (by decide)⟩
set_option maxRecDepth 20000 in
theorem am_pok11 : am_PL am_p11 := am_PLc am_e11_0 (am_PLc am_e11_1 (am_PLc am_e11_2 (am_PLc am_e11_3 (am_PLc am_e11_4 (am_PLc am_e11_5 (am_PLc am_e11_6 (am_PLc am_e11_7 (am_PLc am_e11_8 (am_PLc am_e11_9 (am_PLc am_e11_10 (am_PLc am_e11_11 (am_PLc am_e11_12 (am_PLc am_e11_13 (am_PLc am_e11_14 (am_PLc am_e11_15 (am_PLc am_e11_16 (am_PLc am_e11_17 (am_PLc am_e11_18 (am_PLc am_e11_19 (am_PLc am_e11_20 (am_PLc am_e11_21 (am_PLc am_e11_22 (am_PLc am_e11_23 (am_PLc am_e11_24 (am_PLc am_e11_25 (am_PLc am_e11_26 (am_PLc am_e11_27 (am_PLc am_e11_28 (am_PLc am_e11_29 (am_PLc am_e11_30 (am_PLc am_e11_31 (am_PLc am_e11_32 (am_PLc am_e11_33 (am_PLc am_e11_34 (am_PLc am_e11_35 (am_PLc am_e11_36 (am_PLc am_e11_37 (am_PLc am_e11_38 (am_PLc am_e11_39 (am_PLc am_e11_40 (am_PLc am_e11_41 (am_PLc am_e11_42 (am_PLc am_e11_43 (am_PLc am_e11_44 (am_PLc am_e11_45 (am_PLc am_e11_46 (am_PLc am_e11_47 (am_PLc am_e11_48 (am_PLc am_e11_49 (am_PLc am_e11_50 (am_PLc am_e11_51 (am_PLc am_e11_52 (am_PLc am_e11_53 (am_PLc am_e11_54 (am_PLc am_e11_55 (am_PLc am_e11_56 (am_PLc am_e11_57 (am_PLc am_e11_58 (am_PLc am_e11_59 (am_PLc am_e11_60 (am_PLc am_e11_61 (am_PLc am_e11_62 (am_PLc am_e11_63 (am_PLc am_e11_64 (am_PLc am_e11_65 (am_PLc am_e11_66 (am_PLc am_e11_67 (am_PLc am_e11_68 (am_PLc am_e11_69 (am_PLc am_e11_70 (am_PLc am_e11_71 (am_PLc am_e11_72 (am_PLc am_e11_73 (am_PLc am_e11_74 (am_PLc am_e11_75 (am_PLc am_e11_76 (am_PLc am_e11_77 (am_PLc am_e11_78 (am_PLc am_e11_79 (am_PLc am_e11_80 (am_PLc am_e11_81 (am_PLc am_e11_82 (am_PLc am_e11_83 (am_PLc am_e11_84 (am_PLc am_e11_85 (am_PLc am_e11_86 (am_PLc am_e11_87 (am_PLc am_e11_88 (am_PLc am_e11_89 (am_PLc am_e11_90 (am_PLc am_e11_91 (am_PLc am_e11_92 (am_PLc am_e11_93 (am_PLc am_e11_94 (am_PLc am_e11_95 (am_PLc am_e11_96 (am_PLc am_e11_97 (am_PLc am_e11_98 (am_PLc am_e11_99 (am_PLc am_e11_100 (am_PLc am_e11_101 (am_PL0))))))))))))))))))))))))))))))))))))))))))))))))))))))))))))))))))))))))))))))))))))))))))))))))))))))
theorem am_e20_0 : am_PW am_t (am_cn 20) 9 (6, 0, 0, 0) := Or.inl ⟨rfl, am_w1243⟩
theorem am_e20_1 : am_PW am_t (am_cn 20) 335 (1, 245, 0, 20) := am_PW1 am_m245 (Or.inl am_w1244)
theorem am_e20_2 : am_PW am_t (am_cn 20) 492 (1, 246, 0, 20) := am_PW1 am_m246 (Or.inl am_w1245)
theorem am_e20_3 : am_PW am_t (am_cn 20) 495 (1, 248, 2, 99) := am_PW1 am_m248 (Or.inl am_w1246)
theorem am_e20_4 : am_PW am_t (am_cn 20) 633 (1, 244, 2, 20) := am_PW1 am_m244 (Or.inl am_w1247)
theorem am_e20_5 : am_PW am_t (am_cn 20) 505 (1, 241, 0, 20) := am_PW1 am_m241 (Or.inl am_w1248)
theorem am_e20_6 : am_PW am_t (am_cn 20) 637 (1, 250, 4, 99) := am_PW1 am_m250 (Or.inl am_w1249)
theorem am_e20_7 : am_PW am_t (am_cn 20) 38 (9, 0, 0, 0) := Or.inl ⟨rfl, am_w1250⟩
theorem am_e20_8 : am_PW am_t (am_cn 20) 15 (6, 1, 0, 0) := Or.inr ⟨rfl, am_w1251⟩
theorem am_e20_9 : am_PW am_t (am_cn 20) 1053 (9, 1, 0, 0) := Or.inr ⟨rfl, am_w1252⟩
theorem am_e20_10 : am_PW am_t (am_cn 20) 1059 (1, 252, 3, 99) := am_PW1 am_m252 (Or.inl am_w1253)
set_option maxRecDepth 20000 in
theorem am_pok20 : am_PL am_p20 := am_PLc am_e20_0 (am_PLc am_e20_1 (am_PLc am_e20_2 (am_PLc am_e20_3 (am_PLc am_e20_4 (am_PLc am_e20_5 (am_PLc am_e20_6 (am_PLc am_e20_7 (am_PLc am_e20_8 (am_PLc am_e20_9 (am_PLc am_e20_10 (am_PL0)))))))))))
theorem am_e21_0 : am_PW am_t (am_cn 21) 9 (1, 247, 2, 99) := am_PW1 am_m247 (Or.inl am_w1254)
theorem am_e21_1 : am_PW am_t (am_cn 21) 88 (1, 249, 1, 99) := am_PW1 am_m249 (Or.inl am_w1255)
theorem am_e21_2 : am_PW am_t (am_cn 21) 92 (11, 0, 0, 0) := ⟨am_w1256, am_w866, am_w863, am_eqco (by decide +kernel) am_w867⟩
theorem am_e21_3 : am_PW am_t (am_cn 21) 38 (12, 0, 0, 0) := ⟨am_w1257, am_w862, am_w863, am_eqco (by decide +kernel) am_w864⟩
theorem am_e21_4 : am_PW am_t (am_cn 21) 95 (1, 251, 4, 99) := am_PW1 am_m251 (Or.inl am_w1258)
set_option maxRecDepth 20000 in
theorem am_pok21 : am_PL am_p21 := am_PLc am_e21_0 (am_PLc am_e21_1 (am_PLc am_e21_2 (am_PLc am_e21_3 (am_PLc am_e21_4 (am_PL0)))))
theorem am_e24_0 : am_PW am_t (am_cn 24) 265 (3, 1431655765, 0, 0) := am_eqc (by decide +kernel) am_w1259
theorem am_e24_1 : am_PW am_t (am_cn 24) 266 (3, 858993459, 0, 0) := am_eqc (by decide +kernel) am_w1260
theorem am_e24_2 : am_PW am_t (am_cn 24) 267 (3, 252645135, 0, 0) := am_eqc (by decide +kernel) am_w1261
set_option maxRecDepth 20000 in
theorem am_pok24 : am_PL am_p24 := am_PLc am_e24_0 (am_PLc am_e24_1 (am_PLc am_e24_2 (am_PL0)))
theorem am_e30_0 : am_PW am_t (am_cn 30) 7 (2, 10, 0, 0) := ⟨RX10, TX10, 15, rfl, am_w736, am_w737, am_w1⟩
theorem am_e30_1 : am_PW am_t (am_cn 30) 9 (1, 92, 0, 98) := am_PW1 am_m92 (Or.inl am_w738)
theorem am_e30_2 : am_PW am_t (am_cn 30) 10 (2, 11, 0, 0) := ⟨RX11, TX11, 31, rfl, am_w739, am_w740, am_w4⟩
theorem am_e30_3 : am_PW am_t (am_cn 30) 12 (1, 146, 0, 98) := am_PW1 am_m146 (Or.inl am_w741)
theorem am_e30_4 : am_PW am_t (am_cn 30) 13 (1, 93, 2, 10) := am_PW1 am_m93 (Or.inl am_w742)
theorem am_e30_5 : am_PW am_t (am_cn 30) 17 (1, 149, 2, 11) := am_PW1 am_m149 (Or.inl am_w743)
theorem am_e30_6 : am_PW am_t (am_cn 30) 18 (1, 94, 3, 10) := am_PW1 am_m94 (Or.inl am_w744)
theorem am_e30_7 : am_PW am_t (am_cn 30) 22 (1, 150, 3, 11) := am_PW1 am_m150 (Or.inl am_w745)
theorem am_e30_8 : am_PW am_t (am_cn 30) 23 (1, 95, 3, 10) := am_PW1 am_m95 (Or.inl am_w746)
theorem am_e30_9 : am_PW am_t (am_cn 30) 27 (1, 151, 3, 11) := am_PW1 am_m151 (Or.inl am_w747)
theorem am_e30_10 : am_PW am_t (am_cn 30) 28 (1, 96, 5, 10) := am_PW1 am_m96 (Or.inl am_w748)
theorem am_e30_11 : am_PW am_t (am_cn 30) 32 (1, 155, 5, 11) := am_PW1 am_m155 (Or.inl am_w749)
theorem am_e30_12 : am_PW am_t (am_cn 30) 33 (1, 97, 1, 10) := am_PW1 am_m97 (Or.inl am_w750)
theorem am_e30_13 : am_PW am_t (am_cn 30) 37 (1, 156, 1, 11) := am_PW1 am_m156 (Or.inl am_w751)
theorem am_e30_14 : am_PW am_t (am_cn 30) 38 (1, 98, 1, 10) := am_PW1 am_m98 (Or.inl am_w752)
theorem am_e30_15 : am_PW am_t (am_cn 30) 42 (1, 176, 1, 11) := am_PW1 am_m176 (Or.inl am_w753)
theorem am_e30_16 : am_PW am_t (am_cn 30) 43 (1, 99, 1, 10) := am_PW1 am_m99 (Or.inl am_w754)
theorem am_e30_17 : am_PW am_t (am_cn 30) 46 (1, 177, 1, 11) := am_PW1 am_m177 (Or.inl am_w755)
theorem am_e30_18 : am_PW am_t (am_cn 30) 47 (1, 100, 3, 10) := am_PW1 am_m100 (Or.inl am_w756)
theorem am_e30_19 : am_PW am_t (am_cn 30) 50 (1, 190, 3, 11) := am_PW1 am_m190 (Or.inl am_w757)
theorem am_e30_20 : am_PW am_t (am_cn 30) 51 (1, 101, 5, 10) := am_PW1 am_m101 (Or.inl am_w758)
theorem am_e30_21 : am_PW am_t (am_cn 30) 54 (1, 191, 5, 11) := am_PW1 am_m191 (Or.inl am_w759)
theorem am_e30_22 : am_PW am_t (am_cn 30) 55 (1, 102, 0, 10) := am_PW1 am_m102 (Or.inl am_w760)
theorem am_e30_23 : am_PW am_t (am_cn 30) 59 (1, 208, 0, 11) := am_PW1 am_m208 (Or.inl am_w761)
theorem am_e30_24 : am_PW am_t (am_cn 30) 60 (1, 103, 3, 10) := am_PW1 am_m103 (Or.inl am_w762)
theorem am_e30_25 : am_PW am_t (am_cn 30) 64 (1, 192, 3, 11) := am_PW1 am_m192 (Or.inl am_w763)
theorem am_e30_26 : am_PW am_t (am_cn 30) 65 (1, 104, 2, 10) := am_PW1 am_m104 (Or.inl am_w764)
theorem am_e30_27 : am_PW am_t (am_cn 30) 69 (1, 193, 2, 11) := am_PW1 am_m193 (Or.inl am_w765)
theorem am_e30_28 : am_PW am_t (am_cn 30) 70 (1, 105, 2, 10) := am_PW1 am_m105 (Or.inl am_w766)
theorem am_e30_29 : am_PW am_t (am_cn 30) 73 (1, 198, 2, 11) := am_PW1 am_m198 (Or.inl am_w767)
theorem am_e30_30 : am_PW am_t (am_cn 30) 74 (1, 106, 3, 10) := am_PW1 am_m106 (Or.inl am_w768)
theorem am_e30_31 : am_PW am_t (am_cn 30) 77 (1, 199, 3, 11) := am_PW1 am_m199 (Or.inl am_w769)
theorem am_e30_32 : am_PW am_t (am_cn 30) 78 (1, 107, 1, 10) := am_PW1 am_m107 (Or.inl am_w770)
theorem am_e30_33 : am_PW am_t (am_cn 30) 81 (1, 202, 1, 11) := am_PW1 am_m202 (Or.inl am_w771)
theorem am_e30_34 : am_PW am_t (am_cn 30) 82 (1, 108, 3, 10) := am_PW1 am_m108 (Or.inl am_w772)
theorem am_e30_35 : am_PW am_t (am_cn 30) 85 (1, 211, 3, 11) := am_PW1 am_m211 (Or.inl am_w773)
theorem am_e30_36 : am_PW am_t (am_cn 30) 86 (1, 109, 4, 10) := am_PW1 am_m109 (Or.inl am_w774)
theorem am_e30_37 : am_PW am_t (am_cn 30) 90 (1, 214, 4, 11) := am_PW1 am_m214 (Or.inl am_w775)
theorem am_e30_38 : am_PW am_t (am_cn 30) 91 (1, 110, 4, 10) := am_PW1 am_m110 (Or.inl am_w776)
theorem am_e30_39 : am_PW am_t (am_cn 30) 94 (1, 215, 4, 11) := am_PW1 am_m215 (Or.inl am_w777)
theorem am_e30_40 : am_PW am_t (am_cn 30) 95 (1, 111, 3, 10) := am_PW1 am_m111 (Or.inl am_w778)
theorem am_e30_41 : am_PW am_t (am_cn 30) 98 (1, 216, 3, 11) := am_PW1 am_m216 (Or.inl am_w779)
theorem am_e30_42 : am_PW am_t (am_cn 30) 99 (1, 112, 2, 10) := am_PW1 am_m112 (Or.inl am_w780)
theorem am_e30_43 : am_PW am_t (am_cn 30) 102 (1, 195, 2, 11) := am_PW1 am_m195 (Or.inl am_w781)
theorem am_e30_44 : am_PW am_t (am_cn 30) 103 (1, 113, 2, 10) := am_PW1 am_m113 (Or.inl am_w782)
theorem am_e30_45 : am_PW am_t (am_cn 30) 106 (1, 189, 2, 11) := am_PW1 am_m189 (Or.inl am_w783)
theorem am_e30_46 : am_PW am_t (am_cn 30) 107 (1, 114, 3, 10) := am_PW1 am_m114 (Or.inl am_w784)
theorem am_e30_47 : am_PW am_t (am_cn 30) 110 (1, 217, 3, 11) := am_PW1 am_m217 (Or.inl am_w785)
theorem am_e30_48 : am_PW am_t (am_cn 30) 111 (1, 115, 3, 10) := am_PW1 am_m115 (Or.inl am_w786)
theorem am_e30_49 : am_PW am_t (am_cn 30) 114 (1, 221, 3, 11) := am_PW1 am_m221 (Or.inl am_w787)
theorem am_e30_50 : am_PW am_t (am_cn 30) 115 (1, 116, 1, 10) := am_PW1 am_m116 (Or.inl am_w788)
theorem am_e30_51 : am_PW am_t (am_cn 30) 118 (1, 222, 1, 11) := am_PW1 am_m222 (Or.inl am_w789)
theorem am_e30_52 : am_PW am_t (am_cn 30) 119 (1, 117, 2, 10) := am_PW1 am_m117 (Or.inl am_w790)
theorem am_e30_53 : am_PW am_t (am_cn 30) 122 (1, 224, 2, 11) := am_PW1 am_m224 (Or.inl am_w791)
theorem am_e30_54 : am_PW am_t (am_cn 30) 123 (1, 118, 3, 10) := am_PW1 am_m118 (Or.inl am_w792)
theorem am_e30_55 : am_PW am_t (am_cn 30) 126 (1, 225, 3, 11) := am_PW1 am_m225 (Or.inl am_w793)
theorem am_e30_56 : am_PW am_t (am_cn 30) 127 (1, 119, 2, 10) := am_PW1 am_m119 (Or.inl am_w794)
theorem am_e30_57 : am_PW am_t (am_cn 30) 130 (1, 226, 2, 11) := am_PW1 am_m226 (Or.inl am_w795)
theorem am_e30_58 : am_PW am_t (am_cn 30) 131 (1, 120, 2, 10) := am_PW1 am_m120 (Or.inl am_w796)
theorem am_e30_59 : am_PW am_t (am_cn 30) 134 (1, 230, 2, 11) := am_PW1 am_m230 (Or.inl am_w797)
theorem am_e30_60 : am_PW am_t (am_cn 30) 135 (1, 121, 0, 10) := am_PW1 am_m121 (Or.inl am_w798)
theorem am_e30_61 : am_PW am_t (am_cn 30) 138 (1, 231, 0, 11) := am_PW1 am_m231 (Or.inl am_w799)
theorem am_e30_62 : am_PW am_t (am_cn 30) 139 (1, 122, 2, 10) := am_PW1 am_m122 (Or.inl am_w800)
theorem am_e30_63 : am_PW am_t (am_cn 30) 142 (1, 232, 2, 11) := am_PW1 am_m232 (Or.inl am_w801)
theorem am_e30_64 : am_PW am_t (am_cn 30) 143 (1, 123, 2, 10) := am_PW1 am_m123 (Or.inl am_w802)
theorem am_e30_65 : am_PW am_t (am_cn 30) 146 (1, 234, 2, 11) := am_PW1 am_m234 (Or.inl am_w803)
theorem am_e30_66 : am_PW am_t (am_cn 30) 147 (1, 124, 2, 10) := am_PW1 am_m124 (Or.inl am_w804)
theorem am_e30_67 : am_PW am_t (am_cn 30) 150 (1, 235, 2, 11) := am_PW1 am_m235 (Or.inl am_w805)
theorem am_e30_68 : am_PW am_t (am_cn 30) 151 (1, 125, 1, 10) := am_PW1 am_m125 (Or.inl am_w806)
theorem am_e30_69 : am_PW am_t (am_cn 30) 154 (1, 236, 1, 11) := am_PW1 am_m236 (Or.inl am_w807)
theorem am_e30_70 : am_PW am_t (am_cn 30) 155 (1, 126, 4, 10) := am_PW1 am_m126 (Or.inl am_w808)
theorem am_e30_71 : am_PW am_t (am_cn 30) 158 (1, 237, 4, 11) := am_PW1 am_m237 (Or.inl am_w809)
theorem am_e30_72 : am_PW am_t (am_cn 30) 159 (1, 127, 1, 10) := am_PW1 am_m127 (Or.inl am_w810)
theorem am_e30_73 : am_PW am_t (am_cn 30) 162 (1, 238, 1, 11) := am_PW1 am_m238 (Or.inl am_w811)
theorem am_e30_74 : am_PW am_t (am_cn 30) 163 (1, 128, 1, 10) := am_PW1 am_m128 (Or.inl am_w812)
theorem am_e30_75 : am_PW am_t (am_cn 30) 167 (1, 239, 1, 11) := am_PW1 am_m239 (Or.inl am_w813)
theorem am_e30_76 : am_PW am_t (am_cn 30) 168 (1, 129, 1, 10) := am_PW1 am_m129 (Or.inl am_w814)
theorem am_e30_77 : am_PW am_t (am_cn 30) 171 (1, 240, 1, 11) := am_PW1 am_m240 (Or.inl am_w815)
set_option maxRecDepth 20000 in
theorem am_pok30 : am_PL am_p30 := am_PLc am_e30_0 (am_PLc am_e30_1 (am_PLc am_e30_2 (am_PLc am_e30_3 (am_PLc am_e30_4 (am_PLc am_e30_5 (am_PLc am_e30_6 (am_PLc am_e30_7 (am_PLc am_e30_8 (am_PLc am_e30_9 (am_PLc am_e30_10 (am_PLc am_e30_11 (am_PLc am_e30_12 (am_PLc am_e30_13 (am_PLc am_e30_14 (am_PLc am_e30_15 (am_PLc am_e30_16 (am_PLc am_e30_17 (am_PLc am_e30_18 (am_PLc am_e30_19 (am_PLc am_e30_20 (am_PLc am_e30_21 (am_PLc am_e30_22 (am_PLc am_e30_23 (am_PLc am_e30_24 (am_PLc am_e30_25 (am_PLc am_e30_26 (am_PLc am_e30_27 (am_PLc am_e30_28 (am_PLc am_e30_29 (am_PLc am_e30_30 (am_PLc am_e30_31 (am_PLc am_e30_32 (am_PLc am_e30_33 (am_PLc am_e30_34 (am_PLc am_e30_35 (am_PLc am_e30_36 (am_PLc am_e30_37 (am_PLc am_e30_38 (am_PLc am_e30_39 (am_PLc am_e30_40 (am_PLc am_e30_41 (am_PLc am_e30_42 (am_PLc am_e30_43 (am_PLc am_e30_44 (am_PLc am_e30_45 (am_PLc am_e30_46 (am_PLc am_e30_47 (am_PLc am_e30_48 (am_PLc am_e30_49 (am_PLc am_e30_50 (am_PLc am_e30_51 (am_PLc am_e30_52 (am_PLc am_e30_53 (am_PLc am_e30_54 (am_PLc am_e30_55 (am_PLc am_e30_56 (am_PLc am_e30_57 (am_PLc am_e30_58 (am_PLc am_e30_59 (am_PLc am_e30_60 (am_PLc am_e30_61 (am_PLc am_e30_62 (am_PLc am_e30_63 (am_PLc am_e30_64 (am_PLc am_e30_65 (am_PLc am_e30_66 (am_PLc am_e30_67 (am_PLc am_e30_68 (am_PLc am_e30_69 (am_PLc am_e30_70 (am_PLc am_e30_71 (am_PLc am_e30_72 (am_PLc am_e30_73 (am_PLc am_e30_74 (am_PLc am_e30_75 (am_PLc am_e30_76 (am_PLc am_e30_77 (am_PL0))))))))))))))))))))))))))))))))))))))))))))))))))))))))))))))))))))))))))))))
theorem am_pool_ok : ∀ e ∈ am_pool, am_PW am_t (am_cn e.1) e.2.1 e.2.2 := by
  intro e he
  unfold am_pool at he
  rcases List.mem_append.mp he with he | he
  · exact am_pok0 e he
  rcases List.mem_append.mp he with he | he
  · exact am_pok1 e he
  rcases List.mem_append.mp he with he | he
  · exact am_pok2 e he
  rcases List.mem_append.mp he with he | he
  · exact am_pok3 e he
  rcases List.mem_append.mp he with he | he
  · exact am_pok4 e he
  rcases List.mem_append.mp he with he | he
  · exact am_pok5 e he
  rcases List.mem_append.mp he with he | he
  · exact am_pok6 e he
  rcases List.mem_append.mp he with he | he
  · exact am_pok7 e he
  rcases List.mem_append.mp he with he | he
  · exact am_pok8 e he
  rcases List.mem_append.mp he with he | he
  · exact am_pok9 e he
  rcases List.mem_append.mp he with he | he
  · exact am_pok10 e he
  rcases List.mem_append.mp he with he | he
  · exact am_pok11 e he
  rcases List.mem_append.mp he with he | he
  · exact am_pok20 e he
  rcases List.mem_append.mp he with he | he
  · exact am_pok21 e he
  rcases List.mem_append.mp he with he | he
  · exact am_pok24 e he
  exact am_pok30 e he
theorem am_u_ok : ∀ (ci : Nat) (q : vw_C), vwCl[ci]? = some q → ∀ w ∈ u_ws q.1 q.2.1 q.2.2, am_W w := by
  intro ci q h w hw
  unfold u_ws at hw
  obtain ⟨k, hk, rfl⟩ := List.mem_map.mp hw
  have hk := List.mem_range.mp hk
  match ci, h with
  | 0, h =>
    cases h
    match k, hk with
    | 0, _ => exact am_w1262
    | 1, _ => exact am_w1263
    | 2, _ => exact am_w1264
    | 3, _ => exact am_w1265
    | 4, _ => exact am_w1266
    | 5, _ => exact am_w1267
    | j + 6, hk => exact absurd hk (Nat.not_lt.mpr (Nat.le_add_left _ _))
  | 1, h =>
    cases h
    match k, hk with
    | 0, _ => exact am_w1268
    | 1, _ => exact am_w1269
    | j + 2, hk => exact absurd hk (Nat.not_lt.mpr (Nat.le_add_left _ _))
  | 2, h =>
    cases h
    match k, hk with
    | 0, _ => exact am_w1270
    | 1, _ => exact am_w1271
    | 2, _ => exact am_w1272
    | 3, _ => exact am_w1273
    | 4, _ => exact am_w1274
    | 5, _ => exact am_w1275
    | 6, _ => exact am_w1276
    | 7, _ => exact am_w1277
    | 8, _ => exact am_w1278
    | 9, _ => exact am_w1279
    | j + 10, hk => exact absurd hk (Nat.not_lt.mpr (Nat.le_add_left _ _))
  | 3, h =>
    cases h
    match k, hk with
    | 0, _ => exact am_w1280
    | 1, _ => exact am_w1281
    | 2, _ => exact am_w1282
    | 3, _ => exact am_w1283
    | 4, _ => exact am_w1284
    | 5, _ => exact am_w1285
    | 6, _ => exact am_w1286
    | 7, _ => exact am_w1287
    | 8, _ => exact am_w1288
    | j + 9, hk => exact absurd hk (Nat.not_lt.mpr (Nat.le_add_left _ _))
  | 4, h =>
    cases h
    match k, hk with
    | 0, _ => exact am_w1289
    | 1, _ => exact am_w1290
    | 2, _ => exact am_w1291
    | 3, _ => exact am_w1292
    | j + 4, hk => exact absurd hk (Nat.not_lt.mpr (Nat.le_add_left _ _))
  | 5, h =>
    cases h
    match k, hk with
    | 0, _ => exact am_w1293
    | 1, _ => exact am_w1294
    | 2, _ => exact am_w1295
    | 3, _ => exact am_w1296
    | 4, _ => exact am_w1297
    | 5, _ => exact am_w1298
    | 6, _ => exact am_w1299
    | 7, _ => exact am_w1300
    | j + 8, hk => exact absurd hk (Nat.not_lt.mpr (Nat.le_add_left _ _))
  | 6, h =>
    cases h
    match k, hk with
    | 0, _ => exact am_w1301
    | 1, _ => exact am_w1302
    | j + 2, hk => exact absurd hk (Nat.not_lt.mpr (Nat.le_add_left _ _))
  | 7, h =>
    cases h
    match k, hk with
    | 0, _ => exact am_w1303
    | 1, _ => exact am_w1304
    | j + 2, hk => exact absurd hk (Nat.not_lt.mpr (Nat.le_add_left _ _))
  | 8, h =>
    cases h
    match k, hk with
    | 0, _ => exact am_w1305
    | 1, _ => exact am_w1306
    | 2, _ => exact am_w1307
    | 3, _ => exact am_w1308
    | 4, _ => exact am_w1309
    | 5, _ => exact am_w1310
    | j + 6, hk => exact absurd hk (Nat.not_lt.mpr (Nat.le_add_left _ _))
  | 9, h =>
    cases h
    match k, hk with
    | 0, _ => exact am_w1311
    | 1, _ => exact am_w1312
    | 2, _ => exact am_w1313
    | 3, _ => exact am_w1314
    | 4, _ => exact am_w1315
    | 5, _ => exact am_w1316
    | 6, _ => exact am_w1317
    | 7, _ => exact am_w1318
    | 8, _ => exact am_w1319
    | j + 9, hk => exact absurd hk (Nat.not_lt.mpr (Nat.le_add_left _ _))
  | 10, h =>
    cases h
    match k, hk with
    | 0, _ => exact am_w1320
    | 1, _ => exact am_w1321
    | 2, _ => exact am_w1322
    | 3, _ => exact am_w1323
    | 4, _ => exact am_w1324
    | 5, _ => exact am_w1325
    | 6, _ => exact am_w1326
    | 7, _ => exact am_w1327
    | 8, _ => exact am_w1328
    | 9, _ => exact am_w1329
    | 10, _ => exact am_w1330
    | 11, _ => exact am_w1331
    | 12, _ => exact am_w1332
    | 13, _ => exact am_w1333
    | 14, _ => exact am_w1334
    | j + 15, hk => exact absurd hk (Nat.not_lt.mpr (Nat.le_add_left _ _))
  | 11, h =>
    cases h
    match k, hk with
    | 0, _ => exact am_w1335
    | 1, _ => exact am_w1336
    | 2, _ => exact am_w1337
    | 3, _ => exact am_w1338
    | 4, _ => exact am_w1339
    | 5, _ => exact am_w1340
    | 6, _ => exact am_w1341
    | 7, _ => exact am_w1342
    | 8, _ => exact am_w1343
    | 9, _ => exact am_w1344
    | 10, _ => exact am_w1345
    | 11, _ => exact am_w1346
    | 12, _ => exact am_w1347
    | 13, _ => exact am_w1348
    | 14, _ => exact am_w1349
    | 15, _ => exact am_w1350
    | 16, _ => exact am_w1351
    | 17, _ => exact am_w1352
    | 18, _ => exact am_w1353
    | 19, _ => exact am_w1354
    | 20, _ => exact am_w1355
    | 21, _ => exact am_w1356
    | 22, _ => exact am_w1357
    | 23, _ => exact am_w1358
    | 24, _ => exact am_w1359
    | 25, _ => exact am_w1360
    | 26, _ => exact am_w1361
    | 27, _ => exact am_w1362
    | 28, _ => exact am_w1363
    | 29, _ => exact am_w1364
    | 30, _ => exact am_w1365
    | j + 31, hk => exact absurd hk (Nat.not_lt.mpr (Nat.le_add_left _ _))
  | k + 12, h => exact absurd (am_lt_len h) (by simp)
theorem am_arr_ok : am_W (.arrayClass .int) := am_w1366
