
def zFld (own : String) (idx ci k : Nat) (fin : Bool) : Prop := ∃ (C : String) (T : u_T) (N : Nat), vwCl[ci]? = some (C, T, N) ∧ k < N ∧ (T k).2.2.2 = fin ∧ (Cond.fieldLink own idx (T k).1 (T k).2.1 (T k).2.2.1 ∈ zT ∨ ∃ host, Cond.fieldLinkNest own idx (T k).1 (T k).2.1 (T k).2.2.1 host ∈ zN)
def zCls (ci : Nat) (C : String) (T : u_T) (N : Nat) : Prop := (∀ w ∈ u_ws C T N, w ∈ zT) ∧ (∀ k, k < N → parseFieldDescriptor (T k).2.2.1 = some (zft ci k)) ∧ (∀ a, a < N → ∀ b, b < N → a ≠ b → (T a).2.1 ≠ (T b).2.1) ∧ zNF ci = N ∧ (Cond.instantiable C N ∈ zT) ∧ (Cond.initialized C ∈ zT) ∧ ∀ k, k < N → zfk ci k = 0 ∨ (zft ci k).isReference = true

theorem zcls0 : zCls 0 RX0 TX0 4 := ⟨by decide +kernel, by decide +kernel, nmX0, rfl, by decide +kernel, by decide +kernel, by decide +kernel⟩
theorem zcls1 : zCls 1 RX1 TX1 5 := ⟨by decide +kernel, by decide +kernel, nmX1, rfl, by decide +kernel, by decide +kernel, by decide +kernel⟩
theorem zcls2 : zCls 2 RX2 TX2 8 := ⟨by decide +kernel, by decide +kernel, nmX2, rfl, by decide +kernel, by decide +kernel, by decide +kernel⟩
theorem zcls3 : zCls 3 RX3 TX3 6 := ⟨by decide +kernel, by decide +kernel, nmX3, rfl, by decide +kernel, by decide +kernel, by decide +kernel⟩
theorem zcls4 : zCls 4 RX4 TX4 8 := ⟨by decide +kernel, by decide +kernel, nmX4, rfl, by decide +kernel, by decide +kernel, by decide +kernel⟩
theorem zcls5 : zCls 5 RX5 TX5 3 := ⟨by decide +kernel, by decide +kernel, nmX5, rfl, by decide +kernel, by decide +kernel, by decide +kernel⟩
theorem zcls6 : zCls 6 RX6 TX6 5 := ⟨by decide +kernel, by decide +kernel, nmX6, rfl, by decide +kernel, by decide +kernel, by decide +kernel⟩
theorem zcls7 : zCls 7 RX7 TX7 9 := ⟨by decide +kernel, by decide +kernel, nmX7, rfl, by decide +kernel, by decide +kernel, by decide +kernel⟩
theorem zcls8 : zCls 8 RX8 TX8 39 := ⟨by decide +kernel, by decide +kernel, nmX8, rfl, by decide +kernel, by decide +kernel, by decide +kernel⟩
theorem zcls : ∀ (ci : Nat) (C : String) (T : u_T) (N : Nat), vwCl[ci]? = some (C, T, N) → zCls ci C T N
  | 0, _, _, _, h => by cases h; exact zcls0
  | 1, _, _, _, h => by cases h; exact zcls1
  | 2, _, _, _, h => by cases h; exact zcls2
  | 3, _, _, _, h => by cases h; exact zcls3
  | 4, _, _, _, h => by cases h; exact zcls4
  | 5, _, _, _, h => by cases h; exact zcls5
  | 6, _, _, _, h => by cases h; exact zcls6
  | 7, _, _, _, h => by cases h; exact zcls7
  | 8, _, _, _, h => by cases h; exact zcls8
  | _ + 9, _, _, _, h => by simp at h

theorem zW_ob {ρ : Nat → Nat} {cy : Nat → ClassId} {g : zG} {σ : zI} {i c : Nat} (h : zOb g i c) : (zW ρ cy g σ)[i]? = some (ρ i, .inr (c, zF ρ c (g.2.2 i) (σ i))) := by
  rw [zW_get h.1, h.2]
  rfl
theorem zW_ar1 {ρ : Nat → Nat} {cy : Nat → ClassId} {g : zG} {σ : zI} {i n : Nat} (h : zAr g i 1 n) : (zW ρ cy g σ)[i]? = some (ρ i, .inl (cy 0, n, .inl (σ i))) := by
  rw [zW_get h.1, h.2]
  rfl
theorem zW_ar2 {ρ : Nat → Nat} {cy : Nat → ClassId} {g : zG} {σ : zI} {i n : Nat} (h : zAr g i 2 n) : (zW ρ cy g σ)[i]? = some (ρ i, .inl (cy 1, n, .inl (σ i))) := by
  rw [zW_get h.1, h.2]
  rfl
theorem zW_arq {ρ : Nat → Nat} {cy : Nat → ClassId} {g : zG} {σ : zI} {i t n : Nat} (h : zAr g i (t + 3) n) : (zW ρ cy g σ)[i]? = some (ρ i, .inl (cy (t + 2), n, .inr (.inr (.inr (.inr (fun j => (g.2.2 i j).map ρ)))))) := by
  rw [zW_get h.1, h.2]
  rfl
theorem zWf_I {g : zG} {σ : zI} {i k : Nat} {x : Int32} (h : zWf g σ) (h0 : (g.2.1 i).1 = 0 → ¬ zfk (g.2.1 i).2.1 k = 2) : zWf g (zsI σ i k x) := by
  refine ⟨h.1, fun a j y ha h1 h2 h3 => ?_, h.2.2⟩
  by_cases e : a = i ∧ j = k
  · obtain ⟨e1, e2⟩ := e
    subst e1; subst e2
    exact absurd h2 (h0 h1)
  · rw [zsI_nk (by by_cases q : a = i; exact Or.inr (fun z => e ⟨q, z⟩); exact Or.inl q)] at h3
    exact h.2.1 a j y ha h1 h2 h3
theorem zExt_I {kc : Nat} {g : zG} {σ : zI} {ρ : Nat → Nat} {i k : Nat} {x : Int32} (hi : i < g.1) (hw : zWf g σ) : zExt kc g σ g (zsI σ i k x) ρ ρ :=
  ⟨fun _ => rfl, Nat.le_refl _, fun _ _ => rfl, rfl, zsI_ne (by have := hw.2.2; omega)⟩
theorem zRO_I {ρ : Nat → Nat} {g : zG} {σ : zI} {A : Nat → Prop} {U : State} {H : Heap} {i k : Nat} {x : Int32} (hi : i < g.1) (hw : zWf g σ) (h : zRO ρ g σ A U H) : zRO ρ g (zsI σ i k x) A U H :=
  zRO_set h (fun _ _ => rfl) rfl (zsI_ne (by have := hw.2.2; omega))
theorem zW_putI {ρ : Nat → Nat} {cy : Nat → ClassId} {g : zG} {σ : zI} {i c k : Nat} {x : Int32} {v : Value} (ho : zOb g i c) (hk : k < zNF c) (hv : v = zfv ρ (zfk c k) (g.2.2 i k) x) : (zW ρ cy g σ).set i (ρ i, .inr (c, (zF ρ c (g.2.2 i) (σ i)).set k v)) = zW ρ cy g (zsI σ i k x) := by
  refine zW_set ho.1 rfl ?_ (fun j hj => by rw [zsI_ne hj])
  rw [ho.2]
  show Sum.inr (c, _) = Sum.inr (c, _)
  rw [zF_set (r' := g.2.2 i) (s' := zsI σ i k x i) hk (by rw [zsI_same]; exact hv) (fun j hj => ⟨rfl, zsI_nk (Or.inr hj)⟩)]
theorem zW_putR {ρ : Nat → Nat} {cy : Nat → ClassId} {g : zG} {σ : zI} {i c k : Nat} {x : Option Nat} (ho : zOb g i c) (hk : k < zNF c) (h1 : zfk c k = 1) : (zW ρ cy g σ).set i (ρ i, .inr (c, (zF ρ c (g.2.2 i) (σ i)).set k (va_rf (x.map ρ)))) = zW ρ cy (zsR g i k x) σ := by
  refine zW_set ho.1 rfl ?_ (fun j hj => ?_)
  · show _ = zC ρ cy (g.2.1 i) ((zsR g i k x).2.2 i) (σ i)
    rw [ho.2]
    show Sum.inr (c, _) = Sum.inr (c, _)
    rw [zF_set (r' := (zsR g i k x).2.2 i) (s' := σ i) hk (by rw [h1]; simp [zsR, zfv]) (fun j hj => ⟨by simp [zsR, hj], rfl⟩)]
  · show zC ρ cy (g.2.1 j) ((zsR g i k x).2.2 j) (σ j) = _
    have e : (zsR g i k x).2.2 j = g.2.2 j := by funext a; simp [zsR, hj]
    rw [e]
theorem zWf_R {g : zG} {σ : zI} {i k : Nat} {x : Option Nat} (h : zWf g σ) (hx : ∀ y, x = some y → y < g.1) : zWf (zsR g i k x) σ := by
  refine ⟨fun a j y ha hy => ?_, h.2.1, h.2.2⟩
  have hy : (if a = i then (if j = k then x else g.2.2 a j) else g.2.2 a j) = some y := hy
  split at hy
  · split at hy
    · exact hx y hy
    · exact h.1 a j y ha hy
  · exact h.1 a j y ha hy
theorem zExt_R {kc : Nat} {g : zG} {σ : zI} {ρ : Nat → Nat} {i k : Nat} {x : Option Nat} : zExt kc g σ (zsR g i k x) σ ρ ρ := ⟨fun _ => rfl, Nat.le_refl _, fun _ _ => rfl, rfl, rfl⟩
theorem zRO_R {ρ : Nat → Nat} {g : zG} {σ : zI} {A : Nat → Prop} {U : State} {H : Heap} {i k : Nat} {x : Option Nat} (h : zRO ρ g σ A U H) : zRO ρ (zsR g i k x) σ A U H := zRO_set h (fun _ _ => rfl) rfl rfl
theorem zdr_1 {r : Nat} (h : r < 1000) : zdr (nI (r + 1)) = some r := by
  have h0 : ¬ nI (r + 1) = 0 := nI_ne0 (by omega) (by omega)
  unfold zdr
  rw [if_neg h0, nI_clamp (by omega)]
  rfl
theorem zdr_0 : zdr 0 = none := rfl
theorem zft_ref {ty : FieldType} (h : ty.isReference = true) {v : Value} (hv : v = .null ∨ ∃ a, v = .ref a) : narrow ty v = v ∧ fits ty v = true := by
  rcases hv with rfl | ⟨a, rfl⟩ <;> cases ty <;> simp_all [narrow, fits, FieldType.isReference]

theorem x_getI {Y : zM} {d kc ks pc : Nat} {L S : List Value} {g : zG} {σ : zI} {Q : Option Value → zG → zI → Prop} {idx ci k id : Nat} {fin : Bool} (hd : decode Y.2.1 pc = .ok (.getfield idx, 3)) (hf : zFld Y.1.cls idx ci k fin) (ho : zOb g id ci) (hk : zfk ci k = 0) (kk : zX Y d kc ks (pc + 3) L (.int (σ id k) :: S) g σ Q) : zX Y d kc ks (pc) L (.ref id :: S) g σ Q := by
  intro p l e R s m args below meth c H locs cells slots Q2 dC dI cy ρ A ls hC hRO hK hA hc hs hw hl hP hD hS ret
  obtain ⟨C, T, N, hq, hkn, hfi, hlk⟩ := hf
  have hcl := zcls ci C T N hq
  have he := zW_ob (ρ := ρ) (cy := cy) (σ := σ) ho
  have hv : (zF ρ ci (g.2.2 id) (σ id))[k]? = some (.int (σ id k)) := by
    rw [zF_get (by rw [hcl.2.2.2.1]; exact hkn), hk]
    rfl
  rcases hlk with hlk | ⟨host, hlk⟩
  · exact va_get hC.1 hC.2.1 hC.2.2.2.2.2.1 hcl.1 hC.2.2.2.2.2.2.1 hK hP id he hq k hkn (hC.2.2.2.2.2.1 _ hlk) (fun _ h => h) hv hd (kk p l e R s m args below meth c H locs cells slots Q2 dC dI cy ρ A ls hC hRO hK hA hc hs hw hl hP hD hS ret)
  · exact va_getN hC.1 hC.2.1 hC.2.2.2.2.2.1 hcl.1 hC.2.2.2.2.2.2.1 hK hP id he hq k hkn (va_Nw.use rfl (hRO.1 _ hlk)) (fun _ h => h) hv hd (kk p l e R s m args below meth c H locs cells slots Q2 dC dI cy ρ A ls hC hRO hK hA hc hs hw hl hP hD hS ret)
theorem x_getR {Y : zM} {d kc ks pc : Nat} {L S : List Value} {g : zG} {σ : zI} {Q : Option Value → zG → zI → Prop} {idx ci k id : Nat} {fin : Bool} (hd : decode Y.2.1 pc = .ok (.getfield idx, 3)) (hf : zFld Y.1.cls idx ci k fin) (ho : zOb g id ci) (hk : zfk ci k = 1) {x : Nat} (hx : g.2.2 id k = some x) (kk : zX Y d kc ks (pc + 3) L (.ref x :: S) g σ Q) : zX Y d kc ks (pc) L (.ref id :: S) g σ Q := by
  intro p l e R s m args below meth c H locs cells slots Q2 dC dI cy ρ A ls hC hRO hK hA hc hs hw hl hP hD hS ret
  obtain ⟨C, T, N, hq, hkn, hfi, hlk⟩ := hf
  have hcl := zcls ci C T N hq
  have he := zW_ob (ρ := ρ) (cy := cy) (σ := σ) ho
  have hv : (zF ρ ci (g.2.2 id) (σ id))[k]? = some (.ref (ρ x)) := by
    rw [zF_get (by rw [hcl.2.2.2.1]; exact hkn), hk, hx]
    rfl
  rcases hlk with hlk | ⟨host, hlk⟩
  · exact va_get hC.1 hC.2.1 hC.2.2.2.2.2.1 hcl.1 hC.2.2.2.2.2.2.1 hK hP id he hq k hkn (hC.2.2.2.2.2.1 _ hlk) (fun _ h => h) hv hd (kk p l e R s m args below meth c H locs cells slots Q2 dC dI cy ρ A ls hC hRO hK hA hc hs hw hl hP hD hS ret)
  · exact va_getN hC.1 hC.2.1 hC.2.2.2.2.2.1 hcl.1 hC.2.2.2.2.2.2.1 hK hP id he hq k hkn (va_Nw.use rfl (hRO.1 _ hlk)) (fun _ h => h) hv hd (kk p l e R s m args below meth c H locs cells slots Q2 dC dI cy ρ A ls hC hRO hK hA hc hs hw hl hP hD hS ret)
theorem x_getRN {Y : zM} {d kc ks pc : Nat} {L S : List Value} {g : zG} {σ : zI} {Q : Option Value → zG → zI → Prop} {idx ci k id : Nat} {fin : Bool} (hd : decode Y.2.1 pc = .ok (.getfield idx, 3)) (hf : zFld Y.1.cls idx ci k fin) (ho : zOb g id ci) (hk : zfk ci k = 1) (hx : g.2.2 id k = none) (kk : zX Y d kc ks (pc + 3) L (.null :: S) g σ Q) : zX Y d kc ks (pc) L (.ref id :: S) g σ Q := by
  intro p l e R s m args below meth c H locs cells slots Q2 dC dI cy ρ A ls hC hRO hK hA hc hs hw hl hP hD hS ret
  obtain ⟨C, T, N, hq, hkn, hfi, hlk⟩ := hf
  have hcl := zcls ci C T N hq
  have he := zW_ob (ρ := ρ) (cy := cy) (σ := σ) ho
  have hv : (zF ρ ci (g.2.2 id) (σ id))[k]? = some (.null) := by
    rw [zF_get (by rw [hcl.2.2.2.1]; exact hkn), hk, hx]
    rfl
  rcases hlk with hlk | ⟨host, hlk⟩
  · exact va_get hC.1 hC.2.1 hC.2.2.2.2.2.1 hcl.1 hC.2.2.2.2.2.2.1 hK hP id he hq k hkn (hC.2.2.2.2.2.1 _ hlk) (fun _ h => h) hv hd (kk p l e R s m args below meth c H locs cells slots Q2 dC dI cy ρ A ls hC hRO hK hA hc hs hw hl hP hD hS ret)
  · exact va_getN hC.1 hC.2.1 hC.2.2.2.2.2.1 hcl.1 hC.2.2.2.2.2.2.1 hK hP id he hq k hkn (va_Nw.use rfl (hRO.1 _ hlk)) (fun _ h => h) hv hd (kk p l e R s m args below meth c H locs cells slots Q2 dC dI cy ρ A ls hC hRO hK hA hc hs hw hl hP hD hS ret)
theorem x_getD {Y : zM} {d kc ks pc : Nat} {L S : List Value} {g : zG} {σ : zI} {Q : Option Value → zG → zI → Prop} {idx ci k id : Nat} {fin : Bool} (hd : decode Y.2.1 pc = .ok (.getfield idx, 3)) (hf : zFld Y.1.cls idx ci k fin) (ho : zOb g id ci) (hk : zfk ci k = 2) {x : Nat} (hx : zdr (σ id k) = some x) (kk : zX Y d kc ks (pc + 3) L (.ref x :: S) g σ Q) : zX Y d kc ks (pc) L (.ref id :: S) g σ Q := by
  intro p l e R s m args below meth c H locs cells slots Q2 dC dI cy ρ A ls hC hRO hK hA hc hs hw hl hP hD hS ret
  obtain ⟨C, T, N, hq, hkn, hfi, hlk⟩ := hf
  have hcl := zcls ci C T N hq
  have he := zW_ob (ρ := ρ) (cy := cy) (σ := σ) ho
  have hv : (zF ρ ci (g.2.2 id) (σ id))[k]? = some (.ref (ρ x)) := by
    rw [zF_get (by rw [hcl.2.2.2.1]; exact hkn), hk]
    show some (va_rf ((zdr (σ id k)).map ρ)) = _
    rw [hx]
    rfl
  rcases hlk with hlk | ⟨host, hlk⟩
  · exact va_get hC.1 hC.2.1 hC.2.2.2.2.2.1 hcl.1 hC.2.2.2.2.2.2.1 hK hP id he hq k hkn (hC.2.2.2.2.2.1 _ hlk) (fun _ h => h) hv hd (kk p l e R s m args below meth c H locs cells slots Q2 dC dI cy ρ A ls hC hRO hK hA hc hs hw hl hP hD hS ret)
  · exact va_getN hC.1 hC.2.1 hC.2.2.2.2.2.1 hcl.1 hC.2.2.2.2.2.2.1 hK hP id he hq k hkn (va_Nw.use rfl (hRO.1 _ hlk)) (fun _ h => h) hv hd (kk p l e R s m args below meth c H locs cells slots Q2 dC dI cy ρ A ls hC hRO hK hA hc hs hw hl hP hD hS ret)
theorem x_getDN {Y : zM} {d kc ks pc : Nat} {L S : List Value} {g : zG} {σ : zI} {Q : Option Value → zG → zI → Prop} {idx ci k id : Nat} {fin : Bool} (hd : decode Y.2.1 pc = .ok (.getfield idx, 3)) (hf : zFld Y.1.cls idx ci k fin) (ho : zOb g id ci) (hk : zfk ci k = 2) (hx : zdr (σ id k) = none) (kk : zX Y d kc ks (pc + 3) L (.null :: S) g σ Q) : zX Y d kc ks (pc) L (.ref id :: S) g σ Q := by
  intro p l e R s m args below meth c H locs cells slots Q2 dC dI cy ρ A ls hC hRO hK hA hc hs hw hl hP hD hS ret
  obtain ⟨C, T, N, hq, hkn, hfi, hlk⟩ := hf
  have hcl := zcls ci C T N hq
  have he := zW_ob (ρ := ρ) (cy := cy) (σ := σ) ho
  have hv : (zF ρ ci (g.2.2 id) (σ id))[k]? = some (.null) := by
    rw [zF_get (by rw [hcl.2.2.2.1]; exact hkn), hk]
    show some (va_rf ((zdr (σ id k)).map ρ)) = _
    rw [hx]
    rfl
  rcases hlk with hlk | ⟨host, hlk⟩
  · exact va_get hC.1 hC.2.1 hC.2.2.2.2.2.1 hcl.1 hC.2.2.2.2.2.2.1 hK hP id he hq k hkn (hC.2.2.2.2.2.1 _ hlk) (fun _ h => h) hv hd (kk p l e R s m args below meth c H locs cells slots Q2 dC dI cy ρ A ls hC hRO hK hA hc hs hw hl hP hD hS ret)
  · exact va_getN hC.1 hC.2.1 hC.2.2.2.2.2.1 hcl.1 hC.2.2.2.2.2.2.1 hK hP id he hq k hkn (va_Nw.use rfl (hRO.1 _ hlk)) (fun _ h => h) hv hd (kk p l e R s m args below meth c H locs cells slots Q2 dC dI cy ρ A ls hC hRO hK hA hc hs hw hl hP hD hS ret)
theorem x_putI {Y : zM} {d kc ks pc : Nat} {L S : List Value} {g : zG} {σ : zI} {Q : Option Value → zG → zI → Prop} {idx ci k id : Nat} (hd : decode Y.2.1 pc = .ok (.putfield idx, 3)) (hf : zFld Y.1.cls idx ci k false) (ho : zOb g id ci) (hk : zfk ci k = 0) (hty : zft ci k = .int) {x : Int32} (kk : zX Y d kc ks (pc + 3) L (S) g (zsI σ id k x) Q) : zX Y d kc ks (pc) L (.int x :: .ref id :: S) g σ Q := by
  intro p l e R s m args below meth c H locs cells slots Q2 dC dI cy ρ A ls hC hRO hK hA hc hs hw hl hP hD hS ret
  obtain ⟨C, T, N, hq, hkn, hfi, hlk⟩ := hf
  have hcl := zcls ci C T N hq
  have he := zW_ob (ρ := ρ) (cy := cy) (σ := σ) ho
  have hkF : k < zNF ci := by rw [hcl.2.2.2.1]; exact hkn
  have hw1 : zWf g (zsI σ id k x) := zWf_I hw (fun _ => by rw [ho.2]; show ¬ zfk ci k = 2; rw [hk]; decide)
  have hnf : narrow (zft ci k) (.int x) = .int x ∧ fits (zft ci k) (.int x) = true := by rw [hty]; exact ⟨rfl, rfl⟩
  rcases hlk with hlk | ⟨host, hlk⟩
  · refine va_put hC.1 hC.2.1 hC.2.2.2.2.2.1 hcl.1 (zft ci) hcl.2.1 hcl.2.2.1 hC.2.2.2.2.2.2.1 hK hP hD hS id he hq k hkn (hC.2.2.2.2.2.1 _ hlk) (fun _ h => h) hfi (hcl.2.1 k hkn) hnf.1 hnf.2 (by rw [zF_len]; exact hkF) hd (fun H1 locs1 hP1 hD1 hS1 => ?_)
    have hEQ : List.set (zW ρ cy g σ) id (ρ id, .inr (ci, (zF ρ ci (g.2.2 id) (σ id)).set k (.int x))) = zW ρ cy g (zsI σ id k x) := zW_putI (x := x) ho hkF (by rw [hk]; rfl)
    have hP1 : va_P (dC, dI) vwCl (zW ρ cy g (zsI σ id k x)) H1 := by rw [← hEQ]; exact hP1
    have hD1 : va_D A (zW ρ cy g (zsI σ id k x)) := by rw [← hEQ]; exact hD1
    exact (kk p l e R s m args below meth c H1 locs1 cells slots Q2 dC dI cy ρ A ls hC (zRO_I ho.1 hw hRO) hK hA hc hs hw1 hl hP1 hD1 hS1 (zRT_st ret (zExt_I ho.1 hw) (fun q => q)))
  · refine va_putN hC.1 hC.2.1 hC.2.2.2.2.2.1 hcl.1 (zft ci) hcl.2.1 hcl.2.2.1 hC.2.2.2.2.2.2.1 hK hP hD hS id he hq k hkn (va_Nw.use rfl (hRO.1 _ hlk)) (fun _ h => h) hfi (hcl.2.1 k hkn) hnf.1 hnf.2 (by rw [zF_len]; exact hkF) hd (fun H1 locs1 hP1 hD1 hS1 => ?_)
    have hEQ : List.set (zW ρ cy g σ) id (ρ id, .inr (ci, (zF ρ ci (g.2.2 id) (σ id)).set k (.int x))) = zW ρ cy g (zsI σ id k x) := zW_putI (x := x) ho hkF (by rw [hk]; rfl)
    have hP1 : va_P (dC, dI) vwCl (zW ρ cy g (zsI σ id k x)) H1 := by rw [← hEQ]; exact hP1
    have hD1 : va_D A (zW ρ cy g (zsI σ id k x)) := by rw [← hEQ]; exact hD1
    exact (kk p l e R s m args below meth c H1 locs1 cells slots Q2 dC dI cy ρ A ls hC (zRO_I ho.1 hw hRO) hK hA hc hs hw1 hl hP1 hD1 hS1 (zRT_st ret (zExt_I ho.1 hw) (fun q => q)))
theorem x_putZ {Y : zM} {d kc ks pc : Nat} {L S : List Value} {g : zG} {σ : zI} {Q : Option Value → zG → zI → Prop} {idx ci k id : Nat} (hd : decode Y.2.1 pc = .ok (.putfield idx, 3)) (hf : zFld Y.1.cls idx ci k false) (ho : zOb g id ci) (hk : zfk ci k = 0) (hty : zft ci k = .boolean) {x : Int32} (hz : x = 0 ∨ x = 1) (kk : zX Y d kc ks (pc + 3) L (S) g (zsI σ id k x) Q) : zX Y d kc ks (pc) L (.int x :: .ref id :: S) g σ Q := by
  intro p l e R s m args below meth c H locs cells slots Q2 dC dI cy ρ A ls hC hRO hK hA hc hs hw hl hP hD hS ret
  obtain ⟨C, T, N, hq, hkn, hfi, hlk⟩ := hf
  have hcl := zcls ci C T N hq
  have he := zW_ob (ρ := ρ) (cy := cy) (σ := σ) ho
  have hkF : k < zNF ci := by rw [hcl.2.2.2.1]; exact hkn
  have hw1 : zWf g (zsI σ id k x) := zWf_I hw (fun _ => by rw [ho.2]; show ¬ zfk ci k = 2; rw [hk]; decide)
  have hnf : narrow (zft ci k) (.int x) = .int x ∧ fits (zft ci k) (.int x) = true := by rw [hty]; rcases hz with rfl | rfl <;> exact ⟨rfl, rfl⟩
  rcases hlk with hlk | ⟨host, hlk⟩
  · refine va_put hC.1 hC.2.1 hC.2.2.2.2.2.1 hcl.1 (zft ci) hcl.2.1 hcl.2.2.1 hC.2.2.2.2.2.2.1 hK hP hD hS id he hq k hkn (hC.2.2.2.2.2.1 _ hlk) (fun _ h => h) hfi (hcl.2.1 k hkn) hnf.1 hnf.2 (by rw [zF_len]; exact hkF) hd (fun H1 locs1 hP1 hD1 hS1 => ?_)
    have hEQ : List.set (zW ρ cy g σ) id (ρ id, .inr (ci, (zF ρ ci (g.2.2 id) (σ id)).set k (.int x))) = zW ρ cy g (zsI σ id k x) := zW_putI (x := x) ho hkF (by rw [hk]; rfl)
    have hP1 : va_P (dC, dI) vwCl (zW ρ cy g (zsI σ id k x)) H1 := by rw [← hEQ]; exact hP1
    have hD1 : va_D A (zW ρ cy g (zsI σ id k x)) := by rw [← hEQ]; exact hD1
    exact (kk p l e R s m args below meth c H1 locs1 cells slots Q2 dC dI cy ρ A ls hC (zRO_I ho.1 hw hRO) hK hA hc hs hw1 hl hP1 hD1 hS1 (zRT_st ret (zExt_I ho.1 hw) (fun q => q)))
  · refine va_putN hC.1 hC.2.1 hC.2.2.2.2.2.1 hcl.1 (zft ci) hcl.2.1 hcl.2.2.1 hC.2.2.2.2.2.2.1 hK hP hD hS id he hq k hkn (va_Nw.use rfl (hRO.1 _ hlk)) (fun _ h => h) hfi (hcl.2.1 k hkn) hnf.1 hnf.2 (by rw [zF_len]; exact hkF) hd (fun H1 locs1 hP1 hD1 hS1 => ?_)
    have hEQ : List.set (zW ρ cy g σ) id (ρ id, .inr (ci, (zF ρ ci (g.2.2 id) (σ id)).set k (.int x))) = zW ρ cy g (zsI σ id k x) := zW_putI (x := x) ho hkF (by rw [hk]; rfl)
    have hP1 : va_P (dC, dI) vwCl (zW ρ cy g (zsI σ id k x)) H1 := by rw [← hEQ]; exact hP1
    have hD1 : va_D A (zW ρ cy g (zsI σ id k x)) := by rw [← hEQ]; exact hD1
    exact (kk p l e R s m args below meth c H1 locs1 cells slots Q2 dC dI cy ρ A ls hC (zRO_I ho.1 hw hRO) hK hA hc hs hw1 hl hP1 hD1 hS1 (zRT_st ret (zExt_I ho.1 hw) (fun q => q)))
theorem x_putD {Y : zM} {d kc ks pc : Nat} {L S : List Value} {g : zG} {σ : zI} {Q : Option Value → zG → zI → Prop} {idx ci k id : Nat} (hd : decode Y.2.1 pc = .ok (.putfield idx, 3)) (hf : zFld Y.1.cls idx ci k false) (ho : zOb g id ci) (hk : zfk ci k = 2) {r : Nat} (hr : r < g.1) (kk : zX Y d kc ks (pc + 3) L (S) g (zsI σ id k (nI (r + 1))) Q) : zX Y d kc ks (pc) L (.ref r :: .ref id :: S) g σ Q := by
  intro p l e R s m args below meth c H locs cells slots Q2 dC dI cy ρ A ls hC hRO hK hA hc hs hw hl hP hD hS ret
  obtain ⟨C, T, N, hq, hkn, hfi, hlk⟩ := hf
  have hcl := zcls ci C T N hq
  have he := zW_ob (ρ := ρ) (cy := cy) (σ := σ) ho
  have hkF : k < zNF ci := by rw [hcl.2.2.2.1]; exact hkn
  have hr0 : r < 1000 := Nat.lt_of_lt_of_le hr hw.2.2
  have hw1 : zWf g (zsI σ id k (nI (r + 1))) := by
    refine ⟨hw.1, fun a j y ha h1 h2 h3 => ?_, hw.2.2⟩
    by_cases e : a = id ∧ j = k
    · obtain ⟨e1, e2⟩ := e
      subst e1; subst e2
      rw [zsI_same, zdr_1 hr0] at h3
      cases h3
      exact hr
    · rw [zsI_nk (by by_cases q : a = id; exact Or.inr (fun z => e ⟨q, z⟩); exact Or.inl q)] at h3
      exact hw.2.1 a j y ha h1 h2 h3
  have hnf : narrow (zft ci k) (.ref (ρ r)) = .ref (ρ r) ∧ fits (zft ci k) (.ref (ρ r)) = true := zft_ref (by rcases hcl.2.2.2.2.2.2 k hkn with h | h; rw [hk] at h; cases h; exact h) (Or.inr ⟨_, rfl⟩)
  rcases hlk with hlk | ⟨host, hlk⟩
  · refine va_put hC.1 hC.2.1 hC.2.2.2.2.2.1 hcl.1 (zft ci) hcl.2.1 hcl.2.2.1 hC.2.2.2.2.2.2.1 hK hP hD hS id he hq k hkn (hC.2.2.2.2.2.1 _ hlk) (fun _ h => h) hfi (hcl.2.1 k hkn) hnf.1 hnf.2 (by rw [zF_len]; exact hkF) hd (fun H1 locs1 hP1 hD1 hS1 => ?_)
    have hEQ : List.set (zW ρ cy g σ) id (ρ id, .inr (ci, (zF ρ ci (g.2.2 id) (σ id)).set k (.ref (ρ r)))) = zW ρ cy g (zsI σ id k (nI (r + 1))) := zW_putI (x := nI (r + 1)) (v := .ref (ρ r)) ho hkF (by rw [hk]; show _ = va_rf ((zdr (nI (r + 1))).map ρ); rw [zdr_1 hr0]; rfl)
    have hP1 : va_P (dC, dI) vwCl (zW ρ cy g (zsI σ id k (nI (r + 1)))) H1 := by rw [← hEQ]; exact hP1
    have hD1 : va_D A (zW ρ cy g (zsI σ id k (nI (r + 1)))) := by rw [← hEQ]; exact hD1
    exact (kk p l e R s m args below meth c H1 locs1 cells slots Q2 dC dI cy ρ A ls hC (zRO_I ho.1 hw hRO) hK hA hc hs hw1 hl hP1 hD1 hS1 (zRT_st ret (zExt_I ho.1 hw) (fun q => q)))
  · refine va_putN hC.1 hC.2.1 hC.2.2.2.2.2.1 hcl.1 (zft ci) hcl.2.1 hcl.2.2.1 hC.2.2.2.2.2.2.1 hK hP hD hS id he hq k hkn (va_Nw.use rfl (hRO.1 _ hlk)) (fun _ h => h) hfi (hcl.2.1 k hkn) hnf.1 hnf.2 (by rw [zF_len]; exact hkF) hd (fun H1 locs1 hP1 hD1 hS1 => ?_)
    have hEQ : List.set (zW ρ cy g σ) id (ρ id, .inr (ci, (zF ρ ci (g.2.2 id) (σ id)).set k (.ref (ρ r)))) = zW ρ cy g (zsI σ id k (nI (r + 1))) := zW_putI (x := nI (r + 1)) (v := .ref (ρ r)) ho hkF (by rw [hk]; show _ = va_rf ((zdr (nI (r + 1))).map ρ); rw [zdr_1 hr0]; rfl)
    have hP1 : va_P (dC, dI) vwCl (zW ρ cy g (zsI σ id k (nI (r + 1)))) H1 := by rw [← hEQ]; exact hP1
    have hD1 : va_D A (zW ρ cy g (zsI σ id k (nI (r + 1)))) := by rw [← hEQ]; exact hD1
    exact (kk p l e R s m args below meth c H1 locs1 cells slots Q2 dC dI cy ρ A ls hC (zRO_I ho.1 hw hRO) hK hA hc hs hw1 hl hP1 hD1 hS1 (zRT_st ret (zExt_I ho.1 hw) (fun q => q)))
theorem x_putR {Y : zM} {d kc ks pc : Nat} {L S : List Value} {g : zG} {σ : zI} {Q : Option Value → zG → zI → Prop} {idx ci k id : Nat} (hd : decode Y.2.1 pc = .ok (.putfield idx, 3)) (hf : zFld Y.1.cls idx ci k false) (ho : zOb g id ci) (hk : zfk ci k = 1) {r : Nat} (hr : r < g.1) (kk : zX Y d kc ks (pc + 3) L (S) (zsR g id k (some r)) σ Q) : zX Y d kc ks (pc) L (.ref r :: .ref id :: S) g σ Q := by
  intro p l e R s m args below meth c H locs cells slots Q2 dC dI cy ρ A ls hC hRO hK hA hc hs hw hl hP hD hS ret
  obtain ⟨C, T, N, hq, hkn, hfi, hlk⟩ := hf
  have hcl := zcls ci C T N hq
  have he := zW_ob (ρ := ρ) (cy := cy) (σ := σ) ho
  have hkF : k < zNF ci := by rw [hcl.2.2.2.1]; exact hkn
  have hw1 : zWf (zsR g id k (some r)) σ := zWf_R hw (fun y hy => by cases hy; exact hr)
  have hnf : narrow (zft ci k) (.ref (ρ r)) = .ref (ρ r) ∧ fits (zft ci k) (.ref (ρ r)) = true := zft_ref (by rcases hcl.2.2.2.2.2.2 k hkn with h | h; rw [hk] at h; cases h; exact h) (Or.inr ⟨_, rfl⟩)
  rcases hlk with hlk | ⟨host, hlk⟩
  · refine va_put hC.1 hC.2.1 hC.2.2.2.2.2.1 hcl.1 (zft ci) hcl.2.1 hcl.2.2.1 hC.2.2.2.2.2.2.1 hK hP hD hS id he hq k hkn (hC.2.2.2.2.2.1 _ hlk) (fun _ h => h) hfi (hcl.2.1 k hkn) hnf.1 hnf.2 (by rw [zF_len]; exact hkF) hd (fun H1 locs1 hP1 hD1 hS1 => ?_)
    have hEQ : List.set (zW ρ cy g σ) id (ρ id, .inr (ci, (zF ρ ci (g.2.2 id) (σ id)).set k (.ref (ρ r)))) = zW ρ cy (zsR g id k (some r)) σ := zW_putR (x := some r) ho hkF hk
    have hP1 : va_P (dC, dI) vwCl (zW ρ cy (zsR g id k (some r)) σ) H1 := by rw [← hEQ]; exact hP1
    have hD1 : va_D A (zW ρ cy (zsR g id k (some r)) σ) := by rw [← hEQ]; exact hD1
    exact (kk p l e R s m args below meth c H1 locs1 cells slots Q2 dC dI cy ρ A ls hC (zRO_R hRO) hK hA hc hs hw1 hl hP1 hD1 hS1 (zRT_st ret zExt_R (fun q => q)))
  · refine va_putN hC.1 hC.2.1 hC.2.2.2.2.2.1 hcl.1 (zft ci) hcl.2.1 hcl.2.2.1 hC.2.2.2.2.2.2.1 hK hP hD hS id he hq k hkn (va_Nw.use rfl (hRO.1 _ hlk)) (fun _ h => h) hfi (hcl.2.1 k hkn) hnf.1 hnf.2 (by rw [zF_len]; exact hkF) hd (fun H1 locs1 hP1 hD1 hS1 => ?_)
    have hEQ : List.set (zW ρ cy g σ) id (ρ id, .inr (ci, (zF ρ ci (g.2.2 id) (σ id)).set k (.ref (ρ r)))) = zW ρ cy (zsR g id k (some r)) σ := zW_putR (x := some r) ho hkF hk
    have hP1 : va_P (dC, dI) vwCl (zW ρ cy (zsR g id k (some r)) σ) H1 := by rw [← hEQ]; exact hP1
    have hD1 : va_D A (zW ρ cy (zsR g id k (some r)) σ) := by rw [← hEQ]; exact hD1
    exact (kk p l e R s m args below meth c H1 locs1 cells slots Q2 dC dI cy ρ A ls hC (zRO_R hRO) hK hA hc hs hw1 hl hP1 hD1 hS1 (zRT_st ret zExt_R (fun q => q)))
theorem x_putF {Y : zM} {d kc ks pc : Nat} {L S : List Value} {g : zG} {σ : zI} {Q : Option Value → zG → zI → Prop} {idx ci k id : Nat} (hd : decode Y.2.1 pc = .ok (.putfield idx, 3)) (hf : zFld Y.1.cls idx ci k true) (hini : Y.1.name = "<init>") (hdecl : ∀ (C : String) (T : u_T) (N : Nat), vwCl[ci]? = some (C, T, N) → (T k).1 = Y.1.cls) (hnn : ∀ (host : String) (a b c : String), ¬ Cond.fieldLinkNest Y.1.cls idx a b c host ∈ zN) (ho : zOb g id ci) (hk : zfk ci k = 1) {r : Nat} (hr : r < g.1) (kk : zX Y d kc ks (pc + 3) L (S) (zsR g id k (some r)) σ Q) : zX Y d kc ks (pc) L (.ref r :: .ref id :: S) g σ Q := by
  intro p l e R s m args below meth c H locs cells slots Q2 dC dI cy ρ A ls hC hRO hK hA hc hs hw hl hP hD hS ret
  obtain ⟨C, T, N, hq, hkn, hfi, hlk⟩ := hf
  have hcl := zcls ci C T N hq
  have he := zW_ob (ρ := ρ) (cy := cy) (σ := σ) ho
  have hkF : k < zNF ci := by rw [hcl.2.2.2.1]; exact hkn
  have hw1 : zWf (zsR g id k (some r)) σ := zWf_R hw (fun y hy => by cases hy; exact hr)
  have hnf : narrow (zft ci k) (.ref (ρ r)) = .ref (ρ r) ∧ fits (zft ci k) (.ref (ρ r)) = true := zft_ref (by rcases hcl.2.2.2.2.2.2 k hkn with h | h; rw [hk] at h; cases h; exact h) (Or.inr ⟨_, rfl⟩)
  rcases hlk with hlk | ⟨host, hlk⟩
  · refine va_putF hC.1 hC.2.1 hC.2.2.2.2.2.1 hcl.1 (zft ci) hcl.2.1 hcl.2.2.1 hC.2.2.2.2.2.2.1 hK hP hD hS id he hq k hkn (hC.2.2.2.2.2.1 _ hlk) (fun _ h => h) hfi (hC.2.2.2.2.2.2.2.1.trans hini) (hdecl C T N hq) (hcl.2.1 k hkn) hnf.1 hnf.2 (by rw [zF_len]; exact hkF) hd (fun H1 locs1 hP1 hD1 hS1 => ?_)
    have hEQ : List.set (zW ρ cy g σ) id (ρ id, .inr (ci, (zF ρ ci (g.2.2 id) (σ id)).set k (.ref (ρ r)))) = zW ρ cy (zsR g id k (some r)) σ := zW_putR (x := some r) ho hkF hk
    have hP1 : va_P (dC, dI) vwCl (zW ρ cy (zsR g id k (some r)) σ) H1 := by rw [← hEQ]; exact hP1
    have hD1 : va_D A (zW ρ cy (zsR g id k (some r)) σ) := by rw [← hEQ]; exact hD1
    exact (kk p l e R s m args below meth c H1 locs1 cells slots Q2 dC dI cy ρ A ls hC (zRO_R hRO) hK hA hc hs hw1 hl hP1 hD1 hS1 (zRT_st ret zExt_R (fun q => q)))
  · exact absurd hlk (hnn host _ _ _)
theorem x_iald {Y : zM} {d kc ks pc : Nat} {L S : List Value} {g : zG} {σ : zI} {Q : Option Value → zG → zI → Prop} {id n : Nat} {i : Int32} (hd : decode Y.2.1 pc = .ok (.iaload, 1)) (ha : zAr g id 1 n) (hi : vp_in i n) (kk : zX Y d kc ks (pc + 1) L (.int (σ id i.toNatClampNeg) :: S) g σ Q) : zX Y d kc ks (pc) L (.int i :: .ref id :: S) g σ Q := by
  intro p l e R s m args below meth c H locs cells slots Q2 dC dI cy ρ A ls hC hRO hK hA hc hs hw hl hP hD hS ret
  exact va_iald hC.1 hC.2.1 hK hP id 0 (zW_ar1 ha) rfl hi hd (kk p l e R s m args below meth c H locs cells slots Q2 dC dI cy ρ A ls hC hRO hK hA hc hs hw hl hP hD hS ret)
theorem x_zald {Y : zM} {d kc ks pc : Nat} {L S : List Value} {g : zG} {σ : zI} {Q : Option Value → zG → zI → Prop} {id n : Nat} {i : Int32} (hd : decode Y.2.1 pc = .ok (.baload, 1)) (ha : zAr g id 2 n) (hi : vp_in i n) (kk : zX Y d kc ks (pc + 1) L (.int (σ id i.toNatClampNeg) :: S) g σ Q) : zX Y d kc ks (pc) L (.int i :: .ref id :: S) g σ Q := by
  intro p l e R s m args below meth c H locs cells slots Q2 dC dI cy ρ A ls hC hRO hK hA hc hs hw hl hP hD hS ret
  exact va_zald hC.1 hC.2.1 hK hP id 1 (zW_ar2 ha) rfl hi hd (kk p l e R s m args below meth c H locs cells slots Q2 dC dI cy ρ A ls hC hRO hK hA hc hs hw hl hP hD hS ret)
theorem zTy_q {cy : Nat → ClassId} : ∀ t, t < 3 → ∃ ty : FieldType, (zTy cy)[t + 2]? = some (cy (t + 2), ty) ∧ ty.isReference = true
  | 0, _ => ⟨_, rfl, rfl⟩
  | 1, _ => ⟨_, rfl, rfl⟩
  | 2, _ => ⟨_, rfl, rfl⟩
  | t + 3, h => by omega
theorem x_aald {Y : zM} {d kc ks pc : Nat} {L S : List Value} {g : zG} {σ : zI} {Q : Option Value → zG → zI → Prop} {id t n : Nat} {i : Int32} (hd : decode Y.2.1 pc = .ok (.aaload, 1)) (ha : zAr g id (t + 3) n) (htt : t < 3) (hi : vp_in i n) {x : Nat} (hx : g.2.2 id i.toNatClampNeg = some x) (kk : zX Y d kc ks (pc + 1) L (.ref x :: S) g σ Q) : zX Y d kc ks (pc) L (.int i :: .ref id :: S) g σ Q := by
  intro p l e R s m args below meth c H locs cells slots Q2 dC dI cy ρ A ls hC hRO hK hA hc hs hw hl hP hD hS ret
  obtain ⟨ty, ht, hty⟩ := zTy_q (cy := cy) t htt
  have hlt : i.toNatClampNeg < n := Nat.not_le.mp fun q => hi (Or.inr q)
  exact W.aald (v := .ref (ρ x)) (ty := ty) hC.1 hC.2.1 (hP id _ (zW_arq ha)) ((hK.2 (t + 2) _ ht).1 n (fun j => va_rf ((g.2.2 id j).map ρ))) hty (fun q => by cases q) (by show ¬ (i < 0 ∨ (arrV _ _ _).slots.size ≤ _); rw [arrV_size]; exact hi) (by show (arrV _ _ _).slots[_]? = _; rw [arrV_read _ _ hlt]; show some (va_rf ((g.2.2 id i.toNatClampNeg).map ρ)) = _; rw [hx]; rfl) rfl rfl hd (kk p l e R s m args below meth c H locs cells slots Q2 dC dI cy ρ A ls hC hRO hK hA hc hs hw hl hP hD hS ret)
theorem x_aaldN {Y : zM} {d kc ks pc : Nat} {L S : List Value} {g : zG} {σ : zI} {Q : Option Value → zG → zI → Prop} {id t n : Nat} {i : Int32} (hd : decode Y.2.1 pc = .ok (.aaload, 1)) (ha : zAr g id (t + 3) n) (htt : t < 3) (hi : vp_in i n) (hx : g.2.2 id i.toNatClampNeg = none) (kk : zX Y d kc ks (pc + 1) L (.null :: S) g σ Q) : zX Y d kc ks (pc) L (.int i :: .ref id :: S) g σ Q := by
  intro p l e R s m args below meth c H locs cells slots Q2 dC dI cy ρ A ls hC hRO hK hA hc hs hw hl hP hD hS ret
  obtain ⟨ty, ht, hty⟩ := zTy_q (cy := cy) t htt
  have hlt : i.toNatClampNeg < n := Nat.not_le.mp fun q => hi (Or.inr q)
  exact W.aald (v := .null) (ty := ty) hC.1 hC.2.1 (hP id _ (zW_arq ha)) ((hK.2 (t + 2) _ ht).1 n (fun j => va_rf ((g.2.2 id j).map ρ))) hty (fun q => by cases q) (by show ¬ (i < 0 ∨ (arrV _ _ _).slots.size ≤ _); rw [arrV_size]; exact hi) (by show (arrV _ _ _).slots[_]? = _; rw [arrV_read _ _ hlt]; show some (va_rf ((g.2.2 id i.toNatClampNeg).map ρ)) = _; rw [hx]; rfl) rfl rfl hd (kk p l e R s m args below meth c H locs cells slots Q2 dC dI cy ρ A ls hC hRO hK hA hc hs hw hl hP hD hS ret)
theorem x_iast {Y : zM} {d kc ks pc : Nat} {L S : List Value} {g : zG} {σ : zI} {Q : Option Value → zG → zI → Prop} {id n : Nat} {i x : Int32} (hd : decode Y.2.1 pc = .ok (.iastore, 1)) (ha : zAr g id 1 n) (hi : vp_in i n) (kk : zX Y d kc ks (pc + 1) L (S) g (zsI σ id i.toNatClampNeg x) Q) : zX Y d kc ks (pc) L (.int x :: .int i :: .ref id :: S) g σ Q := by
  intro p l e R s m args below meth c H locs cells slots Q2 dC dI cy ρ A ls hC hRO hK hA hc hs hw hl hP hD hS ret
  have hw1 : zWf g (zsI σ id i.toNatClampNeg x) := zWf_I hw (fun h0 => by rw [ha.2] at h0; cases h0)
  refine va_iast hC.1 hC.2.1 hK hP hD hS id 0 (zW_ar1 ha) rfl hi hd (fun H1 locs1 hP1 hD1 hS1 => ?_)
  rw [zW_set (g' := g) (σ' := zsI σ id i.toNatClampNeg x) ha.1 rfl (by rw [ha.2, zsI_row]; rfl) (fun j hj => by rw [zsI_ne hj])] at hP1 hD1
  exact (kk p l e R s m args below meth c H1 locs1 cells slots Q2 dC dI cy ρ A ls hC (zRO_I ha.1 hw hRO) hK hA hc hs hw1 hl hP1 hD1 hS1 (zRT_st ret (zExt_I ha.1 hw) (fun q => q)))
theorem x_zast {Y : zM} {d kc ks pc : Nat} {L S : List Value} {g : zG} {σ : zI} {Q : Option Value → zG → zI → Prop} {id n : Nat} {i x : Int32} (hd : decode Y.2.1 pc = .ok (.bastore, 1)) (ha : zAr g id 2 n) (hi : vp_in i n) (hz : x = 0 ∨ x = 1) (kk : zX Y d kc ks (pc + 1) L (S) g (zsI σ id i.toNatClampNeg x) Q) : zX Y d kc ks (pc) L (.int x :: .int i :: .ref id :: S) g σ Q := by
  intro p l e R s m args below meth c H locs cells slots Q2 dC dI cy ρ A ls hC hRO hK hA hc hs hw hl hP hD hS ret
  have hw1 : zWf g (zsI σ id i.toNatClampNeg x) := zWf_I hw (fun h0 => by rw [ha.2] at h0; cases h0)
  have hnz : vp_nar .boolean x = x := by rcases hz with rfl | rfl <;> rfl
  refine va_zast hC.1 hC.2.1 hK hP hD hS id 1 (zW_ar2 ha) rfl hi hd (fun H1 locs1 hP1 hD1 hS1 => ?_)
  rw [hnz, zW_set (g' := g) (σ' := zsI σ id i.toNatClampNeg x) ha.1 rfl (by rw [ha.2, zsI_row]; rfl) (fun j hj => by rw [zsI_ne hj])] at hP1 hD1
  exact (kk p l e R s m args below meth c H1 locs1 cells slots Q2 dC dI cy ρ A ls hC (zRO_I ha.1 hw hRO) hK hA hc hs hw1 hl hP1 hD1 hS1 (zRT_st ret (zExt_I ha.1 hw) (fun q => q)))
theorem x_alen1 {Y : zM} {d kc ks pc : Nat} {L S : List Value} {g : zG} {σ : zI} {Q : Option Value → zG → zI → Prop} {id n : Nat} (hd : decode Y.2.1 pc = .ok (.arraylength, 1)) (ha : zAr g id 1 n) (kk : zX Y d kc ks (pc + 1) L (.int (nI n) :: S) g σ Q) : zX Y d kc ks (pc) L (.ref id :: S) g σ Q := by
  intro p l e R s m args below meth c H locs cells slots Q2 dC dI cy ρ A ls hC hRO hK hA hc hs hw hl hP hD hS ret
  exact va_alen hC.1 hC.2.1 hK hP id 0 (zW_ar1 ha) rfl rfl hd (kk p l e R s m args below meth c H locs cells slots Q2 dC dI cy ρ A ls hC hRO hK hA hc hs hw hl hP hD hS ret)
theorem x_alen2 {Y : zM} {d kc ks pc : Nat} {L S : List Value} {g : zG} {σ : zI} {Q : Option Value → zG → zI → Prop} {id n : Nat} (hd : decode Y.2.1 pc = .ok (.arraylength, 1)) (ha : zAr g id 2 n) (kk : zX Y d kc ks (pc + 1) L (.int (nI n) :: S) g σ Q) : zX Y d kc ks (pc) L (.ref id :: S) g σ Q := by
  intro p l e R s m args below meth c H locs cells slots Q2 dC dI cy ρ A ls hC hRO hK hA hc hs hw hl hP hD hS ret
  exact va_alen hC.1 hC.2.1 hK hP id 1 (zW_ar2 ha) rfl rfl hd (kk p l e R s m args below meth c H locs cells slots Q2 dC dI cy ρ A ls hC hRO hK hA hc hs hw hl hP hD hS ret)
theorem x_alenq {Y : zM} {d kc ks pc : Nat} {L S : List Value} {g : zG} {σ : zI} {Q : Option Value → zG → zI → Prop} {id t n : Nat} (hd : decode Y.2.1 pc = .ok (.arraylength, 1)) (ha : zAr g id (t + 3) n) (htt : t < 3) (kk : zX Y d kc ks (pc + 1) L (.int (nI n) :: S) g σ Q) : zX Y d kc ks (pc) L (.ref id :: S) g σ Q := by
  intro p l e R s m args below meth c H locs cells slots Q2 dC dI cy ρ A ls hC hRO hK hA hc hs hw hl hP hD hS ret
  obtain ⟨ty, ht, hty⟩ := zTy_q (cy := cy) t htt
  exact va_alen hC.1 hC.2.1 hK hP id (t + 2) (zW_arq ha) ht rfl hd (kk p l e R s m args below meth c H locs cells slots Q2 dC dI cy ρ A ls hC hRO hK hA hc hs hw hl hP hD hS ret)
theorem x_ret {Y : zM} {d kc ks pc : Nat} {L S : List Value} {g : zG} {σ : zI} {Q : Option Value → zG → zI → Prop} {r : Option Value} (hr : zRI Y pc r) (hq : Q r g σ) : zX Y d kc ks (pc) L (r.toList) g σ Q := by
  intro p l e R s m args below meth c H locs cells slots Q2 dC dI cy ρ A ls hC hRO hK hA hc hs hw hl hP hD hS ret
  exact ret r g σ ρ H locs cells slots pc ls hq (by omega) (by omega) hw (zExt_rf kc g σ ρ) hP hD hS hr
theorem x_iret {Y : zM} {d kc ks pc : Nat} {L S : List Value} {g : zG} {σ : zI} {Q : Option Value → zG → zI → Prop} {v : Int32} {ty : FieldType} (hd : decode Y.2.1 pc = .ok (.ireturn, 1)) (ht : Y.2.2.2.1 = some ty) (hn : narrow ty (.int v) = .int v) (hq : Q (some (.int v)) g σ) : zX Y d kc ks (pc) L ([.int v]) g σ Q := by
  intro p l e R s m args below meth c H locs cells slots Q2 dC dI cy ρ A ls hC hRO hK hA hc hs hw hl hP hD hS ret
  exact ret (some (.int v)) g σ ρ H locs cells slots pc ls hq (by omega) (by omega) hw (zExt_rf kc g σ ρ) hP hD hS (Or.inr (Or.inl ⟨v, ty, rfl, ht, hn, hd⟩))
theorem x_lret {Y : zM} {d kc ks pc : Nat} {L S : List Value} {g : zG} {σ : zI} {Q : Option Value → zG → zI → Prop} {v : Int64} (hd : decode Y.2.1 pc = .ok (.lreturn, 1)) (ht : Y.2.2.2.1 = some .long) (hq : Q (some (.long v)) g σ) : zX Y d kc ks (pc) L ([.long v]) g σ Q := by
  intro p l e R s m args below meth c H locs cells slots Q2 dC dI cy ρ A ls hC hRO hK hA hc hs hw hl hP hD hS ret
  exact ret (some (.long v)) g σ ρ H locs cells slots pc ls hq (by omega) (by omega) hw (zExt_rf kc g σ ρ) hP hD hS (Or.inr (Or.inr (Or.inl ⟨v, rfl, ht, hd⟩)))
theorem x_vret {Y : zM} {d kc ks pc : Nat} {L S : List Value} {g : zG} {σ : zI} {Q : Option Value → zG → zI → Prop} (hd : decode Y.2.1 pc = .ok (.return_, 1)) (ht : Y.2.2.2.1 = none) (hq : Q none g σ) : zX Y d kc ks (pc) L ([]) g σ Q := by
  intro p l e R s m args below meth c H locs cells slots Q2 dC dI cy ρ A ls hC hRO hK hA hc hs hw hl hP hD hS ret
  exact ret none g σ ρ H locs cells slots pc ls hq (by omega) (by omega) hw (zExt_rf kc g σ ρ) hP hD hS (Or.inl ⟨rfl, ht, hd⟩)
theorem x_aret {Y : zM} {d kc ks pc : Nat} {L S : List Value} {g : zG} {σ : zI} {Q : Option Value → zG → zI → Prop} {x : Nat} {rt : FieldType} (hd : decode Y.2.1 pc = .ok (.areturn, 1)) (ht : Y.2.2.2.1 = some rt) (hrt : (∃ n, rt = .object n) ∨ ∃ t, rt = .array t) (hq : Q (some (.ref x)) g σ) : zX Y d kc ks (pc) L ([.ref x]) g σ Q := by
  intro p l e R s m args below meth c H locs cells slots Q2 dC dI cy ρ A ls hC hRO hK hA hc hs hw hl hP hD hS ret
  exact ret (some (.ref x)) g σ ρ H locs cells slots pc ls hq (by omega) (by omega) hw (zExt_rf kc g σ ρ) hP hD hS (Or.inr (Or.inr (Or.inr ⟨.ref x, rt, rfl, Or.inr ⟨x, rfl⟩, ht, hrt, hd⟩)))
theorem x_aretN {Y : zM} {d kc ks pc : Nat} {L S : List Value} {g : zG} {σ : zI} {Q : Option Value → zG → zI → Prop} {rt : FieldType} (hd : decode Y.2.1 pc = .ok (.areturn, 1)) (ht : Y.2.2.2.1 = some rt) (hrt : (∃ n, rt = .object n) ∨ ∃ t, rt = .array t) (hq : Q (some .null) g σ) : zX Y d kc ks (pc) L ([.null]) g σ Q := by
  intro p l e R s m args below meth c H locs cells slots Q2 dC dI cy ρ A ls hC hRO hK hA hc hs hw hl hP hD hS ret
  exact ret (some .null) g σ ρ H locs cells slots pc ls hq (by omega) (by omega) hw (zExt_rf kc g σ ρ) hP hD hS (Or.inr (Or.inr (Or.inr ⟨.null, rt, rfl, Or.inl rfl, ht, hrt, hd⟩)))
