/-! ClickOrders: its methods as functions, and that the machine does what they say. -/
/-- ClickOrders$Reader.truth(I)V -/
def xT_261 (b : Bool) (rf : jRf) (F : Int32 → jSc → (Nat → Nat) → jSc → jAl → Option (jSc × (Nat → Nat) × jSc × jAl)) (e : Nat) : Prop := ∀  (Post : jPo) (x1 : Int32) (sc : jSc) (mr : (Nat → Nat)) (ar : jSc) (al : jAl) (sc9 : jSc) (mr9 : (Nat → Nat)) (ar9 : jSc) (al9 : jAl), F x1 sc mr ar al = some (sc9, mr9, ar9, al9) → Post none sc9 (x_mk mr9 rf) ar9 al9 → gW (gX b) 261 e 0 (j_av [.ref 756, .int x1]) [] sc (x_mk mr rf) ar al Post
def xF_261_26 (g261 : Int32 → jSc → (Nat → Nat) → jSc → jAl → Option (jSc × (Nat → Nat) × jSc × jAl)) : Nat → Int32 → Nat → Int32 → jSc → (Nat → Nat) → jSc → jAl → Option (jSc × (Nat → Nat) × jSc × jAl)
  | 0, _, _, _, _, _, _, _ => none
  | nn + 1, x1, p2, x3, sc, mr, ar, al => (if (sc 756 1) ≤ x3 then some (sc, mr, ar, al) else (o_b5 (xF_269 p2 sc mr ar al) (fun ve2 sce2 mre2 are2 ale2 => (if ve2 = 0 then some (sce2, mre2, are2, ale2) else (o_b4 (g261 (x1 + (1 : Int32)) sce2 mre2 are2 ale2) (fun sce4 mre4 are4 ale4 => (if x_pr (mre4 4) = true then (if x1 = 0 then (o_b5 (xF_252 (mre4 4) (15 : Int32) (0 : Int32) sce4 mre4 are4 ale4) (fun ve7 sce7 mre7 are7 ale7 => xF_261_26 g261 nn x1 p2 (x3 + (1 : Int32)) sce7 mre7 are7 ale7)) else (o_b5 (xF_252 (mre4 4) (14 : Int32) (0 : Int32) sce4 mre4 are4 ale4) (fun ve8 sce8 mre8 are8 ale8 => xF_261_26 g261 nn x1 p2 (x3 + (1 : Int32)) sce8 mre8 are8 ale8))) else none)))))))
def xF_261 (g261 : Int32 → jSc → (Nat → Nat) → jSc → jAl → Option (jSc × (Nat → Nat) × jSc × jAl)) (x1 : Int32) (sc : jSc) (mr : (Nat → Nat)) (ar : jSc) (al : jAl) : Option (jSc × (Nat → Nat) × jSc × jAl) :=
  (if (2 : Int32) ≤ x1 then (o_b4 (xF_273 sc mr ar al) (fun sce10 mre10 are10 ale10 => (o_b5 (xF_269 14 sce10 mre10 are10 ale10) (fun ve11 sce11 mre11 are11 ale11 => (if ve11 = 0 then (o_b5 (xF_270 (91 : Int32) sce11 mre11 are11 ale11) (fun ve13 sce13 mre13 are13 ale13 => (if ve13 = 0 then (o_b4 ((xG_263 40) (0 : Int32) sce13 mre13 are13 ale13) (fun sce15 mre15 are15 ale15 => (o_b5 (xF_262 sce15 mre15 are15 ale15) (fun ve16 sce16 mre16 are16 ale16 => (o_b4 ((xG_263 40) (0 : Int32) sce16 mre16 are16 ale16) (fun sce17 mre17 are17 ale17 => (if x_pr (mre17 4) = true then (o_b5 (xF_252 (mre17 4) ve16 (0 : Int32) sce17 mre17 are17 ale17) (fun ve19 sce19 mre19 are19 ale19 => some (sce19, mre19, are19, ale19))) else none))))))) else (o_b5 (xF_265 (sce10 756 2) sce13 mre13 are13 ale13) (fun ve20 sce20 mre20 are20 ale20 => (if ve20 = 0 then some (sce20, mre20, are20, ale20) else (o_b4 (g261 (0 : Int32) sce20 mre20 are20 ale20) (fun sce22 mre22 are22 ale22 => (o_b4 (xF_271 (93 : Int32) sce22 mre22 are22 ale22) (fun sce23 mre23 are23 ale23 => some ((j_u2 sce23 756 3 ((sce23 756 3) - (1 : Int32))), mre23, are23, ale23))))))))))) else (o_b5 (xF_265 (sce10 756 2) sce11 mre11 are11 ale11) (fun ve24 sce24 mre24 are24 ale24 => (if ve24 = 0 then some (sce24, mre24, are24, ale24) else (o_b4 (g261 (2 : Int32) sce24 mre24 are24 ale24) (fun sce26 mre26 are26 ale26 => (if x_pr (mre26 4) = true then (o_b5 (xF_252 (mre26 4) (4 : Int32) (0 : Int32) sce26 mre26 are26 ale26) (fun ve28 sce28 mre28 are28 ale28 => some ((j_u2 sce28 756 3 ((sce28 756 3) - (1 : Int32))), mre28, are28, ale28))) else none))))))))))) else (o_b4 (g261 (x1 + (1 : Int32)) sc mr ar al) (fun sce29 mre29 are29 ale29 => (if x1 = 0 then xF_261_26 g261 oF x1 16 (0 : Int32) sce29 mre29 are29 ale29 else xF_261_26 g261 oF x1 0 (0 : Int32) sce29 mre29 are29 ale29))))
def xG_261 : Nat → (Int32 → jSc → (Nat → Nat) → jSc → jAl → Option (jSc × (Nat → Nat) × jSc × jAl))
  | 0 => (fun _ _ _ _ _ => none)
  | n + 1 => (xF_261 (xG_261 n))
/-- ClickOrders$Reader.finishes()V -/
def xT_256 (b : Bool) (rf : jRf) (F : jSc → (Nat → Nat) → jSc → jAl → Option (jSc × (Nat → Nat) × jSc × jAl)) (e : Nat) : Prop := ∀  (Post : jPo) (sc : jSc) (mr : (Nat → Nat)) (ar : jSc) (al : jAl) (sc9 : jSc) (mr9 : (Nat → Nat)) (ar9 : jSc) (al9 : jAl), F sc mr ar al = some (sc9, mr9, ar9, al9) → Post none sc9 (x_mk mr9 rf) ar9 al9 → gW (gX b) 256 e 0 (j_av [.ref 756]) [] sc (x_mk mr rf) ar al Post
def xF_256 (sc : jSc) (mr : (Nat → Nat)) (ar : jSc) (al : jAl) : Option (jSc × (Nat → Nat) × jSc × jAl) :=
  (o_b4 ((xG_261 40) (0 : Int32) sc mr ar al) (fun sce1 mre1 are1 ale1 => (if x_pr (mre1 4) = true then (o_b5 (xF_252 (mre1 4) (16 : Int32) (0 : Int32) sce1 mre1 are1 ale1) (fun ve3 sce3 mre3 are3 ale3 => (o_b4 (xF_271 (59 : Int32) sce3 mre3 are3 ale3) (fun sce4 mre4 are4 ale4 => some (sce4, mre4, are4, ale4))))) else none)))
/-- ClickOrders$Reader.event()I -/
def xT_258 (b : Bool) (rf : jRf) (F : jSc → (Nat → Nat) → jSc → jAl → Option (Int32 × jSc × (Nat → Nat) × jSc × jAl)) (e : Nat) : Prop := ∀  (Post : jPo) (sc : jSc) (mr : (Nat → Nat)) (ar : jSc) (al : jAl) (r9 : Int32) (sc9 : jSc) (mr9 : (Nat → Nat)) (ar9 : jSc) (al9 : jAl), F sc mr ar al = some (r9, sc9, mr9, ar9, al9) → Post (some (.int r9)) sc9 (x_mk mr9 rf) ar9 al9 → gW (gX b) 258 e 0 (j_av [.ref 756]) [] sc (x_mk mr rf) ar al Post
def xF_258 (sc : jSc) (mr : (Nat → Nat)) (ar : jSc) (al : jAl) : Option (Int32 × jSc × (Nat → Nat) × jSc × jAl) :=
  (o_b5 (xF_269 21 sc mr ar al) (fun ve1 sce1 mre1 are1 ale1 => (if ve1 = 0 then (o_b5 (xF_269 18 sce1 mre1 are1 ale1) (fun ve3 sce3 mre3 are3 ale3 => (if ve3 = 0 then (o_b5 (xF_269 3 sce3 mre3 are3 ale3) (fun ve5 sce5 mre5 are5 ale5 => (if ve5 = 0 then (o_b5 (xF_269 1 sce5 mre5 are5 ale5) (fun ve7 sce7 mre7 are7 ale7 => (if ve7 = 0 then (o_b4 (xF_276 (1 : Int32) (sce7 756 2) sce7 mre7 are7 ale7) (fun sce9 mre9 are9 ale9 => some ((0 : Int32), sce9, mre9, are9, ale9))) else (o_b5 (xF_266 (4 : Int32) sce7 mre7 are7 ale7) (fun ve10 sce10 mre10 are10 ale10 => some (((13 : Int32) + ve10), sce10, mre10, are10, ale10)))))) else (o_b5 (xF_266 (4 : Int32) sce5 mre5 are5 ale5) (fun ve11 sce11 mre11 are11 ale11 => some (((9 : Int32) + ve11), sce11, mre11, are11, ale11)))))) else (o_b5 (xF_266 (8 : Int32) sce3 mre3 are3 ale3) (fun ve12 sce12 mre12 are12 ale12 => some (((1 : Int32) + ve12), sce12, mre12, are12, ale12)))))) else some ((0 : Int32), sce1, mre1, are1, ale1))))
/-- ClickOrders$Reader.stepWord()I -/
def xT_260 (b : Bool) (rf : jRf) (F : jSc → (Nat → Nat) → jSc → jAl → Option (Int32 × jSc × (Nat → Nat) × jSc × jAl)) (e : Nat) : Prop := ∀  (Post : jPo) (sc : jSc) (mr : (Nat → Nat)) (ar : jSc) (al : jAl) (r9 : Int32) (sc9 : jSc) (mr9 : (Nat → Nat)) (ar9 : jSc) (al9 : jAl), F sc mr ar al = some (r9, sc9, mr9, ar9, al9) → Post (some (.int r9)) sc9 (x_mk mr9 rf) ar9 al9 → gW (gX b) 260 e 0 (j_av [.ref 756]) [] sc (x_mk mr rf) ar al Post
def xF_260 (sc : jSc) (mr : (Nat → Nat)) (ar : jSc) (al : jAl) : Option (Int32 × jSc × (Nat → Nat) × jSc × jAl) :=
  (o_b5 (xF_269 20 sc mr ar al) (fun ve1 sce1 mre1 are1 ale1 => (if ve1 = 0 then (o_b5 (xF_269 9 sce1 mre1 are1 ale1) (fun ve3 sce3 mre3 are3 ale3 => (if ve3 = 0 then (o_b5 (xF_269 7 sce3 mre3 are3 ale3) (fun ve5 sce5 mre5 are5 ale5 => (if ve5 = 0 then (o_b5 (xF_269 12 sce5 mre5 are5 ale5) (fun ve7 sce7 mre7 are7 ale7 => (if ve7 = 0 then (o_b5 (xF_269 3 sce7 mre7 are7 ale7) (fun ve9 sce9 mre9 are9 ale9 => (if ve9 = 0 then (o_b5 (xF_269 2 sce9 mre9 are9 ale9) (fun ve11 sce11 mre11 are11 ale11 => (if ve11 = 0 then (o_b5 (xF_269 22 sce11 mre11 are11 ale11) (fun ve13 sce13 mre13 are13 ale13 => (if ve13 = 0 then (o_b5 (xF_269 19 sce13 mre13 are13 ale13) (fun ve15 sce15 mre15 are15 ale15 => (if ve15 = 0 then (o_b5 (xF_269 4 sce15 mre15 are15 ale15) (fun ve17 sce17 mre17 are17 ale17 => (if ve17 = 0 then (o_b5 (xF_269 10 sce17 mre17 are17 ale17) (fun ve19 sce19 mre19 are19 ale19 => (if ve19 = 0 then some ((-1 : Int32), sce19, mre19, are19, ale19) else some ((17 : Int32), sce19, mre19, are19, ale19)))) else some ((27 : Int32), sce17, mre17, are17, ale17)))) else some ((26 : Int32), sce15, mre15, are15, ale15)))) else some ((25 : Int32), sce13, mre13, are13, ale13)))) else some ((24 : Int32), sce11, mre11, are11, ale11)))) else some ((23 : Int32), sce9, mre9, are9, ale9)))) else some ((22 : Int32), sce7, mre7, are7, ale7)))) else some ((21 : Int32), sce5, mre5, are5, ale5)))) else some ((20 : Int32), sce3, mre3, are3, ale3)))) else some ((19 : Int32), sce1, mre1, are1, ale1))))
/-- ClickOrders$Reader.oneStep()V -/
def xT_259 (b : Bool) (rf : jRf) (F : jSc → (Nat → Nat) → jSc → jAl → Option (jSc × (Nat → Nat) × jSc × jAl)) (e : Nat) : Prop := ∀  (Post : jPo) (sc : jSc) (mr : (Nat → Nat)) (ar : jSc) (al : jAl) (sc9 : jSc) (mr9 : (Nat → Nat)) (ar9 : jSc) (al9 : jAl), F sc mr ar al = some (sc9, mr9, ar9, al9) → Post none sc9 (x_mk mr9 rf) ar9 al9 → gW (gX b) 259 e 0 (j_av [.ref 756]) [] sc (x_mk mr rf) ar al Post
def xF_259_168 (g259 : jSc → (Nat → Nat) → jSc → jAl → Option (jSc × (Nat → Nat) × jSc × jAl)) (x3 : Int32) (x4 : Int32) (sc : jSc) (mr : (Nat → Nat)) (ar : jSc) (al : jAl) : Option (jSc × (Nat → Nat) × jSc × jAl) :=
  (if x3 = (23 : Int32) then (o_b5 (xF_267 sc mr ar al) (fun ve2 sce2 mre2 are2 ale2 => (if x_pr (mre2 4) = true then (o_b5 (xF_252 (mre2 4) x3 ((x4 * (1000 : Int32)) + ve2) sce2 mre2 are2 ale2) (fun ve4 sce4 mre4 are4 ale4 => (o_b4 (xF_271 (59 : Int32) sce4 mre4 are4 ale4) (fun sce5 mre5 are5 ale5 => some (sce5, mre5, are5, ale5))))) else none))) else (if x3 = (18 : Int32) then (o_b4 ((xG_263 40) (0 : Int32) sc mr ar al) (fun sce7 mre7 are7 ale7 => (if x_pr (mre7 4) = true then (o_b5 (xF_252 (mre7 4) x3 x4 sce7 mre7 are7 ale7) (fun ve9 sce9 mre9 are9 ale9 => (o_b4 (xF_271 (59 : Int32) sce9 mre9 are9 ale9) (fun sce10 mre10 are10 ale10 => some (sce10, mre10, are10, ale10))))) else none))) else (if x3 = (24 : Int32) then (o_b4 ((xG_263 40) (0 : Int32) sc mr ar al) (fun sce12 mre12 are12 ale12 => (if x_pr (mre12 4) = true then (o_b5 (xF_252 (mre12 4) x3 x4 sce12 mre12 are12 ale12) (fun ve14 sce14 mre14 are14 ale14 => (o_b4 (xF_271 (59 : Int32) sce14 mre14 are14 ale14) (fun sce15 mre15 are15 ale15 => some (sce15, mre15, are15, ale15))))) else none))) else (if x3 = (26 : Int32) then (o_b4 ((xG_263 40) (0 : Int32) sc mr ar al) (fun sce17 mre17 are17 ale17 => (if x_pr (mre17 4) = true then (o_b5 (xF_252 (mre17 4) x3 x4 sce17 mre17 are17 ale17) (fun ve19 sce19 mre19 are19 ale19 => (o_b4 (xF_271 (59 : Int32) sce19 mre19 are19 ale19) (fun sce20 mre20 are20 ale20 => some (sce20, mre20, are20, ale20))))) else none))) else (if x_pr (mr 4) = true then (o_b5 (xF_252 (mr 4) x3 x4 sc mr ar al) (fun ve22 sce22 mre22 are22 ale22 => (o_b4 (xF_271 (59 : Int32) sce22 mre22 are22 ale22) (fun sce23 mre23 are23 ale23 => some (sce23, mre23, are23, ale23))))) else none)))))
def xF_259_27 (g259 : jSc → (Nat → Nat) → jSc → jAl → Option (jSc × (Nat → Nat) × jSc × jAl)) (x1 : Int32) (x2 : Int32) (y0 : Int32) (sc : jSc) (mr : (Nat → Nat)) (ar : jSc) (al : jAl) : Option (jSc × (Nat → Nat) × jSc × jAl) :=
  (if 0 ≤ y0 then (if x_pr (mr 4) = true then (if x_pr (mr 4) = true then (if ((j_u2 sc (mr 4) 4 ((sc (mr 4) 4) + (1 : Int32))) (mr 4) 4) ≤ (60 : Int32) then (if y0 = (17 : Int32) then (o_b5 (xF_265 x1 (j_u2 sc (mr 4) 4 ((sc (mr 4) 4) + (1 : Int32))) mr ar al) (fun ve29 sce29 mre29 are29 ale29 => (if ve29 = 0 then some (sce29, mre29, are29, ale29) else (o_b4 ((xG_261 40) (0 : Int32) sce29 mre29 are29 ale29) (fun sce31 mre31 are31 ale31 => (if x_pr (mre31 4) = true then (o_b5 (xF_252 (mre31 4) (17 : Int32) (0 : Int32) sce31 mre31 are31 ale31) (fun ve33 sce33 mre33 are33 ale33 => (o_b4 (g259 sce33 mre33 are33 ale33) (fun sce34 mre34 are34 ale34 => (if x_pr (mre34 4) = true then (o_b4 (xF_253 (mre34 4) ve33 sce34 mre34 are34 ale34) (fun sce36 mre36 are36 ale36 => some ((j_u2 sce36 756 3 ((sce36 756 3) - (1 : Int32))), mre36, are36, ale36))) else none))))) else none)))))) else (if y0 = (18 : Int32) then (o_b4 (xF_271 (61 : Int32) (j_u2 sc (mr 4) 4 ((sc (mr 4) 4) + (1 : Int32))) mr ar al) (fun sce38 mre38 are38 ale38 => xF_259_168 g259 y0 x2 sce38 mre38 are38 ale38)) else (if y0 = (27 : Int32) then xF_259_168 g259 y0 x2 (j_u2 sc (mr 4) 4 ((sc (mr 4) 4) + (1 : Int32))) mr ar al else (if (22 : Int32) < y0 then (o_b5 (xF_266 (4 : Int32) (j_u2 sc (mr 4) 4 ((sc (mr 4) 4) + (1 : Int32))) mr ar al) (fun ve41 sce41 mre41 are41 ale41 => xF_259_168 g259 y0 ve41 sce41 mre41 are41 ale41)) else (o_b5 (xF_266 (8 : Int32) (j_u2 sc (mr 4) 4 ((sc (mr 4) 4) + (1 : Int32))) mr ar al) (fun ve42 sce42 mre42 are42 ale42 => xF_259_168 g259 y0 ve42 sce42 mre42 are42 ale42)))))) else (o_b4 (xF_276 (3 : Int32) x1 (j_u2 sc (mr 4) 4 ((sc (mr 4) 4) + (1 : Int32))) mr ar al) (fun sce43 mre43 are43 ale43 => some (sce43, mre43, are43, ale43)))) else none) else none) else (o_b4 (xF_276 (1 : Int32) x1 sc mr ar al) (fun sce44 mre44 are44 ale44 => some (sce44, mre44, are44, ale44))))
def xF_259 (g259 : jSc → (Nat → Nat) → jSc → jAl → Option (jSc × (Nat → Nat) × jSc × jAl)) (sc : jSc) (mr : (Nat → Nat)) (ar : jSc) (al : jAl) : Option (jSc × (Nat → Nat) × jSc × jAl) :=
  (o_b4 (xF_273 sc mr ar al) (fun sce45 mre45 are45 ale45 => (o_b5 (xF_268 sce45 mre45 are45 ale45) (fun ve46 sce46 mre46 are46 ale46 => (if ve46 < 0 then (o_b5 (xF_260 sce46 mre46 are46 ale46) (fun ve48 sce48 mre48 are48 ale48 => xF_259_27 g259 (sce45 756 2) ve46 ve48 sce48 mre48 are48 ale48)) else xF_259_27 g259 (sce45 756 2) ve46 (18 : Int32) sce46 mre46 are46 ale46)))))
def xG_259 : Nat → (jSc → (Nat → Nat) → jSc → jAl → Option (jSc × (Nat → Nat) × jSc × jAl))
  | 0 => (fun _ _ _ _ => none)
  | n + 1 => (xF_259 (xG_259 n))
/-- ClickOrders$Reader.handler(I)V -/
def xT_257 (b : Bool) (rf : jRf) (F : Int32 → jSc → (Nat → Nat) → jSc → jAl → Option (jSc × (Nat → Nat) × jSc × jAl)) (e : Nat) : Prop := ∀  (Post : jPo) (x1 : Int32) (sc : jSc) (mr : (Nat → Nat)) (ar : jSc) (al : jAl) (sc9 : jSc) (mr9 : (Nat → Nat)) (ar9 : jSc) (al9 : jAl), F x1 sc mr ar al = some (sc9, mr9, ar9, al9) → Post none sc9 (x_mk mr9 rf) ar9 al9 → gW (gX b) 257 e 0 (j_av [.ref 756, .int x1]) [] sc (x_mk mr rf) ar al Post
def xF_257_69 : Nat → Int32 → jSc → (Nat → Nat) → jSc → jAl → Option (jSc × (Nat → Nat) × jSc × jAl)
  | 0, _, _, _, _, _ => none
  | nn + 1, x3, sc, mr, ar, al => (if (sc 756 1) < x3 then (if x_pr (mr 4) = true then (o_b5 (xF_252 (mr 4) (16 : Int32) (0 : Int32) sc mr ar al) (fun ve3 sce3 mre3 are3 ale3 => some (sce3, mre3, are3, ale3))) else none) else (if (sc 756 4) = 0 then (o_b5 (xF_270 (125 : Int32) sc mr ar al) (fun ve5 sce5 mre5 are5 ale5 => (if ve5 = 0 then (o_b4 ((xG_259 40) sce5 mre5 are5 ale5) (fun sce7 mre7 are7 ale7 => xF_257_69 nn (x3 + (1 : Int32)) sce7 mre7 are7 ale7)) else (if x_pr (mre5 4) = true then (o_b5 (xF_252 (mre5 4) (16 : Int32) (0 : Int32) sce5 mre5 are5 ale5) (fun ve9 sce9 mre9 are9 ale9 => some (sce9, mre9, are9, ale9))) else none)))) else (if x_pr (mr 4) = true then (o_b5 (xF_252 (mr 4) (16 : Int32) (0 : Int32) sc mr ar al) (fun ve11 sce11 mre11 are11 ale11 => some (sce11, mre11, are11, ale11))) else none)))
def xF_257 (x1 : Int32) (sc : jSc) (mr : (Nat → Nat)) (ar : jSc) (al : jAl) : Option (jSc × (Nat → Nat) × jSc × jAl) :=
  (o_b5 (xF_258 sc mr ar al) (fun ve12 sce12 mre12 are12 ale12 => (if (sce12 756 4) = 0 then (if x_pr (mre12 4) = true then (if iB ve12 17 then (if (are12 ((mre12 4) + 3) (iN ve12)) < 0 then (o_b4 (xF_271 (123 : Int32) sce12 mre12 are12 ale12) (fun sce17 mre17 are17 ale17 => (if x_pr (mre17 4) = true then (if x_pr (mre17 4) = true then (if iB ve12 17 then (if x_pr (mre17 4) = true then xF_257_69 oF (0 : Int32) (j_u2 sce17 (mre17 4) 5 ((sce17 (mre17 4) 5) + (1 : Int32))) mre17 (j_u2 are17 ((mre17 4) + 3) (iN ve12) (sce17 (mre17 4) 3)) ale17 else none) else none) else none) else none))) else (o_b4 (xF_276 (4 : Int32) x1 sce12 mre12 are12 ale12) (fun sce22 mre22 are22 ale22 => some (sce22, mre22, are22, ale22)))) else none) else none) else some (sce12, mre12, are12, ale12))))
/-- ClickOrders$Reader.isAtEnd()Z -/
def xT_272 (b : Bool) (rf : jRf) (F : jSc → (Nat → Nat) → jSc → jAl → Option (Int32 × jSc × (Nat → Nat) × jSc × jAl)) (e : Nat) : Prop := ∀  (Post : jPo) (sc : jSc) (mr : (Nat → Nat)) (ar : jSc) (al : jAl) (r9 : Int32) (sc9 : jSc) (mr9 : (Nat → Nat)) (ar9 : jSc) (al9 : jAl), F sc mr ar al = some (r9, sc9, mr9, ar9, al9) → Post (some (.int r9)) sc9 (x_mk mr9 rf) ar9 al9 → gW (gX b) 272 e 0 (j_av [.ref 756]) [] sc (x_mk mr rf) ar al Post
def xF_272 (sc : jSc) (mr : (Nat → Nat)) (ar : jSc) (al : jAl) : Option (Int32 × jSc × (Nat → Nat) × jSc × jAl) :=
  (o_b4 (xF_273 sc mr ar al) (fun sce1 mre1 are1 ale1 => (if (sce1 756 2) < (sce1 756 1) then some ((0 : Int32), sce1, mre1, are1, ale1) else some ((1 : Int32), sce1, mre1, are1, ale1))))
set_option maxHeartbeats 4000000 in
theorem xt_272 {b : Bool} {rf : jRf} {d : Nat} : xT_272 b rf xF_272 (d + 2) := by
  intro  Post  sc mr ar al r9 sc9 mr9 ar9 al9 h hP
  unfold xF_272 at h
  refine gl_entry (m := 0) rfl ?_
  show gL (gX b) 272 (d + 2) 0 [some (.ref 756)] [] sc (x_mk mr rf) ar al Post
  refine gl_aload_n (gX_LK b) y_272_0 rfl rfl ?_
  obtain ⟨sce1, mre1, are1, ale1, e1, h⟩ := o_k4 h
  refine gl_callV (gX_LK b) y_272_1 ym_272_113 rfl rfl rfl ys_756 yx_273 rfl rfl ((xt_273 )  _  _ _ _ _ _ _ _ _ e1 ?_)
  refine gl_aload_n (gX_LK b) y_272_4 rfl rfl ?_
  refine gl_get (gX_LK b) y_272_5 yf_272_15 ys_756 rfl rfl rfl rfl ?_
  refine gl_aload_n (gX_LK b) y_272_8 rfl rfl ?_
  refine gl_get (gX_LK b) y_272_9 yf_272_9 ys_756 rfl rfl rfl rfl ?_
  refine gl_ic_lt (gX_LK b) y_272_12 rfl rfl (fun c2 => ?_) (fun c2 => ?_)
  · have h := (if_pos c2).symm.trans h
    refine gl_iconst (gX_LK b) y_272_19 ci_0 rfl ?_
    exact gl_ireturn y_272_20 (Or.inr ⟨yt_272, Or.inl rfl⟩) (by cases h; exact hP)
  · have h := (if_neg c2).symm.trans h
    refine gl_iconst (gX_LK b) y_272_15 ci_1 rfl ?_
    refine gl_goto (gX_LK b) y_272_16 rfl ?_
    exact gl_ireturn y_272_20 (Or.inr ⟨yt_272, Or.inr rfl⟩) (by cases h; exact hP)
/-- ClickOrders$Reader.reads(ILClickOrders$Program;)I -/
def xT_255 (b : Bool) (rf : jRf) (F : Int32 → Nat → jSc → (Nat → Nat) → jSc → jAl → Option (Int32 × jSc × (Nat → Nat) × jSc × jAl)) (e : Nat) : Prop := ∀  (Post : jPo) (x1 : Int32) (p2 : Nat) (hp2 : x_pr p2 = true) (sc : jSc) (mr : (Nat → Nat)) (ar : jSc) (al : jAl) (r9 : Int32) (sc9 : jSc) (mr9 : (Nat → Nat)) (ar9 : jSc) (al9 : jAl), F x1 p2 sc mr ar al = some (r9, sc9, mr9, ar9, al9) → Post (some (.int r9)) sc9 (x_mk mr9 rf) ar9 al9 → gW (gX b) 255 e 0 (j_av [.ref 756, .int x1, .ref p2]) [] sc (x_mk mr rf) ar al Post
def xF_255_47 : Nat → Int32 → jSc → (Nat → Nat) → jSc → jAl → Option (Int32 × jSc × (Nat → Nat) × jSc × jAl)
  | 0, _, _, _, _, _ => none
  | nn + 1, x3, sc, mr, ar, al => (if (sc 756 1) < x3 then some ((sc 756 4), sc, mr, ar, al) else (o_b5 (xF_272 sc mr ar al) (fun ve2 sce2 mre2 are2 ale2 => (if ve2 = 0 then (o_b5 (xF_269 15 sce2 mre2 are2 ale2) (fun ve4 sce4 mre4 are4 ale4 => (if ve4 = 0 then (o_b5 (xF_269 8 sce4 mre4 are4 ale4) (fun ve6 sce6 mre6 are6 ale6 => (if ve6 = 0 then (o_b5 (xF_269 17 sce6 mre6 are6 ale6) (fun ve8 sce8 mre8 are8 ale8 => (if ve8 = 0 then (o_b4 (xF_276 (1 : Int32) (sce2 756 2) sce8 mre8 are8 ale8) (fun sce10 mre10 are10 ale10 => xF_255_47 nn (x3 + (1 : Int32)) sce10 mre10 are10 ale10)) else (if x_pr (mre8 4) = true then (if x_pr (mre8 4) = true then (o_b4 (xF_256 (j_u2 sce8 (mre8 4) 8 (sce8 (mre8 4) 3)) mre8 are8 ale8) (fun sce13 mre13 are13 ale13 => xF_255_47 nn (x3 + (1 : Int32)) sce13 mre13 are13 ale13)) else none) else none)))) else (if x_pr (mre6 4) = true then (if x_pr (mre6 4) = true then (o_b4 (xF_256 (j_u2 sce6 (mre6 4) 7 (sce6 (mre6 4) 3)) mre6 are6 ale6) (fun sce16 mre16 are16 ale16 => xF_255_47 nn (x3 + (1 : Int32)) sce16 mre16 are16 ale16)) else none) else none)))) else (o_b4 (xF_257 (sce2 756 2) sce4 mre4 are4 ale4) (fun sce17 mre17 are17 ale17 => xF_255_47 nn (x3 + (1 : Int32)) sce17 mre17 are17 ale17))))) else some ((sce2 756 4), sce2, mre2, are2, ale2)))))
def xF_255 (x1 : Int32) (p2 : Nat) (sc : jSc) (mr : (Nat → Nat)) (ar : jSc) (al : jAl) : Option (Int32 × jSc × (Nat → Nat) × jSc × jAl) :=
  (if x_pr p2 = true then (o_b4 (xF_251 p2 (j_u2 (j_u2 (j_u2 (j_u2 (j_u2 sc 756 1 (if (Int32.ofNat 600) < x1 then (Int32.ofNat 600) else x1)) 756 2 (0 : Int32)) 756 3 (0 : Int32)) 756 4 (0 : Int32)) 756 6 (-1 : Int32)) (va_up mr 4 p2) ar al) (fun sce19 mre19 are19 ale19 => xF_255_47 oF (0 : Int32) sce19 mre19 are19 ale19)) else none)
/-- ClickOrders$Row.adds(I)I -/
def xT_277 (b : Bool) (rf : jRf) (F : Int32 → jSc → (Nat → Nat) → jSc → jAl → Option (Int32 × jSc × (Nat → Nat) × jSc × jAl)) (e : Nat) : Prop := ∀  (Post : jPo) (x1 : Int32) (sc : jSc) (mr : (Nat → Nat)) (ar : jSc) (al : jAl) (r9 : Int32) (sc9 : jSc) (mr9 : (Nat → Nat)) (ar9 : jSc) (al9 : jAl), F x1 sc mr ar al = some (r9, sc9, mr9, ar9, al9) → Post (some (.int r9)) sc9 (x_mk mr9 rf) ar9 al9 → gW (gX b) 277 e 0 (j_av [.ref 819, .int x1]) [] sc (x_mk mr rf) ar al Post
def xF_277 (x1 : Int32) (sc : jSc) (mr : (Nat → Nat)) (ar : jSc) (al : jAl) : Option (Int32 × jSc × (Nat → Nat) × jSc × jAl) :=
  (if (sc 819 1) < (40 : Int32) then (if iB (sc 819 1) 40 then some (((sc 819 1) + (1 : Int32)), (j_u2 sc 819 1 ((sc 819 1) + (1 : Int32))), mr, (j_u2 ar 820 (iN (sc 819 1)) x1), al) else none) else some ((-1 : Int32), sc, mr, ar, al))
set_option maxHeartbeats 4000000 in
theorem xt_277 {b : Bool} {rf : jRf} {d : Nat} : xT_277 b rf xF_277 (d + 1) := by
  intro  Post x1 sc mr ar al r9 sc9 mr9 ar9 al9 h hP
  unfold xF_277 at h
  refine gl_entry (m := 0) rfl ?_
  show gL (gX b) 277 (d + 1) 0 [some (.ref 819), some (.int x1)] [] sc (x_mk mr rf) ar al Post
  refine gl_aload_n (gX_LK b) y_277_0 rfl rfl ?_
  refine gl_get (gX_LK b) y_277_1 yf_277_15 ys_819 rfl rfl rfl rfl ?_
  refine gl_bipush (gX_LK b) y_277_4 cb_40 rfl ?_
  refine gl_ic_lt (gX_LK b) y_277_6 rfl rfl (fun c1 => ?_) (fun c1 => ?_)
  · have h := (if_pos c1).symm.trans h
    refine gl_aload_n (gX_LK b) y_277_11 rfl rfl ?_
    refine gl_getA (gX_LK b) y_277_12 yf_277_11 ys_819 rfl rfl rfl rfl ?_
    refine gl_aload_n (gX_LK b) y_277_15 rfl rfl ?_
    refine gl_get (gX_LK b) y_277_16 yf_277_15 ys_819 rfl rfl rfl rfl ?_
    refine gl_iload_n (gX_LK b) y_277_19 rfl rfl ?_
    obtain ⟨c2, h⟩ := o_ck h
    refine gl_iastore (ar2 := (j_u2 ar 820 (iN (sc 819 1)) x1)) (gX_LK b) y_277_20 ys_820 c2 rfl rfl ?_
    refine gl_aload_n (gX_LK b) y_277_21 rfl rfl ?_
    refine gl_dup (gX_LK b) y_277_22 rfl rfl ?_
    refine gl_get (gX_LK b) y_277_23 yf_277_15 ys_819 rfl rfl rfl rfl ?_
    refine gl_iconst (gX_LK b) y_277_26 ci_1 rfl ?_
    refine gl_iadd (gX_LK b) y_277_27 rfl ?_
    refine gl_put (sc' := (j_u2 sc 819 1 ((sc 819 1) + (1 : Int32)))) (gX_LK b) y_277_28 yf_277_15 ys_819 rfl rfl rfl rfl rfl ?_
    refine gl_aload_n (gX_LK b) y_277_31 rfl rfl ?_
    refine gl_get (gX_LK b) y_277_32 yf_277_15 ys_819 rfl rfl rfl rfl ?_
    exact gl_ireturn y_277_35 (Or.inl yt_277) (by cases h; exact hP)
  · have h := (if_neg c1).symm.trans h
    refine gl_iconst (gX_LK b) y_277_9 ci_m1 rfl ?_
    exact gl_ireturn y_277_10 (Or.inl yt_277) (by cases h; exact hP)
/-- ClickOrders$Row.firstRefused()I -/
def xT_278 (b : Bool) (rf : jRf) (F : jSc → (Nat → Nat) → jSc → jAl → Option (Int32 × jSc × (Nat → Nat) × jSc × jAl)) (e : Nat) : Prop := ∀  (Post : jPo) (sc : jSc) (mr : (Nat → Nat)) (ar : jSc) (al : jAl) (r9 : Int32) (sc9 : jSc) (mr9 : (Nat → Nat)) (ar9 : jSc) (al9 : jAl), F sc mr ar al = some (r9, sc9, mr9, ar9, al9) → Post (some (.int r9)) sc9 (x_mk mr9 rf) ar9 al9 → gW (gX b) 278 e 0 (j_av [.ref 819]) [] sc (x_mk mr rf) ar al Post
def xF_278_13 : Nat → Int32 → jSc → (Nat → Nat) → jSc → jAl → Option (Int32 × jSc × (Nat → Nat) × jSc × jAl)
  | 0, _, _, _, _, _ => none
  | nn + 1, x1, sc, mr, ar, al => (if (sc 819 1) ≤ x1 then some ((-1 : Int32), sc, mr, ar, al) else (if iB x1 40 then (o_b5 (xF_206 821 (ar 820 (iN x1)) sc mr ar al) (fun ve3 sce3 mre3 are3 ale3 => (if ve3 = 0 then some (x1, sce3, mre3, are3, ale3) else (if iB x1 40 then (o_b5 (xF_209 821 (are3 820 (iN x1)) (-1 : Int32) sce3 mre3 are3 ale3) (fun ve6 sce6 mre6 are6 ale6 => xF_278_13 nn (x1 + (1 : Int32)) sce6 mre6 are6 ale6)) else none)))) else none))
set_option maxHeartbeats 4000000 in
theorem xt_278_13 {b : Bool} {rf : jRf} {d : Nat} {Post : jPo} {r9 : Int32} {sc9 : jSc} {mr9 : (Nat → Nat)} {ar9 : jSc} {al9 : jAl} (hP : Post (some (.int r9)) sc9 (x_mk mr9 rf) ar9 al9) : ∀ (nn : Nat) (x1 : Int32) (sc : jSc) (mr : (Nat → Nat)) (ar : jSc) (al : jAl), xF_278_13 nn x1 sc mr ar al = some (r9, sc9, mr9, ar9, al9) → gL (gX b) 278 (d + 5) 13 [some (.ref 819), some (.int x1)] [] sc (x_mk mr rf) ar al Post := by
  intro nn
  induction nn with
  | zero =>
    intro x1 sc mr ar al h
    have h : (none : Option (Int32 × jSc × (Nat → Nat) × jSc × jAl)) = some _ := h
    cases h
  | succ nn ih =>
    intro x1 sc mr ar al h
    unfold xF_278_13 at h
    refine gl_iload_n (gX_LK b) y_278_13 rfl rfl ?_
    refine gl_aload_n (gX_LK b) y_278_14 rfl rfl ?_
    refine gl_get (gX_LK b) y_278_15 yf_278_15 ys_819 rfl rfl rfl rfl ?_
    refine gl_ic_ge (gX_LK b) y_278_18 rfl rfl (fun c1 => ?_) (fun c1 => ?_)
    · have h := (if_pos c1).symm.trans h
      refine gl_iconst (gX_LK b) y_278_68 ci_m1 rfl ?_
      exact gl_ireturn y_278_69 (Or.inl yt_278) (by cases h; exact hP)
    · have h := (if_neg c1).symm.trans h
      refine gl_aload_n (gX_LK b) y_278_21 rfl rfl ?_
      refine gl_getA (gX_LK b) y_278_22 yf_278_26 ys_819 rfl rfl rfl rfl ?_
      refine gl_aload_n (gX_LK b) y_278_25 rfl rfl ?_
      refine gl_getA (gX_LK b) y_278_26 yf_278_22 ys_819 rfl rfl rfl rfl ?_
      refine gl_aload_n (gX_LK b) y_278_29 rfl rfl ?_
      refine gl_getA (gX_LK b) y_278_30 yf_278_11 ys_819 rfl rfl rfl rfl ?_
      refine gl_iload_n (gX_LK b) y_278_33 rfl rfl ?_
      obtain ⟨c2, h⟩ := o_ck h
      refine gl_iaload (gX_LK b) y_278_34 ys_820 c2 rfl rfl ?_
      obtain ⟨ve3, sce3, mre3, are3, ale3, e3, h⟩ := o_k5 h
      refine gl_callV (gX_LK b) y_278_35 ym_278_36 rfl rfl rfl ys_757 yx_206 rfl rfl ((xt_206 )  _ _ _ (show x_pg 821 = true from rfl) _ _ _ _ _ _ _ _ _ e3 ?_)
      refine gl_if_ne (gX_LK b) y_278_38 rfl rfl (fun c4 => ?_) (fun c4 => ?_)
      · have h := (if_pos c4).symm.trans h
        refine gl_iload_n (gX_LK b) y_278_41 rfl rfl ?_
        exact gl_ireturn y_278_42 (Or.inl yt_278) (by cases h; exact hP)
      · have h := (if_neg c4).symm.trans h
        refine gl_aload_n (gX_LK b) y_278_43 rfl rfl ?_
        refine gl_getA (gX_LK b) y_278_44 yf_278_26 ys_819 rfl rfl rfl rfl ?_
        refine gl_aload_n (gX_LK b) y_278_47 rfl rfl ?_
        refine gl_getA (gX_LK b) y_278_48 yf_278_22 ys_819 rfl rfl rfl rfl ?_
        refine gl_aload_n (gX_LK b) y_278_51 rfl rfl ?_
        refine gl_getA (gX_LK b) y_278_52 yf_278_11 ys_819 rfl rfl rfl rfl ?_
        refine gl_iload_n (gX_LK b) y_278_55 rfl rfl ?_
        obtain ⟨c5, h⟩ := o_ck h
        refine gl_iaload (gX_LK b) y_278_56 ys_820 c5 rfl rfl ?_
        refine gl_iconst (gX_LK b) y_278_57 ci_m1 rfl ?_
        obtain ⟨ve6, sce6, mre6, are6, ale6, e6, h⟩ := o_k5 h
        refine gl_callV (gX_LK b) y_278_58 ym_278_40 rfl rfl rfl ys_757 yx_209 rfl rfl ((xt_209 )  _ _ _ _ (show x_pg 821 = true from rfl) _ _ _ _ _ _ _ _ _ e6 ?_)
        refine gl_pop (gX_LK b) y_278_61 rfl rfl ?_
        refine gl_iinc (vs2 := [some (.ref 819), some (.int (x1 + (1 : Int32)))]) (gX_LK b) y_278_62 rfl rfl rfl ci_1 rfl rfl ?_
        refine gl_goto (gX_LK b) y_278_65 rfl ?_
        exact gl_weak (vs := [some (.ref 819), some (.int (x1 + (1 : Int32)))]) ⟨rfl, rfl, trivial⟩ (ih (x1 + (1 : Int32)) sce6 mre6 are6 ale6 h)
def xF_278 (sc : jSc) (mr : (Nat → Nat)) (ar : jSc) (al : jAl) : Option (Int32 × jSc × (Nat → Nat) × jSc × jAl) :=
  (o_b4 (xF_207 821 sc mr ar al) (fun sce7 mre7 are7 ale7 => xF_278_13 oF (0 : Int32) sce7 mre7 are7 ale7))
set_option maxHeartbeats 4000000 in
theorem xt_278 {b : Bool} {rf : jRf} {d : Nat} : xT_278 b rf xF_278 (d + 5) := by
  intro  Post  sc mr ar al r9 sc9 mr9 ar9 al9 h hP
  unfold xF_278 at h
  refine gl_entry (m := 1) rfl ?_
  show gL (gX b) 278 (d + 5) 0 [some (.ref 819), none] [] sc (x_mk mr rf) ar al Post
  refine gl_aload_n (gX_LK b) y_278_0 rfl rfl ?_
  refine gl_getA (gX_LK b) y_278_1 yf_278_26 ys_819 rfl rfl rfl rfl ?_
  refine gl_aload_n (gX_LK b) y_278_4 rfl rfl ?_
  refine gl_getA (gX_LK b) y_278_5 yf_278_22 ys_819 rfl rfl rfl rfl ?_
  obtain ⟨sce7, mre7, are7, ale7, e7, h⟩ := o_k4 h
  refine gl_callV (gX_LK b) y_278_8 ym_278_30 rfl rfl rfl ys_757 yx_207 rfl rfl ((xt_207 )  _ _ (show x_pg 821 = true from rfl) _ _ _ _ _ _ _ _ e7 ?_)
  refine gl_iconst (gX_LK b) y_278_11 ci_0 rfl ?_
  refine gl_istore_n (vs2 := [some (.ref 819), some (.int (0 : Int32))]) (gX_LK b) y_278_12 rfl rfl rfl rfl ?_
  exact gl_weak (vs := [some (.ref 819), some (.int (0 : Int32))]) ⟨rfl, rfl, trivial⟩ (xt_278_13  hP oF (0 : Int32) sce7 mre7 are7 ale7 h)
/-- ClickOrders$Row.drops(I)V -/
def xT_281 (b : Bool) (rf : jRf) (F : Int32 → jSc → (Nat → Nat) → jSc → jAl → Option (jSc × (Nat → Nat) × jSc × jAl)) (e : Nat) : Prop := ∀  (Post : jPo) (x1 : Int32) (sc : jSc) (mr : (Nat → Nat)) (ar : jSc) (al : jAl) (sc9 : jSc) (mr9 : (Nat → Nat)) (ar9 : jSc) (al9 : jAl), F x1 sc mr ar al = some (sc9, mr9, ar9, al9) → Post none sc9 (x_mk mr9 rf) ar9 al9 → gW (gX b) 281 e 0 (j_av [.ref 819, .int x1]) [] sc (x_mk mr rf) ar al Post
def xF_281_2 : Nat → Int32 → jSc → (Nat → Nat) → jSc → jAl → Option (jSc × (Nat → Nat) × jSc × jAl)
  | 0, _, _, _, _, _ => none
  | nn + 1, x2, sc, mr, ar, al => (if (sc 819 1) ≤ (x2 + (1 : Int32)) then some ((j_u2 sc 819 1 ((sc 819 1) - (1 : Int32))), mr, ar, al) else (if iB (x2 + (1 : Int32)) 40 then (if iB x2 40 then xF_281_2 nn (x2 + (1 : Int32)) sc mr (j_u2 ar 820 (iN x2) (ar 820 (iN (x2 + (1 : Int32))))) al else none) else none))
set_option maxHeartbeats 4000000 in
theorem xt_281_2 {b : Bool} {rf : jRf} {d : Nat} {Post : jPo} {sc9 : jSc} {mr9 : (Nat → Nat)} {ar9 : jSc} {al9 : jAl} (hP : Post none sc9 (x_mk mr9 rf) ar9 al9) : ∀ (nn : Nat) (x2 : Int32) (sc : jSc) (mr : (Nat → Nat)) (ar : jSc) (al : jAl), xF_281_2 nn x2 sc mr ar al = some (sc9, mr9, ar9, al9) → gL (gX b) 281 (d + 1) 2 [some (.ref 819), none, some (.int x2)] [] sc (x_mk mr rf) ar al Post := by
  intro nn
  induction nn with
  | zero =>
    intro x2 sc mr ar al h
    have h : (none : Option (jSc × (Nat → Nat) × jSc × jAl)) = some _ := h
    cases h
  | succ nn ih =>
    intro x2 sc mr ar al h
    unfold xF_281_2 at h
    refine gl_iload_n (gX_LK b) y_281_2 rfl rfl ?_
    refine gl_iconst (gX_LK b) y_281_3 ci_1 rfl ?_
    refine gl_iadd (gX_LK b) y_281_4 rfl ?_
    refine gl_aload_n (gX_LK b) y_281_5 rfl rfl ?_
    refine gl_get (gX_LK b) y_281_6 yf_281_15 ys_819 rfl rfl rfl rfl ?_
    refine gl_ic_ge (gX_LK b) y_281_9 rfl rfl (fun c1 => ?_) (fun c1 => ?_)
    · have h := (if_pos c1).symm.trans h
      refine gl_aload_n (gX_LK b) y_281_32 rfl rfl ?_
      refine gl_dup (gX_LK b) y_281_33 rfl rfl ?_
      refine gl_get (gX_LK b) y_281_34 yf_281_15 ys_819 rfl rfl rfl rfl ?_
      refine gl_iconst (gX_LK b) y_281_37 ci_1 rfl ?_
      refine gl_isub (gX_LK b) y_281_38 rfl ?_
      refine gl_put (sc' := (j_u2 sc 819 1 ((sc 819 1) - (1 : Int32)))) (gX_LK b) y_281_39 yf_281_15 ys_819 rfl rfl rfl rfl rfl ?_
      exact gl_return y_281_42 yt_281 (by cases h; exact hP)
    · have h := (if_neg c1).symm.trans h
      refine gl_aload_n (gX_LK b) y_281_12 rfl rfl ?_
      refine gl_getA (gX_LK b) y_281_13 yf_281_11 ys_819 rfl rfl rfl rfl ?_
      refine gl_iload_n (gX_LK b) y_281_16 rfl rfl ?_
      refine gl_aload_n (gX_LK b) y_281_17 rfl rfl ?_
      refine gl_getA (gX_LK b) y_281_18 yf_281_11 ys_819 rfl rfl rfl rfl ?_
      refine gl_iload_n (gX_LK b) y_281_21 rfl rfl ?_
      refine gl_iconst (gX_LK b) y_281_22 ci_1 rfl ?_
      refine gl_iadd (gX_LK b) y_281_23 rfl ?_
      obtain ⟨c2, h⟩ := o_ck h
      refine gl_iaload (gX_LK b) y_281_24 ys_820 c2 rfl rfl ?_
      obtain ⟨c3, h⟩ := o_ck h
      refine gl_iastore (ar2 := (j_u2 ar 820 (iN x2) (ar 820 (iN (x2 + (1 : Int32)))))) (gX_LK b) y_281_25 ys_820 c3 rfl rfl ?_
      refine gl_iinc (vs2 := [some (.ref 819), none, some (.int (x2 + (1 : Int32)))]) (gX_LK b) y_281_26 rfl rfl rfl ci_1 rfl rfl ?_
      refine gl_goto (gX_LK b) y_281_29 rfl ?_
      exact gl_weak (vs := [some (.ref 819), none, some (.int (x2 + (1 : Int32)))]) ⟨rfl, rfl, trivial⟩ (ih (x2 + (1 : Int32)) sc mr (j_u2 ar 820 (iN x2) (ar 820 (iN (x2 + (1 : Int32))))) al h)
def xF_281 (x1 : Int32) (sc : jSc) (mr : (Nat → Nat)) (ar : jSc) (al : jAl) : Option (jSc × (Nat → Nat) × jSc × jAl) :=
  xF_281_2 oF x1 sc mr ar al
set_option maxHeartbeats 4000000 in
theorem xt_281 {b : Bool} {rf : jRf} {d : Nat} : xT_281 b rf xF_281 (d + 1) := by
  intro  Post x1 sc mr ar al sc9 mr9 ar9 al9 h hP
  unfold xF_281 at h
  refine gl_entry (m := 1) rfl ?_
  show gL (gX b) 281 (d + 1) 0 [some (.ref 819), some (.int x1), none] [] sc (x_mk mr rf) ar al Post
  refine gl_iload_n (gX_LK b) y_281_0 rfl rfl ?_
  refine gl_istore_n (vs2 := [some (.ref 819), some (.int x1), some (.int x1)]) (gX_LK b) y_281_1 rfl rfl rfl rfl ?_
  exact gl_weak (vs := [some (.ref 819), none, some (.int x1)]) ⟨rfl, rfl, trivial⟩ (xt_281_2  hP oF x1 sc mr ar al h)
/-- ClickOrders$Row.spoilsWithout(I)Z -/
def xT_282 (b : Bool) (rf : jRf) (F : Int32 → jSc → (Nat → Nat) → jSc → jAl → Option (Int32 × jSc × (Nat → Nat) × jSc × jAl)) (e : Nat) : Prop := ∀  (Post : jPo) (x1 : Int32) (sc : jSc) (mr : (Nat → Nat)) (ar : jSc) (al : jAl) (r9 : Int32) (sc9 : jSc) (mr9 : (Nat → Nat)) (ar9 : jSc) (al9 : jAl), F x1 sc mr ar al = some (r9, sc9, mr9, ar9, al9) → Post (some (.int r9)) sc9 (x_mk mr9 rf) ar9 al9 → gW (gX b) 282 e 0 (j_av [.ref 819, .int x1]) [] sc (x_mk mr rf) ar al Post
def xF_282_13 : Nat → Int32 → Int32 → jSc → (Nat → Nat) → jSc → jAl → Option (Int32 × jSc × (Nat → Nat) × jSc × jAl)
  | 0, _, _, _, _, _, _ => none
  | nn + 1, x1, x2, sc, mr, ar, al => (if (sc 819 1) ≤ x2 then (o_b5 (xF_210 821 sc mr ar al) (fun ve2 sce2 mre2 are2 ale2 => (if ve2 = 0 ∨ ve2 = 1 then some (ve2, sce2, mre2, are2, ale2) else none))) else (if x2 = x1 then xF_282_13 nn x1 (x2 + (1 : Int32)) sc mr ar al else (if iB x2 40 then (o_b5 (xF_206 821 (ar 820 (iN x2)) sc mr ar al) (fun ve6 sce6 mre6 are6 ale6 => (if ve6 = 0 then xF_282_13 nn x1 (x2 + (1 : Int32)) sce6 mre6 are6 ale6 else (if iB x2 40 then (o_b5 (xF_209 821 (are6 820 (iN x2)) (-1 : Int32) sce6 mre6 are6 ale6) (fun ve9 sce9 mre9 are9 ale9 => xF_282_13 nn x1 (x2 + (1 : Int32)) sce9 mre9 are9 ale9)) else none)))) else none)))
set_option maxHeartbeats 4000000 in
theorem xt_282_13 {b : Bool} {rf : jRf} {d : Nat} {Post : jPo} {r9 : Int32} {sc9 : jSc} {mr9 : (Nat → Nat)} {ar9 : jSc} {al9 : jAl} (hP : Post (some (.int r9)) sc9 (x_mk mr9 rf) ar9 al9) : ∀ (nn : Nat) (x1 : Int32) (x2 : Int32) (sc : jSc) (mr : (Nat → Nat)) (ar : jSc) (al : jAl), xF_282_13 nn x1 x2 sc mr ar al = some (r9, sc9, mr9, ar9, al9) → gL (gX b) 282 (d + 5) 13 [some (.ref 819), some (.int x1), some (.int x2)] [] sc (x_mk mr rf) ar al Post := by
  intro nn
  induction nn with
  | zero =>
    intro x1 x2 sc mr ar al h
    have h : (none : Option (Int32 × jSc × (Nat → Nat) × jSc × jAl)) = some _ := h
    cases h
  | succ nn ih =>
    intro x1 x2 sc mr ar al h
    unfold xF_282_13 at h
    refine gl_iload_n (gX_LK b) y_282_13 rfl rfl ?_
    refine gl_aload_n (gX_LK b) y_282_14 rfl rfl ?_
    refine gl_get (gX_LK b) y_282_15 yf_282_15 ys_819 rfl rfl rfl rfl ?_
    refine gl_ic_ge (gX_LK b) y_282_18 rfl rfl (fun c1 => ?_) (fun c1 => ?_)
    · have h := (if_pos c1).symm.trans h
      refine gl_aload_n (gX_LK b) y_282_71 rfl rfl ?_
      refine gl_getA (gX_LK b) y_282_72 yf_282_26 ys_819 rfl rfl rfl rfl ?_
      refine gl_aload_n (gX_LK b) y_282_75 rfl rfl ?_
      refine gl_getA (gX_LK b) y_282_76 yf_282_22 ys_819 rfl rfl rfl rfl ?_
      obtain ⟨ve2, sce2, mre2, are2, ale2, e2, h⟩ := o_k5 h
      refine gl_callV (gX_LK b) y_282_79 ym_282_56 rfl rfl rfl ys_757 yx_210 rfl rfl ((xt_210 )  _ _ (show x_pg 821 = true from rfl) _ _ _ _ _ _ _ _ _ e2 ?_)
      obtain ⟨c3, h⟩ := o_ck h
      exact gl_ireturn y_282_82 (Or.inr ⟨yt_282, c3⟩) (by cases h; exact hP)
    · have h := (if_neg c1).symm.trans h
      refine gl_iload_n (gX_LK b) y_282_21 rfl rfl ?_
      refine gl_iload_n (gX_LK b) y_282_22 rfl rfl ?_
      refine gl_ic_eq (gX_LK b) y_282_23 rfl rfl (fun c4 => ?_) (fun c4 => ?_)
      · have h := (if_pos c4).symm.trans h
        refine gl_iinc (vs2 := [some (.ref 819), some (.int x1), some (.int (x2 + (1 : Int32)))]) (gX_LK b) y_282_65 rfl rfl rfl ci_1 rfl rfl ?_
        refine gl_goto (gX_LK b) y_282_68 rfl ?_
        exact gl_weak (vs := [some (.ref 819), some (.int x1), some (.int (x2 + (1 : Int32)))]) ⟨rfl, rfl, rfl, trivial⟩ (ih x1 (x2 + (1 : Int32)) sc mr ar al h)
      · have h := (if_neg c4).symm.trans h
        refine gl_aload_n (gX_LK b) y_282_26 rfl rfl ?_
        refine gl_getA (gX_LK b) y_282_27 yf_282_26 ys_819 rfl rfl rfl rfl ?_
        refine gl_aload_n (gX_LK b) y_282_30 rfl rfl ?_
        refine gl_getA (gX_LK b) y_282_31 yf_282_22 ys_819 rfl rfl rfl rfl ?_
        refine gl_aload_n (gX_LK b) y_282_34 rfl rfl ?_
        refine gl_getA (gX_LK b) y_282_35 yf_282_11 ys_819 rfl rfl rfl rfl ?_
        refine gl_iload_n (gX_LK b) y_282_38 rfl rfl ?_
        obtain ⟨c5, h⟩ := o_ck h
        refine gl_iaload (gX_LK b) y_282_39 ys_820 c5 rfl rfl ?_
        obtain ⟨ve6, sce6, mre6, are6, ale6, e6, h⟩ := o_k5 h
        refine gl_callV (gX_LK b) y_282_40 ym_282_36 rfl rfl rfl ys_757 yx_206 rfl rfl ((xt_206 )  _ _ _ (show x_pg 821 = true from rfl) _ _ _ _ _ _ _ _ _ e6 ?_)
        refine gl_if_eq (gX_LK b) y_282_43 rfl rfl (fun c7 => ?_) (fun c7 => ?_)
        · have h := (if_pos c7).symm.trans h
          refine gl_iinc (vs2 := [some (.ref 819), some (.int x1), some (.int (x2 + (1 : Int32)))]) (gX_LK b) y_282_65 rfl rfl rfl ci_1 rfl rfl ?_
          refine gl_goto (gX_LK b) y_282_68 rfl ?_
          exact gl_weak (vs := [some (.ref 819), some (.int x1), some (.int (x2 + (1 : Int32)))]) ⟨rfl, rfl, rfl, trivial⟩ (ih x1 (x2 + (1 : Int32)) sce6 mre6 are6 ale6 h)
        · have h := (if_neg c7).symm.trans h
          refine gl_aload_n (gX_LK b) y_282_46 rfl rfl ?_
          refine gl_getA (gX_LK b) y_282_47 yf_282_26 ys_819 rfl rfl rfl rfl ?_
          refine gl_aload_n (gX_LK b) y_282_50 rfl rfl ?_
          refine gl_getA (gX_LK b) y_282_51 yf_282_22 ys_819 rfl rfl rfl rfl ?_
          refine gl_aload_n (gX_LK b) y_282_54 rfl rfl ?_
          refine gl_getA (gX_LK b) y_282_55 yf_282_11 ys_819 rfl rfl rfl rfl ?_
          refine gl_iload_n (gX_LK b) y_282_58 rfl rfl ?_
          obtain ⟨c8, h⟩ := o_ck h
          refine gl_iaload (gX_LK b) y_282_59 ys_820 c8 rfl rfl ?_
          refine gl_iconst (gX_LK b) y_282_60 ci_m1 rfl ?_
          obtain ⟨ve9, sce9, mre9, are9, ale9, e9, h⟩ := o_k5 h
          refine gl_callV (gX_LK b) y_282_61 ym_282_40 rfl rfl rfl ys_757 yx_209 rfl rfl ((xt_209 )  _ _ _ _ (show x_pg 821 = true from rfl) _ _ _ _ _ _ _ _ _ e9 ?_)
          refine gl_pop (gX_LK b) y_282_64 rfl rfl ?_
          refine gl_iinc (vs2 := [some (.ref 819), some (.int x1), some (.int (x2 + (1 : Int32)))]) (gX_LK b) y_282_65 rfl rfl rfl ci_1 rfl rfl ?_
          refine gl_goto (gX_LK b) y_282_68 rfl ?_
          exact gl_weak (vs := [some (.ref 819), some (.int x1), some (.int (x2 + (1 : Int32)))]) ⟨rfl, rfl, rfl, trivial⟩ (ih x1 (x2 + (1 : Int32)) sce9 mre9 are9 ale9 h)
def xF_282 (x1 : Int32) (sc : jSc) (mr : (Nat → Nat)) (ar : jSc) (al : jAl) : Option (Int32 × jSc × (Nat → Nat) × jSc × jAl) :=
  (o_b4 (xF_207 821 sc mr ar al) (fun sce10 mre10 are10 ale10 => xF_282_13 oF x1 (0 : Int32) sce10 mre10 are10 ale10))
set_option maxHeartbeats 4000000 in
theorem xt_282 {b : Bool} {rf : jRf} {d : Nat} : xT_282 b rf xF_282 (d + 5) := by
  intro  Post x1 sc mr ar al r9 sc9 mr9 ar9 al9 h hP
  unfold xF_282 at h
  refine gl_entry (m := 1) rfl ?_
  show gL (gX b) 282 (d + 5) 0 [some (.ref 819), some (.int x1), none] [] sc (x_mk mr rf) ar al Post
  refine gl_aload_n (gX_LK b) y_282_0 rfl rfl ?_
  refine gl_getA (gX_LK b) y_282_1 yf_282_26 ys_819 rfl rfl rfl rfl ?_
  refine gl_aload_n (gX_LK b) y_282_4 rfl rfl ?_
  refine gl_getA (gX_LK b) y_282_5 yf_282_22 ys_819 rfl rfl rfl rfl ?_
  obtain ⟨sce10, mre10, are10, ale10, e10, h⟩ := o_k4 h
  refine gl_callV (gX_LK b) y_282_8 ym_282_30 rfl rfl rfl ys_757 yx_207 rfl rfl ((xt_207 )  _ _ (show x_pg 821 = true from rfl) _ _ _ _ _ _ _ _ e10 ?_)
  refine gl_iconst (gX_LK b) y_282_11 ci_0 rfl ?_
  refine gl_istore_n (vs2 := [some (.ref 819), some (.int x1), some (.int (0 : Int32))]) (gX_LK b) y_282_12 rfl rfl rfl rfl ?_
  exact gl_weak (vs := [some (.ref 819), some (.int x1), some (.int (0 : Int32))]) ⟨rfl, rfl, rfl, trivial⟩ (xt_282_13  hP oF x1 (0 : Int32) sce10 mre10 are10 ale10 h)
/-- ClickOrders$Row.cutsOnce()Z -/
def xT_280 (b : Bool) (rf : jRf) (F : jSc → (Nat → Nat) → jSc → jAl → Option (Int32 × jSc × (Nat → Nat) × jSc × jAl)) (e : Nat) : Prop := ∀  (Post : jPo) (sc : jSc) (mr : (Nat → Nat)) (ar : jSc) (al : jAl) (r9 : Int32) (sc9 : jSc) (mr9 : (Nat → Nat)) (ar9 : jSc) (al9 : jAl), F sc mr ar al = some (r9, sc9, mr9, ar9, al9) → Post (some (.int r9)) sc9 (x_mk mr9 rf) ar9 al9 → gW (gX b) 280 e 0 (j_av [.ref 819]) [] sc (x_mk mr rf) ar al Post
def xF_280_9 : Nat → Int32 → Int32 → Int32 → jSc → (Nat → Nat) → jSc → jAl → Option (Int32 × jSc × (Nat → Nat) × jSc × jAl)
  | 0, _, _, _, _, _, _, _ => none
  | nn + 1, x1, x2, x3, sc, mr, ar, al => (if x1 ≤ x3 then (if x1 ≤ (sc 819 1) then some ((0 : Int32), sc, mr, ar, al) else some ((1 : Int32), sc, mr, ar, al)) else (o_b5 (xF_282 x2 sc mr ar al) (fun ve3 sce3 mre3 are3 ale3 => (if ve3 = 0 then xF_280_9 nn x1 (x2 + (1 : Int32)) (x3 + (1 : Int32)) sce3 mre3 are3 ale3 else (o_b4 (xF_281 x2 sce3 mre3 are3 ale3) (fun sce5 mre5 are5 ale5 => xF_280_9 nn x1 x2 (x3 + (1 : Int32)) sce5 mre5 are5 ale5))))))
set_option maxHeartbeats 4000000 in
theorem xt_280_9 {b : Bool} {rf : jRf} {d : Nat} {Post : jPo} {r9 : Int32} {sc9 : jSc} {mr9 : (Nat → Nat)} {ar9 : jSc} {al9 : jAl} (hP : Post (some (.int r9)) sc9 (x_mk mr9 rf) ar9 al9) : ∀ (nn : Nat) (x1 : Int32) (x2 : Int32) (x3 : Int32) (sc : jSc) (mr : (Nat → Nat)) (ar : jSc) (al : jAl), xF_280_9 nn x1 x2 x3 sc mr ar al = some (r9, sc9, mr9, ar9, al9) → gL (gX b) 280 (d + 6) 9 [some (.ref 819), some (.int x1), some (.int x2), some (.int x3)] [] sc (x_mk mr rf) ar al Post := by
  intro nn
  induction nn with
  | zero =>
    intro x1 x2 x3 sc mr ar al h
    have h : (none : Option (Int32 × jSc × (Nat → Nat) × jSc × jAl)) = some _ := h
    cases h
  | succ nn ih =>
    intro x1 x2 x3 sc mr ar al h
    unfold xF_280_9 at h
    refine gl_iload_n (gX_LK b) y_280_9 rfl rfl ?_
    refine gl_iload_n (gX_LK b) y_280_10 rfl rfl ?_
    refine gl_ic_ge (gX_LK b) y_280_11 rfl rfl (fun c1 => ?_) (fun c1 => ?_)
    · have h := (if_pos c1).symm.trans h
      refine gl_aload_n (gX_LK b) y_280_39 rfl rfl ?_
      refine gl_get (gX_LK b) y_280_40 yf_280_15 ys_819 rfl rfl rfl rfl ?_
      refine gl_iload_n (gX_LK b) y_280_43 rfl rfl ?_
      refine gl_ic_ge (gX_LK b) y_280_44 rfl rfl (fun c2 => ?_) (fun c2 => ?_)
      · have h := (if_pos c2).symm.trans h
        refine gl_iconst (gX_LK b) y_280_51 ci_0 rfl ?_
        exact gl_ireturn y_280_52 (Or.inr ⟨yt_280, Or.inl rfl⟩) (by cases h; exact hP)
      · have h := (if_neg c2).symm.trans h
        refine gl_iconst (gX_LK b) y_280_47 ci_1 rfl ?_
        refine gl_goto (gX_LK b) y_280_48 rfl ?_
        exact gl_ireturn y_280_52 (Or.inr ⟨yt_280, Or.inr rfl⟩) (by cases h; exact hP)
    · have h := (if_neg c1).symm.trans h
      refine gl_aload_n (gX_LK b) y_280_14 rfl rfl ?_
      refine gl_iload_n (gX_LK b) y_280_15 rfl rfl ?_
      obtain ⟨ve3, sce3, mre3, are3, ale3, e3, h⟩ := o_k5 h
      refine gl_callV (gX_LK b) y_280_16 ym_280_44 rfl rfl rfl ys_819 yx_282 rfl rfl ((xt_282 )  _ _ _ _ _ _ _ _ _ _ _ e3 ?_)
      refine gl_if_eq (gX_LK b) y_280_19 rfl rfl (fun c4 => ?_) (fun c4 => ?_)
      · have h := (if_pos c4).symm.trans h
        refine gl_iinc (vs2 := [some (.ref 819), some (.int x1), some (.int (x2 + (1 : Int32))), some (.int x3)]) (gX_LK b) y_280_30 rfl rfl rfl ci_1 rfl rfl ?_
        refine gl_iinc (vs2 := [some (.ref 819), some (.int x1), some (.int (x2 + (1 : Int32))), some (.int (x3 + (1 : Int32)))]) (gX_LK b) y_280_33 rfl rfl rfl ci_1 rfl rfl ?_
        refine gl_goto (gX_LK b) y_280_36 rfl ?_
        exact gl_weak (vs := [some (.ref 819), some (.int x1), some (.int (x2 + (1 : Int32))), some (.int (x3 + (1 : Int32)))]) ⟨rfl, rfl, rfl, rfl, trivial⟩ (ih x1 (x2 + (1 : Int32)) (x3 + (1 : Int32)) sce3 mre3 are3 ale3 h)
      · have h := (if_neg c4).symm.trans h
        refine gl_aload_n (gX_LK b) y_280_22 rfl rfl ?_
        refine gl_iload_n (gX_LK b) y_280_23 rfl rfl ?_
        obtain ⟨sce5, mre5, are5, ale5, e5, h⟩ := o_k4 h
        refine gl_callV (gX_LK b) y_280_24 ym_280_52 rfl rfl rfl ys_819 yx_281 rfl rfl ((xt_281 )  _ _ _ _ _ _ _ _ _ _ e5 ?_)
        refine gl_goto (gX_LK b) y_280_27 rfl ?_
        refine gl_iinc (vs2 := [some (.ref 819), some (.int x1), some (.int x2), some (.int (x3 + (1 : Int32)))]) (gX_LK b) y_280_33 rfl rfl rfl ci_1 rfl rfl ?_
        refine gl_goto (gX_LK b) y_280_36 rfl ?_
        exact gl_weak (vs := [some (.ref 819), some (.int x1), some (.int x2), some (.int (x3 + (1 : Int32)))]) ⟨rfl, rfl, rfl, rfl, trivial⟩ (ih x1 x2 (x3 + (1 : Int32)) sce5 mre5 are5 ale5 h)
def xF_280 (sc : jSc) (mr : (Nat → Nat)) (ar : jSc) (al : jAl) : Option (Int32 × jSc × (Nat → Nat) × jSc × jAl) :=
  xF_280_9 oF (sc 819 1) (0 : Int32) (0 : Int32) sc mr ar al
set_option maxHeartbeats 4000000 in
theorem xt_280 {b : Bool} {rf : jRf} {d : Nat} : xT_280 b rf xF_280 (d + 6) := by
  intro  Post  sc mr ar al r9 sc9 mr9 ar9 al9 h hP
  unfold xF_280 at h
  refine gl_entry (m := 3) rfl ?_
  show gL (gX b) 280 (d + 6) 0 [some (.ref 819), none, none, none] [] sc (x_mk mr rf) ar al Post
  refine gl_aload_n (gX_LK b) y_280_0 rfl rfl ?_
  refine gl_get (gX_LK b) y_280_1 yf_280_15 ys_819 rfl rfl rfl rfl ?_
  refine gl_istore_n (vs2 := [some (.ref 819), some (.int (sc 819 1)), none, none]) (gX_LK b) y_280_4 rfl rfl rfl rfl ?_
  refine gl_iconst (gX_LK b) y_280_5 ci_0 rfl ?_
  refine gl_istore_n (vs2 := [some (.ref 819), some (.int (sc 819 1)), some (.int (0 : Int32)), none]) (gX_LK b) y_280_6 rfl rfl rfl rfl ?_
  refine gl_iconst (gX_LK b) y_280_7 ci_0 rfl ?_
  refine gl_istore_n (vs2 := [some (.ref 819), some (.int (sc 819 1)), some (.int (0 : Int32)), some (.int (0 : Int32))]) (gX_LK b) y_280_8 rfl rfl rfl rfl ?_
  exact gl_weak (vs := [some (.ref 819), some (.int (sc 819 1)), some (.int (0 : Int32)), some (.int (0 : Int32))]) ⟨rfl, rfl, rfl, rfl, trivial⟩ (xt_280_9  hP oF (sc 819 1) (0 : Int32) (0 : Int32) sc mr ar al h)
/-- ClickOrders$Row.shortens()I -/
def xT_279 (b : Bool) (rf : jRf) (F : jSc → (Nat → Nat) → jSc → jAl → Option (Int32 × jSc × (Nat → Nat) × jSc × jAl)) (e : Nat) : Prop := ∀  (Post : jPo) (sc : jSc) (mr : (Nat → Nat)) (ar : jSc) (al : jAl) (r9 : Int32) (sc9 : jSc) (mr9 : (Nat → Nat)) (ar9 : jSc) (al9 : jAl), F sc mr ar al = some (r9, sc9, mr9, ar9, al9) → Post (some (.int r9)) sc9 (x_mk mr9 rf) ar9 al9 → gW (gX b) 279 e 0 (j_av [.ref 819]) [] sc (x_mk mr rf) ar al Post
def xF_279_14 : Nat → Int32 → Int32 → jSc → (Nat → Nat) → jSc → jAl → Option (Int32 × jSc × (Nat → Nat) × jSc × jAl)
  | 0, _, _, _, _, _, _ => none
  | nn + 1, x1, x2, sc, mr, ar, al => (if (40 : Int32) < x2 then some ((sc 819 1), sc, mr, ar, al) else (if x1 = 0 then some ((sc 819 1), sc, mr, ar, al) else (o_b5 (xF_280 sc mr ar al) (fun ve3 sce3 mre3 are3 ale3 => xF_279_14 nn ve3 (x2 + (1 : Int32)) sce3 mre3 are3 ale3))))
set_option maxHeartbeats 4000000 in
theorem xt_279_14 {b : Bool} {rf : jRf} {d : Nat} {Post : jPo} {r9 : Int32} {sc9 : jSc} {mr9 : (Nat → Nat)} {ar9 : jSc} {al9 : jAl} (hP : Post (some (.int r9)) sc9 (x_mk mr9 rf) ar9 al9) : ∀ (nn : Nat) (x1 : Int32) (x2 : Int32) (sc : jSc) (mr : (Nat → Nat)) (ar : jSc) (al : jAl), xF_279_14 nn x1 x2 sc mr ar al = some (r9, sc9, mr9, ar9, al9) → gL (gX b) 279 (d + 7) 14 [some (.ref 819), some (.int x1), some (.int x2)] [] sc (x_mk mr rf) ar al Post := by
  intro nn
  induction nn with
  | zero =>
    intro x1 x2 sc mr ar al h
    have h : (none : Option (Int32 × jSc × (Nat → Nat) × jSc × jAl)) = some _ := h
    cases h
  | succ nn ih =>
    intro x1 x2 sc mr ar al h
    unfold xF_279_14 at h
    refine gl_iload_n (gX_LK b) y_279_14 rfl rfl ?_
    refine gl_bipush (gX_LK b) y_279_15 cb_40 rfl ?_
    refine gl_ic_gt (gX_LK b) y_279_17 rfl rfl (fun c1 => ?_) (fun c1 => ?_)
    · have h := (if_pos c1).symm.trans h
      refine gl_aload_n (gX_LK b) y_279_35 rfl rfl ?_
      refine gl_get (gX_LK b) y_279_36 yf_279_15 ys_819 rfl rfl rfl rfl ?_
      exact gl_ireturn y_279_39 (Or.inl yt_279) (by cases h; exact hP)
    · have h := (if_neg c1).symm.trans h
      refine gl_iload_n (gX_LK b) y_279_20 rfl rfl ?_
      refine gl_if_eq (gX_LK b) y_279_21 rfl rfl (fun c2 => ?_) (fun c2 => ?_)
      · have h := (if_pos c2).symm.trans h
        refine gl_aload_n (gX_LK b) y_279_35 rfl rfl ?_
        refine gl_get (gX_LK b) y_279_36 yf_279_15 ys_819 rfl rfl rfl rfl ?_
        exact gl_ireturn y_279_39 (Or.inl yt_279) (by cases h; exact hP)
      · have h := (if_neg c2).symm.trans h
        refine gl_aload_n (gX_LK b) y_279_24 rfl rfl ?_
        obtain ⟨ve3, sce3, mre3, are3, ale3, e3, h⟩ := o_k5 h
        refine gl_callV (gX_LK b) y_279_25 ym_279_48 rfl rfl rfl ys_819 yx_280 rfl rfl ((xt_280 )  _  _ _ _ _ _ _ _ _ _ e3 ?_)
        refine gl_istore_n (vs2 := [some (.ref 819), some (.int ve3), some (.int x2)]) (gX_LK b) y_279_28 rfl rfl rfl rfl ?_
        refine gl_iinc (vs2 := [some (.ref 819), some (.int ve3), some (.int (x2 + (1 : Int32)))]) (gX_LK b) y_279_29 rfl rfl rfl ci_1 rfl rfl ?_
        refine gl_goto (gX_LK b) y_279_32 rfl ?_
        exact gl_weak (vs := [some (.ref 819), some (.int ve3), some (.int (x2 + (1 : Int32)))]) ⟨rfl, rfl, rfl, trivial⟩ (ih ve3 (x2 + (1 : Int32)) sce3 mre3 are3 ale3 h)
def xF_279 (sc : jSc) (mr : (Nat → Nat)) (ar : jSc) (al : jAl) : Option (Int32 × jSc × (Nat → Nat) × jSc × jAl) :=
  (o_b5 (xF_282 (-1 : Int32) sc mr ar al) (fun ve4 sce4 mre4 are4 ale4 => (if ve4 = 0 then some ((-1 : Int32), sce4, mre4, are4, ale4) else xF_279_14 oF (1 : Int32) (0 : Int32) sce4 mre4 are4 ale4)))
set_option maxHeartbeats 4000000 in
theorem xt_279 {b : Bool} {rf : jRf} {d : Nat} : xT_279 b rf xF_279 (d + 7) := by
  intro  Post  sc mr ar al r9 sc9 mr9 ar9 al9 h hP
  unfold xF_279 at h
  refine gl_entry (m := 2) rfl ?_
  show gL (gX b) 279 (d + 7) 0 [some (.ref 819), none, none] [] sc (x_mk mr rf) ar al Post
  refine gl_aload_n (gX_LK b) y_279_0 rfl rfl ?_
  refine gl_iconst (gX_LK b) y_279_1 ci_m1 rfl ?_
  obtain ⟨ve4, sce4, mre4, are4, ale4, e4, h⟩ := o_k5 h
  refine gl_callV (gX_LK b) y_279_2 ym_279_44 rfl rfl rfl ys_819 yx_282 rfl rfl ((xt_282 )  _ _ _ _ _ _ _ _ _ _ _ e4 ?_)
  refine gl_if_ne (gX_LK b) y_279_5 rfl rfl (fun c5 => ?_) (fun c5 => ?_)
  · have h := (if_pos c5).symm.trans h
    refine gl_iconst (gX_LK b) y_279_8 ci_m1 rfl ?_
    exact gl_ireturn y_279_9 (Or.inl yt_279) (by cases h; exact hP)
  · have h := (if_neg c5).symm.trans h
    refine gl_iconst (gX_LK b) y_279_10 ci_1 rfl ?_
    refine gl_istore_n (vs2 := [some (.ref 819), some (.int (1 : Int32)), none]) (gX_LK b) y_279_11 rfl rfl rfl rfl ?_
    refine gl_iconst (gX_LK b) y_279_12 ci_0 rfl ?_
    refine gl_istore_n (vs2 := [some (.ref 819), some (.int (1 : Int32)), some (.int (0 : Int32))]) (gX_LK b) y_279_13 rfl rfl rfl rfl ?_
    exact gl_weak (vs := [some (.ref 819), some (.int (1 : Int32)), some (.int (0 : Int32))]) ⟨rfl, rfl, rfl, trivial⟩ (xt_279_14  hP oF (1 : Int32) (0 : Int32) sce4 mre4 are4 ale4 h)
/-- ClickOrders$Search.forgetsRows()V -/
def xT_283 (b : Bool) (rf : jRf) (F : jSc → (Nat → Nat) → jSc → jAl → Option (jSc × (Nat → Nat) × jSc × jAl)) (e : Nat) : Prop := ∀  (Post : jPo) (sc : jSc) (mr : (Nat → Nat)) (ar : jSc) (al : jAl) (sc9 : jSc) (mr9 : (Nat → Nat)) (ar9 : jSc) (al9 : jAl), F sc mr ar al = some (sc9, mr9, ar9, al9) → Post none sc9 (x_mk mr9 rf) ar9 al9 → gW (gX b) 283 e 0 (j_av [.ref 773]) [] sc (x_mk mr rf) ar al Post
def xF_283 (sc : jSc) (mr : (Nat → Nat)) (ar : jSc) (al : jAl) : Option (jSc × (Nat → Nat) × jSc × jAl) :=
  some ((j_u2 sc 773 16 (-1 : Int32)), mr, ar, al)
set_option maxHeartbeats 4000000 in
theorem xt_283 {b : Bool} {rf : jRf} {d : Nat} : xT_283 b rf xF_283 (d + 1) := by
  intro  Post  sc mr ar al sc9 mr9 ar9 al9 h hP
  unfold xF_283 at h
  refine gl_entry (m := 0) rfl ?_
  show gL (gX b) 283 (d + 1) 0 [some (.ref 773)] [] sc (x_mk mr rf) ar al Post
  refine gl_aload_n (gX_LK b) y_283_0 rfl rfl ?_
  refine gl_iconst (gX_LK b) y_283_1 ci_m1 rfl ?_
  refine gl_put (sc' := (j_u2 sc 773 16 (-1 : Int32))) (gX_LK b) y_283_2 yf_283_69 ys_773 rfl rfl rfl rfl rfl ?_
  exact gl_return y_283_5 yt_283 (by cases h; exact hP)
/-- ClickOrders$Search.forgetsBadRow()V -/
def xT_284 (b : Bool) (rf : jRf) (F : jSc → (Nat → Nat) → jSc → jAl → Option (jSc × (Nat → Nat) × jSc × jAl)) (e : Nat) : Prop := ∀  (Post : jPo) (sc : jSc) (mr : (Nat → Nat)) (ar : jSc) (al : jAl) (sc9 : jSc) (mr9 : (Nat → Nat)) (ar9 : jSc) (al9 : jAl), F sc mr ar al = some (sc9, mr9, ar9, al9) → Post none sc9 (x_mk mr9 rf) ar9 al9 → gW (gX b) 284 e 0 (j_av [.ref 773]) [] sc (x_mk mr rf) ar al Post
def xF_284 (sc : jSc) (mr : (Nat → Nat)) (ar : jSc) (al : jAl) : Option (jSc × (Nat → Nat) × jSc × jAl) :=
  some ((j_u2 sc 773 18 (-1 : Int32)), mr, ar, al)
set_option maxHeartbeats 4000000 in
theorem xt_284 {b : Bool} {rf : jRf} {d : Nat} : xT_284 b rf xF_284 (d + 1) := by
  intro  Post  sc mr ar al sc9 mr9 ar9 al9 h hP
  unfold xF_284 at h
  refine gl_entry (m := 0) rfl ?_
  show gL (gX b) 284 (d + 1) 0 [some (.ref 773)] [] sc (x_mk mr rf) ar al Post
  refine gl_aload_n (gX_LK b) y_284_0 rfl rfl ?_
  refine gl_iconst (gX_LK b) y_284_1 ci_m1 rfl ?_
  refine gl_put (sc' := (j_u2 sc 773 18 (-1 : Int32))) (gX_LK b) y_284_2 yf_284_75 ys_773 rfl rfl rfl rfl rfl ?_
  exact gl_return y_284_5 yt_284 (by cases h; exact hP)
/-- ClickOrders$Search.isOver()Z -/
def xT_291 (b : Bool) (rf : jRf) (F : jSc → (Nat → Nat) → jSc → jAl → Option (Int32 × jSc × (Nat → Nat) × jSc × jAl)) (e : Nat) : Prop := ∀  (Post : jPo) (sc : jSc) (mr : (Nat → Nat)) (ar : jSc) (al : jAl) (r9 : Int32) (sc9 : jSc) (mr9 : (Nat → Nat)) (ar9 : jSc) (al9 : jAl), F sc mr ar al = some (r9, sc9, mr9, ar9, al9) → Post (some (.int r9)) sc9 (x_mk mr9 rf) ar9 al9 → gW (gX b) 291 e 0 (j_av [.ref 773]) [] sc (x_mk mr rf) ar al Post
def xF_291 (sc : jSc) (mr : (Nat → Nat)) (ar : jSc) (al : jAl) : Option (Int32 × jSc × (Nat → Nat) × jSc × jAl) :=
  (if (sc 773 1) = 0 then (if (sc 773 13) < 0 then some ((0 : Int32), sc, mr, ar, al) else (if (sc 773 15) = 0 then some ((1 : Int32), sc, mr, ar, al) else some ((0 : Int32), sc, mr, ar, al))) else some ((1 : Int32), sc, mr, ar, al))
set_option maxHeartbeats 4000000 in
theorem xt_291 {b : Bool} {rf : jRf} {d : Nat} : xT_291 b rf xF_291 (d + 1) := by
  intro  Post  sc mr ar al r9 sc9 mr9 ar9 al9 h hP
  unfold xF_291 at h
  refine gl_entry (m := 0) rfl ?_
  show gL (gX b) 291 (d + 1) 0 [some (.ref 773)] [] sc (x_mk mr rf) ar al Post
  refine gl_aload_n (gX_LK b) y_291_0 rfl rfl ?_
  refine gl_get (gX_LK b) y_291_1 yf_291_15 ys_773 rfl rfl rfl rfl ?_
  refine gl_if_ne (gX_LK b) y_291_4 rfl rfl (fun c1 => ?_) (fun c1 => ?_)
  · have h := (if_pos c1).symm.trans h
    refine gl_aload_n (gX_LK b) y_291_7 rfl rfl ?_
    refine gl_get (gX_LK b) y_291_8 yf_291_60 ys_773 rfl rfl rfl rfl ?_
    refine gl_if_lt (gX_LK b) y_291_11 rfl rfl (fun c2 => ?_) (fun c2 => ?_)
    · have h := (if_pos c2).symm.trans h
      refine gl_iconst (gX_LK b) y_291_25 ci_0 rfl ?_
      exact gl_ireturn y_291_26 (Or.inr ⟨yt_291, Or.inl rfl⟩) (by cases h; exact hP)
    · have h := (if_neg c2).symm.trans h
      refine gl_aload_n (gX_LK b) y_291_14 rfl rfl ?_
      refine gl_get (gX_LK b) y_291_15 yf_291_66 ys_773 rfl rfl rfl rfl ?_
      refine gl_if_ne (gX_LK b) y_291_18 rfl rfl (fun c3 => ?_) (fun c3 => ?_)
      · have h := (if_pos c3).symm.trans h
        refine gl_iconst (gX_LK b) y_291_21 ci_1 rfl ?_
        refine gl_goto (gX_LK b) y_291_22 rfl ?_
        exact gl_ireturn y_291_26 (Or.inr ⟨yt_291, Or.inr rfl⟩) (by cases h; exact hP)
      · have h := (if_neg c3).symm.trans h
        refine gl_iconst (gX_LK b) y_291_25 ci_0 rfl ?_
        exact gl_ireturn y_291_26 (Or.inr ⟨yt_291, Or.inl rfl⟩) (by cases h; exact hP)
  · have h := (if_neg c1).symm.trans h
    refine gl_iconst (gX_LK b) y_291_21 ci_1 rfl ?_
    refine gl_goto (gX_LK b) y_291_22 rfl ?_
    exact gl_ireturn y_291_26 (Or.inr ⟨yt_291, Or.inr rfl⟩) (by cases h; exact hP)
/-- ClickOrders$Search.addsMet(II)I -/
def xT_294 (b : Bool) (rf : jRf) (F : Int32 → Int32 → jSc → (Nat → Nat) → jSc → jAl → Option (Int32 × jSc × (Nat → Nat) × jSc × jAl)) (e : Nat) : Prop := ∀  (Post : jPo) (x1 : Int32) (x2 : Int32) (sc : jSc) (mr : (Nat → Nat)) (ar : jSc) (al : jAl) (r9 : Int32) (sc9 : jSc) (mr9 : (Nat → Nat)) (ar9 : jSc) (al9 : jAl), F x1 x2 sc mr ar al = some (r9, sc9, mr9, ar9, al9) → Post (some (.int r9)) sc9 (x_mk mr9 rf) ar9 al9 → gW (gX b) 294 e 0 (j_av [.ref 773, .int x1, .int x2]) [] sc (x_mk mr rf) ar al Post
def xF_294 (x1 : Int32) (x2 : Int32) (sc : jSc) (mr : (Nat → Nat)) (ar : jSc) (al : jAl) : Option (Int32 × jSc × (Nat → Nat) × jSc × jAl) :=
  (if (sc 774 0) < (sc 773 14) then (o_b5 (xF_221 780 sc mr ar al) (fun ve2 sce2 mre2 are2 ale2 => (if ve2 < 0 then some (ve2, sce2, mre2, are2, ale2) else (if iB ve2 600 then (if iB ve2 600 then (if iB ve2 2048 then some (ve2, sce2, mre2, (j_u2 (j_u2 (j_u2 are2 789 (iN ve2) x1) 790 (iN ve2) x2) 792 (iN ve2) (0 : Int32)), ale2) else none) else none) else none)))) else some ((-1 : Int32), (j_u2 sc 773 1 (1 : Int32)), mr, ar, al))
set_option maxHeartbeats 4000000 in
theorem xt_294 {b : Bool} {rf : jRf} {d : Nat} : xT_294 b rf xF_294 (d + 2) := by
  intro  Post x1 x2 sc mr ar al r9 sc9 mr9 ar9 al9 h hP
  unfold xF_294 at h
  refine gl_entry (m := 1) rfl ?_
  show gL (gX b) 294 (d + 2) 0 [some (.ref 773), some (.int x1), some (.int x2), none] [] sc (x_mk mr rf) ar al Post
  refine gl_aload_n (gX_LK b) y_294_0 rfl rfl ?_
  refine gl_getA (gX_LK b) y_294_1 yf_294_22 ys_773 rfl rfl rfl rfl ?_
  refine gl_get (gX_LK b) y_294_4 yf_294_108 ys_774 rfl rfl rfl rfl ?_
  refine gl_aload_n (gX_LK b) y_294_7 rfl rfl ?_
  refine gl_get (gX_LK b) y_294_8 yf_294_63 ys_773 rfl rfl rfl rfl ?_
  refine gl_ic_lt (gX_LK b) y_294_11 rfl rfl (fun c1 => ?_) (fun c1 => ?_)
  · have h := (if_pos c1).symm.trans h
    refine gl_aload_n (gX_LK b) y_294_21 rfl rfl ?_
    refine gl_getA (gX_LK b) y_294_22 yf_294_22 ys_773 rfl rfl rfl rfl ?_
    refine gl_aload_n (gX_LK b) y_294_25 rfl rfl ?_
    refine gl_getA (gX_LK b) y_294_26 yf_294_33 ys_773 rfl rfl rfl rfl ?_
    obtain ⟨ve2, sce2, mre2, are2, ale2, e2, h⟩ := o_k5 h
    refine gl_callV (gX_LK b) y_294_29 ym_294_180 rfl rfl rfl ys_774 yx_221 rfl rfl ((xt_221 )  _ _ (show x_pg 780 = true from rfl) _ _ _ _ _ _ _ _ _ e2 ?_)
    refine gl_istore_n (vs2 := [some (.ref 773), some (.int x1), some (.int x2), some (.int ve2)]) (gX_LK b) y_294_32 rfl rfl rfl rfl ?_
    refine gl_iload_n (gX_LK b) y_294_33 rfl rfl ?_
    refine gl_if_lt (gX_LK b) y_294_34 rfl rfl (fun c3 => ?_) (fun c3 => ?_)
    · have h := (if_pos c3).symm.trans h
      refine gl_iload_n (gX_LK b) y_294_58 rfl rfl ?_
      exact gl_ireturn y_294_59 (Or.inl yt_294) (by cases h; exact hP)
    · have h := (if_neg c3).symm.trans h
      refine gl_aload_n (gX_LK b) y_294_37 rfl rfl ?_
      refine gl_getA (gX_LK b) y_294_38 yf_294_40 ys_773 rfl rfl rfl rfl ?_
      refine gl_iload_n (gX_LK b) y_294_41 rfl rfl ?_
      refine gl_iload_n (gX_LK b) y_294_42 rfl rfl ?_
      obtain ⟨c4, h⟩ := o_ck h
      refine gl_iastore (ar2 := (j_u2 are2 789 (iN ve2) x1)) (gX_LK b) y_294_43 ys_789 c4 rfl rfl ?_
      refine gl_aload_n (gX_LK b) y_294_44 rfl rfl ?_
      refine gl_getA (gX_LK b) y_294_45 yf_294_44 ys_773 rfl rfl rfl rfl ?_
      refine gl_iload_n (gX_LK b) y_294_48 rfl rfl ?_
      refine gl_iload_n (gX_LK b) y_294_49 rfl rfl ?_
      obtain ⟨c5, h⟩ := o_ck h
      refine gl_iastore (ar2 := (j_u2 (j_u2 are2 789 (iN ve2) x1) 790 (iN ve2) x2)) (gX_LK b) y_294_50 ys_790 c5 rfl rfl ?_
      refine gl_aload_n (gX_LK b) y_294_51 rfl rfl ?_
      refine gl_getA (gX_LK b) y_294_52 yf_294_50 ys_773 rfl rfl rfl rfl ?_
      refine gl_iload_n (gX_LK b) y_294_55 rfl rfl ?_
      refine gl_iconst (gX_LK b) y_294_56 ci_0 rfl ?_
      obtain ⟨c6, h⟩ := o_ck h
      refine gl_bastore (ar2 := (j_u2 (j_u2 (j_u2 are2 789 (iN ve2) x1) 790 (iN ve2) x2) 792 (iN ve2) (0 : Int32))) (gX_LK b) y_294_57 ys_792 c6 (Or.inl rfl) rfl rfl ?_
      refine gl_iload_n (gX_LK b) y_294_58 rfl rfl ?_
      exact gl_ireturn y_294_59 (Or.inl yt_294) (by cases h; exact hP)
  · have h := (if_neg c1).symm.trans h
    refine gl_aload_n (gX_LK b) y_294_14 rfl rfl ?_
    refine gl_iconst (gX_LK b) y_294_15 ci_1 rfl ?_
    refine gl_put (sc' := (j_u2 sc 773 1 (1 : Int32))) (gX_LK b) y_294_16 yf_294_15 ys_773 rfl rfl rfl rfl rfl ?_
    refine gl_iconst (gX_LK b) y_294_19 ci_m1 rfl ?_
    exact gl_ireturn y_294_20 (Or.inl yt_294) (by cases h; exact hP)
