/-! ALL PAIRS OF SIDES: an even number of places is ramified; where none is, the equation is solved within 7 -/
def qrM (p : Nat) : Nat := if p = 3 then 3 else if p = 5 then 19 else if p = 7 then 23 else if p = 11 then 571 else if p = 13 then 5659 else if p = 17 then 107287 else if p = 19 then 199411 else if p = 23 then 340831 else if p = 29 then 332473075 else if p = 31 then 303908791 else if p = 37 then 96068509339 else if p = 41 then 1870503675703 else if p = 43 then 3678700564051 else if p = 47 then 4626135339999 else if p = 53 then 5310023542746835 else if p = 59 then 156326468341437115 else 0
def plM : Nat := 585619824295159981
def sqM : Nat := 640979723955920030183792704957055201669716696958025051703918586945318926322459529171981816520753047000381737495188601017606552184818941885304457405987859135689118933967555594672016279473655206192388825210784042545967384493366885870181355759212929795835549661124958278248272570662948079885774818490481341061590956593692339357867502932792361758850819602710248011900116382938988821284853602679774754618446130595717052330735442788270491655407585629533936673579694132742721227060160426701363355459100776850876792592574639462199358350290708806157908564933406105809961417400024752606083092230645527622334362527903734314550571538248306879587251411364256082208830211100139915653136911600680468279221880546534845834812699515686882065807157206577067918228033902646370053099831056440769540784459129032673965781525168262464601574111753521654302679428554812564619680774065313168054029008290970033942930424186459004867125511510802467771939592084229440620408497925294436600751021191443616302000963703196151832731154026307399822664948679432970352797684505747088966656788845972031447674498148101203200653952629609974491318400020293282561214713118511896252615490984606748831785384842118139179390158813195395791222763299951726315283776056561185065520273847994105917196437169922254456160847325289429460516301169717968623329440520634283609249364453018335739519759680623539671269817908213777551500816846333325138271344212775148417661161615194862136355718777436341158255549795335907955636555804698980959959979111394460042255216426298070496109206759215054541800212063455821695428581764272723529185995792564568267903531853111360193270120147530826165476113118032657048330385925951172708640442750641625704555673236879233182982776240358487483466827271134893804509392036667263382318995523247985859829524282799620627
def sqB (u p : Int) : Bool := Nat.testBit (qrM p.toNat) (u % p).toNat
def hsC (a b p : Int) : Int :=
  if p = 0 then (if a < 0 ∧ b < 0 then 3 else 0)
  else if p = 2 then 3 * ((((if 2 ∣ a then a / 2 else a) - 1) / 2 * (((if 2 ∣ b then b / 2 else b) - 1) / 2) + (if 2 ∣ a then 1 else 0) * ((((if 2 ∣ b then b / 2 else b)) * ((if 2 ∣ b then b / 2 else b)) - 1) / 8) + (if 2 ∣ b then 1 else 0) * ((((if 2 ∣ a then a / 2 else a)) * ((if 2 ∣ a then a / 2 else a)) - 1) / 8)) % 2)
  else 3 * (((if p ∣ a ∧ p ∣ b ∧ (p - 1) / 2 % 2 = 1 then 1 else 0) + (if p ∣ b ∧ sqB (if p ∣ a then a / p else a) p = false then 1 else 0) + (if p ∣ a ∧ sqB (if p ∣ b then b / p else b) p = false then 1 else 0)) % 2)
def cS60 (a b : Int) : Nat → Int
  | 0 => 0
  | n + 1 => cS60 a b n + (if plM.testBit n then hsC a b (n : Int) else 0)
def slY (a b z : Int) : Nat → Bool
  | 0 => false
  | n + 1 => (decide (0 ≤ a * n * n + b * z * z) && Nat.testBit sqM (a * n * n + b * z * z).toNat && !(decide (n = 0) && decide (z = 0))) || slY a b z n
def slZ (a b : Int) : Nat → Bool
  | 0 => false
  | n + 1 => slY a b (n : Int) 8 || slZ a b n
def okAB (a b : Int) : Bool := (decide (cS60 a b 60 % 6 = 0)) && (decide (cS60 a b 60 ≠ 0) || slZ a b 8)
def valsL : List Int := [-59, -58, -57, -55, -53, -51, -47, -46, -43, -42, -41, -39, -38, -37, -35, -34, -33, -31, -30, -29, -26, -23, -22, -21, -19, -17, -15, -14, -13, -11, -10, -7, -6, -5, -3, -2, -1, 1, 2, 3, 5, 6, 7, 10, 11, 13, 14, 15, 17, 19, 21, 22, 23, 26, 29, 30, 31, 33, 34, 35, 37, 38, 39, 41, 42, 43, 46, 47, 51, 53, 55, 57, 58, 59]
theorem okAB_0 : ([-59, -58, -57, -55, -53, -51, -47, -46] : List Int).all (fun a => valsL.all (fun b => okAB a b)) = true := by decide +kernel
theorem okAB_1 : ([-43, -42, -41, -39, -38, -37, -35, -34] : List Int).all (fun a => valsL.all (fun b => okAB a b)) = true := by decide +kernel
theorem okAB_2 : ([-33, -31, -30, -29, -26, -23, -22, -21] : List Int).all (fun a => valsL.all (fun b => okAB a b)) = true := by decide +kernel
theorem okAB_3 : ([-19, -17, -15, -14, -13, -11, -10, -7] : List Int).all (fun a => valsL.all (fun b => okAB a b)) = true := by decide +kernel
theorem okAB_4 : ([-6, -5, -3, -2, -1, 1, 2, 3] : List Int).all (fun a => valsL.all (fun b => okAB a b)) = true := by decide +kernel
theorem okAB_5 : ([5, 6, 7, 10, 11, 13, 14, 15] : List Int).all (fun a => valsL.all (fun b => okAB a b)) = true := by decide +kernel
theorem okAB_6 : ([17, 19, 21, 22, 23, 26, 29, 30] : List Int).all (fun a => valsL.all (fun b => okAB a b)) = true := by decide +kernel
theorem okAB_7 : ([31, 33, 34, 35, 37, 38, 39, 41] : List Int).all (fun a => valsL.all (fun b => okAB a b)) = true := by decide +kernel
theorem okAB_8 : ([42, 43, 46, 47, 51, 53, 55, 57] : List Int).all (fun a => valsL.all (fun b => okAB a b)) = true := by decide +kernel
theorem okAB_9 : ([58, 59] : List Int).all (fun a => valsL.all (fun b => okAB a b)) = true := by decide +kernel
