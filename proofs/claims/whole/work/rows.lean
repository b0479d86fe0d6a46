section
/-- a private method of a class that the tables say can be made, by its rows of tables_1 -/
def lw_okq (q : MethodName × Nat) : Prop := (q.1.cls ≠ "java/lang/invoke/MethodHandle" ∧ q.1.cls ≠ "java/lang/invoke/VarHandle") ∧ Cond.instantiable q.1.cls q.2 ∈ tables_1 ∧ Cond.privateMethod q.1 ∈ tables_1 ∧ Cond.instanceMethod q.1 ∈ tables_1
theorem lw_p0 : lw_okq (⟨"SensorHub$Hub", "clientRoom", "(I)LSensorHub$Client;"⟩, 11) := ⟨⟨by decide +kernel, by decide +kernel⟩, List.mem_of_getElem? (i := 25) (by decide +kernel), List.mem_of_getElem? (i := 211) (by decide +kernel), List.mem_of_getElem? (i := 212) (by decide +kernel)⟩
theorem lw_p1 : lw_okq (⟨"SensorHub$Hub", "sensorRoom", "(I)LSensorHub$Sensor;"⟩, 11) := ⟨⟨by decide +kernel, by decide +kernel⟩, List.mem_of_getElem? (i := 25) (by decide +kernel), List.mem_of_getElem? (i := 360) (by decide +kernel), List.mem_of_getElem? (i := 361) (by decide +kernel)⟩
theorem lw_p2 : lw_okq (⟨"SensorHub$Hub", "settlePeriods", "()V"⟩, 11) := ⟨⟨by decide +kernel, by decide +kernel⟩, List.mem_of_getElem? (i := 25) (by decide +kernel), List.mem_of_getElem? (i := 467) (by decide +kernel), List.mem_of_getElem? (i := 468) (by decide +kernel)⟩
theorem lw_p3 : lw_okq (⟨"SensorHub$Hub", "setDemands", "()V"⟩, 11) := ⟨⟨by decide +kernel, by decide +kernel⟩, List.mem_of_getElem? (i := 25) (by decide +kernel), List.mem_of_getElem? (i := 471) (by decide +kernel), List.mem_of_getElem? (i := 472) (by decide +kernel)⟩
theorem lw_p4 : lw_okq (⟨"SensorHub$Hub", "demandAtMost", "(II)V"⟩, 11) := ⟨⟨by decide +kernel, by decide +kernel⟩, List.mem_of_getElem? (i := 25) (by decide +kernel), List.mem_of_getElem? (i := 475) (by decide +kernel), List.mem_of_getElem? (i := 476) (by decide +kernel)⟩
theorem lw_p5 : lw_okq (⟨"SensorHub$Hub", "setPeriods", "()Z"⟩, 11) := ⟨⟨by decide +kernel, by decide +kernel⟩, List.mem_of_getElem? (i := 25) (by decide +kernel), List.mem_of_getElem? (i := 483) (by decide +kernel), List.mem_of_getElem? (i := 484) (by decide +kernel)⟩
theorem lw_p6 : lw_okq (⟨"SensorHub$Hub", "periodFor", "(LSensorHub$Sensor;)I"⟩, 11) := ⟨⟨by decide +kernel, by decide +kernel⟩, List.mem_of_getElem? (i := 25) (by decide +kernel), List.mem_of_getElem? (i := 487) (by decide +kernel), List.mem_of_getElem? (i := 488) (by decide +kernel)⟩
theorem lw_p7 : lw_okq (⟨"SensorHub$Hub", "restartAll", "()V"⟩, 11) := ⟨⟨by decide +kernel, by decide +kernel⟩, List.mem_of_getElem? (i := 25) (by decide +kernel), List.mem_of_getElem? (i := 495) (by decide +kernel), List.mem_of_getElem? (i := 496) (by decide +kernel)⟩
theorem lw_p8 : lw_okq (⟨"SensorHub$Text", "nextToken", "()V"⟩, 6) := ⟨⟨by decide +kernel, by decide +kernel⟩, List.mem_of_getElem? (i := 282) (by decide +kernel), List.mem_of_getElem? (i := 549) (by decide +kernel), List.mem_of_getElem? (i := 550) (by decide +kernel)⟩
theorem lw_p9 : lw_okq (⟨"SensorHub$Text", "readItem", "(LSensorHub$Hub;)V"⟩, 6) := ⟨⟨by decide +kernel, by decide +kernel⟩, List.mem_of_getElem? (i := 282) (by decide +kernel), List.mem_of_getElem? (i := 560) (by decide +kernel), List.mem_of_getElem? (i := 561) (by decide +kernel)⟩
theorem lw_p10 : lw_okq (⟨"SensorHub$Text", "isWord", "(Ljava/lang/String;)Z"⟩, 6) := ⟨⟨by decide +kernel, by decide +kernel⟩, List.mem_of_getElem? (i := 282) (by decide +kernel), List.mem_of_getElem? (i := 565) (by decide +kernel), List.mem_of_getElem? (i := 566) (by decide +kernel)⟩
theorem lw_p11 : lw_okq (⟨"SensorHub$Text", "readPhysical", "(LSensorHub$Hub;)V"⟩, 6) := ⟨⟨by decide +kernel, by decide +kernel⟩, List.mem_of_getElem? (i := 282) (by decide +kernel), List.mem_of_getElem? (i := 617) (by decide +kernel), List.mem_of_getElem? (i := 618) (by decide +kernel)⟩
theorem lw_p12 : lw_okq (⟨"SensorHub$Text", "readNumber", "(II)I"⟩, 6) := ⟨⟨by decide +kernel, by decide +kernel⟩, List.mem_of_getElem? (i := 282) (by decide +kernel), List.mem_of_getElem? (i := 622) (by decide +kernel), List.mem_of_getElem? (i := 623) (by decide +kernel)⟩
theorem lw_p13 : lw_okq (⟨"SensorHub$Text", "numberOfToken", "()I"⟩, 6) := ⟨⟨by decide +kernel, by decide +kernel⟩, List.mem_of_getElem? (i := 282) (by decide +kernel), List.mem_of_getElem? (i := 626) (by decide +kernel), List.mem_of_getElem? (i := 627) (by decide +kernel)⟩
theorem lw_p14 : lw_okq (⟨"SensorHub$Text", "readEndOfItem", "()V"⟩, 6) := ⟨⟨by decide +kernel, by decide +kernel⟩, List.mem_of_getElem? (i := 282) (by decide +kernel), List.mem_of_getElem? (i := 631) (by decide +kernel), List.mem_of_getElem? (i := 632) (by decide +kernel)⟩
theorem lw_p15 : lw_okq (⟨"SensorHub$Text", "readComputed", "(LSensorHub$Hub;I)V"⟩, 6) := ⟨⟨by decide +kernel, by decide +kernel⟩, List.mem_of_getElem? (i := 282) (by decide +kernel), List.mem_of_getElem? (i := 637) (by decide +kernel), List.mem_of_getElem? (i := 638) (by decide +kernel)⟩
def lw_privs_1 : List (MethodName × Nat) := [(⟨"SensorHub$Hub", "clientRoom", "(I)LSensorHub$Client;"⟩, 11), (⟨"SensorHub$Hub", "sensorRoom", "(I)LSensorHub$Sensor;"⟩, 11), (⟨"SensorHub$Hub", "settlePeriods", "()V"⟩, 11), (⟨"SensorHub$Hub", "setDemands", "()V"⟩, 11), (⟨"SensorHub$Hub", "demandAtMost", "(II)V"⟩, 11), (⟨"SensorHub$Hub", "setPeriods", "()Z"⟩, 11), (⟨"SensorHub$Hub", "periodFor", "(LSensorHub$Sensor;)I"⟩, 11), (⟨"SensorHub$Hub", "restartAll", "()V"⟩, 11), (⟨"SensorHub$Text", "nextToken", "()V"⟩, 6), (⟨"SensorHub$Text", "readItem", "(LSensorHub$Hub;)V"⟩, 6), (⟨"SensorHub$Text", "isWord", "(Ljava/lang/String;)Z"⟩, 6), (⟨"SensorHub$Text", "readPhysical", "(LSensorHub$Hub;)V"⟩, 6), (⟨"SensorHub$Text", "readNumber", "(II)I"⟩, 6), (⟨"SensorHub$Text", "numberOfToken", "()I"⟩, 6), (⟨"SensorHub$Text", "readEndOfItem", "()V"⟩, 6), (⟨"SensorHub$Text", "readComputed", "(LSensorHub$Hub;I)V"⟩, 6)]
theorem lw_r1 : ∀ q ∈ lw_privs_1, lw_okq q := List.forall_mem_cons.mpr ⟨lw_p0, List.forall_mem_cons.mpr ⟨lw_p1, List.forall_mem_cons.mpr ⟨lw_p2, List.forall_mem_cons.mpr ⟨lw_p3, List.forall_mem_cons.mpr ⟨lw_p4, List.forall_mem_cons.mpr ⟨lw_p5, List.forall_mem_cons.mpr ⟨lw_p6, List.forall_mem_cons.mpr ⟨lw_p7, List.forall_mem_cons.mpr ⟨lw_p8, List.forall_mem_cons.mpr ⟨lw_p9, List.forall_mem_cons.mpr ⟨lw_p10, List.forall_mem_cons.mpr ⟨lw_p11, List.forall_mem_cons.mpr ⟨lw_p12, List.forall_mem_cons.mpr ⟨lw_p13, List.forall_mem_cons.mpr ⟨lw_p14, List.forall_mem_cons.mpr ⟨lw_p15, fun _ h => absurd h List.not_mem_nil⟩⟩⟩⟩⟩⟩⟩⟩⟩⟩⟩⟩⟩⟩⟩⟩
theorem lw_p16 : lw_okq (⟨"SensorHub$Text", "readOutage", "(LSensorHub$Hub;)V"⟩, 6) := ⟨⟨by decide +kernel, by decide +kernel⟩, List.mem_of_getElem? (i := 282) (by decide +kernel), List.mem_of_getElem? (i := 646) (by decide +kernel), List.mem_of_getElem? (i := 647) (by decide +kernel)⟩
theorem lw_p17 : lw_okq (⟨"SensorHub$Hub", "receiveSamples", "()V"⟩, 11) := ⟨⟨by decide +kernel, by decide +kernel⟩, List.mem_of_getElem? (i := 25) (by decide +kernel), List.mem_of_getElem? (i := 667) (by decide +kernel), List.mem_of_getElem? (i := 668) (by decide +kernel)⟩
theorem lw_p18 : lw_okq (⟨"SensorHub$Hub", "receiveSample", "(ILSensorHub$Sensor;)V"⟩, 11) := ⟨⟨by decide +kernel, by decide +kernel⟩, List.mem_of_getElem? (i := 25) (by decide +kernel), List.mem_of_getElem? (i := 671) (by decide +kernel), List.mem_of_getElem? (i := 672) (by decide +kernel)⟩
theorem lw_p19 : lw_okq (⟨"SensorHub$Hub", "measure", "(ILSensorHub$Sensor;)V"⟩, 11) := ⟨⟨by decide +kernel, by decide +kernel⟩, List.mem_of_getElem? (i := 25) (by decide +kernel), List.mem_of_getElem? (i := 675) (by decide +kernel), List.mem_of_getElem? (i := 676) (by decide +kernel)⟩
theorem lw_p20 : lw_okq (⟨"SensorHub$Hub", "computedValue", "(LSensorHub$Sensor;LSensorHub$Sensor;)I"⟩, 11) := ⟨⟨by decide +kernel, by decide +kernel⟩, List.mem_of_getElem? (i := 25) (by decide +kernel), List.mem_of_getElem? (i := 701) (by decide +kernel), List.mem_of_getElem? (i := 702) (by decide +kernel)⟩
theorem lw_p21 : lw_okq (⟨"SensorHub$Hub", "storeEntries", "()V"⟩, 11) := ⟨⟨by decide +kernel, by decide +kernel⟩, List.mem_of_getElem? (i := 25) (by decide +kernel), List.mem_of_getElem? (i := 711) (by decide +kernel), List.mem_of_getElem? (i := 712) (by decide +kernel)⟩
theorem lw_p22 : lw_okq (⟨"SensorHub$Hub", "storeEntry", "(ILSensorHub$Sensor;)V"⟩, 11) := ⟨⟨by decide +kernel, by decide +kernel⟩, List.mem_of_getElem? (i := 25) (by decide +kernel), List.mem_of_getElem? (i := 720) (by decide +kernel), List.mem_of_getElem? (i := 721) (by decide +kernel)⟩
theorem lw_p23 : lw_okq (⟨"SensorHub$Hub", "wakeIfDue", "()V"⟩, 11) := ⟨⟨by decide +kernel, by decide +kernel⟩, List.mem_of_getElem? (i := 25) (by decide +kernel), List.mem_of_getElem? (i := 729) (by decide +kernel), List.mem_of_getElem? (i := 730) (by decide +kernel)⟩
theorem lw_p24 : lw_okq (⟨"SensorHub$Hub", "deadlineOf", "(I)I"⟩, 11) := ⟨⟨by decide +kernel, by decide +kernel⟩, List.mem_of_getElem? (i := 25) (by decide +kernel), List.mem_of_getElem? (i := 733) (by decide +kernel), List.mem_of_getElem? (i := 734) (by decide +kernel)⟩
theorem lw_p25 : lw_okq (⟨"SensorHubModel", "empty", "()V"⟩, 16) := ⟨⟨by decide +kernel, by decide +kernel⟩, List.mem_of_getElem? (i := 814) (by decide +kernel), List.mem_of_getElem? (i := 820) (by decide +kernel), List.mem_of_getElem? (i := 821) (by decide +kernel)⟩
theorem lw_p26 : lw_okq (⟨"SensorHubModel", "keep", "()V"⟩, 16) := ⟨⟨by decide +kernel, by decide +kernel⟩, List.mem_of_getElem? (i := 814) (by decide +kernel), List.mem_of_getElem? (i := 881) (by decide +kernel), List.mem_of_getElem? (i := 882) (by decide +kernel)⟩
theorem lw_p27 : lw_okq (⟨"SensorHubModel", "addPhysical", "(IIIIII)I"⟩, 16) := ⟨⟨by decide +kernel, by decide +kernel⟩, List.mem_of_getElem? (i := 814) (by decide +kernel), List.mem_of_getElem? (i := 885) (by decide +kernel), List.mem_of_getElem? (i := 886) (by decide +kernel)⟩
theorem lw_p28 : lw_okq (⟨"SensorHubModel", "addGiven", "(IIIII)I"⟩, 16) := ⟨⟨by decide +kernel, by decide +kernel⟩, List.mem_of_getElem? (i := 814) (by decide +kernel), List.mem_of_getElem? (i := 889) (by decide +kernel), List.mem_of_getElem? (i := 890) (by decide +kernel)⟩
theorem lw_p29 : lw_okq (⟨"SensorHubModel", "isSensor", "(I)Z"⟩, 16) := ⟨⟨by decide +kernel, by decide +kernel⟩, List.mem_of_getElem? (i := 814) (by decide +kernel), List.mem_of_getElem? (i := 897) (by decide +kernel), List.mem_of_getElem? (i := 898) (by decide +kernel)⟩
theorem lw_p30 : lw_okq (⟨"SensorHubModel", "isPhysical", "(I)Z"⟩, 16) := ⟨⟨by decide +kernel, by decide +kernel⟩, List.mem_of_getElem? (i := 814) (by decide +kernel), List.mem_of_getElem? (i := 905) (by decide +kernel), List.mem_of_getElem? (i := 906) (by decide +kernel)⟩
theorem lw_p31 : lw_okq (⟨"SensorHubModel", "sensor0", "(II)I"⟩, 16) := ⟨⟨by decide +kernel, by decide +kernel⟩, List.mem_of_getElem? (i := 814) (by decide +kernel), List.mem_of_getElem? (i := 909) (by decide +kernel), List.mem_of_getElem? (i := 910) (by decide +kernel)⟩
def lw_privs_2 : List (MethodName × Nat) := [(⟨"SensorHub$Text", "readOutage", "(LSensorHub$Hub;)V"⟩, 6), (⟨"SensorHub$Hub", "receiveSamples", "()V"⟩, 11), (⟨"SensorHub$Hub", "receiveSample", "(ILSensorHub$Sensor;)V"⟩, 11), (⟨"SensorHub$Hub", "measure", "(ILSensorHub$Sensor;)V"⟩, 11), (⟨"SensorHub$Hub", "computedValue", "(LSensorHub$Sensor;LSensorHub$Sensor;)I"⟩, 11), (⟨"SensorHub$Hub", "storeEntries", "()V"⟩, 11), (⟨"SensorHub$Hub", "storeEntry", "(ILSensorHub$Sensor;)V"⟩, 11), (⟨"SensorHub$Hub", "wakeIfDue", "()V"⟩, 11), (⟨"SensorHub$Hub", "deadlineOf", "(I)I"⟩, 11), (⟨"SensorHubModel", "empty", "()V"⟩, 16), (⟨"SensorHubModel", "keep", "()V"⟩, 16), (⟨"SensorHubModel", "addPhysical", "(IIIIII)I"⟩, 16), (⟨"SensorHubModel", "addGiven", "(IIIII)I"⟩, 16), (⟨"SensorHubModel", "isSensor", "(I)Z"⟩, 16), (⟨"SensorHubModel", "isPhysical", "(I)Z"⟩, 16), (⟨"SensorHubModel", "sensor0", "(II)I"⟩, 16)]
theorem lw_r2 : ∀ q ∈ lw_privs_2, lw_okq q := List.forall_mem_cons.mpr ⟨lw_p16, List.forall_mem_cons.mpr ⟨lw_p17, List.forall_mem_cons.mpr ⟨lw_p18, List.forall_mem_cons.mpr ⟨lw_p19, List.forall_mem_cons.mpr ⟨lw_p20, List.forall_mem_cons.mpr ⟨lw_p21, List.forall_mem_cons.mpr ⟨lw_p22, List.forall_mem_cons.mpr ⟨lw_p23, List.forall_mem_cons.mpr ⟨lw_p24, List.forall_mem_cons.mpr ⟨lw_p25, List.forall_mem_cons.mpr ⟨lw_p26, List.forall_mem_cons.mpr ⟨lw_p27, List.forall_mem_cons.mpr ⟨lw_p28, List.forall_mem_cons.mpr ⟨lw_p29, List.forall_mem_cons.mpr ⟨lw_p30, List.forall_mem_cons.mpr ⟨lw_p31, fun _ h => absurd h List.not_mem_nil⟩⟩⟩⟩⟩⟩⟩⟩⟩⟩⟩⟩⟩⟩⟩⟩
theorem lw_p32 : lw_okq (⟨"SensorHubModel", "addGap", "(III)I"⟩, 16) := ⟨⟨by decide +kernel, by decide +kernel⟩, List.mem_of_getElem? (i := 814) (by decide +kernel), List.mem_of_getElem? (i := 913) (by decide +kernel), List.mem_of_getElem? (i := 914) (by decide +kernel)⟩
theorem lw_p33 : lw_okq (⟨"SensorHubModel", "canMeet", "(II)Z"⟩, 16) := ⟨⟨by decide +kernel, by decide +kernel⟩, List.mem_of_getElem? (i := 814) (by decide +kernel), List.mem_of_getElem? (i := 921) (by decide +kernel), List.mem_of_getElem? (i := 922) (by decide +kernel)⟩
theorem lw_p34 : lw_okq (⟨"SensorHubModel", "freeClient", "()I"⟩, 16) := ⟨⟨by decide +kernel, by decide +kernel⟩, List.mem_of_getElem? (i := 814) (by decide +kernel), List.mem_of_getElem? (i := 925) (by decide +kernel), List.mem_of_getElem? (i := 926) (by decide +kernel)⟩
theorem lw_p35 : lw_okq (⟨"SensorHubModel", "client0", "(II)I"⟩, 16) := ⟨⟨by decide +kernel, by decide +kernel⟩, List.mem_of_getElem? (i := 814) (by decide +kernel), List.mem_of_getElem? (i := 929) (by decide +kernel), List.mem_of_getElem? (i := 930) (by decide +kernel)⟩
theorem lw_p36 : lw_okq (⟨"SensorHubModel", "wake", "(I)I"⟩, 16) := ⟨⟨by decide +kernel, by decide +kernel⟩, List.mem_of_getElem? (i := 814) (by decide +kernel), List.mem_of_getElem? (i := 933) (by decide +kernel), List.mem_of_getElem? (i := 934) (by decide +kernel)⟩
theorem lw_p37 : lw_okq (⟨"SensorHubModel", "deliver", "(I)V"⟩, 16) := ⟨⟨by decide +kernel, by decide +kernel⟩, List.mem_of_getElem? (i := 814) (by decide +kernel), List.mem_of_getElem? (i := 937) (by decide +kernel), List.mem_of_getElem? (i := 938) (by decide +kernel)⟩
theorem lw_p38 : lw_okq (⟨"SensorHubModel", "entryPart", "(II)I"⟩, 16) := ⟨⟨by decide +kernel, by decide +kernel⟩, List.mem_of_getElem? (i := 814) (by decide +kernel), List.mem_of_getElem? (i := 941) (by decide +kernel), List.mem_of_getElem? (i := 942) (by decide +kernel)⟩
theorem lw_p39 : lw_okq (⟨"SensorHubModel", "keepPeriods", "()V"⟩, 16) := ⟨⟨by decide +kernel, by decide +kernel⟩, List.mem_of_getElem? (i := 814) (by decide +kernel), List.mem_of_getElem? (i := 945) (by decide +kernel), List.mem_of_getElem? (i := 946) (by decide +kernel)⟩
theorem lw_p40 : lw_okq (⟨"SensorHubModel", "find", "()Z"⟩, 16) := ⟨⟨by decide +kernel, by decide +kernel⟩, List.mem_of_getElem? (i := 814) (by decide +kernel), List.mem_of_getElem? (i := 949) (by decide +kernel), List.mem_of_getElem? (i := 950) (by decide +kernel)⟩
theorem lw_p41 : lw_okq (⟨"SensorHubModel", "asked", "(I)I"⟩, 16) := ⟨⟨by decide +kernel, by decide +kernel⟩, List.mem_of_getElem? (i := 814) (by decide +kernel), List.mem_of_getElem? (i := 953) (by decide +kernel), List.mem_of_getElem? (i := 954) (by decide +kernel)⟩
theorem lw_p42 : lw_okq (⟨"SensorHubModel", "source", "(I)I"⟩, 16) := ⟨⟨by decide +kernel, by decide +kernel⟩, List.mem_of_getElem? (i := 814) (by decide +kernel), List.mem_of_getElem? (i := 960) (by decide +kernel), List.mem_of_getElem? (i := 961) (by decide +kernel)⟩
theorem lw_p43 : lw_okq (⟨"SensorHubModel", "supported", "(II)I"⟩, 16) := ⟨⟨by decide +kernel, by decide +kernel⟩, List.mem_of_getElem? (i := 814) (by decide +kernel), List.mem_of_getElem? (i := 964) (by decide +kernel), List.mem_of_getElem? (i := 965) (by decide +kernel)⟩
theorem lw_p44 : lw_okq (⟨"SensorHubModel", "restartIfChanged", "()V"⟩, 16) := ⟨⟨by decide +kernel, by decide +kernel⟩, List.mem_of_getElem? (i := 814) (by decide +kernel), List.mem_of_getElem? (i := 968) (by decide +kernel), List.mem_of_getElem? (i := 969) (by decide +kernel)⟩
theorem lw_p45 : lw_okq (⟨"SensorHubModel", "isClient", "(I)Z"⟩, 16) := ⟨⟨by decide +kernel, by decide +kernel⟩, List.mem_of_getElem? (i := 814) (by decide +kernel), List.mem_of_getElem? (i := 976) (by decide +kernel), List.mem_of_getElem? (i := 977) (by decide +kernel)⟩
theorem lw_p46 : lw_okq (⟨"SensorHubModel", "hold", "()V"⟩, 16) := ⟨⟨by decide +kernel, by decide +kernel⟩, List.mem_of_getElem? (i := 814) (by decide +kernel), List.mem_of_getElem? (i := 996) (by decide +kernel), List.mem_of_getElem? (i := 997) (by decide +kernel)⟩
theorem lw_p47 : lw_okq (⟨"SensorHubModel", "read", "()V"⟩, 16) := ⟨⟨by decide +kernel, by decide +kernel⟩, List.mem_of_getElem? (i := 814) (by decide +kernel), List.mem_of_getElem? (i := 1000) (by decide +kernel), List.mem_of_getElem? (i := 1001) (by decide +kernel)⟩
def lw_privs_3 : List (MethodName × Nat) := [(⟨"SensorHubModel", "addGap", "(III)I"⟩, 16), (⟨"SensorHubModel", "canMeet", "(II)Z"⟩, 16), (⟨"SensorHubModel", "freeClient", "()I"⟩, 16), (⟨"SensorHubModel", "client0", "(II)I"⟩, 16), (⟨"SensorHubModel", "wake", "(I)I"⟩, 16), (⟨"SensorHubModel", "deliver", "(I)V"⟩, 16), (⟨"SensorHubModel", "entryPart", "(II)I"⟩, 16), (⟨"SensorHubModel", "keepPeriods", "()V"⟩, 16), (⟨"SensorHubModel", "find", "()Z"⟩, 16), (⟨"SensorHubModel", "asked", "(I)I"⟩, 16), (⟨"SensorHubModel", "source", "(I)I"⟩, 16), (⟨"SensorHubModel", "supported", "(II)I"⟩, 16), (⟨"SensorHubModel", "restartIfChanged", "()V"⟩, 16), (⟨"SensorHubModel", "isClient", "(I)Z"⟩, 16), (⟨"SensorHubModel", "hold", "()V"⟩, 16), (⟨"SensorHubModel", "read", "()V"⟩, 16)]
theorem lw_r3 : ∀ q ∈ lw_privs_3, lw_okq q := List.forall_mem_cons.mpr ⟨lw_p32, List.forall_mem_cons.mpr ⟨lw_p33, List.forall_mem_cons.mpr ⟨lw_p34, List.forall_mem_cons.mpr ⟨lw_p35, List.forall_mem_cons.mpr ⟨lw_p36, List.forall_mem_cons.mpr ⟨lw_p37, List.forall_mem_cons.mpr ⟨lw_p38, List.forall_mem_cons.mpr ⟨lw_p39, List.forall_mem_cons.mpr ⟨lw_p40, List.forall_mem_cons.mpr ⟨lw_p41, List.forall_mem_cons.mpr ⟨lw_p42, List.forall_mem_cons.mpr ⟨lw_p43, List.forall_mem_cons.mpr ⟨lw_p44, List.forall_mem_cons.mpr ⟨lw_p45, List.forall_mem_cons.mpr ⟨lw_p46, List.forall_mem_cons.mpr ⟨lw_p47, fun _ h => absurd h List.not_mem_nil⟩⟩⟩⟩⟩⟩⟩⟩⟩⟩⟩⟩⟩⟩⟩⟩
theorem lw_p48 : lw_okq (⟨"SensorHubModel", "here", "()I"⟩, 16) := ⟨⟨by decide +kernel, by decide +kernel⟩, List.mem_of_getElem? (i := 814) (by decide +kernel), List.mem_of_getElem? (i := 1004) (by decide +kernel), List.mem_of_getElem? (i := 1005) (by decide +kernel)⟩
theorem lw_p49 : lw_okq (⟨"SensorHubModel", "readItem", "()V"⟩, 16) := ⟨⟨by decide +kernel, by decide +kernel⟩, List.mem_of_getElem? (i := 814) (by decide +kernel), List.mem_of_getElem? (i := 1008) (by decide +kernel), List.mem_of_getElem? (i := 1009) (by decide +kernel)⟩
theorem lw_p50 : lw_okq (⟨"SensorHubModel", "isLong", "(IIIIII)Z"⟩, 16) := ⟨⟨by decide +kernel, by decide +kernel⟩, List.mem_of_getElem? (i := 814) (by decide +kernel), List.mem_of_getElem? (i := 1012) (by decide +kernel), List.mem_of_getElem? (i := 1013) (by decide +kernel)⟩
theorem lw_p51 : lw_okq (⟨"SensorHubModel", "readSensor", "()V"⟩, 16) := ⟨⟨by decide +kernel, by decide +kernel⟩, List.mem_of_getElem? (i := 814) (by decide +kernel), List.mem_of_getElem? (i := 1016) (by decide +kernel), List.mem_of_getElem? (i := 1017) (by decide +kernel)⟩
theorem lw_p52 : lw_okq (⟨"SensorHubModel", "take", "(Z)V"⟩, 16) := ⟨⟨by decide +kernel, by decide +kernel⟩, List.mem_of_getElem? (i := 814) (by decide +kernel), List.mem_of_getElem? (i := 1020) (by decide +kernel), List.mem_of_getElem? (i := 1021) (by decide +kernel)⟩
theorem lw_p53 : lw_okq (⟨"SensorHubModel", "take", "(II)I"⟩, 16) := ⟨⟨by decide +kernel, by decide +kernel⟩, List.mem_of_getElem? (i := 814) (by decide +kernel), List.mem_of_getElem? (i := 1024) (by decide +kernel), List.mem_of_getElem? (i := 1025) (by decide +kernel)⟩
theorem lw_p54 : lw_okq (⟨"SensorHubModel", "isWord", "(III)Z"⟩, 16) := ⟨⟨by decide +kernel, by decide +kernel⟩, List.mem_of_getElem? (i := 814) (by decide +kernel), List.mem_of_getElem? (i := 1028) (by decide +kernel), List.mem_of_getElem? (i := 1029) (by decide +kernel)⟩
theorem lw_p55 : lw_okq (⟨"SensorHubModel", "readDerived", "(I)V"⟩, 16) := ⟨⟨by decide +kernel, by decide +kernel⟩, List.mem_of_getElem? (i := 814) (by decide +kernel), List.mem_of_getElem? (i := 1032) (by decide +kernel), List.mem_of_getElem? (i := 1033) (by decide +kernel)⟩
theorem lw_p56 : lw_okq (⟨"SensorHubModel", "readOutage", "()V"⟩, 16) := ⟨⟨by decide +kernel, by decide +kernel⟩, List.mem_of_getElem? (i := 814) (by decide +kernel), List.mem_of_getElem? (i := 1036) (by decide +kernel), List.mem_of_getElem? (i := 1037) (by decide +kernel)⟩
theorem lw_p57 : lw_okq (⟨"SensorHubModel", "release", "()V"⟩, 16) := ⟨⟨by decide +kernel, by decide +kernel⟩, List.mem_of_getElem? (i := 814) (by decide +kernel), List.mem_of_getElem? (i := 1040) (by decide +kernel), List.mem_of_getElem? (i := 1041) (by decide +kernel)⟩
theorem lw_p58 : lw_okq (⟨"SensorHubModel", "allWakes", "()I"⟩, 16) := ⟨⟨by decide +kernel, by decide +kernel⟩, List.mem_of_getElem? (i := 814) (by decide +kernel), List.mem_of_getElem? (i := 1048) (by decide +kernel), List.mem_of_getElem? (i := 1049) (by decide +kernel)⟩
theorem lw_p59 : lw_okq (⟨"SensorHubModel", "pass", "(I)V"⟩, 16) := ⟨⟨by decide +kernel, by decide +kernel⟩, List.mem_of_getElem? (i := 814) (by decide +kernel), List.mem_of_getElem? (i := 1052) (by decide +kernel), List.mem_of_getElem? (i := 1053) (by decide +kernel)⟩
theorem lw_p60 : lw_okq (⟨"SensorHubModel", "tick", "()V"⟩, 16) := ⟨⟨by decide +kernel, by decide +kernel⟩, List.mem_of_getElem? (i := 814) (by decide +kernel), List.mem_of_getElem? (i := 1056) (by decide +kernel), List.mem_of_getElem? (i := 1057) (by decide +kernel)⟩
theorem lw_p61 : lw_okq (⟨"SensorHubModel", "tickPhysical", "(I)V"⟩, 16) := ⟨⟨by decide +kernel, by decide +kernel⟩, List.mem_of_getElem? (i := 814) (by decide +kernel), List.mem_of_getElem? (i := 1060) (by decide +kernel), List.mem_of_getElem? (i := 1061) (by decide +kernel)⟩
theorem lw_p62 : lw_okq (⟨"SensorHubModel", "isOut", "(II)Z"⟩, 16) := ⟨⟨by decide +kernel, by decide +kernel⟩, List.mem_of_getElem? (i := 814) (by decide +kernel), List.mem_of_getElem? (i := 1067) (by decide +kernel), List.mem_of_getElem? (i := 1068) (by decide +kernel)⟩
theorem lw_p63 : lw_okq (⟨"SensorHubModel", "receive", "(III)V"⟩, 16) := ⟨⟨by decide +kernel, by decide +kernel⟩, List.mem_of_getElem? (i := 814) (by decide +kernel), List.mem_of_getElem? (i := 1071) (by decide +kernel), List.mem_of_getElem? (i := 1072) (by decide +kernel)⟩
def lw_privs_4 : List (MethodName × Nat) := [(⟨"SensorHubModel", "here", "()I"⟩, 16), (⟨"SensorHubModel", "readItem", "()V"⟩, 16), (⟨"SensorHubModel", "isLong", "(IIIIII)Z"⟩, 16), (⟨"SensorHubModel", "readSensor", "()V"⟩, 16), (⟨"SensorHubModel", "take", "(Z)V"⟩, 16), (⟨"SensorHubModel", "take", "(II)I"⟩, 16), (⟨"SensorHubModel", "isWord", "(III)Z"⟩, 16), (⟨"SensorHubModel", "readDerived", "(I)V"⟩, 16), (⟨"SensorHubModel", "readOutage", "()V"⟩, 16), (⟨"SensorHubModel", "release", "()V"⟩, 16), (⟨"SensorHubModel", "allWakes", "()I"⟩, 16), (⟨"SensorHubModel", "pass", "(I)V"⟩, 16), (⟨"SensorHubModel", "tick", "()V"⟩, 16), (⟨"SensorHubModel", "tickPhysical", "(I)V"⟩, 16), (⟨"SensorHubModel", "isOut", "(II)Z"⟩, 16), (⟨"SensorHubModel", "receive", "(III)V"⟩, 16)]
theorem lw_r4 : ∀ q ∈ lw_privs_4, lw_okq q := List.forall_mem_cons.mpr ⟨lw_p48, List.forall_mem_cons.mpr ⟨lw_p49, List.forall_mem_cons.mpr ⟨lw_p50, List.forall_mem_cons.mpr ⟨lw_p51, List.forall_mem_cons.mpr ⟨lw_p52, List.forall_mem_cons.mpr ⟨lw_p53, List.forall_mem_cons.mpr ⟨lw_p54, List.forall_mem_cons.mpr ⟨lw_p55, List.forall_mem_cons.mpr ⟨lw_p56, List.forall_mem_cons.mpr ⟨lw_p57, List.forall_mem_cons.mpr ⟨lw_p58, List.forall_mem_cons.mpr ⟨lw_p59, List.forall_mem_cons.mpr ⟨lw_p60, List.forall_mem_cons.mpr ⟨lw_p61, List.forall_mem_cons.mpr ⟨lw_p62, List.forall_mem_cons.mpr ⟨lw_p63, fun _ h => absurd h List.not_mem_nil⟩⟩⟩⟩⟩⟩⟩⟩⟩⟩⟩⟩⟩⟩⟩⟩
theorem lw_p64 : lw_okq (⟨"SensorHubModel", "tickDerived", "(I)V"⟩, 16) := ⟨⟨by decide +kernel, by decide +kernel⟩, List.mem_of_getElem? (i := 814) (by decide +kernel), List.mem_of_getElem? (i := 1075) (by decide +kernel), List.mem_of_getElem? (i := 1076) (by decide +kernel)⟩
theorem lw_p65 : lw_okq (⟨"SensorHubModel", "mean", "(II)I"⟩, 16) := ⟨⟨by decide +kernel, by decide +kernel⟩, List.mem_of_getElem? (i := 814) (by decide +kernel), List.mem_of_getElem? (i := 1079) (by decide +kernel), List.mem_of_getElem? (i := 1080) (by decide +kernel)⟩
theorem lw_p66 : lw_okq (⟨"SensorHubModel", "store", "(I)V"⟩, 16) := ⟨⟨by decide +kernel, by decide +kernel⟩, List.mem_of_getElem? (i := 814) (by decide +kernel), List.mem_of_getElem? (i := 1083) (by decide +kernel), List.mem_of_getElem? (i := 1084) (by decide +kernel)⟩
theorem lw_p67 : lw_okq (⟨"SensorHubModel", "clientMany", "()I"⟩, 16) := ⟨⟨by decide +kernel, by decide +kernel⟩, List.mem_of_getElem? (i := 814) (by decide +kernel), List.mem_of_getElem? (i := 1099) (by decide +kernel), List.mem_of_getElem? (i := 1100) (by decide +kernel)⟩
theorem lw_p68 : lw_okq (⟨"SensorHubModel", "stored", "(I)I"⟩, 16) := ⟨⟨by decide +kernel, by decide +kernel⟩, List.mem_of_getElem? (i := 814) (by decide +kernel), List.mem_of_getElem? (i := 1115) (by decide +kernel), List.mem_of_getElem? (i := 1116) (by decide +kernel)⟩
def lw_privs_5 : List (MethodName × Nat) := [(⟨"SensorHubModel", "tickDerived", "(I)V"⟩, 16), (⟨"SensorHubModel", "mean", "(II)I"⟩, 16), (⟨"SensorHubModel", "store", "(I)V"⟩, 16), (⟨"SensorHubModel", "clientMany", "()I"⟩, 16), (⟨"SensorHubModel", "stored", "(I)I"⟩, 16)]
theorem lw_r5 : ∀ q ∈ lw_privs_5, lw_okq q := List.forall_mem_cons.mpr ⟨lw_p64, List.forall_mem_cons.mpr ⟨lw_p65, List.forall_mem_cons.mpr ⟨lw_p66, List.forall_mem_cons.mpr ⟨lw_p67, List.forall_mem_cons.mpr ⟨lw_p68, fun _ h => absurd h List.not_mem_nil⟩⟩⟩⟩⟩
def lw_privs : List (MethodName × Nat) := lw_privs_1 ++ (lw_privs_2 ++ (lw_privs_3 ++ (lw_privs_4 ++ (lw_privs_5))))
def lw_tbl : List Cond := k2_sels lw_privs ++ tables_1
theorem lw_privs_ok : ∀ q ∈ lw_privs, lw_okq q := by
  show ∀ q ∈ lw_privs_1 ++ (lw_privs_2 ++ (lw_privs_3 ++ (lw_privs_4 ++ (lw_privs_5)))), lw_okq q
  exact List.forall_mem_append.mpr ⟨lw_r1, List.forall_mem_append.mpr ⟨lw_r2, List.forall_mem_append.mpr ⟨lw_r3, List.forall_mem_append.mpr ⟨lw_r4, lw_r5⟩⟩⟩⟩

/-- the words that a callee may lean on: those of the tables that stay true along a walk -/
def gw : List Cond := lw_tbl.filter goodWord
theorem gw_I {w : Cond} (i : Nat) (h : lw_tbl[i]? = some w) (hg : goodWord w = true) : w ∈ gw := List.mem_filter.mpr ⟨List.mem_of_getElem? h, hg⟩
theorem gw_ok : ∀ w ∈ gw, goodWord w = true := fun w h => (List.mem_filter.mp h).2
theorem gw_L {ws : List Cond} (ps : List Nat) (h : ws = ps.filterMap (fun i => lw_tbl[i]?)) (hg : ws.all goodWord = true) : ∀ w ∈ ws, w ∈ gw := by
  intro w hw
  have h1 := List.all_eq_true.mp hg w hw
  rw [h] at hw
  obtain ⟨i, -, hi⟩ := List.mem_filterMap.mp hw
  exact gw_I i hi h1
end
section
def T_0 : u_T := fun k => match k with
  | 0 => ("SensorHub$Client", "present", "Z", false)
  | 1 => ("SensorHub$Client", "sensor", "I", false)
  | 2 => ("SensorHub$Client", "period", "I", false)
  | 3 => ("SensorHub$Client", "delay", "I", false)
  | 4 => ("SensorHub$Client", "stride", "I", false)
  | 5 => ("SensorHub$Client", "offered", "I", false)
  | 6 => ("SensorHub$Client", "delivered", "I", false)
  | 7 => ("SensorHub$Client", "missing", "I", false)
  | 8 => ("SensorHub$Client", "greatestAge", "I", false)
  | 9 => ("SensorHub$Client", "blamed", "I", false)
  | _ => ("SensorHub$Client", "latest", "[I", true)
def ty_0 : Nat → FieldType := fun k => match k with
  | 0 => .boolean
  | 1 => .int
  | 2 => .int
  | 3 => .int
  | 4 => .int
  | 5 => .int
  | 6 => .int
  | 7 => .int
  | 8 => .int
  | 9 => .int
  | _ => .array .int
theorem nm_0 : ∀ a, a < 11 → ∀ b, b < 11 → a ≠ b → (T_0 a).2.1 ≠ (T_0 b).2.1 := by decide +kernel
theorem tyok_0 : ∀ k, k < 11 → parseFieldDescriptor (T_0 k).2.2.1 = some (ty_0 k) := by decide +kernel
theorem clw_0 : ∀ w ∈ u_ws "SensorHub$Client" T_0 11, w ∈ gw := gw_L [252, 254, 256, 258, 260, 262, 264, 266, 268, 270, 272] (by decide +kernel) (by decide +kernel)
def T_1 : u_T := fun k => match k with
  | 0 => ("SensorHub$History", "size", "I", false)
  | 1 => ("SensorHub$History", "next", "I", false)
  | _ => ("SensorHub$History", "states", "[LSensorHub$Hub;", true)
def ty_1 : Nat → FieldType := fun k => match k with
  | 0 => .int
  | 1 => .int
  | _ => .array (.object "SensorHub$Hub")
theorem nm_1 : ∀ a, a < 3 → ∀ b, b < 3 → a ≠ b → (T_1 a).2.1 ≠ (T_1 b).2.1 := by decide +kernel
theorem tyok_1 : ∀ k, k < 3 → parseFieldDescriptor (T_1 k).2.2.1 = some (ty_1 k) := by decide +kernel
theorem clw_1 : ∀ w ∈ u_ws "SensorHub$History" T_1 3, w ∈ gw := gw_L [343, 345, 347] (by decide +kernel) (by decide +kernel)
def T_2 : u_T := fun k => match k with
  | 0 => ("SensorHub$Hub", "now", "I", false)
  | 1 => ("SensorHub$Hub", "restart", "I", false)
  | 2 => ("SensorHub$Hub", "energy", "I", false)
  | 3 => ("SensorHub$Hub", "capacity", "I", false)
  | 4 => ("SensorHub$Hub", "sensorCount", "I", false)
  | 5 => ("SensorHub$Hub", "mostEntries", "I", false)
  | 6 => ("SensorHub$Hub", "wakeCounts", "[I", true)
  | 7 => ("SensorHub$Hub", "sensors", "[LSensorHub$Sensor;", true)
  | 8 => ("SensorHub$Hub", "clients", "[LSensorHub$Client;", true)
  | 9 => ("SensorHub$Hub", "outages", "LSensorHub$Outages;", true)
  | _ => ("SensorHub$Hub", "store", "LSensorHub$Store;", true)
def ty_2 : Nat → FieldType := fun k => match k with
  | 0 => .int
  | 1 => .int
  | 2 => .int
  | 3 => .int
  | 4 => .int
  | 5 => .int
  | 6 => .array .int
  | 7 => .array (.object "SensorHub$Sensor")
  | 8 => .array (.object "SensorHub$Client")
  | 9 => .object "SensorHub$Outages"
  | _ => .object "SensorHub$Store"
theorem nm_2 : ∀ a, a < 11 → ∀ b, b < 11 → a ≠ b → (T_2 a).2.1 ≠ (T_2 b).2.1 := by decide +kernel
theorem tyok_2 : ∀ k, k < 11 → parseFieldDescriptor (T_2 k).2.2.1 = some (ty_2 k) := by decide +kernel
theorem clw_2 : ∀ w ∈ u_ws "SensorHub$Hub" T_2 11, w ∈ gw := gw_L [307, 309, 311, 313, 315, 317, 319, 321, 323, 325, 327] (by decide +kernel) (by decide +kernel)
def T_3 : u_T := fun k => match k with
  | 0 => ("SensorHub$Outages", "size", "I", false)
  | 1 => ("SensorHub$Outages", "sensors", "[I", true)
  | 2 => ("SensorHub$Outages", "firsts", "[I", true)
  | _ => ("SensorHub$Outages", "lasts", "[I", true)
def ty_3 : Nat → FieldType := fun k => match k with
  | 0 => .int
  | 1 => .array .int
  | 2 => .array .int
  | _ => .array .int
theorem nm_3 : ∀ a, a < 4 → ∀ b, b < 4 → a ≠ b → (T_3 a).2.1 ≠ (T_3 b).2.1 := by decide +kernel
theorem tyok_3 : ∀ k, k < 4 → parseFieldDescriptor (T_3 k).2.2.1 = some (ty_3 k) := by decide +kernel
theorem clw_3 : ∀ w ∈ u_ws "SensorHub$Outages" T_3 4, w ∈ gw := gw_L [115, 117, 119, 121] (by decide +kernel) (by decide +kernel)
def T_4 : u_T := fun k => match k with
  | 0 => ("SensorHub$Sensor", "kind", "I", false)
  | 1 => ("SensorHub$Sensor", "least", "I", false)
  | 2 => ("SensorHub$Sensor", "steps", "I", false)
  | 3 => ("SensorHub$Sensor", "slope", "I", false)
  | 4 => ("SensorHub$Sensor", "offset", "I", false)
  | 5 => ("SensorHub$Sensor", "jitter", "I", false)
  | 6 => ("SensorHub$Sensor", "cost", "I", false)
  | 7 => ("SensorHub$Sensor", "first", "I", false)
  | 8 => ("SensorHub$Sensor", "second", "I", false)
  | 9 => ("SensorHub$Sensor", "source", "I", false)
  | 10 => ("SensorHub$Sensor", "demand", "I", false)
  | 11 => ("SensorHub$Sensor", "period", "I", false)
  | 12 => ("SensorHub$Sensor", "samples", "I", false)
  | 13 => ("SensorHub$Sensor", "fresh", "Z", false)
  | 14 => ("SensorHub$Sensor", "stamp", "I", false)
  | 15 => ("SensorHub$Sensor", "value", "I", false)
  | 16 => ("SensorHub$Sensor", "valued", "I", false)
  | _ => ("SensorHub$Sensor", "recent", "[I", true)
def ty_4 : Nat → FieldType := fun k => match k with
  | 0 => .int
  | 1 => .int
  | 2 => .int
  | 3 => .int
  | 4 => .int
  | 5 => .int
  | 6 => .int
  | 7 => .int
  | 8 => .int
  | 9 => .int
  | 10 => .int
  | 11 => .int
  | 12 => .int
  | 13 => .boolean
  | 14 => .int
  | 15 => .int
  | 16 => .int
  | _ => .array .int
theorem nm_4 : ∀ a, a < 18 → ∀ b, b < 18 → a ≠ b → (T_4 a).2.1 ≠ (T_4 b).2.1 := by decide +kernel
theorem tyok_4 : ∀ k, k < 18 → parseFieldDescriptor (T_4 k).2.2.1 = some (ty_4 k) := by decide +kernel
theorem clw_4 : ∀ w ∈ u_ws "SensorHub$Sensor" T_4 18, w ∈ gw := gw_L [184, 186, 188, 190, 192, 194, 196, 198, 200, 202, 204, 206, 208, 210, 212, 214, 216, 218] (by decide +kernel) (by decide +kernel)
def T_5 : u_T := fun k => match k with
  | 0 => ("SensorHub$Store", "size", "I", false)
  | _ => ("SensorHub$Store", "entries", "[I", true)
def ty_5 : Nat → FieldType := fun k => match k with
  | 0 => .int
  | _ => .array .int
theorem nm_5 : ∀ a, a < 2 → ∀ b, b < 2 → a ≠ b → (T_5 a).2.1 ≠ (T_5 b).2.1 := by decide +kernel
theorem tyok_5 : ∀ k, k < 2 → parseFieldDescriptor (T_5 k).2.2.1 = some (ty_5 k) := by decide +kernel
theorem clw_5 : ∀ w ∈ u_ws "SensorHub$Store" T_5 2, w ∈ gw := gw_L [135, 137] (by decide +kernel) (by decide +kernel)
def T_6 : u_T := fun k => match k with
  | 0 => ("SensorHub$Text", "size", "I", false)
  | 1 => ("SensorHub$Text", "codes", "[I", true)
  | 2 => ("SensorHub$Text", "failed", "Z", false)
  | 3 => ("SensorHub$Text", "type", "I", false)
  | 4 => ("SensorHub$Text", "start", "I", false)
  | _ => ("SensorHub$Text", "behind", "I", false)
def ty_6 : Nat → FieldType := fun k => match k with
  | 0 => .int
  | 1 => .array .int
  | 2 => .boolean
  | 3 => .int
  | 4 => .int
  | _ => .int
theorem nm_6 : ∀ a, a < 6 → ∀ b, b < 6 → a ≠ b → (T_6 a).2.1 ≠ (T_6 b).2.1 := by decide +kernel
theorem tyok_6 : ∀ k, k < 6 → parseFieldDescriptor (T_6 k).2.2.1 = some (ty_6 k) := by decide +kernel
theorem clw_6 : ∀ w ∈ u_ws "SensorHub$Text" T_6 6, w ∈ gw := gw_L [363, 365, 367, 369, 371, 373] (by decide +kernel) (by decide +kernel)
def T_7 : u_T := fun k => match k with
  | 0 => ("SensorHub", "hub", "LSensorHub$Hub;", true)
  | 1 => ("SensorHub", "trial", "LSensorHub$Hub;", true)
  | 2 => ("SensorHub", "history", "LSensorHub$History;", true)
  | _ => ("SensorHub", "text", "LSensorHub$Text;", true)
def ty_7 : Nat → FieldType := fun k => match k with
  | 0 => .object "SensorHub$Hub"
  | 1 => .object "SensorHub$Hub"
  | 2 => .object "SensorHub$History"
  | _ => .object "SensorHub$Text"
theorem nm_7 : ∀ a, a < 4 → ∀ b, b < 4 → a ≠ b → (T_7 a).2.1 ≠ (T_7 b).2.1 := by decide +kernel
theorem tyok_7 : ∀ k, k < 4 → parseFieldDescriptor (T_7 k).2.2.1 = some (ty_7 k) := by decide +kernel
theorem clw_7 : ∀ w ∈ u_ws "SensorHub" T_7 4, w ∈ gw := gw_L [380, 382, 384, 386] (by decide +kernel) (by decide +kernel)
def T_8 : u_T := fun k => match k with
  | 0 => ("SensorHubModel", "thrown", "I", false)
  | 1 => ("SensorHubModel", "s", "[I", true)
  | 2 => ("SensorHubModel", "saved", "[I", true)
  | 3 => ("SensorHubModel", "savedMany", "I", false)
  | 4 => ("SensorHubModel", "text", "[I", true)
  | 5 => ("SensorHubModel", "length", "I", false)
  | 6 => ("SensorHubModel", "aside", "[I", true)
  | 7 => ("SensorHubModel", "demands", "[I", true)
  | 8 => ("SensorHubModel", "periods", "[I", true)
  | 9 => ("SensorHubModel", "oldPeriods", "[I", true)
  | 10 => ("SensorHubModel", "isFresh", "[Z", true)
  | 11 => ("SensorHubModel", "next", "I", false)
  | 12 => ("SensorHubModel", "start", "I", false)
  | 13 => ("SensorHubModel", "token", "I", false)
  | 14 => ("SensorHubModel", "number", "I", false)
  | _ => ("SensorHubModel", "isWrong", "Z", false)
def ty_8 : Nat → FieldType := fun k => match k with
  | 0 => .int
  | 1 => .array .int
  | 2 => .array .int
  | 3 => .int
  | 4 => .array .int
  | 5 => .int
  | 6 => .array .int
  | 7 => .array .int
  | 8 => .array .int
  | 9 => .array .int
  | 10 => .array .boolean
  | 11 => .int
  | 12 => .int
  | 13 => .int
  | 14 => .int
  | _ => .boolean
theorem nm_8 : ∀ a, a < 16 → ∀ b, b < 16 → a ≠ b → (T_8 a).2.1 ≠ (T_8 b).2.1 := by decide +kernel
theorem tyok_8 : ∀ k, k < 16 → parseFieldDescriptor (T_8 k).2.2.1 = some (ty_8 k) := by decide +kernel
theorem clw_8 : ∀ w ∈ u_ws "SensorHubModel" T_8 16, w ∈ gw := gw_L [908, 910, 912, 914, 916, 918, 920, 922, 924, 926, 928, 930, 932, 934, 936, 938] (by decide +kernel) (by decide +kernel)
abbrev classes : List vw_C := [("SensorHub$Client", T_0, 11), ("SensorHub$History", T_1, 3), ("SensorHub$Hub", T_2, 11), ("SensorHub$Outages", T_3, 4), ("SensorHub$Sensor", T_4, 18), ("SensorHub$Store", T_5, 2), ("SensorHub$Text", T_6, 6), ("SensorHub", T_7, 4), ("SensorHubModel", T_8, 16)]
/-- which fields are numbers (none), which are references, and to which cell behind the object's own -/
def spc : Nat → List (Option Nat) := fun κ => match κ with
  | 1 => [none, none, none, none, none, none, none, none, none, none, some 1]
  | 2 => [none, none, some 1]
  | 3 => [none, none, none, none, none, none, some 1, some 2, some 3, some 4, some 8]
  | 4 => [none, some 1, some 2, some 3]
  | 5 => [none, none, none, none, none, none, none, none, none, none, none, none, none, none, none, none, none, some 1]
  | 6 => [none, some 1]
  | 7 => [none, some 1, none, none, none, none]
  | 8 => [some 1, some 43, some 85, some 297]
  | 9 => [none, some 1, some 2, none, some 3, none, some 4, some 5, some 6, some 7, some 8, none, none, none, none, none]
  | _ => []
theorem cls_in : ∀ (ci : Nat) (C : String) (T : u_T) (N : Nat), classes[ci]? = some (C, T, N) → ∀ w ∈ u_ws C T N, w ∈ gw := by
  intro ci C T N h
  match ci, h with
  | 0, h => cases h; exact clw_0
  | 1, h => cases h; exact clw_1
  | 2, h => cases h; exact clw_2
  | 3, h => cases h; exact clw_3
  | 4, h => cases h; exact clw_4
  | 5, h => cases h; exact clw_5
  | 6, h => cases h; exact clw_6
  | 7, h => cases h; exact clw_7
  | 8, h => cases h; exact clw_8
  | k + 9, h => simp [classes] at h
theorem cls_ty : ∀ (ci : Nat) (C : String) (T : u_T) (N : Nat), classes[ci]? = some (C, T, N) → ∃ ty0 : Nat → FieldType, (∀ k, k < N → parseFieldDescriptor (T k).2.2.1 = some (ty0 k)) ∧ ∀ a, a < N → ∀ b, b < N → a ≠ b → (T a).2.1 ≠ (T b).2.1 := by
  intro ci C T N h
  match ci, h with
  | 0, h => cases h; exact ⟨ty_0, tyok_0, nm_0⟩
  | 1, h => cases h; exact ⟨ty_1, tyok_1, nm_1⟩
  | 2, h => cases h; exact ⟨ty_2, tyok_2, nm_2⟩
  | 3, h => cases h; exact ⟨ty_3, tyok_3, nm_3⟩
  | 4, h => cases h; exact ⟨ty_4, tyok_4, nm_4⟩
  | 5, h => cases h; exact ⟨ty_5, tyok_5, nm_5⟩
  | 6, h => cases h; exact ⟨ty_6, tyok_6, nm_6⟩
  | 7, h => cases h; exact ⟨ty_7, tyok_7, nm_7⟩
  | 8, h => cases h; exact ⟨ty_8, tyok_8, nm_8⟩
  | k + 9, h => simp [classes] at h
end
section
/-! the memory of the whole world: a cell's number, a place in it; only whole numbers ever change; references are set once by the constructors -/
abbrev Mem : Type := Nat → Nat → Int32
def wr (σ : Mem) (v k : Nat) (x : Int32) : Mem := fun b j => if b = v ∧ j = k then x else σ b j
abbrev CX : Type := va_G × (Nat → Nat) × (Nat → Nat) × (Nat → ClassId) × (Nat → Prop) × (Nat → Nat)
abbrev xD (X : CX) : va_G := X.1
abbrev xa (X : CX) : Nat → Nat := X.2.1
abbrev xs (X : CX) : Nat → Nat := X.2.2.1
abbrev xc (X : CX) : Nat → ClassId := X.2.2.2.1
abbrev xA (X : CX) : Nat → Prop := X.2.2.2.2.1
abbrev xk (X : CX) : Nat → Nat := X.2.2.2.2.2
/-- an object's fields, by its list: none is a number, some d is the cell d places on -/
def fl (a : Nat → Nat) (f : Nat → Int32) (v : Nat) : List (Option Nat) → Nat → List Value
  | [], _ => []
  | none :: r, k => .int (f k) :: fl a f v r (k + 1)
  | some d :: r, k => .ref (a (v + d)) :: fl a f v r (k + 1)
theorem fl_int {a : Nat → Nat} {f : Nat → Int32} {v : Nat} : ∀ (sp : List (Option Nat)) (k0 k : Nat), sp[k]? = some none → (fl a f v sp k0)[k]? = some (.int (f (k0 + k)))
  | [], _, _, h => by simp at h
  | x :: r, k0, 0, h => by
    simp at h
    subst h
    simp [fl]
  | x :: r, k0, k + 1, h => by
    have ih := fl_int (a := a) (f := f) (v := v) r (k0 + 1) k (by simpa using h)
    have e : k0 + (k + 1) = k0 + 1 + k := by omega
    rw [e]
    cases x <;> simpa [fl] using ih
theorem fl_ref {a : Nat → Nat} {f : Nat → Int32} {v d : Nat} : ∀ (sp : List (Option Nat)) (k0 k : Nat), sp[k]? = some (some d) → (fl a f v sp k0)[k]? = some (.ref (a (v + d)))
  | [], _, _, h => by simp at h
  | x :: r, k0, 0, h => by
    simp at h
    subst h
    simp [fl]
  | x :: r, k0, k + 1, h => by
    have ih := fl_ref (a := a) (f := f) (v := v) r (k0 + 1) k (by simpa using h)
    cases x <;> simpa [fl] using ih
theorem fl_len {a : Nat → Nat} {f : Nat → Int32} {v : Nat} : ∀ (sp : List (Option Nat)) (k0 : Nat), (fl a f v sp k0).length = sp.length
  | [], _ => rfl
  | none :: r, k0 => by simp [fl, fl_len r (k0 + 1)]
  | some d :: r, k0 => by simp [fl, fl_len r (k0 + 1)]
theorem fl_ext {a : Nat → Nat} {f g : Nat → Int32} {v : Nat} : ∀ (sp : List (Option Nat)) (k0 : Nat), (∀ k, k0 ≤ k → f k = g k) → fl a f v sp k0 = fl a g v sp k0
  | [], _, _ => rfl
  | none :: r, k0, h => by simp only [fl]; rw [h k0 (Nat.le_refl _), fl_ext r (k0 + 1) (fun k hk => h k (by omega))]
  | some d :: r, k0, h => by simp only [fl]; rw [fl_ext r (k0 + 1) (fun k hk => h k (by omega))]
theorem fl_set {a : Nat → Nat} {f : Nat → Int32} {v : Nat} {x : Int32} : ∀ (sp : List (Option Nat)) (k0 k : Nat), sp[k]? = some none → (fl a f v sp k0).set k (.int x) = fl a (upd f (k0 + k) x) v sp k0
  | [], _, _, h => by simp at h
  | y :: r, k0, 0, h => by
    simp at h
    subst h
    simp only [fl, List.set_cons_zero]
    rw [fl_ext r (k0 + 1) (f := f) (g := upd f (k0 + 0) x) (fun k hk => by simp [upd]; omega)]
    simp [upd]
  | y :: r, k0, k + 1, h => by
    have ih := fl_set (a := a) (f := f) (v := v) (x := x) r (k0 + 1) k (by simpa using h)
    have e : k0 + (k + 1) = k0 + 1 + k := by omega
    rw [e]
    cases y with
    | none =>
      simp only [fl, List.set_cons_succ]
      rw [ih]
      have : ¬ k0 = k0 + 1 + k := by omega
      simp [upd, this]
    | some d => simp only [fl, List.set_cons_succ]; rw [ih]
/-- what stands at a cell of a kind -/
def ce (a : Nat → Nat) (cA : Nat → ClassId) (f : Nat → Int32) (κ v : Nat) : va_E :=
  if 1000 ≤ κ then .inl (cA 0, κ - 1000, .inl f) else
  if κ = 20 then .inl (cA 1, 8, .inl f) else
  if κ = 21 then .inl (cA 2, 8, .inr (.inr (.inr (.inr (fun j => some (a (v + (8 + 2 * j)))))))) else
  if κ = 22 then .inl (cA 3, 8, .inr (.inr (.inr (.inr (fun j => some (a (v + (23 + 2 * j)))))))) else
  if κ = 23 then .inl (cA 4, 5, .inr (.inr (.inr (.inr (fun j => some (a (v + (1 + 42 * j)))))))) else
  .inr (κ - 1, fl a f v (spc κ) 0)
def Rep (X : CX) (σ : Mem) (H : Heap) : Prop := ∀ v, xs X v ≠ 0 → va_at (xD X) classes (xa X v, ce (xa X) (xc X) (σ v) (xs X v) v) H
def tys (X : CX) : List (ClassId × FieldType) := [(xc X 0, .int), (xc X 1, .boolean), (xc X 2, .object "SensorHub$Sensor"), (xc X 3, .object "SensorHub$Client"), (xc X 4, .object "SensorHub$Hub")]
/-- links to a nest mate's private members -/
def nestL : List (String × Nat × MethodName × String) := [("SensorHub$Hub", 29, ⟨"SensorHub$Outages", "<init>", "()V"⟩, "SensorHub"), ("SensorHub$Hub", 36, ⟨"SensorHub$Store", "<init>", "()V"⟩, "SensorHub"), ("SensorHub$Hub", 41, ⟨"SensorHub$Sensor", "<init>", "()V"⟩, "SensorHub"), ("SensorHub$Hub", 42, ⟨"SensorHub$Client", "<init>", "()V"⟩, "SensorHub"), ("SensorHub$Hub", 97, ⟨"SensorHub", "isWithin", "(III)Z"⟩, "SensorHub"), ("SensorHub", 28, ⟨"SensorHub$Text", "<init>", "()V"⟩, "SensorHub"), ("SensorHub$Outages", 25, ⟨"SensorHub", "isWithin", "(III)Z"⟩, "SensorHub"), ("SensorHub$Store", 19, ⟨"SensorHub", "isWithin", "(III)Z"⟩, "SensorHub"), ("SensorHub$Hub", 156, ⟨"SensorHub", "quotient", "(II)I"⟩, "SensorHub"), ("SensorHub$Text", 19, ⟨"SensorHub", "isWithin", "(III)Z"⟩, "SensorHub"), ("SensorHub$Text", 79, ⟨"SensorHub", "greatestJitter", "(I)I"⟩, "SensorHub"), ("SensorHub$Hub", 230, ⟨"SensorHub", "remainder", "(II)I"⟩, "SensorHub"), ("SensorHub$Client", 47, ⟨"SensorHub", "remainder", "(II)I"⟩, "SensorHub"), ("SensorHub$Client", 59, ⟨"SensorHub", "isWithin", "(III)Z"⟩, "SensorHub")]
def Nests (U : State) : Prop := ∀ q ∈ nestL, va_Nw (.methodLinkNest q.1 q.2.1 q.2.2.1 q.2.2.2) U
/-- the String constants: length, bytes, place in the pool, text -/
def lenS : List Nat := [6, 3, 4, 3, 4, 6]
def bytS : List (List Int32) := [[115, 101, 110, 115, 111, 114], [115, 117, 109], [100, 105, 102, 102], [109, 97, 120], [109, 101, 97, 110], [111, 117, 116, 97, 103, 101]]
def ixS : List Nat := [43, 52, 58, 60, 62, 64]
def txS : List String := ["sensor", "sum", "diff", "max", "mean", "outage"]
def St (X : CX) (U : State) : Prop := (∃ adV, vk_S 6 lenS bytS (xk X) adV (xA X) U U.heap) ∧ (∀ i, i < 6 → vk_R "SensorHub$Text" (ixS.getD i 0) (txS.getD i "") (xk X i) U) ∧ va_Z "java/lang/String" "COMPACT_STRINGS" "Z" (.int 1) (xA X) U U.heap ∧ va_Zq "jdk/internal/util/Preconditions" "SIOOBE_FORMATTER" "Ljava/util/function/BiFunction;" (xA X) U U.heap
/-- what the tables say of the classes; the cells are apart -/
def Cx (X : CX) (U : State) : Prop := va_K (xD X) classes (tys X) U ∧ (∀ v w, xs X v ≠ 0 → xs X w ≠ 0 → xa X v = xa X w → v = w) ∧ (∀ v, xs X v ≠ 0 → xA X (xa X v)) ∧ Nests U ∧ St X U
theorem Cx.same {X : CX} {u U : State} (hvm : u.vm = U.vm) (hh : U.heap = u.heap) (h : Cx X u) : Cx X U := by
  obtain ⟨h1, h2, h3, h4, ⟨adV, s1⟩, s2, s3, s4⟩ := h
  have ha : u.vm.Alike U.vm := by rw [hvm]; exact Vm.Alike.refl _
  exact ⟨va_K.moved ha h1, h2, h3, fun q hq => va_Nw.same rfl hvm (h4 q hq), ⟨adV, by rw [hh]; exact vk_S.moved ha s1⟩, fun i hi => vk_R.same hvm.symm (s2 i hi), by rw [hh]; exact va_Z.moved ha s3, by rw [hh]; exact va_Zq.moved ha s4⟩
theorem Cx.warm {X : CX} {s U : State} (hW : s.WarmedH U.vm) (hk : ∀ a : Nat, a < s.heap.size → ¬ xA X a → U.heap[a]? = s.heap[a]?) (h : Cx X s) : Cx X U := by
  obtain ⟨h1, h2, h3, h4, ⟨adV, s1⟩, s2, s3, s4⟩ := h
  exact ⟨va_K.moved hW.alike h1, h2, h3, fun q hq => va_Nw.warmM hW (h4 q hq), ⟨adV, (vk_S.moved hW.alike s1).kept hk⟩, fun i hi => vk_R.warm hW (s2 i hi), (va_Z.moved hW.alike s3).kept hk, (va_Zq.moved hW.alike s4).kept hk⟩
def FR (p : Program) (s : State) (m : MethodId) (args : Array Value) (c : Code) (cc : ByteArray) (nL : Nat) (own : String) (X : CX) : Prop :=
  p.tables.exec = Jvm.exec ∧ c.code = cc ∧ c.maxLocals = nL ∧ s.vm.findClass own = some m.cls ∧ (∀ w ∈ gw, w.before args s = true) ∧ Cx X s
def G {ρ : Type} (X : CX) (p : Program) (l : Launch) (e : Env) (R : Room) (s : State) (m : MethodId) (args : Array Value) (below : List Frame) (meth : Method) (c : Code) (nL ck sk : Nat) (Qf : ρ → Mem → State → Prop) (pc : Nat) (ls : List (Nat × Value)) (st : List Value) (σ : Mem) (o : Option (ρ × Mem)) : Prop :=
  ∀ r σ', o = some (r, σ') → ∀ (H : Heap) (locs : List Loc) (la : Array Slot), Rep X σ H → va_S (xA X) s.heap H locs → lv_has la nL ls → W p l e R s m args below meth c H locs ck sk (Qf r σ') (F0 m pc la st)
abbrev ib (i : Int32) (n : Nat) : Prop := 0 ≤ i.toInt ∧ i.toInt < (n : Int)
def bd {α β : Type} (o : Option (α × Mem)) (k : α → Mem → Option β) : Option β := match o with
  | none => none
  | some w => k w.1 w.2
def oe {β : Type} (o : Option Nat) (a : β) (b : Nat → β) : β := match o with
  | none => a
  | some v => b v
def QC (X : CX) (rv : Option Value) (σ' : Mem) : Array Value → State → Outcome → State → Prop := fun _ st oc t => oc = .returned rv ∧ Rep X σ' t.heap ∧ va_F (xA X) st t
def rmD (d : Nat) : Room := { frames := d, cells := 0, slots := 0, locals := 35 * d }
/-- a method's contract: from the memory σ it comes to the answer and the memory that o says, if o says one -/
def CT {ρ : Type} (X : CX) (l : Launch) (y : MethodName) (bytes : ByteArray) (maxL : Nat) (ret : Option FieldType) (d : Nat) (vl : ρ → Option Value) (av : List Value) (σ : Mem) (o : Option (ρ × Mem)) : Prop :=
  ∀ r σ', o = some (r, σ') → Met l y (.code y bytes maxL ret :: gw) (rmD d) (va_Pc av (fun U => Rep X σ U.heap ∧ Cx X U)) (QC X (vl r) σ') 0 0 (xA X)
def vI (r : Int32) : Option Value := some (.int r)
def vU (_ : Unit) : Option Value := none
def vQ (X : CX) (r : Option Nat) : Option Value := some (va_rf (r.map (xa X)))
/-- a field of a number or a reference, as an instruction of own links it -/
def FS (own : String) (index ci k : Nat) : Prop := ∃ C T N, classes[ci]? = some (C, T, N) ∧ k < N ∧ (T k).1 = C ∧ Cond.fieldLink own index C (T k).2.1 (T k).2.2.1 ∈ gw
def FW (own : String) (index ci k : Nat) (ty : FieldType) : Prop := ∃ C T N, classes[ci]? = some (C, T, N) ∧ k < N ∧ (T k).1 = C ∧ Cond.fieldLink own index C (T k).2.1 (T k).2.2.1 ∈ gw ∧ (T k).2.2.2 = false ∧ parseFieldDescriptor (T k).2.2.1 = some ty
section ROWS
variable {ρ : Type} {X : CX} {p : Program} {l : Launch} {e : Env} {R : Room} {s : State} {m : MethodId} {args : Array Value} {below : List Frame} {meth : Method} {c : Code} {cc : ByteArray} {own : String} {nL ck sk : Nat} {Qf : ρ → Mem → State → Prop} {pc : Nat} {ls : List (Nat × Value)} {rest : List Value} {σ : Mem} {o o1 o2 : Option (ρ × Mem)}
theorem g_no {st : List Value} : G X p l e R s m args below meth c nL ck sk Qf pc ls st σ none := fun _ _ h => by cases h
theorem g_if {q : Prop} [Decidable q] {st : List Value} (h1 : q → G X p l e R s m args below meth c nL ck sk Qf pc ls st σ o1) (h2 : ¬ q → G X p l e R s m args below meth c nL ck sk Qf pc ls st σ o2) : G X p l e R s m args below meth c nL ck sk Qf pc ls st σ (if q then o1 else o2) := by
  by_cases hq : q
  · rw [if_pos hq]; exact h1 hq
  · rw [if_neg hq]; exact h2 hq
theorem g_gd {q : Prop} [Decidable q] {st : List Value} (h1 : q → G X p l e R s m args below meth c nL ck sk Qf pc ls st σ o1) : G X p l e R s m args below meth c nL ck sk Qf pc ls st σ (if q then o1 else none) := g_if h1 (fun _ => g_no)
theorem g_iconst (F : FR p s m args c cc nL own X) {n : Int} {v : Int32} (d : decode cc pc = .ok (.iconst n, 1)) (hv : Int32.ofInt n = v)
    (k : G X p l e R s m args below meth c nL ck sk Qf (pc + 1) ls (.int v :: rest) σ o) : G X p l e R s m args below meth c nL ck sk Qf pc ls rest σ o :=
  fun r σ' ho H locs la hR hS hl => lv_iconst F.1 F.2.1 d hv (k r σ' ho H locs la hR hS hl)
theorem g_bipush (F : FR p s m args c cc nL own X) {n : Int} {v : Int32} (d : decode cc pc = .ok (.bipush n, 2)) (hv : (Int8.ofInt n).toInt32 = v)
    (k : G X p l e R s m args below meth c nL ck sk Qf (pc + 2) ls (.int v :: rest) σ o) : G X p l e R s m args below meth c nL ck sk Qf pc ls rest σ o :=
  fun r σ' ho H locs la hR hS hl => lv_bipush F.1 F.2.1 d hv (k r σ' ho H locs la hR hS hl)
theorem g_sipush (F : FR p s m args c cc nL own X) {n : Int} {v : Int32} (d : decode cc pc = .ok (.sipush n, 3)) (hv : (Int16.ofInt n).toInt32 = v)
    (k : G X p l e R s m args below meth c nL ck sk Qf (pc + 3) ls (.int v :: rest) σ o) : G X p l e R s m args below meth c nL ck sk Qf pc ls rest σ o :=
  fun r σ' ho H locs la hR hS hl => lv_sipush F.1 F.2.1 d hv (k r σ' ho H locs la hR hS hl)
theorem g_iload_n (F : FR p s m args c cc nL own X) {i : Fin 4} {x : Int32} (d : decode cc pc = .ok (.iload_n i, 1)) (n : Nat) (hk : ls[n]? = some ((i : Nat), .int x))
    (k : G X p l e R s m args below meth c nL ck sk Qf (pc + 1) ls (.int x :: rest) σ o) : G X p l e R s m args below meth c nL ck sk Qf pc ls rest σ o :=
  fun r σ' ho H locs la hR hS hl => lv_iload_n F.1 F.2.1 d rfl (lv_at hl n hk) (k r σ' ho H locs la hR hS hl)
theorem g_iload (F : FR p s m args c cc nL own X) {i : Nat} {x : Int32} (d : decode cc pc = .ok (.iload i, 2)) (n : Nat) (hk : ls[n]? = some (i, .int x))
    (k : G X p l e R s m args below meth c nL ck sk Qf (pc + 2) ls (.int x :: rest) σ o) : G X p l e R s m args below meth c nL ck sk Qf pc ls rest σ o :=
  fun r σ' ho H locs la hR hS hl => lv_iload F.1 F.2.1 d (lv_at hl n hk) (k r σ' ho H locs la hR hS hl)
theorem g_aload_n (F : FR p s m args c cc nL own X) {i : Fin 4} {x : Nat} (d : decode cc pc = .ok (.aload_n i, 1)) (n : Nat) (hk : ls[n]? = some ((i : Nat), .ref x))
    (k : G X p l e R s m args below meth c nL ck sk Qf (pc + 1) ls (.ref x :: rest) σ o) : G X p l e R s m args below meth c nL ck sk Qf pc ls rest σ o :=
  fun r σ' ho H locs la hR hS hl => lv_aload_n F.1 F.2.1 d rfl (lv_at hl n hk) (k r σ' ho H locs la hR hS hl)
theorem g_aload (F : FR p s m args c cc nL own X) {i : Nat} {x : Nat} (d : decode cc pc = .ok (.aload i, 2)) (n : Nat) (hk : ls[n]? = some (i, .ref x))
    (k : G X p l e R s m args below meth c nL ck sk Qf (pc + 2) ls (.ref x :: rest) σ o) : G X p l e R s m args below meth c nL ck sk Qf pc ls rest σ o :=
  fun r σ' ho H locs la hR hS hl => lv_aload F.1 F.2.1 d (lv_at hl n hk) (k r σ' ho H locs la hR hS hl)
theorem g_aload_nN (F : FR p s m args c cc nL own X) {i : Fin 4} (d : decode cc pc = .ok (.aload_n i, 1)) (n : Nat) (hk : ls[n]? = some ((i : Nat), .null))
    (k : G X p l e R s m args below meth c nL ck sk Qf (pc + 1) ls (.null :: rest) σ o) : G X p l e R s m args below meth c nL ck sk Qf pc ls rest σ o :=
  fun r σ' ho H locs la hR hS hl => lv_aload_nN F.1 F.2.1 d rfl (lv_at hl n hk) (k r σ' ho H locs la hR hS hl)
theorem g_aloadN (F : FR p s m args c cc nL own X) {i : Nat} (d : decode cc pc = .ok (.aload i, 2)) (n : Nat) (hk : ls[n]? = some (i, .null))
    (k : G X p l e R s m args below meth c nL ck sk Qf (pc + 2) ls (.null :: rest) σ o) : G X p l e R s m args below meth c nL ck sk Qf pc ls rest σ o :=
  fun r σ' ho H locs la hR hS hl => lv_aloadN F.1 F.2.1 d (lv_at hl n hk) (k r σ' ho H locs la hR hS hl)
theorem g_iadd (F : FR p s m args c cc nL own X) {x y : Int32} (d : decode cc pc = .ok (.iadd, 1))
    (k : G X p l e R s m args below meth c nL ck sk Qf (pc + 1) ls (.int (x + y) :: rest) σ o) : G X p l e R s m args below meth c nL ck sk Qf pc ls (.int y :: .int x :: rest) σ o :=
  fun r σ' ho H locs la hR hS hl => lv_iadd F.1 F.2.1 d (k r σ' ho H locs la hR hS hl)
theorem g_isub (F : FR p s m args c cc nL own X) {x y : Int32} (d : decode cc pc = .ok (.isub, 1))
    (k : G X p l e R s m args below meth c nL ck sk Qf (pc + 1) ls (.int (x - y) :: rest) σ o) : G X p l e R s m args below meth c nL ck sk Qf pc ls (.int y :: .int x :: rest) σ o :=
  fun r σ' ho H locs la hR hS hl => lv_isub F.1 F.2.1 d (k r σ' ho H locs la hR hS hl)
theorem g_imul (F : FR p s m args c cc nL own X) {x y : Int32} (d : decode cc pc = .ok (.imul, 1))
    (k : G X p l e R s m args below meth c nL ck sk Qf (pc + 1) ls (.int (x * y) :: rest) σ o) : G X p l e R s m args below meth c nL ck sk Qf pc ls (.int y :: .int x :: rest) σ o :=
  fun r σ' ho H locs la hR hS hl => lv_imul F.1 F.2.1 d (k r σ' ho H locs la hR hS hl)
theorem g_iand (F : FR p s m args c cc nL own X) {x y : Int32} (d : decode cc pc = .ok (.iand, 1))
    (k : G X p l e R s m args below meth c nL ck sk Qf (pc + 1) ls (.int (x &&& y) :: rest) σ o) : G X p l e R s m args below meth c nL ck sk Qf pc ls (.int y :: .int x :: rest) σ o :=
  fun r σ' ho H locs la hR hS hl => lv_iand F.1 F.2.1 d (k r σ' ho H locs la hR hS hl)
theorem g_ior (F : FR p s m args c cc nL own X) {x y : Int32} (d : decode cc pc = .ok (.ior, 1))
    (k : G X p l e R s m args below meth c nL ck sk Qf (pc + 1) ls (.int (x ||| y) :: rest) σ o) : G X p l e R s m args below meth c nL ck sk Qf pc ls (.int y :: .int x :: rest) σ o :=
  fun r σ' ho H locs la hR hS hl => lv_ior F.1 F.2.1 d (k r σ' ho H locs la hR hS hl)
theorem g_ixor (F : FR p s m args c cc nL own X) {x y : Int32} (d : decode cc pc = .ok (.ixor, 1))
    (k : G X p l e R s m args below meth c nL ck sk Qf (pc + 1) ls (.int (x ^^^ y) :: rest) σ o) : G X p l e R s m args below meth c nL ck sk Qf pc ls (.int y :: .int x :: rest) σ o :=
  fun r σ' ho H locs la hR hS hl => lv_ixor F.1 F.2.1 d (k r σ' ho H locs la hR hS hl)
theorem g_ishl (F : FR p s m args c cc nL own X) {x y : Int32} (d : decode cc pc = .ok (.ishl, 1))
    (k : G X p l e R s m args below meth c nL ck sk Qf (pc + 1) ls (.int (x <<< (y &&& 31)) :: rest) σ o) : G X p l e R s m args below meth c nL ck sk Qf pc ls (.int y :: .int x :: rest) σ o :=
  fun r σ' ho H locs la hR hS hl => lv_ishl F.1 F.2.1 d (k r σ' ho H locs la hR hS hl)
theorem g_ishr (F : FR p s m args c cc nL own X) {x y : Int32} (d : decode cc pc = .ok (.ishr, 1))
    (k : G X p l e R s m args below meth c nL ck sk Qf (pc + 1) ls (.int (x >>> (y &&& 31)) :: rest) σ o) : G X p l e R s m args below meth c nL ck sk Qf pc ls (.int y :: .int x :: rest) σ o :=
  fun r σ' ho H locs la hR hS hl => lv_ishr F.1 F.2.1 d (k r σ' ho H locs la hR hS hl)
theorem g_ineg (F : FR p s m args c cc nL own X) {x : Int32} (d : decode cc pc = .ok (.ineg, 1))
    (k : G X p l e R s m args below meth c nL ck sk Qf (pc + 1) ls (.int (-x) :: rest) σ o) : G X p l e R s m args below meth c nL ck sk Qf pc ls (.int x :: rest) σ o :=
  fun r σ' ho H locs la hR hS hl => lv_ineg F.1 F.2.1 d (k r σ' ho H locs la hR hS hl)
theorem g_dup (F : FR p s m args c cc nL own X) {v : Value} (d : decode cc pc = .ok (.dup, 1)) (hv : v.category = 1)
    (k : G X p l e R s m args below meth c nL ck sk Qf (pc + 1) ls (v :: v :: rest) σ o) : G X p l e R s m args below meth c nL ck sk Qf pc ls (v :: rest) σ o :=
  fun r σ' ho H locs la hR hS hl => lv_dup F.1 F.2.1 d hv (k r σ' ho H locs la hR hS hl)
theorem g_pop (F : FR p s m args c cc nL own X) {v : Value} (d : decode cc pc = .ok (.pop, 1)) (hv : v.category = 1)
    (k : G X p l e R s m args below meth c nL ck sk Qf (pc + 1) ls rest σ o) : G X p l e R s m args below meth c nL ck sk Qf pc ls (v :: rest) σ o :=
  fun r σ' ho H locs la hR hS hl => lv_pop F.1 F.2.1 d hv (k r σ' ho H locs la hR hS hl)
theorem g_dup2 (F : FR p s m args c cc nL own X) {v w : Value} (d : decode cc pc = .ok (.dup2, 1)) (hv : v.category = 1) (hw : w.category = 1)
    (k : G X p l e R s m args below meth c nL ck sk Qf (pc + 1) ls (v :: w :: v :: w :: rest) σ o) : G X p l e R s m args below meth c nL ck sk Qf pc ls (v :: w :: rest) σ o :=
  fun r σ' ho H locs la hR hS hl => lv_dup2_11 F.1 F.2.1 d hv hw (k r σ' ho H locs la hR hS hl)
theorem g_null (F : FR p s m args c cc nL own X) (d : decode cc pc = .ok (.aconst_null, 1))
    (k : G X p l e R s m args below meth c nL ck sk Qf (pc + 1) ls (.null :: rest) σ o) : G X p l e R s m args below meth c nL ck sk Qf pc ls rest σ o :=
  fun r σ' ho H locs la hR hS hl => lv_null F.1 F.2.1 d (k r σ' ho H locs la hR hS hl)
theorem g_goto (F : FR p s m args c cc nL own X) {off : Int} {tgt : Nat} (d : decode cc pc = .ok (.goto off, 3)) (ht : (pc : Int) + off = (tgt : Int))
    (k : G X p l e R s m args below meth c nL ck sk Qf tgt ls rest σ o) : G X p l e R s m args below meth c nL ck sk Qf pc ls rest σ o :=
  fun r σ' ho H locs la hR hS hl => lv_goto F.1 F.2.1 d ht (k r σ' ho H locs la hR hS hl)
theorem g_ifnull (F : FR p s m args c cc nL own X) {x : Nat} {off : Int} (d : decode cc pc = .ok (.ifnull off, 3))
    (k : G X p l e R s m args below meth c nL ck sk Qf (pc + 3) ls rest σ o) : G X p l e R s m args below meth c nL ck sk Qf pc ls (.ref x :: rest) σ o :=
  fun r σ' ho H locs la hR hS hl => lv_ifnull F.1 F.2.1 d (k r σ' ho H locs la hR hS hl)
theorem g_ifnullN (F : FR p s m args c cc nL own X) {off : Int} {tgt : Nat} (d : decode cc pc = .ok (.ifnull off, 3)) (ht : (pc : Int) + off = (tgt : Int))
    (k : G X p l e R s m args below meth c nL ck sk Qf tgt ls rest σ o) : G X p l e R s m args below meth c nL ck sk Qf pc ls (.null :: rest) σ o :=
  fun r σ' ho H locs la hR hS hl => lv_ifnullN F.1 F.2.1 d ht (k r σ' ho H locs la hR hS hl)
theorem g_ifnonnull (F : FR p s m args c cc nL own X) {x : Nat} {off : Int} {tgt : Nat} (d : decode cc pc = .ok (.ifnonnull off, 3)) (ht : (pc : Int) + off = (tgt : Int))
    (k : G X p l e R s m args below meth c nL ck sk Qf tgt ls rest σ o) : G X p l e R s m args below meth c nL ck sk Qf pc ls (.ref x :: rest) σ o :=
  fun r σ' ho H locs la hR hS hl => lv_ifnonnull F.1 F.2.1 d ht (k r σ' ho H locs la hR hS hl)
theorem g_ifnonnullN (F : FR p s m args c cc nL own X) {off : Int} (d : decode cc pc = .ok (.ifnonnull off, 3))
    (k : G X p l e R s m args below meth c nL ck sk Qf (pc + 3) ls rest σ o) : G X p l e R s m args below meth c nL ck sk Qf pc ls (.null :: rest) σ o :=
  fun r σ' ho H locs la hR hS hl => lv_ifnonnullN F.1 F.2.1 d (k r σ' ho H locs la hR hS hl)
theorem g_if_eq (F : FR p s m args c cc nL own X) {x : Int32} {off : Int} {tgt : Nat} (d : decode cc pc = .ok (.ifCond .eq off, 3)) (ht : (pc : Int) + off = (tgt : Int))
    (k1 : x = 0 → G X p l e R s m args below meth c nL ck sk Qf tgt ls rest σ o1) (k2 : ¬ x = 0 → G X p l e R s m args below meth c nL ck sk Qf (pc + 3) ls rest σ o2) : G X p l e R s m args below meth c nL ck sk Qf pc ls (.int x :: rest) σ (if x = 0 then o1 else o2) :=
  g_if (fun q r σ' ho H locs la hR hS hl => lv_if_eq F.1 F.2.1 d ht (fun z => k1 z r σ' ho H locs la hR hS hl) (fun z => absurd q z)) (fun q r σ' ho H locs la hR hS hl => lv_if_eq F.1 F.2.1 d ht (fun z => absurd z q) (fun z => k2 z r σ' ho H locs la hR hS hl))
theorem g_if_lt (F : FR p s m args c cc nL own X) {x : Int32} {off : Int} {tgt : Nat} (d : decode cc pc = .ok (.ifCond .lt off, 3)) (ht : (pc : Int) + off = (tgt : Int))
    (k1 : x < 0 → G X p l e R s m args below meth c nL ck sk Qf tgt ls rest σ o1) (k2 : ¬ x < 0 → G X p l e R s m args below meth c nL ck sk Qf (pc + 3) ls rest σ o2) : G X p l e R s m args below meth c nL ck sk Qf pc ls (.int x :: rest) σ (if x < 0 then o1 else o2) :=
  g_if (fun q r σ' ho H locs la hR hS hl => lv_if_lt F.1 F.2.1 d ht (fun z => k1 z r σ' ho H locs la hR hS hl) (fun z => absurd q z)) (fun q r σ' ho H locs la hR hS hl => lv_if_lt F.1 F.2.1 d ht (fun z => absurd z q) (fun z => k2 z r σ' ho H locs la hR hS hl))
theorem g_if_ge (F : FR p s m args c cc nL own X) {x : Int32} {off : Int} {tgt : Nat} (d : decode cc pc = .ok (.ifCond .ge off, 3)) (ht : (pc : Int) + off = (tgt : Int))
    (k1 : 0 ≤ x → G X p l e R s m args below meth c nL ck sk Qf tgt ls rest σ o1) (k2 : ¬ 0 ≤ x → G X p l e R s m args below meth c nL ck sk Qf (pc + 3) ls rest σ o2) : G X p l e R s m args below meth c nL ck sk Qf pc ls (.int x :: rest) σ (if 0 ≤ x then o1 else o2) :=
  g_if (fun q r σ' ho H locs la hR hS hl => lv_if_ge F.1 F.2.1 d ht (fun z => k1 z r σ' ho H locs la hR hS hl) (fun z => absurd q z)) (fun q r σ' ho H locs la hR hS hl => lv_if_ge F.1 F.2.1 d ht (fun z => absurd z q) (fun z => k2 z r σ' ho H locs la hR hS hl))
theorem g_if_gt (F : FR p s m args c cc nL own X) {x : Int32} {off : Int} {tgt : Nat} (d : decode cc pc = .ok (.ifCond .gt off, 3)) (ht : (pc : Int) + off = (tgt : Int))
    (k1 : 0 < x → G X p l e R s m args below meth c nL ck sk Qf tgt ls rest σ o1) (k2 : ¬ 0 < x → G X p l e R s m args below meth c nL ck sk Qf (pc + 3) ls rest σ o2) : G X p l e R s m args below meth c nL ck sk Qf pc ls (.int x :: rest) σ (if 0 < x then o1 else o2) :=
  g_if (fun q r σ' ho H locs la hR hS hl => lv_if_gt F.1 F.2.1 d ht (fun z => k1 z r σ' ho H locs la hR hS hl) (fun z => absurd q z)) (fun q r σ' ho H locs la hR hS hl => lv_if_gt F.1 F.2.1 d ht (fun z => absurd z q) (fun z => k2 z r σ' ho H locs la hR hS hl))
theorem g_if_le (F : FR p s m args c cc nL own X) {x : Int32} {off : Int} {tgt : Nat} (d : decode cc pc = .ok (.ifCond .le off, 3)) (ht : (pc : Int) + off = (tgt : Int))
    (k1 : x ≤ 0 → G X p l e R s m args below meth c nL ck sk Qf tgt ls rest σ o1) (k2 : ¬ x ≤ 0 → G X p l e R s m args below meth c nL ck sk Qf (pc + 3) ls rest σ o2) : G X p l e R s m args below meth c nL ck sk Qf pc ls (.int x :: rest) σ (if x ≤ 0 then o1 else o2) :=
  g_if (fun q r σ' ho H locs la hR hS hl => lv_if_le F.1 F.2.1 d ht (fun z => k1 z r σ' ho H locs la hR hS hl) (fun z => absurd q z)) (fun q r σ' ho H locs la hR hS hl => lv_if_le F.1 F.2.1 d ht (fun z => absurd z q) (fun z => k2 z r σ' ho H locs la hR hS hl))
theorem g_icmp_eq (F : FR p s m args c cc nL own X) {x y : Int32} {off : Int} {tgt : Nat} (d : decode cc pc = .ok (.if_icmp .eq off, 3)) (ht : (pc : Int) + off = (tgt : Int))
    (k1 : x = y → G X p l e R s m args below meth c nL ck sk Qf tgt ls rest σ o1) (k2 : ¬ x = y → G X p l e R s m args below meth c nL ck sk Qf (pc + 3) ls rest σ o2) : G X p l e R s m args below meth c nL ck sk Qf pc ls (.int y :: .int x :: rest) σ (if x = y then o1 else o2) :=
  g_if (fun q r σ' ho H locs la hR hS hl => lv_icmp_eq F.1 F.2.1 d ht (fun z => k1 z r σ' ho H locs la hR hS hl) (fun z => absurd q z)) (fun q r σ' ho H locs la hR hS hl => lv_icmp_eq F.1 F.2.1 d ht (fun z => absurd z q) (fun z => k2 z r σ' ho H locs la hR hS hl))
theorem g_icmp_lt (F : FR p s m args c cc nL own X) {x y : Int32} {off : Int} {tgt : Nat} (d : decode cc pc = .ok (.if_icmp .lt off, 3)) (ht : (pc : Int) + off = (tgt : Int))
    (k1 : x < y → G X p l e R s m args below meth c nL ck sk Qf tgt ls rest σ o1) (k2 : ¬ x < y → G X p l e R s m args below meth c nL ck sk Qf (pc + 3) ls rest σ o2) : G X p l e R s m args below meth c nL ck sk Qf pc ls (.int y :: .int x :: rest) σ (if x < y then o1 else o2) :=
  g_if (fun q r σ' ho H locs la hR hS hl => lv_icmp_lt F.1 F.2.1 d ht (fun z => k1 z r σ' ho H locs la hR hS hl) (fun z => absurd q z)) (fun q r σ' ho H locs la hR hS hl => lv_icmp_lt F.1 F.2.1 d ht (fun z => absurd z q) (fun z => k2 z r σ' ho H locs la hR hS hl))
theorem g_icmp_ge (F : FR p s m args c cc nL own X) {x y : Int32} {off : Int} {tgt : Nat} (d : decode cc pc = .ok (.if_icmp .ge off, 3)) (ht : (pc : Int) + off = (tgt : Int))
    (k1 : y ≤ x → G X p l e R s m args below meth c nL ck sk Qf tgt ls rest σ o1) (k2 : ¬ y ≤ x → G X p l e R s m args below meth c nL ck sk Qf (pc + 3) ls rest σ o2) : G X p l e R s m args below meth c nL ck sk Qf pc ls (.int y :: .int x :: rest) σ (if y ≤ x then o1 else o2) :=
  g_if (fun q r σ' ho H locs la hR hS hl => lv_icmp_ge F.1 F.2.1 d ht (fun z => k1 z r σ' ho H locs la hR hS hl) (fun z => absurd q z)) (fun q r σ' ho H locs la hR hS hl => lv_icmp_ge F.1 F.2.1 d ht (fun z => absurd z q) (fun z => k2 z r σ' ho H locs la hR hS hl))
theorem g_icmp_gt (F : FR p s m args c cc nL own X) {x y : Int32} {off : Int} {tgt : Nat} (d : decode cc pc = .ok (.if_icmp .gt off, 3)) (ht : (pc : Int) + off = (tgt : Int))
    (k1 : y < x → G X p l e R s m args below meth c nL ck sk Qf tgt ls rest σ o1) (k2 : ¬ y < x → G X p l e R s m args below meth c nL ck sk Qf (pc + 3) ls rest σ o2) : G X p l e R s m args below meth c nL ck sk Qf pc ls (.int y :: .int x :: rest) σ (if y < x then o1 else o2) :=
  g_if (fun q r σ' ho H locs la hR hS hl => lv_icmp_gt F.1 F.2.1 d ht (fun z => k1 z r σ' ho H locs la hR hS hl) (fun z => absurd q z)) (fun q r σ' ho H locs la hR hS hl => lv_icmp_gt F.1 F.2.1 d ht (fun z => absurd z q) (fun z => k2 z r σ' ho H locs la hR hS hl))
theorem g_icmp_le (F : FR p s m args c cc nL own X) {x y : Int32} {off : Int} {tgt : Nat} (d : decode cc pc = .ok (.if_icmp .le off, 3)) (ht : (pc : Int) + off = (tgt : Int))
    (k1 : x ≤ y → G X p l e R s m args below meth c nL ck sk Qf tgt ls rest σ o1) (k2 : ¬ x ≤ y → G X p l e R s m args below meth c nL ck sk Qf (pc + 3) ls rest σ o2) : G X p l e R s m args below meth c nL ck sk Qf pc ls (.int y :: .int x :: rest) σ (if x ≤ y then o1 else o2) :=
  g_if (fun q r σ' ho H locs la hR hS hl => lv_icmp_le F.1 F.2.1 d ht (fun z => k1 z r σ' ho H locs la hR hS hl) (fun z => absurd q z)) (fun q r σ' ho H locs la hR hS hl => lv_icmp_le F.1 F.2.1 d ht (fun z => absurd z q) (fun z => k2 z r σ' ho H locs la hR hS hl))
theorem g_if_ne (F : FR p s m args c cc nL own X) {x : Int32} {off : Int} {tgt : Nat} (d : decode cc pc = .ok (.ifCond .ne off, 3)) (ht : (pc : Int) + off = (tgt : Int))
    (k1 : x = 0 → G X p l e R s m args below meth c nL ck sk Qf (pc + 3) ls rest σ o1) (k2 : ¬ x = 0 → G X p l e R s m args below meth c nL ck sk Qf tgt ls rest σ o2) : G X p l e R s m args below meth c nL ck sk Qf pc ls (.int x :: rest) σ (if x = 0 then o1 else o2) :=
  g_if (fun q r σ' ho H locs la hR hS hl => lv_if_ne F.1 F.2.1 d ht (fun z => absurd q z) (fun z => k1 q r σ' ho H locs la hR hS hl)) (fun q r σ' ho H locs la hR hS hl => lv_if_ne F.1 F.2.1 d ht (fun z => k2 z r σ' ho H locs la hR hS hl) (fun z => k2 q r σ' ho H locs la hR hS hl |> fun _ => (q z).elim))
theorem g_icmp_ne (F : FR p s m args c cc nL own X) {x y : Int32} {off : Int} {tgt : Nat} (d : decode cc pc = .ok (.if_icmp .ne off, 3)) (ht : (pc : Int) + off = (tgt : Int))
    (k1 : x = y → G X p l e R s m args below meth c nL ck sk Qf (pc + 3) ls rest σ o1) (k2 : ¬ x = y → G X p l e R s m args below meth c nL ck sk Qf tgt ls rest σ o2) : G X p l e R s m args below meth c nL ck sk Qf pc ls (.int y :: .int x :: rest) σ (if x = y then o1 else o2) :=
  g_if (fun q r σ' ho H locs la hR hS hl => lv_icmp_ne F.1 F.2.1 d ht (fun z => absurd q z) (fun z => k1 q r σ' ho H locs la hR hS hl)) (fun q r σ' ho H locs la hR hS hl => lv_icmp_ne F.1 F.2.1 d ht (fun z => k2 z r σ' ho H locs la hR hS hl) (fun z => k2 q r σ' ho H locs la hR hS hl |> fun _ => (q z).elim))
theorem g_idiv (F : FR p s m args c cc nL own X) {x y : Int32} (d : decode cc pc = .ok (.idiv, 1))
    (k : G X p l e R s m args below meth c nL ck sk Qf (pc + 1) ls (.int (x / y) :: rest) σ o) : G X p l e R s m args below meth c nL ck sk Qf pc ls (.int y :: .int x :: rest) σ (if y = 0 then none else o) :=
  g_if (fun _ => g_no) (fun q r σ' ho H locs la hR hS hl => lv_idiv F.1 F.2.1 d q (k r σ' ho H locs la hR hS hl))
theorem g_irem (F : FR p s m args c cc nL own X) {x y : Int32} (d : decode cc pc = .ok (.irem, 1))
    (k : G X p l e R s m args below meth c nL ck sk Qf (pc + 1) ls (.int (x - x / y * y) :: rest) σ o) : G X p l e R s m args below meth c nL ck sk Qf pc ls (.int y :: .int x :: rest) σ (if y = 0 then none else o) :=
  g_if (fun _ => g_no) (fun q r σ' ho H locs la hR hS hl => lv_irem F.1 F.2.1 d q (k r σ' ho H locs la hR hS hl))
theorem g_istore (F : FR p s m args c cc nL own X) {i : Nat} {x : Int32} {ls' : List (Nat × Value)} (d : decode cc pc = .ok (.istore i, 2)) (hn : i < nL) (hf : (i, Value.int x) :: ls.filter (fun q => !(q.1 == i) && !(q.1 + 1 == i && q.2.category == 2)) = ls')
    (k : G X p l e R s m args below meth c nL ck sk Qf (pc + 2) ls' rest σ o) : G X p l e R s m args below meth c nL ck sk Qf pc ls (Value.int x :: rest) σ o :=
  fun r σ' ho H locs la hR hS hl => lv_istore F.1 F.2.1 d hl hn hf (fun la hl => k r σ' ho H locs la hR hS hl)
theorem g_istore_n (F : FR p s m args c cc nL own X) {i : Fin 4} {x : Int32} {ls' : List (Nat × Value)} (d : decode cc pc = .ok (.istore_n i, 1)) (hn : (i : Nat) < nL) (hf : ((i : Nat), Value.int x) :: ls.filter (fun q => !(q.1 == (i : Nat)) && !(q.1 + 1 == (i : Nat) && q.2.category == 2)) = ls')
    (k : G X p l e R s m args below meth c nL ck sk Qf (pc + 1) ls' rest σ o) : G X p l e R s m args below meth c nL ck sk Qf pc ls (Value.int x :: rest) σ o :=
  fun r σ' ho H locs la hR hS hl => lv_istore_n F.1 F.2.1 d rfl hl hn hf (fun la hl => k r σ' ho H locs la hR hS hl)
theorem g_astore (F : FR p s m args c cc nL own X) {i : Nat} {x : Nat} {ls' : List (Nat × Value)} (d : decode cc pc = .ok (.astore i, 2)) (hn : i < nL) (hf : (i, Value.ref x) :: ls.filter (fun q => !(q.1 == i) && !(q.1 + 1 == i && q.2.category == 2)) = ls')
    (k : G X p l e R s m args below meth c nL ck sk Qf (pc + 2) ls' rest σ o) : G X p l e R s m args below meth c nL ck sk Qf pc ls (Value.ref x :: rest) σ o :=
  fun r σ' ho H locs la hR hS hl => lv_astore F.1 F.2.1 d hl hn hf (fun la hl => k r σ' ho H locs la hR hS hl)
theorem g_astore_n (F : FR p s m args c cc nL own X) {i : Fin 4} {x : Nat} {ls' : List (Nat × Value)} (d : decode cc pc = .ok (.astore_n i, 1)) (hn : (i : Nat) < nL) (hf : ((i : Nat), Value.ref x) :: ls.filter (fun q => !(q.1 == (i : Nat)) && !(q.1 + 1 == (i : Nat) && q.2.category == 2)) = ls')
    (k : G X p l e R s m args below meth c nL ck sk Qf (pc + 1) ls' rest σ o) : G X p l e R s m args below meth c nL ck sk Qf pc ls (Value.ref x :: rest) σ o :=
  fun r σ' ho H locs la hR hS hl => lv_astore_n F.1 F.2.1 d rfl hl hn hf (fun la hl => k r σ' ho H locs la hR hS hl)
theorem g_astoreN (F : FR p s m args c cc nL own X) {i : Nat}  {ls' : List (Nat × Value)} (d : decode cc pc = .ok (.astore i, 2)) (hn : i < nL) (hf : (i, Value.null) :: ls.filter (fun q => !(q.1 == i) && !(q.1 + 1 == i && q.2.category == 2)) = ls')
    (k : G X p l e R s m args below meth c nL ck sk Qf (pc + 2) ls' rest σ o) : G X p l e R s m args below meth c nL ck sk Qf pc ls (Value.null :: rest) σ o :=
  fun r σ' ho H locs la hR hS hl => lv_astoreN F.1 F.2.1 d hl hn hf (fun la hl => k r σ' ho H locs la hR hS hl)
theorem g_astore_nN (F : FR p s m args c cc nL own X) {i : Fin 4}  {ls' : List (Nat × Value)} (d : decode cc pc = .ok (.astore_n i, 1)) (hn : (i : Nat) < nL) (hf : ((i : Nat), Value.null) :: ls.filter (fun q => !(q.1 == (i : Nat)) && !(q.1 + 1 == (i : Nat) && q.2.category == 2)) = ls')
    (k : G X p l e R s m args below meth c nL ck sk Qf (pc + 1) ls' rest σ o) : G X p l e R s m args below meth c nL ck sk Qf pc ls (Value.null :: rest) σ o :=
  fun r σ' ho H locs la hR hS hl => lv_astore_nN F.1 F.2.1 d rfl hl hn hf (fun la hl => k r σ' ho H locs la hR hS hl)
theorem g_iinc (F : FR p s m args c cc nL own X) {i : Nat} {n : Int} {x v : Int32} {ls' : List (Nat × Value)} (d : decode cc pc = .ok (.iinc i n, 3)) (j : Nat) (hk : ls[j]? = some (i, .int x)) (hv : Int32.ofInt n = v) (hn : i < nL) (hf : (i, Value.int (x + v)) :: ls.filter (fun q => !(q.1 == i) && !(q.1 + 1 == i && q.2.category == 2)) = ls')
    (k : G X p l e R s m args below meth c nL ck sk Qf (pc + 3) ls' rest σ o) : G X p l e R s m args below meth c nL ck sk Qf pc ls rest σ o :=
  fun r σ' ho H locs la hR hS hl => lv_iinc F.1 F.2.1 d hl hk (by rw [hv]) hn hf (fun la hl => k r σ' ho H locs la hR hS hl)
/-! rows of the memory -/
theorem rep_int {v : Nat} {H : Heap} {n : Nat} (hR : Rep X σ H) (hv : xs X v = 1000 + n) : H[xa X v]? = some (vp_cell (xc X 0) (n, .inl (σ v))) := by
  have h := hR v (by omega)
  rw [hv] at h
  have e : ce (xa X) (xc X) (σ v) (1000 + n) v = .inl (xc X 0, n, .inl (σ v)) := by
    unfold ce
    rw [if_pos (by omega)]
    simp
  rw [e] at h
  exact h
theorem g_iald (F : FR p s m args c cc nL own X) {v n : Nat} {i : Int32} (hv : xs X v = 1000 + n) (d : decode cc pc = .ok (.iaload, 1))
    (k : G X p l e R s m args below meth c nL ck sk Qf (pc + 1) ls (.int (σ v i.toNatClampNeg) :: rest) σ o) : G X p l e R s m args below meth c nL ck sk Qf pc ls (.int i :: .ref (xa X v) :: rest) σ (if ib i n then o else none) :=
  g_gd (fun hib r σ' ho H locs la hR hS hl => by
    have hin := vp_in_iff.mpr hib
    have hlt : i.toNatClampNeg < n := Nat.not_le.mp fun q => hin (Or.inr q)
    exact W.iald (v := .int (σ v i.toNatClampNeg)) F.1 F.2.1 (rep_int hR hv) ((F.2.2.2.2.2.1.2 0 _ rfl).1 n (fun j => .int (σ v j))) (fun q => by cases q) (by show ¬ (i < 0 ∨ (arrV _ _ _).slots.size ≤ _); rw [arrV_size]; exact hin) (by show (arrV _ _ _).slots[_]? = _; rw [arrV_read _ _ hlt]) rfl rfl d (k r σ' ho H locs la hR hS hl))
/-- one cell's numbers change: the world with the new memory -/
theorem rep_set {v : Nat} {H H1 : Heap} {σ2 : Mem} (hR : Rep X σ H) (hx : Cx X s) (hv : xs X v ≠ 0) (h1 : va_at (xD X) classes (xa X v, ce (xa X) (xc X) (σ2 v) (xs X v) v) H1) (hq : ∀ q, q ≠ xa X v → H1[q]? = H[q]?) (ho : ∀ w, w ≠ v → σ2 w = σ w) : Rep X σ2 H1 := by
  intro w hw
  by_cases e : w = v
  · subst e; exact h1
  · rw [ho w e]
    exact (hR w hw).kept (hq _ (fun z => e (hx.2.1 w v hw hv z)))
theorem wr_self {v k : Nat} {x : Int32} : wr σ v k x v = upd (σ v) k x := by
  funext j
  simp [wr, upd]
theorem wr_other {v k w : Nat} {x : Int32} (h : w ≠ v) : wr σ v k x w = σ w := by
  funext j
  simp [wr, h]
theorem g_iast (F : FR p s m args c cc nL own X) {v n : Nat} {i x : Int32} (hv : xs X v = 1000 + n) (d : decode cc pc = .ok (.iastore, 1))
    (k : G X p l e R s m args below meth c nL ck sk Qf (pc + 1) ls rest (wr σ v i.toNatClampNeg x) o) : G X p l e R s m args below meth c nL ck sk Qf pc ls (.int x :: .int i :: .ref (xa X v) :: rest) σ (if ib i n then o else none) :=
  g_gd (fun hib r σ' ho H locs la hR hS hl => by
    have hin := vp_in_iff.mpr hib
    refine W.iast F.1 F.2.1 (rep_int hR hv) ((F.2.2.2.2.2.1.2 0 _ rfl).1 n (fun j => .int (σ v j))) (fun q => by cases q) (by show ¬ (i < 0 ∨ (arrV _ _ _).slots.size ≤ _); rw [arrV_size]; exact hin) rfl rfl d fun H1 e z oq => ?_
    refine k r σ' ho H1 _ la (rep_set hR F.2.2.2.2.2 (by omega) ?_ oq (fun w hw => wr_other hw)) (hS.put z oq (F.2.2.2.2.2.2.2.1 v (by omega))) hl
    rw [wr_self, hv]
    have e1 : ce (xa X) (xc X) (upd (σ v) i.toNatClampNeg x) (1000 + n) v = .inl (xc X 0, n, .inl (upd (σ v) i.toNatClampNeg x)) := by
      unfold ce
      rw [if_pos (by omega)]
      simp
    rw [e1]
    show H1[xa X v]? = some (vp_cell _ _)
    rw [e, vp_cell_i, vp_cell_i, arrV_store]
    congr 2
    funext q
    by_cases hq : q = i.toNatClampNeg
    · subst hq
      simp [updV, upd]
    · simp [updV, upd, hq])
theorem rep_bool {v : Nat} {H : Heap} (hR : Rep X σ H) (hv : xs X v = 20) : H[xa X v]? = some (vp_cell (xc X 1) (8, .inl (σ v))) := by
  have h := hR v (by omega)
  rw [hv] at h
  exact h
theorem g_zald (F : FR p s m args c cc nL own X) {v : Nat} {i : Int32} (hv : xs X v = 20) (d : decode cc pc = .ok (.baload, 1))
    (k : G X p l e R s m args below meth c nL ck sk Qf (pc + 1) ls (.int (σ v i.toNatClampNeg) :: rest) σ o) : G X p l e R s m args below meth c nL ck sk Qf pc ls (.int i :: .ref (xa X v) :: rest) σ (if ib i 8 then o else none) :=
  g_gd (fun hib r σ' ho H locs la hR hS hl => by
    have hin := vp_in_iff.mpr hib
    have hlt : i.toNatClampNeg < 8 := Nat.not_le.mp fun q => hin (Or.inr q)
    exact W.zald (v := .int (σ v i.toNatClampNeg)) F.1 F.2.1 (rep_bool hR hv) ((F.2.2.2.2.2.1.2 1 _ rfl).1 8 (fun j => .int (σ v j))) (fun q => by cases q) (by show ¬ (i < 0 ∨ (arrV _ _ _).slots.size ≤ _); rw [arrV_size]; exact hin) (by show (arrV _ _ _).slots[_]? = _; rw [arrV_read _ _ hlt]) rfl rfl d (k r σ' ho H locs la hR hS hl))
theorem g_zast (F : FR p s m args c cc nL own X) {v : Nat} {i x : Int32} (hv : xs X v = 20) (d : decode cc pc = .ok (.bastore, 1))
    (k : G X p l e R s m args below meth c nL ck sk Qf (pc + 1) ls rest (wr σ v i.toNatClampNeg (x &&& 1)) o) : G X p l e R s m args below meth c nL ck sk Qf pc ls (.int x :: .int i :: .ref (xa X v) :: rest) σ (if ib i 8 then o else none) :=
  g_gd (fun hib r σ' ho H locs la hR hS hl => by
    have hin := vp_in_iff.mpr hib
    refine W.zast F.1 F.2.1 (rep_bool hR hv) ((F.2.2.2.2.2.1.2 1 _ rfl).1 8 (fun j => .int (σ v j))) (fun q => by cases q) (by show ¬ (i < 0 ∨ (arrV _ _ _).slots.size ≤ _); rw [arrV_size]; exact hin) rfl rfl d fun H1 e z oq => ?_
    refine k r σ' ho H1 _ la (rep_set hR F.2.2.2.2.2 (by omega) ?_ oq (fun w hw => wr_other hw)) (hS.put z oq (F.2.2.2.2.2.2.2.1 v (by omega))) hl
    rw [wr_self, hv]
    show H1[xa X v]? = some (vp_cell (xc X 1) (8, .inl (upd (σ v) i.toNatClampNeg (x &&& 1))))
    rw [e, vp_cell_i, vp_cell_i, arrV_store]
    congr 2
    funext q
    by_cases hq : q = i.toNatClampNeg
    · subst hq
      simp [updV, upd, narrow]
    · simp [updV, upd, hq])
theorem rep_ref {v κ t n dd u : Nat} {H : Heap} (hR : Rep X σ H) (hv : xs X v = κ) (hk : (κ = 21 ∧ t = 2 ∧ n = 8 ∧ dd = 8 ∧ u = 2) ∨ (κ = 22 ∧ t = 3 ∧ n = 8 ∧ dd = 23 ∧ u = 2) ∨ (κ = 23 ∧ t = 4 ∧ n = 5 ∧ dd = 1 ∧ u = 42)) : H[xa X v]? = some (vp_cell (xc X t) (n, .inr (.inr (.inr (.inr (fun j => some (xa X (v + (dd + u * j))))))))) := by
  have h := hR v (by omega)
  rw [hv] at h
  rcases hk with ⟨rfl, rfl, rfl, rfl, rfl⟩ | ⟨rfl, rfl, rfl, rfl, rfl⟩ | ⟨rfl, rfl, rfl, rfl, rfl⟩ <;> exact h
theorem g_aald (F : FR p s m args c cc nL own X) {v : Nat} (κ t n dd u : Nat) (C : String) {i : Int32} (hv : xs X v = κ) (hk : (κ = 21 ∧ t = 2 ∧ n = 8 ∧ dd = 8 ∧ u = 2) ∨ (κ = 22 ∧ t = 3 ∧ n = 8 ∧ dd = 23 ∧ u = 2) ∨ (κ = 23 ∧ t = 4 ∧ n = 5 ∧ dd = 1 ∧ u = 42)) (ht : (tys X)[t]? = some (xc X t, .object C)) (d : decode cc pc = .ok (.aaload, 1))
    (k : i.toNatClampNeg < n → G X p l e R s m args below meth c nL ck sk Qf (pc + 1) ls (.ref (xa X (v + (dd + u * i.toNatClampNeg))) :: rest) σ o) : G X p l e R s m args below meth c nL ck sk Qf pc ls (.int i :: .ref (xa X v) :: rest) σ (if ib i n then o else none) :=
  g_gd (fun hib r σ' ho H locs la hR hS hl => by
    have hin := vp_in_iff.mpr hib
    have hlt : i.toNatClampNeg < n := Nat.not_le.mp fun q => hin (Or.inr q)
    exact W.aald (v := .ref (xa X (v + (dd + u * i.toNatClampNeg)))) (ty := .object C) F.1 F.2.1 (rep_ref hR hv hk) ((F.2.2.2.2.2.1.2 t _ ht).1 n (fun j => va_rf (some (xa X (v + (dd + u * j)))))) rfl (fun q => by cases q) (by show ¬ (i < 0 ∨ (arrV _ _ _).slots.size ≤ _); rw [arrV_size]; exact hin) (by show (arrV _ _ _).slots[_]? = _; rw [arrV_read _ _ hlt]; rfl) rfl rfl d (k hlt r σ' ho H locs la hR hS hl))
theorem rep_obj {v ci : Nat} {H : Heap} (hR : Rep X σ H) (hv : xs X v = ci + 1) (hc : ci < 9) : va_at (xD X) classes (xa X v, .inr (ci, fl (xa X) (σ v) v (spc (ci + 1)) 0)) H := by
  have h := hR v (by omega)
  rw [hv] at h
  have e : ce (xa X) (xc X) (σ v) (ci + 1) v = .inr (ci, fl (xa X) (σ v) v (spc (ci + 1)) 0) := by
    unfold ce
    rw [if_neg (by omega), if_neg (by omega), if_neg (by omega), if_neg (by omega), if_neg (by omega)]
    simp
  rw [e] at h
  exact h
theorem g_getV (F : FR p s m args c cc nL own X) {v index ci j : Nat} {w : Value} (hF : FS own index ci j) (hv : xs X v = ci + 1) (hw : (fl (xa X) (σ v) v (spc (ci + 1)) 0)[j]? = some w) (d : decode cc pc = .ok (.getfield index, 3))
    (k : G X p l e R s m args below meth c nL ck sk Qf (pc + 3) ls (w :: rest) σ o) : G X p l e R s m args below meth c nL ck sk Qf pc ls (.ref (xa X v) :: rest) σ o := fun r σ' ho H locs la hR hS hl => by
  obtain ⟨C, T, N, hc, hk, hd, hlk⟩ := hF
  have hci : ci < 9 := (List.getElem?_eq_some_iff.mp hc).1
  have hP : va_P (xD X) classes [(xa X v, .inr (ci, fl (xa X) (σ v) v (spc (ci + 1)) 0))] H := by
    intro q x hx
    cases q with
    | zero => simp at hx; subst hx; exact rep_obj hR hv hci
    | succ q => simp at hx
  exact va_get F.1 F.2.1 F.2.2.2.2.1 (cls_in ci C T N hc) F.2.2.2.1 F.2.2.2.2.2.1 hP 0 rfl hc j hk (F.2.2.2.2.1 _ hlk) (fun x h => by rw [hd] at h; exact h) hw d (k r σ' ho H locs la hR hS hl)
theorem g_getI (F : FR p s m args c cc nL own X) {v index ci j : Nat} (hF : FS own index ci j) (hv : xs X v = ci + 1) (hs : (spc (ci + 1))[j]? = some none) (d : decode cc pc = .ok (.getfield index, 3))
    (k : G X p l e R s m args below meth c nL ck sk Qf (pc + 3) ls (.int (σ v j) :: rest) σ o) : G X p l e R s m args below meth c nL ck sk Qf pc ls (.ref (xa X v) :: rest) σ o :=
  g_getV F hF hv (by have h := fl_int (a := xa X) (f := σ v) (v := v) _ 0 j hs; rw [Nat.zero_add] at h; exact h) d k
theorem g_getR (F : FR p s m args c cc nL own X) {v index ci j dd : Nat} (hF : FS own index ci j) (hv : xs X v = ci + 1) (hs : (spc (ci + 1))[j]? = some (some dd)) (d : decode cc pc = .ok (.getfield index, 3))
    (k : G X p l e R s m args below meth c nL ck sk Qf (pc + 3) ls (.ref (xa X (v + dd)) :: rest) σ o) : G X p l e R s m args below meth c nL ck sk Qf pc ls (.ref (xa X v) :: rest) σ o :=
  g_getV F hF hv (fl_ref _ 0 j hs) d k
theorem g_put (F : FR p s m args c cc nL own X) {v index ci j : Nat} {x : Int32} {ty : FieldType} (hF : FW own index ci j ty) (hv : xs X v = ci + 1) (hs : (spc (ci + 1))[j]? = some none) (hn : narrow ty (.int x) = .int x) (hfit : fits ty (.int x) = true) (d : decode cc pc = .ok (.putfield index, 3))
    (k : G X p l e R s m args below meth c nL ck sk Qf (pc + 3) ls rest (wr σ v j x) o) : G X p l e R s m args below meth c nL ck sk Qf pc ls (.int x :: .ref (xa X v) :: rest) σ o := fun r σ' ho H locs la hR hS hl => by
  obtain ⟨C, T, N, hc, hk, hd, hlk, hfin, hty⟩ := hF
  have hci : ci < 9 := (List.getElem?_eq_some_iff.mp hc).1
  obtain ⟨ty0, htys, hnm⟩ := cls_ty ci C T N hc
  have hK := F.2.2.2.2.2.1
  have hts := F.2.2.2.2.1
  have hin := cls_in ci C T N hc
  have hap := va_apart (own := own) hts hin ty0 htys hnm hK hc
  obtain ⟨rr, h1, cell, q1, q2, q3, q4⟩ := rep_obj hR hv hci
  have hr : rr = (C, T, N) := Option.some.inj (h1.symm.trans hc)
  subst hr
  obtain ⟨hSl, hfc, kC, hkC, hkind⟩ := hK.1 ci _ hc
  obtain ⟨cf, kf, fi, f, hi, hsl⟩ := hSl j hk
  have hlay := hts _ (hin _ (u_in_lay hk))
  unfold u_lay at hlay
  rw [if_neg (by rw [hfin]; decide)] at hlay
  have hst := (u_facts hfc hkC (u_lays hts hin hk) hi).1
  have h6 := u_store hfc hkC hkind hlay hi hty hn hfit
  refine W.putK F.1 F.2.1 (f := f) ⟨F.2.2.2.1, hts _ hlk, ⟨_, _, _, by rw [hd] at hi; exact hi⟩, hst⟩ (by rw [q2]; exact h6) q1 q3 (by rw [hsl]; exact k2_hasslot (q4 j hk)) rfl rfl d fun H' e1 e2 e3 => ?_
  rw [hsl] at e1 ⊢
  refine k r σ' ho H' _ la (rep_set hR F.2.2.2.2.2 (by omega) ?_ e3 (fun w hw => wr_other hw)) (hS.put e2 e3 (F.2.2.2.2.2.2.2.1 v (by omega))) hl
  have e : ce (xa X) (xc X) (wr σ v j x v) (xs X v) v = .inr (ci, (fl (xa X) (σ v) v (spc (ci + 1)) 0).set j (.int x)) := by
    rw [wr_self, hv]
    unfold ce
    rw [if_neg (by omega), if_neg (by omega), if_neg (by omega), if_neg (by omega), if_neg (by omega), fl_set _ 0 j hs, Nat.zero_add]
    simp
  rw [e]
  have hl2 : j < (fl (xa X) (σ v) v (spc (ci + 1)) 0).length := by
    rw [fl_len]
    exact (List.getElem?_eq_some_iff.mp hs).1
  exact ⟨_, hc, t_OB.to (V := updV (vp_V _) j (.int x)) ⟨_, e1, q2, q3, t_set q4 hap hk (.int x)⟩ (fun q _ => vp_updV_set hl2 (.int x) q)⟩
theorem g_putI (F : FR p s m args c cc nL own X) {v index ci j : Nat} {x : Int32} (hF : FW own index ci j .int) (hv : xs X v = ci + 1) (hs : (spc (ci + 1))[j]? = some none) (d : decode cc pc = .ok (.putfield index, 3))
    (k : G X p l e R s m args below meth c nL ck sk Qf (pc + 3) ls rest (wr σ v j x) o) : G X p l e R s m args below meth c nL ck sk Qf pc ls (.int x :: .ref (xa X v) :: rest) σ o :=
  g_put F hF hv hs rfl rfl d k
theorem g_putZ (F : FR p s m args c cc nL own X) {v index ci j : Nat} {x : Int32} (hF : FW own index ci j .boolean) (hv : xs X v = ci + 1) (hs : (spc (ci + 1))[j]? = some none) (d : decode cc pc = .ok (.putfield index, 3))
    (k : G X p l e R s m args below meth c nL ck sk Qf (pc + 3) ls rest (wr σ v j x) o) : G X p l e R s m args below meth c nL ck sk Qf pc ls (.int x :: .ref (xa X v) :: rest) σ (if x &&& 1 = x then o else none) :=
  g_gd (fun q => g_put F hF hv hs (by show Value.int (x &&& 1) = _; rw [q]) (by have h := fits_narrow_boolean x; rw [show narrow .boolean (.int x) = .int (x &&& 1) from rfl, q] at h; exact h) d k)
/-! calls and ends -/
def CSV (own : String) (index : Nat) (y : MethodName) (bytes : ByteArray) (maxL : Nat) (ret : Option FieldType) (n : Nat) : Prop :=
  Cond.methodLink own index y ∈ gw ∧ Cond.instanceMethod y ∈ gw ∧ Cond.selects y.cls y y ∈ gw ∧ Cond.initialized y.cls ∈ gw ∧ Cond.code y bytes maxL ret ∈ gw ∧ (y.cls ≠ "java/lang/invoke/MethodHandle" ∧ y.cls ≠ "java/lang/invoke/VarHandle") ∧ (parseMethodDescriptor y.desc).map (fun d => d.parameters.length) = some n
def CSS (own : String) (index : Nat) (y : MethodName) (bytes : ByteArray) (maxL : Nat) (ret : Option FieldType) (n : Nat) : Prop :=
  Cond.methodLink own index y ∈ gw ∧ Cond.static y ∈ gw ∧ Cond.initialized y.cls ∈ gw ∧ Cond.code y bytes maxL ret ∈ gw ∧ (y.cls ≠ "java/lang/invoke/MethodHandle" ∧ y.cls ≠ "java/lang/invoke/VarHandle") ∧ (parseMethodDescriptor y.desc).map (fun d => d.parameters.length) = some n
def CSN (own : String) (index : Nat) (y : MethodName) (host : String) (bytes : ByteArray) (maxL : Nat) (ret : Option FieldType) (n : Nat) : Prop :=
  (own, index, y, host) ∈ nestL ∧ Cond.static y ∈ gw ∧ Cond.initialized y.cls ∈ gw ∧ Cond.code y bytes maxL ret ∈ gw ∧ (y.cls ≠ "java/lang/invoke/MethodHandle" ∧ y.cls ≠ "java/lang/invoke/VarHandle") ∧ (parseMethodDescriptor y.desc).map (fun d => d.parameters.length) = some n
theorem g_callV {ρ' : Type} {vl : ρ' → Option Value} {y : MethodName} {bytes : ByteArray} {maxL dp n index v ci : Nat} {ret : Option FieldType} {As st : List Value} {oc : Option (ρ' × Mem)} {kf : ρ' → Mem → Option (ρ × Mem)}
    (F : FR p s m args c cc nL own X) (hC : CT X l y bytes maxL ret dp vl (.ref (xa X v) :: As) σ oc) (hW : CSV own index y bytes maxL ret n) (hv : xs X v = ci + 1) (hcls : (classes[ci]?).map (fun q => q.1) = some y.cls) (hst : st = As.reverse ++ .ref (xa X v) :: rest) (hn : As.length = n) (hcat : (rest.map fun v => v.category).sum ≤ 8) (hroom : dp + 1 ≤ R.frames ∧ 8 + (maxL + 11) + 35 * dp ≤ R.locals) (hck : ck ≤ R.cells ∧ sk ≤ R.slots) (d : decode cc pc = .ok (.invokevirtual index, 3))
    (k : ∀ r2 σ2, oc = some (r2, σ2) → G X p l e R s m args below meth c nL ck sk Qf (pc + 3) ls ((vl r2).toList ++ rest) σ2 (kf r2 σ2)) : G X p l e R s m args below meth c nL ck sk Qf pc ls st σ (bd oc kf) := by
  subst hst
  cases ho2 : oc with
  | none => exact g_no
  | some w =>
    obtain ⟨r2, σ2⟩ := w
    intro r σ' ho H locs la hR hS hl
    obtain ⟨hlink, hinst, hsel, hini, hcode, hy, hpar⟩ := hW
    obtain ⟨hx, hb, hml, hown, hts, hcx⟩ := F
    have hlen : ∀ sig, parseMethodDescriptor y.desc = some sig → n = sig.parameters.length := fun sig h => by
      rw [h] at hpar
      exact (Option.some.inj hpar).symm
    have hws : ∀ w ∈ (Cond.code y bytes maxL ret :: gw), ∀ (a' : Array Value) (U : State), s.WarmedH U.vm → w.before a' U = true := fun w hw a' U hW => by
      have hw' : w ∈ gw := (List.mem_cons.mp hw).elim (fun q => by rw [q]; exact hcode) id
      exact word_at hW (good_of_word (gw_ok w hw')) (hts w hw')
    obtain ⟨q, hq, hqc⟩ : ∃ q, classes[ci]? = some q ∧ q.1 = y.cls := by
      cases hc : classes[ci]? with
      | none => rw [hc] at hcls; cases hcls
      | some q => rw [hc] at hcls; exact ⟨q, rfl, Option.some.inj hcls⟩
    have hci : ci < 9 := (List.getElem?_eq_some_iff.mp hq).1
    have hrec : ∃ cellB : Cell, H[xa X v]? = some cellB ∧ cellB.vm.isStatics = false ∧ s.vm.findClass y.cls = some cellB.cls := by
      obtain ⟨q', h1, cell, g1, g2, g3, -⟩ := rep_obj hR hv hci
      exact ⟨cell, g1, by rw [g3]; rfl, by rw [g2, ← hqc]; exact (hcx.1.1 ci q hq).2.1⟩
    have run := va_runV (cells := ck) (slots := sk) (locs := locs) (H := H) (g := F0 m pc la (As.reverse ++ .ref (xa X v) :: rest)) (rest := rest) (As := As) (b := xa X v) (C := y.cls) (n := n) (p := p) (e := e) (R := R) (below := below) (meth := meth) ⟨hx, hb, hml, hown, hts⟩ (hC r2 σ2 ho2)
      ⟨⟨rfl, rfl, hroom.1, hroom.2, hws, List.mem_cons_self, hts _ hcode, hts _ hini, hy, hlen, hts _ hlink⟩, hts _ hinst, hts _ hsel⟩
      ⟨fun a U g mk q => ⟨q.1, q.2.1, Cx.same (u := U) (U := U.calling g mk a) rfl rfl q.2.2⟩, hrec, fun U hU hW => ⟨rfl, by rw [hU]; exact hR, Cx.warm hW (by rw [hU]; exact hS.2.1) hcx⟩⟩
      rfl hn hl.1 rfl (lv_room hcat) d hck
    intro T hT XX
    obtain ⟨v', st₀, t, T', L, h0, X', hL, e1, e2, hq2, hgo⟩ := run T hT XX
    obtain ⟨hv', hRep, hF⟩ := hq2
    cases hv'
    rw [← e1] at hRep
    obtain ⟨hz, hk⟩ := hF
    rw [h0, ← e1] at hz hk
    obtain ⟨t2, a1, b1⟩ := k r2 σ2 ho2 r σ' ho T'.heap (locs ++ L) la hRep ⟨Nat.le_trans hS.1 hz, fun q h1 h2 => by rw [hk q (Nat.lt_of_lt_of_le h1 hS.1) h2]; exact hS.2.1 q h1 h2, fun q hq => by
      rcases List.mem_append.mp hq with h | h
      · exact hS.2.2 q h
      · exact hL q h⟩ hl T' rfl X'
    exact ⟨t2, hgo t2 a1, b1⟩
theorem g_callS {ρ' : Type} {vl : ρ' → Option Value} {y : MethodName} {bytes : ByteArray} {maxL dp n index : Nat} {ret : Option FieldType} {As st : List Value} {oc : Option (ρ' × Mem)} {kf : ρ' → Mem → Option (ρ × Mem)}
    (F : FR p s m args c cc nL own X) (hC : CT X l y bytes maxL ret dp vl As σ oc) (hW : CSS own index y bytes maxL ret n) (hst : st = As.reverse ++ rest) (hn : As.length = n) (hcat : (rest.map fun v => v.category).sum ≤ 8) (hroom : dp + 1 ≤ R.frames ∧ 8 + (maxL + 11) + 35 * dp ≤ R.locals) (hck : ck ≤ R.cells ∧ sk ≤ R.slots) (d : decode cc pc = .ok (.invokestatic index, 3))
    (k : ∀ r2 σ2, oc = some (r2, σ2) → G X p l e R s m args below meth c nL ck sk Qf (pc + 3) ls ((vl r2).toList ++ rest) σ2 (kf r2 σ2)) : G X p l e R s m args below meth c nL ck sk Qf pc ls st σ (bd oc kf) := by
  subst hst
  cases ho2 : oc with
  | none => exact g_no
  | some w =>
    obtain ⟨r2, σ2⟩ := w
    intro r σ' ho H locs la hR hS hl
    obtain ⟨hlink, hstat, hini, hcode, hy, hpar⟩ := hW
    obtain ⟨hx, hb, hml, hown, hts, hcx⟩ := F
    have hlen : ∀ sig, parseMethodDescriptor y.desc = some sig → n = sig.parameters.length := fun sig h => by
      rw [h] at hpar
      exact (Option.some.inj hpar).symm
    have hws : ∀ w ∈ (Cond.code y bytes maxL ret :: gw), ∀ (a' : Array Value) (U : State), s.WarmedH U.vm → w.before a' U = true := fun w hw a' U hW => by
      have hw' : w ∈ gw := (List.mem_cons.mp hw).elim (fun q => by rw [q]; exact hcode) id
      exact word_at hW (good_of_word (gw_ok w hw')) (hts w hw')
    have run := va_runS (cells := ck) (slots := sk) (locs := locs) (H := H) (g := F0 m pc la (As.reverse ++ rest)) (rest := rest) (As := As) (n := n) (p := p) (e := e) (R := R) (below := below) (meth := meth) ⟨hx, hb, hml, hown, hts⟩ (hC r2 σ2 ho2)
      ⟨⟨rfl, rfl, hroom.1, hroom.2, hws, List.mem_cons_self, hts _ hcode, hts _ hini, hy, hlen, hts _ hlink⟩, hts _ hstat⟩
      ⟨fun a U g mk q => ⟨q.1, q.2.1, Cx.same (u := U) (U := U.calling g mk a) rfl rfl q.2.2⟩, fun U hU hW => ⟨rfl, by rw [hU]; exact hR, Cx.warm hW (by rw [hU]; exact hS.2.1) hcx⟩⟩
      rfl hn hl.1 rfl (lv_room hcat) d hck
    intro T hT XX
    obtain ⟨v', st₀, t, T', L, h0, X', hL, e1, e2, hq2, hgo⟩ := run T hT XX
    obtain ⟨hv', hRep, hF⟩ := hq2
    cases hv'
    rw [← e1] at hRep
    obtain ⟨hz, hk⟩ := hF
    rw [h0, ← e1] at hz hk
    obtain ⟨t2, a1, b1⟩ := k r2 σ2 ho2 r σ' ho T'.heap (locs ++ L) la hRep ⟨Nat.le_trans hS.1 hz, fun q h1 h2 => by rw [hk q (Nat.lt_of_lt_of_le h1 hS.1) h2]; exact hS.2.1 q h1 h2, fun q hq => by
      rcases List.mem_append.mp hq with h | h
      · exact hS.2.2 q h
      · exact hL q h⟩ hl T' rfl X'
    exact ⟨t2, hgo t2 a1, b1⟩
theorem g_callSN {ρ' : Type} {vl : ρ' → Option Value} {y : MethodName} {bytes : ByteArray} {maxL dp n index : Nat} {ret : Option FieldType} {As st : List Value} {oc : Option (ρ' × Mem)} {kf : ρ' → Mem → Option (ρ × Mem)}
    (F : FR p s m args c cc nL own X) (hC : CT X l y bytes maxL ret dp vl As σ oc) {host : String} (hW : CSN own index y host bytes maxL ret n) (hst : st = As.reverse ++ rest) (hn : As.length = n) (hcat : (rest.map fun v => v.category).sum ≤ 8) (hroom : dp + 1 ≤ R.frames ∧ 8 + (maxL + 11) + 35 * dp ≤ R.locals) (hck : ck ≤ R.cells ∧ sk ≤ R.slots) (d : decode cc pc = .ok (.invokestatic index, 3))
    (k : ∀ r2 σ2, oc = some (r2, σ2) → G X p l e R s m args below meth c nL ck sk Qf (pc + 3) ls ((vl r2).toList ++ rest) σ2 (kf r2 σ2)) : G X p l e R s m args below meth c nL ck sk Qf pc ls st σ (bd oc kf) := by
  subst hst
  cases ho2 : oc with
  | none => exact g_no
  | some w =>
    obtain ⟨r2, σ2⟩ := w
    intro r σ' ho H locs la hR hS hl
    obtain ⟨hlink, hstat, hini, hcode, hy, hpar⟩ := hW
    have hcx0 := F.2.2.2.2.2.2.2.2.1
    obtain ⟨hx, hb, hml, hown, hts, hcx⟩ := F
    have hlen : ∀ sig, parseMethodDescriptor y.desc = some sig → n = sig.parameters.length := fun sig h => by
      rw [h] at hpar
      exact (Option.some.inj hpar).symm
    have hws : ∀ w ∈ (Cond.code y bytes maxL ret :: gw), ∀ (a' : Array Value) (U : State), s.WarmedH U.vm → w.before a' U = true := fun w hw a' U hW => by
      have hw' : w ∈ gw := (List.mem_cons.mp hw).elim (fun q => by rw [q]; exact hcode) id
      exact word_at hW (good_of_word (gw_ok w hw')) (hts w hw')
    have run := va_runSN (host := host) (cells := ck) (slots := sk) (locs := locs) (H := H) (g := F0 m pc la (As.reverse ++ rest)) (rest := rest) (As := As) (n := n) (p := p) (e := e) (R := R) (below := below) (meth := meth) ⟨hx, hb, hml, hown, hts⟩ (hC r2 σ2 ho2)
      ⟨⟨⟨rfl, rfl, hroom.1, hroom.2, hws, List.mem_cons_self⟩, hts _ hcode, hts _ hini, hy, hlen, va_Nw.use rfl (hcx0 _ hlink)⟩, hts _ hstat, trivial⟩
      ⟨fun a U g mk q => ⟨q.1, q.2.1, Cx.same (u := U) (U := U.calling g mk a) rfl rfl q.2.2⟩, fun U hU hW => ⟨rfl, by rw [hU]; exact hR, Cx.warm hW (by rw [hU]; exact hS.2.1) hcx⟩⟩
      rfl hn hl.1 rfl (lv_room hcat) d hck
    intro T hT XX
    obtain ⟨v', st₀, t, T', L, h0, X', hL, e1, e2, hq2, hgo⟩ := run T hT XX
    obtain ⟨hv', hRep, hF⟩ := hq2
    cases hv'
    rw [← e1] at hRep
    obtain ⟨hz, hk⟩ := hF
    rw [h0, ← e1] at hz hk
    obtain ⟨t2, a1, b1⟩ := k r2 σ2 ho2 r σ' ho T'.heap (locs ++ L) la hRep ⟨Nat.le_trans hS.1 hz, fun q h1 h2 => by rw [hk q (Nat.lt_of_lt_of_le h1 hS.1) h2]; exact hS.2.1 q h1 h2, fun q hq => by
      rcases List.mem_append.mp hq with h | h
      · exact hS.2.2 q h
      · exact hL q h⟩ hl T' rfl X'
    exact ⟨t2, hgo t2 a1, b1⟩
theorem g_oe {w : Option Nat} (h1 : w = none → G X p l e R s m args below meth c nL ck sk Qf pc ls (.null :: rest) σ o1) {f : Nat → Option (ρ × Mem)} (h2 : ∀ v, w = some v → G X p l e R s m args below meth c nL ck sk Qf pc ls (.ref (xa X v) :: rest) σ (f v)) : G X p l e R s m args below meth c nL ck sk Qf pc ls ((vQ X w).toList ++ rest) σ (oe w o1 f) := by
  cases w with
  | none => exact h1 rfl
  | some v => exact h2 v rfl
end ROWS
section ENDS
variable {X : CX} {p : Program} {l : Launch} {e : Env} {R : Room} {s : State} {m : MethodId} {args : Array Value} {below : List Frame} {meth : Method} {c : Code} {cc : ByteArray} {own : String} {nL : Nat} {pc : Nat} {ls : List (Nat × Value)} {σ : Mem}
abbrev QI (X : CX) (below : List Frame) (args : Array Value) (s : State) {ρ : Type} (vl : ρ → Option Value) : ρ → Mem → State → Prop := fun r σ' => MQ below (QC X (vl r) σ') args s 0 0 (xA X)
theorem g_iret (F : FR p s m args c cc nL own X) (hlk : meth.locks = false) (hr : meth.sig.returnType = some .int) {v : Int32} (d : decode cc pc = .ok (.ireturn, 1)) : G X p l e R s m args below meth c nL 0 0 (QI X below args s vI) pc ls [.int v] σ (some (v, σ)) :=
  fun r σ' ho H locs la hR hS hl => by
    cases ho
    exact W.zret F.1 F.2.1 hr rfl (fun t ht _ => ⟨rfl, by rw [ht]; exact hR, hS.F ht⟩) hS.2.2 d hlk
theorem g_zretC (F : FR p s m args c cc nL own X) (hlk : meth.locks = false) (hr : meth.sig.returnType = some .boolean) {v : Int32} (hn : v &&& 1 = v) (d : decode cc pc = .ok (.ireturn, 1)) : G X p l e R s m args below meth c nL 0 0 (QI X below args s vI) pc ls [.int v] σ (some (v, σ)) :=
  fun r σ' ho H locs la hR hS hl => by
    cases ho
    exact W.zret F.1 F.2.1 hr (by show Value.int (v &&& 1) = _; rw [hn]) (fun t ht _ => ⟨rfl, by rw [ht]; exact hR, hS.F ht⟩) hS.2.2 d hlk
theorem g_zret (F : FR p s m args c cc nL own X) (hlk : meth.locks = false) (hr : meth.sig.returnType = some .boolean) {v : Int32} (d : decode cc pc = .ok (.ireturn, 1)) : G X p l e R s m args below meth c nL 0 0 (QI X below args s vI) pc ls [.int v] σ (if v &&& 1 = v then some (v, σ) else none) :=
  g_gd (fun q => g_zretC F hlk hr q d)
theorem g_vret (F : FR p s m args c cc nL own X) (hlk : meth.locks = false) (hr : meth.sig.returnType = none) (d : decode cc pc = .ok (.return_, 1)) : G X p l e R s m args below meth c nL 0 0 (QI X below args s vU) pc ls [] σ (some ((), σ)) :=
  fun r σ' ho H locs la hR hS hl => by
    cases ho
    exact W.vret F.1 F.2.1 hr (fun t ht _ => ⟨rfl, by rw [ht]; exact hR, hS.F ht⟩) hS.2.2 d hlk
theorem g_aret (F : FR p s m args c cc nL own X) (hlk : meth.locks = false) {C : String} (hr : meth.sig.returnType = some (.object C)) {v : Nat} (d : decode cc pc = .ok (.areturn, 1)) : G X p l e R s m args below meth c nL 0 0 (QI X below args s (vQ X)) pc ls [.ref (xa X v)] σ (some (some v, σ)) :=
  fun r σ' ho H locs la hR hS hl => by
    cases ho
    exact W.aret F.1 F.2.1 hr (Or.inl ⟨_, rfl⟩) (Or.inr ⟨_, rfl⟩) (fun t ht _ => ⟨rfl, by rw [ht]; exact hR, hS.F ht⟩) hS.2.2 d hlk
theorem g_aretN (F : FR p s m args c cc nL own X) (hlk : meth.locks = false) {C : String} (hr : meth.sig.returnType = some (.object C)) (d : decode cc pc = .ok (.areturn, 1)) : G X p l e R s m args below meth c nL 0 0 (QI X below args s (vQ X)) pc ls [.null] σ (some (none, σ)) :=
  fun r σ' ho H locs la hR hS hl => by
    cases ho
    exact W.aret F.1 F.2.1 hr (Or.inl ⟨_, rfl⟩) (Or.inl rfl) (fun t ht _ => ⟨rfl, by rw [ht]; exact hR, hS.F ht⟩) hS.2.2 d hlk
theorem CT_of {ρ : Type} {y : MethodName} {bytes : ByteArray} {maxL dp : Nat} {ret : Option FieldType} {vl : ρ → Option Value} {av : List Value} {o : Option (ρ × Mem)} (hy : plainFor y = true) (hlen : (lg_sl av).length ≤ maxL)
    (body : ∀ p e s m args below meth c, FR p s m args c bytes maxL y.cls X → meth.locks = false → meth.sig.returnType = ret → G X p l e (rmD dp) s m args below meth c maxL 0 0 (QI X below args s vl) 0 (lv_args 0 av) [] σ o) : CT X l y bytes maxL ret dp vl av σ o := by
  intro r σ' ho
  refine va_MetF (cc := bytes) (maxL := maxL) (ret := ret) hy rfl ?_
  intro p e s m args below meth c s₁ B hml hv
  obtain ⟨rfl, hR, hX⟩ := hv
  have hts := atoms_spec (ws := (Cond.code y bytes maxL ret :: gw)) B.pre
  rw [lg_entry_eq]
  exact body p e s m _ below meth c ⟨B.exec, B.bytes, hml, findClass_of_methodNamed B.named, fun w hw => hts w (List.mem_cons_of_mem _ hw), hX⟩ B.notSynchronized B.returns r σ' ho s.heap [] _ hR va_S.rf (lv_entry av hlen)
end ENDS
end
section
def lt {α β : Type} (x : α) (f : α → β) : β := f x
/-- the first n places of cell v, laid over those of cell w -/
def cpy (σ : Mem) (v w n : Nat) : Mem := fun b j => if b = w ∧ j < n then σ v j else σ b j
abbrev FU : Nat := 4096
section ROWS2
variable {ρ : Type} {X : CX} {p : Program} {l : Launch} {e : Env} {R : Room} {s : State} {m : MethodId} {args : Array Value} {below : List Frame} {meth : Method} {c : Code} {cc : ByteArray} {own : String} {nL ck sk : Nat} {Qf : ρ → Mem → State → Prop} {pc : Nat} {ls : List (Nat × Value)} {rest : List Value} {σ : Mem} {o o1 o2 : Option (ρ × Mem)}
theorem g_ltI {x : Int32} {f : Int32 → Option (ρ × Mem)} (k : ∀ y, y = x → G X p l e R s m args below meth c nL ck sk Qf pc ls (.int y :: rest) σ (f y)) : G X p l e R s m args below meth c nL ck sk Qf pc ls (.int x :: rest) σ (lt x f) := k x rfl
theorem g_ltM {st : List Value} {f : Mem → Option (ρ × Mem)} (k : ∀ τ, τ = σ → G X p l e R s m args below meth c nL ck sk Qf pc ls st τ (f τ)) : G X p l e R s m args below meth c nL ck sk Qf pc ls st σ (lt σ f) := k σ rfl
theorem g_sub {ls' : List (Nat × Value)} (ks : List Nat) (hp : lv_pick ls ks = ls') {st : List Value} (k : G X p l e R s m args below meth c nL ck sk Qf pc ls' st σ o) : G X p l e R s m args below meth c nL ck sk Qf pc ls st σ o :=
  fun r σ' ho H locs la hR hS hl => k r σ' ho H locs la hR hS (lv_sub hl ks hp)
theorem g_pt {q : Prop} [Decidable q] (hq : q) {st : List Value} (k : G X p l e R s m args below meth c nL ck sk Qf pc ls st σ (if q then o1 else none)) : G X p l e R s m args below meth c nL ck sk Qf pc ls st σ o1 := by rw [if_pos hq] at k; exact k
theorem g_pf {q : Prop} [Decidable q] (hq : ¬ q) {st : List Value} (k : G X p l e R s m args below meth c nL ck sk Qf pc ls st σ (if q then none else o1)) : G X p l e R s m args below meth c nL ck sk Qf pc ls st σ o1 := by rw [if_neg hq] at k; exact k
theorem g_ialdC (F : FR p s m args c cc nL own X) {v n : Nat} {i : Int32} (j : Nat) (hj : ib i n) (hn : i.toNatClampNeg = j) (hv : xs X v = 1000 + n) (d : decode cc pc = .ok (.iaload, 1))
    (k : G X p l e R s m args below meth c nL ck sk Qf (pc + 1) ls (.int (σ v j) :: rest) σ o) : G X p l e R s m args below meth c nL ck sk Qf pc ls (.int i :: .ref (xa X v) :: rest) σ o := by
  subst hn
  exact g_pt hj (g_iald F hv d k)
theorem g_iastC (F : FR p s m args c cc nL own X) {v n : Nat} {i x : Int32} (j : Nat) (hj : ib i n) (hn : i.toNatClampNeg = j) (hv : xs X v = 1000 + n) (d : decode cc pc = .ok (.iastore, 1))
    (k : G X p l e R s m args below meth c nL ck sk Qf (pc + 1) ls rest (wr σ v j x) o) : G X p l e R s m args below meth c nL ck sk Qf pc ls (.int x :: .int i :: .ref (xa X v) :: rest) σ o := by
  subst hn
  exact g_pt hj (g_iast F hv d k)
theorem g_tsIn (F : FR p s m args c cc nL own X) {dflt lo hi off : Int} {offs : Array Int} {len tgt : Nat} {x : Int32} (d : decode cc pc = .ok (.tableswitch dflt lo hi offs, len)) (v : Int32) (hx : x = v) (h1 : ¬ v.toInt < lo) (h2 : ¬ hi < v.toInt) (ho : offs[(v.toInt - lo).toNat]? = some off) (ht : (pc : Int) + off = (tgt : Int))
    (k : G X p l e R s m args below meth c nL ck sk Qf tgt ls rest σ o) : G X p l e R s m args below meth c nL ck sk Qf pc ls (.int x :: rest) σ o := by
  subst hx
  exact fun r σ' ho2 H locs la hR hS hl => lv_tableIn F.1 F.2.1 d h1 h2 ho ht (k r σ' ho2 H locs la hR hS hl)
theorem g_tsOut (F : FR p s m args c cc nL own X) {dflt lo hi : Int} {offs : Array Int} {len tgt : Nat} {x : Int32} (d : decode cc pc = .ok (.tableswitch dflt lo hi offs, len)) (h : x.toInt < lo ∨ hi < x.toInt) (ht : (pc : Int) + dflt = (tgt : Int))
    (k : G X p l e R s m args below meth c nL ck sk Qf tgt ls rest σ o) : G X p l e R s m args below meth c nL ck sk Qf pc ls (.int x :: rest) σ o :=
  fun r σ' ho2 H locs la hR hS hl => lv_tableOut F.1 F.2.1 d h ht (k r σ' ho2 H locs la hR hS hl)
theorem g_lks (F : FR p s m args c cc nL own X) {dflt off : Int} {ps : Array (Int × Int)} {len tgt : Nat} {x : Int32} (d : decode cc pc = .ok (.lookupswitch dflt ps, len)) (hp : (ps.toList.zip (ps.toList.drop 1)).all (fun (a, next) => a.1 < next.1) = true) (ho : Op.lookupswitch.offset ps.toList dflt x.toInt = off) (ht : (pc : Int) + off = (tgt : Int))
    (k : G X p l e R s m args below meth c nL ck sk Qf tgt ls rest σ o) : G X p l e R s m args below meth c nL ck sk Qf pc ls (.int x :: rest) σ o :=
  fun r σ' ho2 H locs la hR hS hl => lv_lookup F.1 F.2.1 d hp ho ht (k r σ' ho2 H locs la hR hS hl)
theorem ts_ne {x v : Int32} (z : Int) (hz : v.toInt = z) (h : ¬ x = v) : ¬ x.toInt = z := fun q => h (Int32.toInt_inj.mp (q.trans hz.symm))
def CPY (own : String) (index : Nat) : Prop := Cond.methodLink own index arraycopyName ∈ gw ∧ Cond.native arraycopyName ∈ gw ∧ Cond.static arraycopyName ∈ gw ∧ Cond.initialized "java/lang/System" ∈ gw
theorem cpy_other {v w n b : Nat} (h : b ≠ w) : cpy σ v w n b = σ b := by
  funext j
  simp [cpy, h]
theorem g_copy (F : FR p s m args c cc nL own X) {v w n index : Nat} {nn : Int32} (hW : CPY own index) (hv : xs X v = 1000 + n) (hw : xs X w = 1000 + n) (hnn : nn.toInt = n)
    (hroom : 1 ≤ R.frames ∧ (rest.map fun v => v.category).sum + (nativeFrameWords "java/lang/System" "arraycopy" 5 + 11) ≤ R.locals) (d : decode cc pc = .ok (.invokestatic index, 3))
    (k : G X p l e R s m args below meth c nL ck sk Qf (pc + 3) ls rest (cpy σ v w n) o) : G X p l e R s m args below meth c nL ck sk Qf pc ls (.int nn :: .int 0 :: .ref (xa X w) :: .int 0 :: .ref (xa X v) :: rest) σ o := by
  intro r σ' ho H locs la hR hS hl T hT XX
  obtain ⟨h1, h2, h3, h4⟩ := hW
  have hts := F.2.2.2.2.1
  have hn3 : ¬ nn < 0 := by rw [Int32.lt_iff_toInt_lt, hnn]; simp
  have hnc : nn.toNatClampNeg = n := by show nn.toInt.toNat = n; rw [hnn]; rfl
  have hz : ¬ (0 : Int32) < 0 := by decide
  have hz0 : (0 : Int32).toNatClampNeg = 0 := by decide
  have hz1 : (0 : Int32).toInt = 0 := by decide
  have hc0 : H[xa X v]? = some (vp_cell (xc X 0) (n, .inl (σ v))) := rep_int hR hv
  have hc1 : H[xa X w]? = some (vp_cell (xc X 0) (n, .inl (σ w))) := rep_int hR hw
  have hA := F.2.2.2.2.2.1.2 0 _ (rfl : (tys X)[0]? = some (xc X 0, .int))
  obtain ⟨-, k0, hk0, cm0, hkk0⟩ := hA.1 n (fun j => .int (σ v j))
  obtain ⟨-, k1, hk1, cm1, hkk1⟩ := hA.1 n (fun j => .int (σ w j))
  obtain ⟨vm', X', step⟩ := XX.arraycopy F.1 F.2.2.2.1 (hts _ h1) (hts _ h2) (hts _ h3) (hts _ h4) (src := xa X v) (dst := xa X w) (cs := vp_cell (xc X 0) (n, .inl (σ v))) (cd := vp_cell (xc X 0) (n, .inl (σ w))) (srcPos := 0) (destPos := 0) (n := nn) (by rw [hT]; exact hc0) (by rw [hT]; exact hc1)
    (fun _ h => by cases h) (fun _ h => by cases h) (fun h => by cases h) (fun h => by cases h) hk0 hk1 hkk0 hkk1 (by simp [refKind]) hz hz hn3
    (by rw [hz1, hnn]; show ¬ _ > ((arrV (xc X 0) n (fun j => .int (σ v j))).slots.size : Int); rw [arrV_size]; omega)
    (by rw [hz1, hnn]; show ¬ _ > ((arrV (xc X 0) n (fun j => .int (σ w j))).slots.size : Int); rw [arrV_size]; omega)
    (fun vm₁ _ i hi => by
      have e : (vp_cell (xc X 0) (n, .inl (σ v))).slots.getD ((0 : Int32).toNatClampNeg + i) .null = .int (σ v ((0 : Int32).toNatClampNeg + i)) := by
        show (arrV (xc X 0) n (fun j => .int (σ v j))).slots.getD _ _ = _
        rw [Array.getD_eq_getD_getElem?, arrV_read _ _ (by rw [hz0]; omega)]
        rfl
      refine ⟨?_, ?_⟩
      · rw [e]
        rfl
      · rw [e]
        exact trivial)
    (g := F0 m pc la (.int nn :: .int 0 :: .ref (xa X w) :: .int 0 :: .ref (xa X v) :: rest)) rfl (by rw [F.2.2.1]; exact hl.1) (rest := rest) rfl (by rw [F.2.1]; exact d) hroom.1 (by have := hroom.2; show 2 * 0 + _ + _ ≤ _; omega)
  have e1 : copied (vp_cell (xc X 0) (n, .inl (σ v))) (vp_cell (xc X 0) (n, .inl (σ w))) 0 0 nn = vp_cell (xc X 0) (n, .inl (va_cpy (σ v) (σ w) (0 : Int32).toNatClampNeg (0 : Int32).toNatClampNeg nn.toNatClampNeg)) := va_copied (fun z => .int z) (xc X 0) (xc X 0) (σ v) (σ w) (by rw [hz0, hnc]; omega)
  rw [hz0, hnc] at e1
  rw [e1] at X' step
  have hl0 : xa X w < H.size := (Array.getElem?_eq_some_iff.mp hc1).1
  have hheap : ((T.setVm vm').setCell (xa X w) (vp_cell (xc X 0) (n, .inl (va_cpy (σ v) (σ w) 0 0 n)))).heap = H.setIfInBounds (xa X w) (vp_cell (xc X 0) (n, .inl (va_cpy (σ v) (σ w) 0 0 n))) := by rw [← hT]; rfl
  have oq : ∀ q : Nat, q ≠ xa X w → (H.setIfInBounds (xa X w) (vp_cell (xc X 0) (n, .inl (va_cpy (σ v) (σ w) 0 0 n))))[q]? = H[q]? := fun q hq => by simp [Array.getElem?_setIfInBounds, Ne.symm hq]
  have ecp : va_cpy (σ v) (σ w) 0 0 n = cpy σ v w n w := by
    funext j
    simp [va_cpy, cpy]
  have hself : (H.setIfInBounds (xa X w) (vp_cell (xc X 0) (n, .inl (va_cpy (σ v) (σ w) 0 0 n))))[xa X w]? = some (vp_cell (xc X 0) (n, .inl (cpy σ v w n w))) := by simp [Array.getElem?_setIfInBounds, hl0, ecp]
  have hRep := rep_set (σ2 := cpy σ v w n) (v := w) hR F.2.2.2.2.2 (by omega) (by
    rw [hw]
    have e2 : ce (xa X) (xc X) (cpy σ v w n w) (1000 + n) w = .inl (xc X 0, n, .inl (cpy σ v w n w)) := by
      unfold ce
      rw [if_pos (by omega)]
      simp
    rw [e2]
    exact hself) oq (fun u hu => cpy_other hu)
  obtain ⟨t, a1, b1⟩ := k r σ' ho _ _ la hRep ⟨by simp; exact hS.1, fun q g1 g2 => by
      rw [oq q (fun e => g2 (by rw [e]; exact F.2.2.2.2.2.2.2.1 w (by omega)))]
      exact hS.2.1 q g1 g2, fun q hq => by
      rcases List.mem_append.mp hq with h | h
      · exact hS.2.2 q h
      · obtain ⟨z, -, hz⟩ := List.mem_map.mp h
        rw [← hz]
        exact F.2.2.2.2.2.2.2.1 w (by omega)⟩ hl _ hheap X'
  exact ⟨t, step t a1, b1⟩
theorem ib_lt {i : Int32} {n : Nat} (h : ib i n) : i.toNatClampNeg < n := by
  obtain ⟨h1, h2⟩ := h
  show i.toInt.toNat < n
  omega
theorem g_ldcS (F : FR p s m args c cc nL "SensorHub$Text" X) {index : Nat} (w : Nat) (hw : w < 6) (hi : ixS.getD w 0 = index) (d : decode cc pc = .ok (.ldc index, 2))
    (k : G X p l e R s m args below meth c nL ck sk Qf (pc + 2) ls (.ref (xk X w) :: rest) σ o) : G X p l e R s m args below meth c nL ck sk Qf pc ls rest σ o :=
  fun r σ' ho H locs la hR hS hl => va_ldcS F.1 F.2.1 F.2.2.2.1 (hi ▸ F.2.2.2.2.2.2.2.2.2.2.1 w hw) d (k r σ' ho H locs la hR hS hl)
theorem g_callVS {ρ' : Type} {vl : ρ' → Option Value} {y : MethodName} {bytes : ByteArray} {maxL dp n index w0 : Nat} {ret : Option FieldType} {As st : List Value} {oc : Option (ρ' × Mem)} {kf : ρ' → Mem → Option (ρ × Mem)}
    (F : FR p s m args c cc nL own X) (hw0 : w0 < 6) (hC : CT X l y bytes maxL ret dp vl (.ref (xk X w0) :: As) σ oc) (hW : CSV own index y bytes maxL ret n) (hcls : y.cls = "java/lang/String") (hst : st = As.reverse ++ .ref (xk X w0) :: rest) (hn : As.length = n) (hcat : (rest.map fun v => v.category).sum ≤ 8) (hroom : dp + 1 ≤ R.frames ∧ 8 + (maxL + 11) + 35 * dp ≤ R.locals) (hck : ck ≤ R.cells ∧ sk ≤ R.slots) (d : decode cc pc = .ok (.invokevirtual index, 3))
    (k : ∀ r2 σ2, oc = some (r2, σ2) → G X p l e R s m args below meth c nL ck sk Qf (pc + 3) ls ((vl r2).toList ++ rest) σ2 (kf r2 σ2)) : G X p l e R s m args below meth c nL ck sk Qf pc ls st σ (bd oc kf) := by
  subst hst
  cases ho2 : oc with
  | none => exact g_no
  | some w =>
    obtain ⟨r2, σ2⟩ := w
    intro r σ' ho H locs la hR hS hl
    obtain ⟨hlink, hinst, hsel, hini, hcode, hy, hpar⟩ := hW
    obtain ⟨hx, hb, hml, hown, hts, hcx⟩ := F
    have hlen : ∀ sig, parseMethodDescriptor y.desc = some sig → n = sig.parameters.length := fun sig h => by
      rw [h] at hpar
      exact (Option.some.inj hpar).symm
    have hws : ∀ w ∈ (Cond.code y bytes maxL ret :: gw), ∀ (a' : Array Value) (U : State), s.WarmedH U.vm → w.before a' U = true := fun w hw a' U hW => by
      have hw' : w ∈ gw := (List.mem_cons.mp hw).elim (fun q => by rw [q]; exact hcode) id
      exact word_at hW (good_of_word (gw_ok w hw')) (hts w hw')
    have hrec : ∃ cellB : Cell, H[xk X w0]? = some cellB ∧ cellB.vm.isStatics = false ∧ s.vm.findClass y.cls = some cellB.cls := by
      rw [hcls]
      obtain ⟨adV, hE⟩ := hcx.2.2.2.2.1
      exact vk_recv hE hw0 hS
    have run := va_runV (cells := ck) (slots := sk) (locs := locs) (H := H) (g := F0 m pc la (As.reverse ++ .ref (xk X w0) :: rest)) (rest := rest) (As := As) (b := xk X w0) (C := y.cls) (n := n) (p := p) (e := e) (R := R) (below := below) (meth := meth) ⟨hx, hb, hml, hown, hts⟩ (hC r2 σ2 ho2)
      ⟨⟨rfl, rfl, hroom.1, hroom.2, hws, List.mem_cons_self, hts _ hcode, hts _ hini, hy, hlen, hts _ hlink⟩, hts _ hinst, hts _ hsel⟩
      ⟨fun a U g mk q => ⟨q.1, q.2.1, Cx.same (u := U) (U := U.calling g mk a) rfl rfl q.2.2⟩, hrec, fun U hU hW => ⟨rfl, by rw [hU]; exact hR, Cx.warm hW (by rw [hU]; exact hS.2.1) hcx⟩⟩
      rfl hn hl.1 rfl (lv_room hcat) d hck
    intro T hT XX
    obtain ⟨v', st₀, t, T', L, h0, X', hL, e1, e2, hq2, hgo⟩ := run T hT XX
    obtain ⟨hv', hRep, hF⟩ := hq2
    cases hv'
    rw [← e1] at hRep
    obtain ⟨hz, hk⟩ := hF
    rw [h0, ← e1] at hz hk
    obtain ⟨t2, a1, b1⟩ := k r2 σ2 ho2 r σ' ho T'.heap (locs ++ L) la hRep ⟨Nat.le_trans hS.1 hz, fun q h1 h2 => by rw [hk q (Nat.lt_of_lt_of_le h1 hS.1) h2]; exact hS.2.1 q h1 h2, fun q hq => by
      rcases List.mem_append.mp hq with h | h
      · exact hS.2.2 q h
      · exact hL q h⟩ hl T' rfl X'
    exact ⟨t2, hgo t2 a1, b1⟩
end ROWS2
/-! which cells are a whole object of a class -/
def SensorOK (X : CX) (v : Nat) : Prop := xs X v = 5 ∧ xs X (v + 1) = 1008
def ClientOK (X : CX) (v : Nat) : Prop := xs X v = 1 ∧ xs X (v + 1) = 1018
def OutagesOK (X : CX) (v : Nat) : Prop := xs X v = 4 ∧ xs X (v + 1) = 1004 ∧ xs X (v + 2) = 1004 ∧ xs X (v + 3) = 1004
def StoreOK (X : CX) (v : Nat) : Prop := xs X v = 6 ∧ xs X (v + 1) = 1090
def TextOK (X : CX) (v : Nat) : Prop := xs X v = 7 ∧ xs X (v + 1) = 1160
def HubOK (X : CX) (q : Nat) : Prop := xs X q = 3 ∧ xs X (q + 1) = 1004 ∧ xs X (q + 2) = 21 ∧ xs X (q + 3) = 22 ∧ OutagesOK X (q + 4) ∧ StoreOK X (q + 8) ∧ (∀ i, i < 8 → SensorOK X (q + 2 + (8 + 2 * i))) ∧ ∀ i, i < 8 → ClientOK X (q + 3 + (23 + 2 * i))
def HistoryOK (X : CX) (v : Nat) : Prop := xs X v = 2 ∧ xs X (v + 1) = 23 ∧ ∀ i, i < 5 → HubOK X (v + 1 + (1 + 42 * i))
def TopOK (X : CX) (v : Nat) : Prop := xs X v = 8 ∧ HubOK X (v + 1) ∧ HubOK X (v + 43) ∧ HistoryOK X (v + 85) ∧ TextOK X (v + 297)
def ModelOK (X : CX) (v : Nat) : Prop := xs X v = 9 ∧ xs X (v + 1) = 1481 ∧ xs X (v + 2) = 3405 ∧ xs X (v + 3) = 1160 ∧ xs X (v + 4) = 1481 ∧ xs X (v + 5) = 1008 ∧ xs X (v + 6) = 1008 ∧ xs X (v + 7) = 1008 ∧ xs X (v + 8) = 20
end
section
def y_Mat_floorMod : MethodName := ⟨"java/lang/Math", "floorMod", "(II)I"⟩
theorem d_Mat_floorMod_0 : decode prog_11_method_50_code 0 = .ok (.iload_n 0, 1) := by decide +kernel
theorem d_Mat_floorMod_1 : decode prog_11_method_50_code 1 = .ok (.iload_n 1, 1) := by decide +kernel
theorem d_Mat_floorMod_2 : decode prog_11_method_50_code 2 = .ok (.irem, 1) := by decide +kernel
theorem d_Mat_floorMod_3 : decode prog_11_method_50_code 3 = .ok (.istore_n 2, 1) := by decide +kernel
theorem d_Mat_floorMod_4 : decode prog_11_method_50_code 4 = .ok (.iload_n 0, 1) := by decide +kernel
theorem d_Mat_floorMod_5 : decode prog_11_method_50_code 5 = .ok (.iload_n 1, 1) := by decide +kernel
theorem d_Mat_floorMod_6 : decode prog_11_method_50_code 6 = .ok (.ixor, 1) := by decide +kernel
theorem d_Mat_floorMod_7 : decode prog_11_method_50_code 7 = .ok (.ifCond .ge 11, 3) := by decide +kernel
theorem d_Mat_floorMod_10 : decode prog_11_method_50_code 10 = .ok (.iload_n 2, 1) := by decide +kernel
theorem d_Mat_floorMod_11 : decode prog_11_method_50_code 11 = .ok (.ifCond .eq 7, 3) := by decide +kernel
theorem d_Mat_floorMod_14 : decode prog_11_method_50_code 14 = .ok (.iload_n 2, 1) := by decide +kernel
theorem d_Mat_floorMod_15 : decode prog_11_method_50_code 15 = .ok (.iload_n 1, 1) := by decide +kernel
theorem d_Mat_floorMod_16 : decode prog_11_method_50_code 16 = .ok (.iadd, 1) := by decide +kernel
theorem d_Mat_floorMod_17 : decode prog_11_method_50_code 17 = .ok (.ireturn, 1) := by decide +kernel
theorem d_Mat_floorMod_18 : decode prog_11_method_50_code 18 = .ok (.iload_n 2, 1) := by decide +kernel
theorem d_Mat_floorMod_19 : decode prog_11_method_50_code 19 = .ok (.ireturn, 1) := by decide +kernel
def f_Mat_floorMod (p0 : Int32) (p1 : Int32) (σ : Mem) : Option (Int32 × Mem) :=
  if p1 = 0 then none else
  lt (p0 - p0 / p1 * p1) fun v1 =>
  if 0 ≤ (p0 ^^^ p1) then some (v1, σ) else if v1 = 0 then some (v1, σ) else some (v1 + p1, σ)
set_option maxRecDepth 100000 in
set_option maxHeartbeats 4000000 in
theorem c_Mat_floorMod {X : CX} (l : Launch) (p0 : Int32) (p1 : Int32)  (σ : Mem) : CT X l y_Mat_floorMod prog_11_method_50_code 3 (some .int) 0 vI [.int p0, .int p1] σ (f_Mat_floorMod p0 p1 σ) := by
  refine CT_of (by decide +kernel) (Nat.le_of_ble_eq_true rfl) ?_
  intro p e s m args below meth c F hlk hr
  have F : FR p s m args c prog_11_method_50_code 3 "java/lang/Math" X := F
  show G X p l e (rmD 0) s m args below meth c 3 0 0 (QI X below args s vI) 0 [(0, .int p0), (1, .int p1)] [] σ _
  unfold f_Mat_floorMod
  refine g_iload_n F d_Mat_floorMod_0 0 rfl ?_
  refine g_iload_n F d_Mat_floorMod_1 1 rfl ?_
  refine g_irem F d_Mat_floorMod_2 ?_
  refine g_ltI (fun v1 _ => ?_)
  refine g_istore_n F (ls' := [(2, .int v1), (0, .int p0), (1, .int p1)]) d_Mat_floorMod_3 (by decide) rfl ?_
  refine g_iload_n F d_Mat_floorMod_4 1 rfl ?_
  refine g_iload_n F d_Mat_floorMod_5 2 rfl ?_
  refine g_ixor F d_Mat_floorMod_6 ?_
  refine g_if_ge F (tgt := 18) d_Mat_floorMod_7 (by decide) (fun h1 => ?_) (fun h2 => ?_)
  · refine g_iload_n F d_Mat_floorMod_18 0 rfl ?_
    exact g_iret F hlk hr d_Mat_floorMod_19
  refine g_iload_n F d_Mat_floorMod_10 0 rfl ?_
  refine g_if_eq F (tgt := 18) d_Mat_floorMod_11 (by decide) (fun h3 => ?_) (fun h4 => ?_)
  · refine g_iload_n F d_Mat_floorMod_18 0 rfl ?_
    exact g_iret F hlk hr d_Mat_floorMod_19
  refine g_iload_n F d_Mat_floorMod_14 0 rfl ?_
  refine g_iload_n F d_Mat_floorMod_15 2 rfl ?_
  refine g_iadd F d_Mat_floorMod_16 ?_
  exact g_iret F hlk hr d_Mat_floorMod_17
def y_Mat_max : MethodName := ⟨"java/lang/Math", "max", "(II)I"⟩
theorem d_Mat_max_0 : decode prog_11_method_65_code 0 = .ok (.iload_n 0, 1) := by decide +kernel
theorem d_Mat_max_1 : decode prog_11_method_65_code 1 = .ok (.iload_n 1, 1) := by decide +kernel
theorem d_Mat_max_2 : decode prog_11_method_65_code 2 = .ok (.if_icmp .lt 7, 3) := by decide +kernel
theorem d_Mat_max_5 : decode prog_11_method_65_code 5 = .ok (.iload_n 0, 1) := by decide +kernel
theorem d_Mat_max_6 : decode prog_11_method_65_code 6 = .ok (.goto 4, 3) := by decide +kernel
theorem d_Mat_max_9 : decode prog_11_method_65_code 9 = .ok (.iload_n 1, 1) := by decide +kernel
theorem d_Mat_max_10 : decode prog_11_method_65_code 10 = .ok (.ireturn, 1) := by decide +kernel
def f_Mat_max (p0 : Int32) (p1 : Int32) (σ : Mem) : Option (Int32 × Mem) :=
  if p0 < p1 then some (p1, σ) else some (p0, σ)
set_option maxRecDepth 100000 in
set_option maxHeartbeats 4000000 in
theorem c_Mat_max {X : CX} (l : Launch) (p0 : Int32) (p1 : Int32)  (σ : Mem) : CT X l y_Mat_max prog_11_method_65_code 2 (some .int) 0 vI [.int p0, .int p1] σ (f_Mat_max p0 p1 σ) := by
  refine CT_of (by decide +kernel) (Nat.le_of_ble_eq_true rfl) ?_
  intro p e s m args below meth c F hlk hr
  have F : FR p s m args c prog_11_method_65_code 2 "java/lang/Math" X := F
  show G X p l e (rmD 0) s m args below meth c 2 0 0 (QI X below args s vI) 0 [(0, .int p0), (1, .int p1)] [] σ _
  unfold f_Mat_max
  refine g_iload_n F d_Mat_max_0 0 rfl ?_
  refine g_iload_n F d_Mat_max_1 1 rfl ?_
  refine g_icmp_lt F (tgt := 9) d_Mat_max_2 (by decide) (fun h1 => ?_) (fun h2 => ?_)
  · refine g_iload_n F d_Mat_max_9 1 rfl ?_
    exact g_iret F hlk hr d_Mat_max_10
  refine g_iload_n F d_Mat_max_5 0 rfl ?_
  refine g_goto F (tgt := 10) d_Mat_max_6 (by decide) ?_
  exact g_iret F hlk hr d_Mat_max_10
def y_Mat_min : MethodName := ⟨"java/lang/Math", "min", "(II)I"⟩
theorem d_Mat_min_0 : decode prog_11_method_69_code 0 = .ok (.iload_n 0, 1) := by decide +kernel
theorem d_Mat_min_1 : decode prog_11_method_69_code 1 = .ok (.iload_n 1, 1) := by decide +kernel
theorem d_Mat_min_2 : decode prog_11_method_69_code 2 = .ok (.if_icmp .gt 7, 3) := by decide +kernel
theorem d_Mat_min_5 : decode prog_11_method_69_code 5 = .ok (.iload_n 0, 1) := by decide +kernel
theorem d_Mat_min_6 : decode prog_11_method_69_code 6 = .ok (.goto 4, 3) := by decide +kernel
theorem d_Mat_min_9 : decode prog_11_method_69_code 9 = .ok (.iload_n 1, 1) := by decide +kernel
theorem d_Mat_min_10 : decode prog_11_method_69_code 10 = .ok (.ireturn, 1) := by decide +kernel
def f_Mat_min (p0 : Int32) (p1 : Int32) (σ : Mem) : Option (Int32 × Mem) :=
  if p1 < p0 then some (p1, σ) else some (p0, σ)
set_option maxRecDepth 100000 in
set_option maxHeartbeats 4000000 in
theorem c_Mat_min {X : CX} (l : Launch) (p0 : Int32) (p1 : Int32)  (σ : Mem) : CT X l y_Mat_min prog_11_method_69_code 2 (some .int) 0 vI [.int p0, .int p1] σ (f_Mat_min p0 p1 σ) := by
  refine CT_of (by decide +kernel) (Nat.le_of_ble_eq_true rfl) ?_
  intro p e s m args below meth c F hlk hr
  have F : FR p s m args c prog_11_method_69_code 2 "java/lang/Math" X := F
  show G X p l e (rmD 0) s m args below meth c 2 0 0 (QI X below args s vI) 0 [(0, .int p0), (1, .int p1)] [] σ _
  unfold f_Mat_min
  refine g_iload_n F d_Mat_min_0 0 rfl ?_
  refine g_iload_n F d_Mat_min_1 1 rfl ?_
  refine g_icmp_gt F (tgt := 9) d_Mat_min_2 (by decide) (fun h1 => ?_) (fun h2 => ?_)
  · refine g_iload_n F d_Mat_min_9 1 rfl ?_
    exact g_iret F hlk hr d_Mat_min_10
  refine g_iload_n F d_Mat_min_5 0 rfl ?_
  refine g_goto F (tgt := 10) d_Mat_min_6 (by decide) ?_
  exact g_iret F hlk hr d_Mat_min_10
def y_Mat_floorDiv : MethodName := ⟨"java/lang/Math", "floorDiv", "(II)I"⟩
theorem d_Mat_floorDiv_0 : decode prog_11_method_47_code 0 = .ok (.iload_n 0, 1) := by decide +kernel
theorem d_Mat_floorDiv_1 : decode prog_11_method_47_code 1 = .ok (.iload_n 1, 1) := by decide +kernel
theorem d_Mat_floorDiv_2 : decode prog_11_method_47_code 2 = .ok (.idiv, 1) := by decide +kernel
theorem d_Mat_floorDiv_3 : decode prog_11_method_47_code 3 = .ok (.istore_n 2, 1) := by decide +kernel
theorem d_Mat_floorDiv_4 : decode prog_11_method_47_code 4 = .ok (.iload_n 0, 1) := by decide +kernel
theorem d_Mat_floorDiv_5 : decode prog_11_method_47_code 5 = .ok (.iload_n 1, 1) := by decide +kernel
theorem d_Mat_floorDiv_6 : decode prog_11_method_47_code 6 = .ok (.ixor, 1) := by decide +kernel
theorem d_Mat_floorDiv_7 : decode prog_11_method_47_code 7 = .ok (.ifCond .ge 14, 3) := by decide +kernel
theorem d_Mat_floorDiv_10 : decode prog_11_method_47_code 10 = .ok (.iload_n 2, 1) := by decide +kernel
theorem d_Mat_floorDiv_11 : decode prog_11_method_47_code 11 = .ok (.iload_n 1, 1) := by decide +kernel
theorem d_Mat_floorDiv_12 : decode prog_11_method_47_code 12 = .ok (.imul, 1) := by decide +kernel
theorem d_Mat_floorDiv_13 : decode prog_11_method_47_code 13 = .ok (.iload_n 0, 1) := by decide +kernel
theorem d_Mat_floorDiv_14 : decode prog_11_method_47_code 14 = .ok (.if_icmp .eq 7, 3) := by decide +kernel
theorem d_Mat_floorDiv_17 : decode prog_11_method_47_code 17 = .ok (.iload_n 2, 1) := by decide +kernel
theorem d_Mat_floorDiv_18 : decode prog_11_method_47_code 18 = .ok (.iconst 1, 1) := by decide +kernel
theorem d_Mat_floorDiv_19 : decode prog_11_method_47_code 19 = .ok (.isub, 1) := by decide +kernel
theorem d_Mat_floorDiv_20 : decode prog_11_method_47_code 20 = .ok (.ireturn, 1) := by decide +kernel
theorem d_Mat_floorDiv_21 : decode prog_11_method_47_code 21 = .ok (.iload_n 2, 1) := by decide +kernel
theorem d_Mat_floorDiv_22 : decode prog_11_method_47_code 22 = .ok (.ireturn, 1) := by decide +kernel
def f_Mat_floorDiv (p0 : Int32) (p1 : Int32) (σ : Mem) : Option (Int32 × Mem) :=
  if p1 = 0 then none else
  lt (p0 / p1) fun v1 =>
  if 0 ≤ (p0 ^^^ p1) then some (v1, σ) else if (v1 * p1) = p0 then some (v1, σ) else some (v1 - (1 : Int32), σ)
set_option maxRecDepth 100000 in
set_option maxHeartbeats 4000000 in
theorem c_Mat_floorDiv {X : CX} (l : Launch) (p0 : Int32) (p1 : Int32)  (σ : Mem) : CT X l y_Mat_floorDiv prog_11_method_47_code 3 (some .int) 0 vI [.int p0, .int p1] σ (f_Mat_floorDiv p0 p1 σ) := by
  refine CT_of (by decide +kernel) (Nat.le_of_ble_eq_true rfl) ?_
  intro p e s m args below meth c F hlk hr
  have F : FR p s m args c prog_11_method_47_code 3 "java/lang/Math" X := F
  show G X p l e (rmD 0) s m args below meth c 3 0 0 (QI X below args s vI) 0 [(0, .int p0), (1, .int p1)] [] σ _
  unfold f_Mat_floorDiv
  refine g_iload_n F d_Mat_floorDiv_0 0 rfl ?_
  refine g_iload_n F d_Mat_floorDiv_1 1 rfl ?_
  refine g_idiv F d_Mat_floorDiv_2 ?_
  refine g_ltI (fun v1 _ => ?_)
  refine g_istore_n F (ls' := [(2, .int v1), (0, .int p0), (1, .int p1)]) d_Mat_floorDiv_3 (by decide) rfl ?_
  refine g_iload_n F d_Mat_floorDiv_4 1 rfl ?_
  refine g_iload_n F d_Mat_floorDiv_5 2 rfl ?_
  refine g_ixor F d_Mat_floorDiv_6 ?_
  refine g_if_ge F (tgt := 21) d_Mat_floorDiv_7 (by decide) (fun h1 => ?_) (fun h2 => ?_)
  · refine g_iload_n F d_Mat_floorDiv_21 0 rfl ?_
    exact g_iret F hlk hr d_Mat_floorDiv_22
  refine g_iload_n F d_Mat_floorDiv_10 0 rfl ?_
  refine g_iload_n F d_Mat_floorDiv_11 2 rfl ?_
  refine g_imul F d_Mat_floorDiv_12 ?_
  refine g_iload_n F d_Mat_floorDiv_13 1 rfl ?_
  refine g_icmp_eq F (tgt := 21) d_Mat_floorDiv_14 (by decide) (fun h3 => ?_) (fun h4 => ?_)
  · refine g_iload_n F d_Mat_floorDiv_21 0 rfl ?_
    exact g_iret F hlk hr d_Mat_floorDiv_22
  refine g_iload_n F d_Mat_floorDiv_17 0 rfl ?_
  refine g_iconst F (v := 1) d_Mat_floorDiv_18 (by decide) ?_
  refine g_isub F d_Mat_floorDiv_19 ?_
  exact g_iret F hlk hr d_Mat_floorDiv_20
end
section
def y_Str_length : MethodName := ⟨"java/lang/String", "length", "()I"⟩
def y_Str_charAt : MethodName := ⟨"java/lang/String", "charAt", "(I)C"⟩
def f_Str_length (w : Nat) (σ : Mem) : Option (Int32 × Mem) := if w < 6 then some (nI (lenS.getD w 0), σ) else none
def f_Str_charAt (w : Nat) (i : Int32) (σ : Mem) : Option (Int32 × Mem) := if w < 6 then if ib i (lenS.getD w 0) then some ((bytS.getD w []).getD i.toNatClampNeg 0, σ) else none else none
theorem c_Str_length {X : CX} (l : Launch) (w : Nat) (hw : w < 6) (σ : Mem) : CT X l y_Str_length prog_12_method_54_code 1 (some .int) 1 vI [.ref (xk X w)] σ (f_Str_length w σ) := sorry
theorem c_Str_charAt {X : CX} (l : Launch) (w : Nat) (p1 : Int32) (hw : w < 6) (σ : Mem) : CT X l y_Str_charAt prog_12_method_56_code 2 (some .char) 4 vI [.ref (xk X w), .int p1] σ (f_Str_charAt w p1 σ) := sorry
end
section
def y_Cli_begin : MethodName := ⟨"SensorHub$Client", "begin", "(III)V"⟩
theorem d_Cli_begin_0 : decode prog_2_method_2_code 0 = .ok (.aload_n 0, 1) := by decide +kernel
theorem d_Cli_begin_1 : decode prog_2_method_2_code 1 = .ok (.iload_n 1, 1) := by decide +kernel
theorem d_Cli_begin_2 : decode prog_2_method_2_code 2 = .ok (.putfield 15, 3) := by decide +kernel
theorem d_Cli_begin_5 : decode prog_2_method_2_code 5 = .ok (.aload_n 0, 1) := by decide +kernel
theorem d_Cli_begin_6 : decode prog_2_method_2_code 6 = .ok (.iload_n 2, 1) := by decide +kernel
theorem d_Cli_begin_7 : decode prog_2_method_2_code 7 = .ok (.putfield 19, 3) := by decide +kernel
theorem d_Cli_begin_10 : decode prog_2_method_2_code 10 = .ok (.aload_n 0, 1) := by decide +kernel
theorem d_Cli_begin_11 : decode prog_2_method_2_code 11 = .ok (.iload_n 3, 1) := by decide +kernel
theorem d_Cli_begin_12 : decode prog_2_method_2_code 12 = .ok (.putfield 22, 3) := by decide +kernel
theorem d_Cli_begin_15 : decode prog_2_method_2_code 15 = .ok (.aload_n 0, 1) := by decide +kernel
theorem d_Cli_begin_16 : decode prog_2_method_2_code 16 = .ok (.iconst 1, 1) := by decide +kernel
theorem d_Cli_begin_17 : decode prog_2_method_2_code 17 = .ok (.putfield 25, 3) := by decide +kernel
theorem d_Cli_begin_20 : decode prog_2_method_2_code 20 = .ok (.aload_n 0, 1) := by decide +kernel
theorem d_Cli_begin_21 : decode prog_2_method_2_code 21 = .ok (.iconst 0, 1) := by decide +kernel
theorem d_Cli_begin_22 : decode prog_2_method_2_code 22 = .ok (.putfield 29, 3) := by decide +kernel
theorem d_Cli_begin_25 : decode prog_2_method_2_code 25 = .ok (.aload_n 0, 1) := by decide +kernel
theorem d_Cli_begin_26 : decode prog_2_method_2_code 26 = .ok (.iconst 0, 1) := by decide +kernel
theorem d_Cli_begin_27 : decode prog_2_method_2_code 27 = .ok (.putfield 32, 3) := by decide +kernel
theorem d_Cli_begin_30 : decode prog_2_method_2_code 30 = .ok (.aload_n 0, 1) := by decide +kernel
theorem d_Cli_begin_31 : decode prog_2_method_2_code 31 = .ok (.iconst 0, 1) := by decide +kernel
theorem d_Cli_begin_32 : decode prog_2_method_2_code 32 = .ok (.putfield 35, 3) := by decide +kernel
theorem d_Cli_begin_35 : decode prog_2_method_2_code 35 = .ok (.aload_n 0, 1) := by decide +kernel
theorem d_Cli_begin_36 : decode prog_2_method_2_code 36 = .ok (.iconst 0, 1) := by decide +kernel
theorem d_Cli_begin_37 : decode prog_2_method_2_code 37 = .ok (.putfield 38, 3) := by decide +kernel
theorem d_Cli_begin_40 : decode prog_2_method_2_code 40 = .ok (.aload_n 0, 1) := by decide +kernel
theorem d_Cli_begin_41 : decode prog_2_method_2_code 41 = .ok (.bipush (-9), 2) := by decide +kernel
theorem d_Cli_begin_43 : decode prog_2_method_2_code 43 = .ok (.putfield 41, 3) := by decide +kernel
theorem d_Cli_begin_46 : decode prog_2_method_2_code 46 = .ok (.aload_n 0, 1) := by decide +kernel
theorem d_Cli_begin_47 : decode prog_2_method_2_code 47 = .ok (.iconst 0, 1) := by decide +kernel
theorem d_Cli_begin_48 : decode prog_2_method_2_code 48 = .ok (.putfield 44, 3) := by decide +kernel
theorem d_Cli_begin_51 : decode prog_2_method_2_code 51 = .ok (.return_, 1) := by decide +kernel
theorem fw_0_15 : FW "SensorHub$Client" 15 0 1 .int := ⟨"SensorHub$Client", T_0, 11, rfl, by decide, rfl, gw_I 228 (by decide +kernel) rfl, rfl, by decide +kernel⟩
theorem fw_0_19 : FW "SensorHub$Client" 19 0 2 .int := ⟨"SensorHub$Client", T_0, 11, rfl, by decide, rfl, gw_I 231 (by decide +kernel) rfl, rfl, by decide +kernel⟩
theorem fw_0_22 : FW "SensorHub$Client" 22 0 3 .int := ⟨"SensorHub$Client", T_0, 11, rfl, by decide, rfl, gw_I 234 (by decide +kernel) rfl, rfl, by decide +kernel⟩
theorem fw_0_25 : FW "SensorHub$Client" 25 0 0 .boolean := ⟨"SensorHub$Client", T_0, 11, rfl, by decide, rfl, gw_I 226 (by decide +kernel) rfl, rfl, by decide +kernel⟩
theorem fw_0_29 : FW "SensorHub$Client" 29 0 4 .int := ⟨"SensorHub$Client", T_0, 11, rfl, by decide, rfl, gw_I 237 (by decide +kernel) rfl, rfl, by decide +kernel⟩
theorem fw_0_32 : FW "SensorHub$Client" 32 0 5 .int := ⟨"SensorHub$Client", T_0, 11, rfl, by decide, rfl, gw_I 240 (by decide +kernel) rfl, rfl, by decide +kernel⟩
theorem fw_0_35 : FW "SensorHub$Client" 35 0 6 .int := ⟨"SensorHub$Client", T_0, 11, rfl, by decide, rfl, gw_I 242 (by decide +kernel) rfl, rfl, by decide +kernel⟩
theorem fw_0_38 : FW "SensorHub$Client" 38 0 7 .int := ⟨"SensorHub$Client", T_0, 11, rfl, by decide, rfl, gw_I 244 (by decide +kernel) rfl, rfl, by decide +kernel⟩
theorem fw_0_41 : FW "SensorHub$Client" 41 0 8 .int := ⟨"SensorHub$Client", T_0, 11, rfl, by decide, rfl, gw_I 246 (by decide +kernel) rfl, rfl, by decide +kernel⟩
theorem fw_0_44 : FW "SensorHub$Client" 44 0 9 .int := ⟨"SensorHub$Client", T_0, 11, rfl, by decide, rfl, gw_I 248 (by decide +kernel) rfl, rfl, by decide +kernel⟩
def f_Cli_begin (q : Nat) (p1 : Int32) (p2 : Int32) (p3 : Int32) (σ : Mem) : Option (Unit × Mem) :=
  lt (wr σ q 1 p1) fun σ1 =>
  lt (wr σ1 q 2 p2) fun σ2 =>
  lt (wr σ2 q 3 p3) fun σ3 =>
  lt (wr σ3 q 0 (1 : Int32)) fun σ4 =>
  lt (wr σ4 q 4 (0 : Int32)) fun σ5 =>
  lt (wr σ5 q 5 (0 : Int32)) fun σ6 =>
  lt (wr σ6 q 6 (0 : Int32)) fun σ7 =>
  lt (wr σ7 q 7 (0 : Int32)) fun σ8 =>
  lt (wr σ8 q 8 (-9 : Int32)) fun σ9 =>
  lt (wr σ9 q 9 (0 : Int32)) fun σ10 =>
  some ((), σ10)
set_option maxRecDepth 100000 in
set_option maxHeartbeats 4000000 in
theorem c_Cli_begin {X : CX} (l : Launch) (q : Nat) (p1 : Int32) (p2 : Int32) (p3 : Int32) (hq : ClientOK X q) (σ : Mem) : CT X l y_Cli_begin prog_2_method_2_code 4 none 0 vU [.ref (xa X q), .int p1, .int p2, .int p3] σ (f_Cli_begin q p1 p2 p3 σ) := by
  refine CT_of (by decide +kernel) (Nat.le_of_ble_eq_true rfl) ?_
  intro p e s m args below meth c F hlk hr
  have F : FR p s m args c prog_2_method_2_code 4 "SensorHub$Client" X := F
  show G X p l e (rmD 0) s m args below meth c 4 0 0 (QI X below args s vU) 0 [(0, .ref (xa X q)), (1, .int p1), (2, .int p2), (3, .int p3)] [] σ _
  unfold f_Cli_begin
  refine g_aload_n F d_Cli_begin_0 0 rfl ?_
  refine g_iload_n F d_Cli_begin_1 1 rfl ?_
  refine g_putI F fw_0_15 hq.1 rfl d_Cli_begin_2 ?_
  refine g_ltM (fun σ1 _ => ?_)
  refine g_aload_n F d_Cli_begin_5 0 rfl ?_
  refine g_iload_n F d_Cli_begin_6 2 rfl ?_
  refine g_putI F fw_0_19 hq.1 rfl d_Cli_begin_7 ?_
  refine g_ltM (fun σ2 _ => ?_)
  refine g_aload_n F d_Cli_begin_10 0 rfl ?_
  refine g_iload_n F d_Cli_begin_11 3 rfl ?_
  refine g_putI F fw_0_22 hq.1 rfl d_Cli_begin_12 ?_
  refine g_ltM (fun σ3 _ => ?_)
  refine g_aload_n F d_Cli_begin_15 0 rfl ?_
  refine g_iconst F (v := 1) d_Cli_begin_16 (by decide) ?_
  refine g_pt (q := (1 : Int32) &&& 1 = (1 : Int32)) (by decide) (g_putZ F fw_0_25 hq.1 rfl d_Cli_begin_17 ?_)
  refine g_ltM (fun σ4 _ => ?_)
  refine g_aload_n F d_Cli_begin_20 0 rfl ?_
  refine g_iconst F (v := 0) d_Cli_begin_21 (by decide) ?_
  refine g_putI F fw_0_29 hq.1 rfl d_Cli_begin_22 ?_
  refine g_ltM (fun σ5 _ => ?_)
  refine g_aload_n F d_Cli_begin_25 0 rfl ?_
  refine g_iconst F (v := 0) d_Cli_begin_26 (by decide) ?_
  refine g_putI F fw_0_32 hq.1 rfl d_Cli_begin_27 ?_
  refine g_ltM (fun σ6 _ => ?_)
  refine g_aload_n F d_Cli_begin_30 0 rfl ?_
  refine g_iconst F (v := 0) d_Cli_begin_31 (by decide) ?_
  refine g_putI F fw_0_35 hq.1 rfl d_Cli_begin_32 ?_
  refine g_ltM (fun σ7 _ => ?_)
  refine g_aload_n F d_Cli_begin_35 0 rfl ?_
  refine g_iconst F (v := 0) d_Cli_begin_36 (by decide) ?_
  refine g_putI F fw_0_38 hq.1 rfl d_Cli_begin_37 ?_
  refine g_ltM (fun σ8 _ => ?_)
  refine g_aload_n F d_Cli_begin_40 0 rfl ?_
  refine g_bipush F (v := (-9)) d_Cli_begin_41 (by decide) ?_
  refine g_putI F fw_0_41 hq.1 rfl d_Cli_begin_43 ?_
  refine g_ltM (fun σ9 _ => ?_)
  refine g_aload_n F d_Cli_begin_46 0 rfl ?_
  refine g_iconst F (v := 0) d_Cli_begin_47 (by decide) ?_
  refine g_putI F fw_0_44 hq.1 rfl d_Cli_begin_48 ?_
  refine g_ltM (fun σ10 _ => ?_)
  exact g_vret F hlk hr d_Cli_begin_51
def y_X_remainder : MethodName := ⟨"SensorHub", "remainder", "(II)I"⟩
theorem d_X_remainder_0 : decode prog_1_method_27_code 0 = .ok (.iload_n 1, 1) := by decide +kernel
theorem d_X_remainder_1 : decode prog_1_method_27_code 1 = .ok (.ifCond .le 11, 3) := by decide +kernel
theorem d_X_remainder_4 : decode prog_1_method_27_code 4 = .ok (.iload_n 0, 1) := by decide +kernel
theorem d_X_remainder_5 : decode prog_1_method_27_code 5 = .ok (.iload_n 1, 1) := by decide +kernel
theorem d_X_remainder_6 : decode prog_1_method_27_code 6 = .ok (.invokestatic 236, 3) := by decide +kernel
theorem d_X_remainder_9 : decode prog_1_method_27_code 9 = .ok (.goto 4, 3) := by decide +kernel
theorem d_X_remainder_12 : decode prog_1_method_27_code 12 = .ok (.iconst 0, 1) := by decide +kernel
theorem d_X_remainder_13 : decode prog_1_method_27_code 13 = .ok (.ireturn, 1) := by decide +kernel
theorem cs_7_236 : CSS "SensorHub" 236 y_Mat_floorMod prog_11_method_50_code 3 (some .int) 2 := ⟨gw_I 750 (by decide +kernel) rfl, gw_I 409 (by decide +kernel) rfl, gw_I 79 (by decide +kernel) rfl, gw_I 410 (by decide +kernel) rfl, ⟨by decide +kernel, by decide +kernel⟩, by decide +kernel⟩
def f_X_remainder (p0 : Int32) (p1 : Int32) (σ : Mem) : Option (Int32 × Mem) :=
  if p1 ≤ 0 then
    some ((0 : Int32), σ)
  else
    bd (f_Mat_floorMod p0 p1 σ) fun r1 σ2 =>
    some (r1, σ2)
set_option maxRecDepth 100000 in
set_option maxHeartbeats 4000000 in
theorem c_X_remainder {X : CX} (l : Launch) (p0 : Int32) (p1 : Int32)  (σ : Mem) : CT X l y_X_remainder prog_1_method_27_code 2 (some .int) 1 vI [.int p0, .int p1] σ (f_X_remainder p0 p1 σ) := by
  refine CT_of (by decide +kernel) (Nat.le_of_ble_eq_true rfl) ?_
  intro p e s m args below meth c F hlk hr
  have F : FR p s m args c prog_1_method_27_code 2 "SensorHub" X := F
  show G X p l e (rmD 1) s m args below meth c 2 0 0 (QI X below args s vI) 0 [(0, .int p0), (1, .int p1)] [] σ _
  unfold f_X_remainder
  refine g_iload_n F d_X_remainder_0 1 rfl ?_
  refine g_if_le F (tgt := 12) d_X_remainder_1 (by decide) (fun h1 => ?_) (fun h2 => ?_)
  · refine g_iconst F (v := 0) d_X_remainder_12 (by decide) ?_
    exact g_iret F hlk hr d_X_remainder_13
  refine g_iload_n F d_X_remainder_4 0 rfl ?_
  refine g_iload_n F d_X_remainder_5 1 rfl ?_
  refine g_callS F (dp := 0) (As := [.int p0, .int p1]) (c_Mat_floorMod l _ _ _) cs_7_236 rfl rfl (Nat.le_of_ble_eq_true rfl) ⟨Nat.le_of_ble_eq_true rfl, Nat.le_of_ble_eq_true rfl⟩ ⟨Nat.zero_le _, Nat.zero_le _⟩ d_X_remainder_6 (fun r1 σ2 h3 => ?_)
  refine g_goto F (tgt := 13) d_X_remainder_9 (by decide) ?_
  exact g_iret F hlk hr d_X_remainder_13
def y_Cli_takesNext : MethodName := ⟨"SensorHub$Client", "takesNext", "()Z"⟩
theorem d_Cli_takesNext_0 : decode prog_2_method_3_code 0 = .ok (.aload_n 0, 1) := by decide +kernel
theorem d_Cli_takesNext_1 : decode prog_2_method_3_code 1 = .ok (.getfield 32, 3) := by decide +kernel
theorem d_Cli_takesNext_4 : decode prog_2_method_3_code 4 = .ok (.aload_n 0, 1) := by decide +kernel
theorem d_Cli_takesNext_5 : decode prog_2_method_3_code 5 = .ok (.getfield 29, 3) := by decide +kernel
theorem d_Cli_takesNext_8 : decode prog_2_method_3_code 8 = .ok (.invokestatic 47, 3) := by decide +kernel
theorem d_Cli_takesNext_11 : decode prog_2_method_3_code 11 = .ok (.ifCond .ne 7, 3) := by decide +kernel
theorem d_Cli_takesNext_14 : decode prog_2_method_3_code 14 = .ok (.iconst 1, 1) := by decide +kernel
theorem d_Cli_takesNext_15 : decode prog_2_method_3_code 15 = .ok (.goto 4, 3) := by decide +kernel
theorem d_Cli_takesNext_18 : decode prog_2_method_3_code 18 = .ok (.iconst 0, 1) := by decide +kernel
theorem d_Cli_takesNext_19 : decode prog_2_method_3_code 19 = .ok (.ireturn, 1) := by decide +kernel
theorem fs_0_32 : FS "SensorHub$Client" 32 0 5 := ⟨"SensorHub$Client", T_0, 11, rfl, by decide, rfl, gw_I 240 (by decide +kernel) rfl⟩
theorem fs_0_29 : FS "SensorHub$Client" 29 0 4 := ⟨"SensorHub$Client", T_0, 11, rfl, by decide, rfl, gw_I 237 (by decide +kernel) rfl⟩
theorem cs_0_47 : CSN "SensorHub$Client" 47 y_X_remainder "SensorHub" prog_1_method_27_code 2 (some .int) 2 := ⟨List.mem_of_getElem? (i := 12) rfl, gw_I 748 (by decide +kernel) rfl, gw_I 70 (by decide +kernel) rfl, gw_I 749 (by decide +kernel) rfl, ⟨by decide +kernel, by decide +kernel⟩, by decide +kernel⟩
def f_Cli_takesNext (q : Nat) (σ : Mem) : Option (Int32 × Mem) :=
  bd (f_X_remainder (σ q 5) (σ q 4) σ) fun r1 σ2 =>
  if r1 = 0 then some ((1 : Int32), σ2) else some ((0 : Int32), σ2)
set_option maxRecDepth 100000 in
set_option maxHeartbeats 4000000 in
theorem c_Cli_takesNext {X : CX} (l : Launch) (q : Nat) (hq : ClientOK X q) (σ : Mem) : CT X l y_Cli_takesNext prog_2_method_3_code 1 (some .boolean) 2 vI [.ref (xa X q)] σ (f_Cli_takesNext q σ) := by
  refine CT_of (by decide +kernel) (Nat.le_of_ble_eq_true rfl) ?_
  intro p e s m args below meth c F hlk hr
  have F : FR p s m args c prog_2_method_3_code 1 "SensorHub$Client" X := F
  show G X p l e (rmD 2) s m args below meth c 1 0 0 (QI X below args s vI) 0 [(0, .ref (xa X q))] [] σ _
  unfold f_Cli_takesNext
  refine g_aload_n F d_Cli_takesNext_0 0 rfl ?_
  refine g_getI F fs_0_32 hq.1 rfl d_Cli_takesNext_1 ?_
  refine g_aload_n F d_Cli_takesNext_4 0 rfl ?_
  refine g_getI F fs_0_29 hq.1 rfl d_Cli_takesNext_5 ?_
  refine g_callSN F (dp := 1) (As := [.int (σ q 5), .int (σ q 4)]) (c_X_remainder l _ _ _) cs_0_47 rfl rfl (Nat.le_of_ble_eq_true rfl) ⟨Nat.le_of_ble_eq_true rfl, Nat.le_of_ble_eq_true rfl⟩ ⟨Nat.zero_le _, Nat.zero_le _⟩ d_Cli_takesNext_8 (fun r1 σ2 h1 => ?_)
  refine g_if_ne F (tgt := 18) d_Cli_takesNext_11 (by decide) (fun h2 => ?_) (fun h3 => ?_)
  · refine g_iconst F (v := 1) d_Cli_takesNext_14 (by decide) ?_
    refine g_goto F (tgt := 19) d_Cli_takesNext_15 (by decide) ?_
    exact g_zretC F hlk hr (by decide) d_Cli_takesNext_19
  refine g_iconst F (v := 0) d_Cli_takesNext_18 (by decide) ?_
  exact g_zretC F hlk hr (by decide) d_Cli_takesNext_19
def y_Cli_receive : MethodName := ⟨"SensorHub$Client", "receive", "(III)V"⟩
theorem d_Cli_receive_0 : decode prog_2_method_4_code 0 = .ok (.aload_n 0, 1) := by decide +kernel
theorem d_Cli_receive_1 : decode prog_2_method_4_code 1 = .ok (.getfield 35, 3) := by decide +kernel
theorem d_Cli_receive_4 : decode prog_2_method_4_code 4 = .ok (.bipush 6, 2) := by decide +kernel
theorem d_Cli_receive_6 : decode prog_2_method_4_code 6 = .ok (.invokestatic 51, 3) := by decide +kernel
theorem d_Cli_receive_9 : decode prog_2_method_4_code 9 = .ok (.iconst 3, 1) := by decide +kernel
theorem d_Cli_receive_10 : decode prog_2_method_4_code 10 = .ok (.imul, 1) := by decide +kernel
theorem d_Cli_receive_11 : decode prog_2_method_4_code 11 = .ok (.istore 4, 2) := by decide +kernel
theorem d_Cli_receive_13 : decode prog_2_method_4_code 13 = .ok (.aload_n 0, 1) := by decide +kernel
theorem d_Cli_receive_14 : decode prog_2_method_4_code 14 = .ok (.getfield 9, 3) := by decide +kernel
theorem d_Cli_receive_17 : decode prog_2_method_4_code 17 = .ok (.iload 4, 2) := by decide +kernel
theorem d_Cli_receive_19 : decode prog_2_method_4_code 19 = .ok (.iload_n 1, 1) := by decide +kernel
theorem d_Cli_receive_20 : decode prog_2_method_4_code 20 = .ok (.iastore, 1) := by decide +kernel
theorem d_Cli_receive_21 : decode prog_2_method_4_code 21 = .ok (.aload_n 0, 1) := by decide +kernel
theorem d_Cli_receive_22 : decode prog_2_method_4_code 22 = .ok (.getfield 9, 3) := by decide +kernel
theorem d_Cli_receive_25 : decode prog_2_method_4_code 25 = .ok (.iload 4, 2) := by decide +kernel
theorem d_Cli_receive_27 : decode prog_2_method_4_code 27 = .ok (.iconst 1, 1) := by decide +kernel
theorem d_Cli_receive_28 : decode prog_2_method_4_code 28 = .ok (.iadd, 1) := by decide +kernel
theorem d_Cli_receive_29 : decode prog_2_method_4_code 29 = .ok (.iload_n 2, 1) := by decide +kernel
theorem d_Cli_receive_30 : decode prog_2_method_4_code 30 = .ok (.iastore, 1) := by decide +kernel
theorem d_Cli_receive_31 : decode prog_2_method_4_code 31 = .ok (.aload_n 0, 1) := by decide +kernel
theorem d_Cli_receive_32 : decode prog_2_method_4_code 32 = .ok (.getfield 9, 3) := by decide +kernel
theorem d_Cli_receive_35 : decode prog_2_method_4_code 35 = .ok (.iload 4, 2) := by decide +kernel
theorem d_Cli_receive_37 : decode prog_2_method_4_code 37 = .ok (.iconst 2, 1) := by decide +kernel
theorem d_Cli_receive_38 : decode prog_2_method_4_code 38 = .ok (.iadd, 1) := by decide +kernel
theorem d_Cli_receive_39 : decode prog_2_method_4_code 39 = .ok (.iload_n 3, 1) := by decide +kernel
theorem d_Cli_receive_40 : decode prog_2_method_4_code 40 = .ok (.iastore, 1) := by decide +kernel
theorem d_Cli_receive_41 : decode prog_2_method_4_code 41 = .ok (.aload_n 0, 1) := by decide +kernel
theorem d_Cli_receive_42 : decode prog_2_method_4_code 42 = .ok (.dup, 1) := by decide +kernel
theorem d_Cli_receive_43 : decode prog_2_method_4_code 43 = .ok (.getfield 35, 3) := by decide +kernel
theorem d_Cli_receive_46 : decode prog_2_method_4_code 46 = .ok (.iconst 1, 1) := by decide +kernel
theorem d_Cli_receive_47 : decode prog_2_method_4_code 47 = .ok (.iadd, 1) := by decide +kernel
theorem d_Cli_receive_48 : decode prog_2_method_4_code 48 = .ok (.putfield 35, 3) := by decide +kernel
theorem d_Cli_receive_51 : decode prog_2_method_4_code 51 = .ok (.iload_n 2, 1) := by decide +kernel
theorem d_Cli_receive_52 : decode prog_2_method_4_code 52 = .ok (.bipush (-8), 2) := by decide +kernel
theorem d_Cli_receive_54 : decode prog_2_method_4_code 54 = .ok (.if_icmp .ne 13, 3) := by decide +kernel
theorem d_Cli_receive_57 : decode prog_2_method_4_code 57 = .ok (.aload_n 0, 1) := by decide +kernel
theorem d_Cli_receive_58 : decode prog_2_method_4_code 58 = .ok (.dup, 1) := by decide +kernel
theorem d_Cli_receive_59 : decode prog_2_method_4_code 59 = .ok (.getfield 38, 3) := by decide +kernel
theorem d_Cli_receive_62 : decode prog_2_method_4_code 62 = .ok (.iconst 1, 1) := by decide +kernel
theorem d_Cli_receive_63 : decode prog_2_method_4_code 63 = .ok (.iadd, 1) := by decide +kernel
theorem d_Cli_receive_64 : decode prog_2_method_4_code 64 = .ok (.putfield 38, 3) := by decide +kernel
theorem d_Cli_receive_67 : decode prog_2_method_4_code 67 = .ok (.aload_n 0, 1) := by decide +kernel
theorem d_Cli_receive_68 : decode prog_2_method_4_code 68 = .ok (.aload_n 0, 1) := by decide +kernel
theorem d_Cli_receive_69 : decode prog_2_method_4_code 69 = .ok (.getfield 41, 3) := by decide +kernel
theorem d_Cli_receive_72 : decode prog_2_method_4_code 72 = .ok (.iconst 0, 1) := by decide +kernel
theorem d_Cli_receive_73 : decode prog_2_method_4_code 73 = .ok (.iload_n 3, 1) := by decide +kernel
theorem d_Cli_receive_74 : decode prog_2_method_4_code 74 = .ok (.iload_n 1, 1) := by decide +kernel
theorem d_Cli_receive_75 : decode prog_2_method_4_code 75 = .ok (.isub, 1) := by decide +kernel
theorem d_Cli_receive_76 : decode prog_2_method_4_code 76 = .ok (.invokestatic 56, 3) := by decide +kernel
theorem d_Cli_receive_79 : decode prog_2_method_4_code 79 = .ok (.invokestatic 56, 3) := by decide +kernel
theorem d_Cli_receive_82 : decode prog_2_method_4_code 82 = .ok (.putfield 41, 3) := by decide +kernel
theorem d_Cli_receive_85 : decode prog_2_method_4_code 85 = .ok (.return_, 1) := by decide +kernel
theorem fs_0_35 : FS "SensorHub$Client" 35 0 6 := ⟨"SensorHub$Client", T_0, 11, rfl, by decide, rfl, gw_I 242 (by decide +kernel) rfl⟩
theorem cs_0_51 : CSS "SensorHub$Client" 51 y_Mat_floorMod prog_11_method_50_code 3 (some .int) 2 := ⟨gw_I 525 (by decide +kernel) rfl, gw_I 409 (by decide +kernel) rfl, gw_I 79 (by decide +kernel) rfl, gw_I 410 (by decide +kernel) rfl, ⟨by decide +kernel, by decide +kernel⟩, by decide +kernel⟩
theorem fs_0_9 : FS "SensorHub$Client" 9 0 10 := ⟨"SensorHub$Client", T_0, 11, rfl, by decide, rfl, gw_I 251 (by decide +kernel) rfl⟩
theorem fs_0_38 : FS "SensorHub$Client" 38 0 7 := ⟨"SensorHub$Client", T_0, 11, rfl, by decide, rfl, gw_I 244 (by decide +kernel) rfl⟩
theorem fs_0_41 : FS "SensorHub$Client" 41 0 8 := ⟨"SensorHub$Client", T_0, 11, rfl, by decide, rfl, gw_I 246 (by decide +kernel) rfl⟩
theorem cs_0_56 : CSS "SensorHub$Client" 56 y_Mat_max prog_11_method_65_code 2 (some .int) 2 := ⟨gw_I 526 (by decide +kernel) rfl, gw_I 481 (by decide +kernel) rfl, gw_I 79 (by decide +kernel) rfl, gw_I 482 (by decide +kernel) rfl, ⟨by decide +kernel, by decide +kernel⟩, by decide +kernel⟩
def f_Cli_receive (q : Nat) (p1 : Int32) (p2 : Int32) (p3 : Int32) (σ : Mem) : Option (Unit × Mem) :=
  bd (f_Mat_floorMod (σ q 6) (6 : Int32) σ) fun r1 σ2 =>
  lt (r1 * (3 : Int32)) fun v3 =>
  if ib v3 18 then
    lt (wr σ2 (q + 1) v3.toNatClampNeg p1) fun σ4 =>
    if ib (v3 + (1 : Int32)) 18 then
      lt (wr σ4 (q + 1) (v3 + (1 : Int32)).toNatClampNeg p2) fun σ5 =>
      if ib (v3 + (2 : Int32)) 18 then
        lt (wr σ5 (q + 1) (v3 + (2 : Int32)).toNatClampNeg p3) fun σ6 =>
        lt (wr σ6 q 6 ((σ6 q 6) + (1 : Int32))) fun σ7 =>
        if p2 = (-8 : Int32) then
          lt (wr σ7 q 7 ((σ7 q 7) + (1 : Int32))) fun σ8 =>
          bd (f_Mat_max (0 : Int32) (p3 - p1) σ8) fun r9 σ10 =>
          bd (f_Mat_max (σ8 q 8) r9 σ10) fun r11 σ12 =>
          lt (wr σ12 q 8 r11) fun σ13 =>
          some ((), σ13)
        else
          bd (f_Mat_max (0 : Int32) (p3 - p1) σ7) fun r14 σ15 =>
          bd (f_Mat_max (σ7 q 8) r14 σ15) fun r16 σ17 =>
          lt (wr σ17 q 8 r16) fun σ18 =>
          some ((), σ18)
      else none
    else none
  else none
set_option maxRecDepth 100000 in
set_option maxHeartbeats 4000000 in
theorem c_Cli_receive {X : CX} (l : Launch) (q : Nat) (p1 : Int32) (p2 : Int32) (p3 : Int32) (hq : ClientOK X q) (σ : Mem) : CT X l y_Cli_receive prog_2_method_4_code 5 none 1 vU [.ref (xa X q), .int p1, .int p2, .int p3] σ (f_Cli_receive q p1 p2 p3 σ) := by
  refine CT_of (by decide +kernel) (Nat.le_of_ble_eq_true rfl) ?_
  intro p e s m args below meth c F hlk hr
  have F : FR p s m args c prog_2_method_4_code 5 "SensorHub$Client" X := F
  show G X p l e (rmD 1) s m args below meth c 5 0 0 (QI X below args s vU) 0 [(0, .ref (xa X q)), (1, .int p1), (2, .int p2), (3, .int p3)] [] σ _
  unfold f_Cli_receive
  refine g_aload_n F d_Cli_receive_0 0 rfl ?_
  refine g_getI F fs_0_35 hq.1 rfl d_Cli_receive_1 ?_
  refine g_bipush F (v := 6) d_Cli_receive_4 (by decide) ?_
  refine g_callS F (dp := 0) (As := [.int (σ q 6), .int (6 : Int32)]) (c_Mat_floorMod l _ _ _) cs_0_51 rfl rfl (Nat.le_of_ble_eq_true rfl) ⟨Nat.le_of_ble_eq_true rfl, Nat.le_of_ble_eq_true rfl⟩ ⟨Nat.zero_le _, Nat.zero_le _⟩ d_Cli_receive_6 (fun r1 σ2 h1 => ?_)
  refine g_iconst F (v := 3) d_Cli_receive_9 (by decide) ?_
  refine g_imul F d_Cli_receive_10 ?_
  refine g_ltI (fun v3 _ => ?_)
  refine g_istore F (ls' := [(4, .int v3), (0, .ref (xa X q)), (1, .int p1), (2, .int p2), (3, .int p3)]) d_Cli_receive_11 (by decide) rfl ?_
  refine g_aload_n F d_Cli_receive_13 1 rfl ?_
  refine g_getR F fs_0_9 hq.1 rfl d_Cli_receive_14 ?_
  refine g_iload F d_Cli_receive_17 0 rfl ?_
  refine g_iload_n F d_Cli_receive_19 2 rfl ?_
  refine g_iast F (n := 18) hq.2 d_Cli_receive_20 ?_
  refine g_ltM (fun σ4 _ => ?_)
  refine g_aload_n F d_Cli_receive_21 1 rfl ?_
  refine g_getR F fs_0_9 hq.1 rfl d_Cli_receive_22 ?_
  refine g_iload F d_Cli_receive_25 0 rfl ?_
  refine g_iconst F (v := 1) d_Cli_receive_27 (by decide) ?_
  refine g_iadd F d_Cli_receive_28 ?_
  refine g_iload_n F d_Cli_receive_29 3 rfl ?_
  refine g_iast F (n := 18) hq.2 d_Cli_receive_30 ?_
  refine g_ltM (fun σ5 _ => ?_)
  refine g_aload_n F d_Cli_receive_31 1 rfl ?_
  refine g_getR F fs_0_9 hq.1 rfl d_Cli_receive_32 ?_
  refine g_iload F d_Cli_receive_35 0 rfl ?_
  refine g_iconst F (v := 2) d_Cli_receive_37 (by decide) ?_
  refine g_iadd F d_Cli_receive_38 ?_
  refine g_iload_n F d_Cli_receive_39 4 rfl ?_
  refine g_iast F (n := 18) hq.2 d_Cli_receive_40 ?_
  refine g_ltM (fun σ6 _ => ?_)
  refine g_aload_n F d_Cli_receive_41 1 rfl ?_
  refine g_dup F d_Cli_receive_42 rfl ?_
  refine g_getI F fs_0_35 hq.1 rfl d_Cli_receive_43 ?_
  refine g_iconst F (v := 1) d_Cli_receive_46 (by decide) ?_
  refine g_iadd F d_Cli_receive_47 ?_
  refine g_putI F fw_0_35 hq.1 rfl d_Cli_receive_48 ?_
  refine g_ltM (fun σ7 _ => ?_)
  refine g_iload_n F d_Cli_receive_51 3 rfl ?_
  refine g_bipush F (v := (-8)) d_Cli_receive_52 (by decide) ?_
  refine g_icmp_ne F (tgt := 67) d_Cli_receive_54 (by decide) (fun h2 => ?_) (fun h3 => ?_)
  · refine g_aload_n F d_Cli_receive_57 1 rfl ?_
    refine g_dup F d_Cli_receive_58 rfl ?_
    refine g_getI F fs_0_38 hq.1 rfl d_Cli_receive_59 ?_
    refine g_iconst F (v := 1) d_Cli_receive_62 (by decide) ?_
    refine g_iadd F d_Cli_receive_63 ?_
    refine g_putI F fw_0_38 hq.1 rfl d_Cli_receive_64 ?_
    refine g_ltM (fun σ8 _ => ?_)
    refine g_aload_n F d_Cli_receive_67 1 rfl ?_
    refine g_aload_n F d_Cli_receive_68 1 rfl ?_
    refine g_getI F fs_0_41 hq.1 rfl d_Cli_receive_69 ?_
    refine g_iconst F (v := 0) d_Cli_receive_72 (by decide) ?_
    refine g_iload_n F d_Cli_receive_73 4 rfl ?_
    refine g_iload_n F d_Cli_receive_74 2 rfl ?_
    refine g_isub F d_Cli_receive_75 ?_
    refine g_callS F (dp := 0) (As := [.int (0 : Int32), .int (p3 - p1)]) (c_Mat_max l _ _ _) cs_0_56 rfl rfl (Nat.le_of_ble_eq_true rfl) ⟨Nat.le_of_ble_eq_true rfl, Nat.le_of_ble_eq_true rfl⟩ ⟨Nat.zero_le _, Nat.zero_le _⟩ d_Cli_receive_76 (fun r9 σ10 h4 => ?_)
    refine g_callS F (dp := 0) (As := [.int (σ8 q 8), .int r9]) (c_Mat_max l _ _ _) cs_0_56 rfl rfl (Nat.le_of_ble_eq_true rfl) ⟨Nat.le_of_ble_eq_true rfl, Nat.le_of_ble_eq_true rfl⟩ ⟨Nat.zero_le _, Nat.zero_le _⟩ d_Cli_receive_79 (fun r11 σ12 h5 => ?_)
    refine g_putI F fw_0_41 hq.1 rfl d_Cli_receive_82 ?_
    refine g_ltM (fun σ13 _ => ?_)
    exact g_vret F hlk hr d_Cli_receive_85
  refine g_aload_n F d_Cli_receive_67 1 rfl ?_
  refine g_aload_n F d_Cli_receive_68 1 rfl ?_
  refine g_getI F fs_0_41 hq.1 rfl d_Cli_receive_69 ?_
  refine g_iconst F (v := 0) d_Cli_receive_72 (by decide) ?_
  refine g_iload_n F d_Cli_receive_73 4 rfl ?_
  refine g_iload_n F d_Cli_receive_74 2 rfl ?_
  refine g_isub F d_Cli_receive_75 ?_
  refine g_callS F (dp := 0) (As := [.int (0 : Int32), .int (p3 - p1)]) (c_Mat_max l _ _ _) cs_0_56 rfl rfl (Nat.le_of_ble_eq_true rfl) ⟨Nat.le_of_ble_eq_true rfl, Nat.le_of_ble_eq_true rfl⟩ ⟨Nat.zero_le _, Nat.zero_le _⟩ d_Cli_receive_76 (fun r14 σ15 h6 => ?_)
  refine g_callS F (dp := 0) (As := [.int (σ7 q 8), .int r14]) (c_Mat_max l _ _ _) cs_0_56 rfl rfl (Nat.le_of_ble_eq_true rfl) ⟨Nat.le_of_ble_eq_true rfl, Nat.le_of_ble_eq_true rfl⟩ ⟨Nat.zero_le _, Nat.zero_le _⟩ d_Cli_receive_79 (fun r16 σ17 h7 => ?_)
  refine g_putI F fw_0_41 hq.1 rfl d_Cli_receive_82 ?_
  refine g_ltM (fun σ18 _ => ?_)
  exact g_vret F hlk hr d_Cli_receive_85
def y_X_isWithin : MethodName := ⟨"SensorHub", "isWithin", "(III)Z"⟩
theorem d_X_isWithin_0 : decode prog_1_method_24_code 0 = .ok (.iload_n 0, 1) := by decide +kernel
theorem d_X_isWithin_1 : decode prog_1_method_24_code 1 = .ok (.iload_n 1, 1) := by decide +kernel
theorem d_X_isWithin_2 : decode prog_1_method_24_code 2 = .ok (.if_icmp .lt 12, 3) := by decide +kernel
theorem d_X_isWithin_5 : decode prog_1_method_24_code 5 = .ok (.iload_n 0, 1) := by decide +kernel
theorem d_X_isWithin_6 : decode prog_1_method_24_code 6 = .ok (.iload_n 2, 1) := by decide +kernel
theorem d_X_isWithin_7 : decode prog_1_method_24_code 7 = .ok (.if_icmp .gt 7, 3) := by decide +kernel
theorem d_X_isWithin_10 : decode prog_1_method_24_code 10 = .ok (.iconst 1, 1) := by decide +kernel
theorem d_X_isWithin_11 : decode prog_1_method_24_code 11 = .ok (.goto 4, 3) := by decide +kernel
theorem d_X_isWithin_14 : decode prog_1_method_24_code 14 = .ok (.iconst 0, 1) := by decide +kernel
theorem d_X_isWithin_15 : decode prog_1_method_24_code 15 = .ok (.ireturn, 1) := by decide +kernel
def f_X_isWithin (p0 : Int32) (p1 : Int32) (p2 : Int32) (σ : Mem) : Option (Int32 × Mem) :=
  if p0 < p1 then some ((0 : Int32), σ) else if p2 < p0 then some ((0 : Int32), σ) else some ((1 : Int32), σ)
set_option maxRecDepth 100000 in
set_option maxHeartbeats 4000000 in
theorem c_X_isWithin {X : CX} (l : Launch) (p0 : Int32) (p1 : Int32) (p2 : Int32)  (σ : Mem) : CT X l y_X_isWithin prog_1_method_24_code 3 (some .boolean) 0 vI [.int p0, .int p1, .int p2] σ (f_X_isWithin p0 p1 p2 σ) := by
  refine CT_of (by decide +kernel) (Nat.le_of_ble_eq_true rfl) ?_
  intro p e s m args below meth c F hlk hr
  have F : FR p s m args c prog_1_method_24_code 3 "SensorHub" X := F
  show G X p l e (rmD 0) s m args below meth c 3 0 0 (QI X below args s vI) 0 [(0, .int p0), (1, .int p1), (2, .int p2)] [] σ _
  unfold f_X_isWithin
  refine g_iload_n F d_X_isWithin_0 0 rfl ?_
  refine g_iload_n F d_X_isWithin_1 1 rfl ?_
  refine g_icmp_lt F (tgt := 14) d_X_isWithin_2 (by decide) (fun h1 => ?_) (fun h2 => ?_)
  · refine g_iconst F (v := 0) d_X_isWithin_14 (by decide) ?_
    exact g_zretC F hlk hr (by decide) d_X_isWithin_15
  refine g_iload_n F d_X_isWithin_5 0 rfl ?_
  refine g_iload_n F d_X_isWithin_6 2 rfl ?_
  refine g_icmp_gt F (tgt := 14) d_X_isWithin_7 (by decide) (fun h3 => ?_) (fun h4 => ?_)
  · refine g_iconst F (v := 0) d_X_isWithin_14 (by decide) ?_
    exact g_zretC F hlk hr (by decide) d_X_isWithin_15
  refine g_iconst F (v := 1) d_X_isWithin_10 (by decide) ?_
  refine g_goto F (tgt := 15) d_X_isWithin_11 (by decide) ?_
  exact g_zretC F hlk hr (by decide) d_X_isWithin_15
def y_Cli_recalled : MethodName := ⟨"SensorHub$Client", "recalled", "(II)I"⟩
theorem d_Cli_recalled_0 : decode prog_2_method_5_code 0 = .ok (.iload_n 1, 1) := by decide +kernel
theorem d_Cli_recalled_1 : decode prog_2_method_5_code 1 = .ok (.aload_n 0, 1) := by decide +kernel
theorem d_Cli_recalled_2 : decode prog_2_method_5_code 2 = .ok (.getfield 35, 3) := by decide +kernel
theorem d_Cli_recalled_5 : decode prog_2_method_5_code 5 = .ok (.if_icmp .ge 21, 3) := by decide +kernel
theorem d_Cli_recalled_8 : decode prog_2_method_5_code 8 = .ok (.iload_n 1, 1) := by decide +kernel
theorem d_Cli_recalled_9 : decode prog_2_method_5_code 9 = .ok (.iconst 0, 1) := by decide +kernel
theorem d_Cli_recalled_10 : decode prog_2_method_5_code 10 = .ok (.iconst 5, 1) := by decide +kernel
theorem d_Cli_recalled_11 : decode prog_2_method_5_code 11 = .ok (.invokestatic 59, 3) := by decide +kernel
theorem d_Cli_recalled_14 : decode prog_2_method_5_code 14 = .ok (.ifCond .eq 12, 3) := by decide +kernel
theorem d_Cli_recalled_17 : decode prog_2_method_5_code 17 = .ok (.iload_n 2, 1) := by decide +kernel
theorem d_Cli_recalled_18 : decode prog_2_method_5_code 18 = .ok (.iconst 0, 1) := by decide +kernel
theorem d_Cli_recalled_19 : decode prog_2_method_5_code 19 = .ok (.iconst 2, 1) := by decide +kernel
theorem d_Cli_recalled_20 : decode prog_2_method_5_code 20 = .ok (.invokestatic 59, 3) := by decide +kernel
theorem d_Cli_recalled_23 : decode prog_2_method_5_code 23 = .ok (.ifCond .ne 6, 3) := by decide +kernel
theorem d_Cli_recalled_26 : decode prog_2_method_5_code 26 = .ok (.bipush (-9), 2) := by decide +kernel
theorem d_Cli_recalled_28 : decode prog_2_method_5_code 28 = .ok (.ireturn, 1) := by decide +kernel
theorem d_Cli_recalled_29 : decode prog_2_method_5_code 29 = .ok (.aload_n 0, 1) := by decide +kernel
theorem d_Cli_recalled_30 : decode prog_2_method_5_code 30 = .ok (.getfield 9, 3) := by decide +kernel
theorem d_Cli_recalled_33 : decode prog_2_method_5_code 33 = .ok (.aload_n 0, 1) := by decide +kernel
theorem d_Cli_recalled_34 : decode prog_2_method_5_code 34 = .ok (.getfield 35, 3) := by decide +kernel
theorem d_Cli_recalled_37 : decode prog_2_method_5_code 37 = .ok (.iconst 1, 1) := by decide +kernel
theorem d_Cli_recalled_38 : decode prog_2_method_5_code 38 = .ok (.isub, 1) := by decide +kernel
theorem d_Cli_recalled_39 : decode prog_2_method_5_code 39 = .ok (.iload_n 1, 1) := by decide +kernel
theorem d_Cli_recalled_40 : decode prog_2_method_5_code 40 = .ok (.isub, 1) := by decide +kernel
theorem d_Cli_recalled_41 : decode prog_2_method_5_code 41 = .ok (.bipush 6, 2) := by decide +kernel
theorem d_Cli_recalled_43 : decode prog_2_method_5_code 43 = .ok (.invokestatic 51, 3) := by decide +kernel
theorem d_Cli_recalled_46 : decode prog_2_method_5_code 46 = .ok (.iconst 3, 1) := by decide +kernel
theorem d_Cli_recalled_47 : decode prog_2_method_5_code 47 = .ok (.imul, 1) := by decide +kernel
theorem d_Cli_recalled_48 : decode prog_2_method_5_code 48 = .ok (.iload_n 2, 1) := by decide +kernel
theorem d_Cli_recalled_49 : decode prog_2_method_5_code 49 = .ok (.iadd, 1) := by decide +kernel
theorem d_Cli_recalled_50 : decode prog_2_method_5_code 50 = .ok (.iaload, 1) := by decide +kernel
theorem d_Cli_recalled_51 : decode prog_2_method_5_code 51 = .ok (.ireturn, 1) := by decide +kernel
theorem cs_0_59 : CSN "SensorHub$Client" 59 y_X_isWithin "SensorHub" prog_1_method_24_code 3 (some .boolean) 3 := ⟨List.mem_of_getElem? (i := 13) rfl, gw_I 284 (by decide +kernel) rfl, gw_I 70 (by decide +kernel) rfl, gw_I 285 (by decide +kernel) rfl, ⟨by decide +kernel, by decide +kernel⟩, by decide +kernel⟩
def f_Cli_recalled (q : Nat) (p1 : Int32) (p2 : Int32) (σ : Mem) : Option (Int32 × Mem) :=
  if (σ q 6) ≤ p1 then
    some ((-9 : Int32), σ)
  else
    bd (f_X_isWithin p1 (0 : Int32) (5 : Int32) σ) fun r1 σ2 =>
    if r1 = 0 then
      some ((-9 : Int32), σ2)
    else
      bd (f_X_isWithin p2 (0 : Int32) (2 : Int32) σ2) fun r3 σ4 =>
      if r3 = 0 then
        some ((-9 : Int32), σ4)
      else
        bd (f_Mat_floorMod (((σ4 q 6) - (1 : Int32)) - p1) (6 : Int32) σ4) fun r5 σ6 =>
        if ib ((r5 * (3 : Int32)) + p2) 18 then
          some (σ6 (q + 1) ((r5 * (3 : Int32)) + p2).toNatClampNeg, σ6)
        else none
set_option maxRecDepth 100000 in
set_option maxHeartbeats 4000000 in
theorem c_Cli_recalled {X : CX} (l : Launch) (q : Nat) (p1 : Int32) (p2 : Int32) (hq : ClientOK X q) (σ : Mem) : CT X l y_Cli_recalled prog_2_method_5_code 3 (some .int) 1 vI [.ref (xa X q), .int p1, .int p2] σ (f_Cli_recalled q p1 p2 σ) := by
  refine CT_of (by decide +kernel) (Nat.le_of_ble_eq_true rfl) ?_
  intro p e s m args below meth c F hlk hr
  have F : FR p s m args c prog_2_method_5_code 3 "SensorHub$Client" X := F
  show G X p l e (rmD 1) s m args below meth c 3 0 0 (QI X below args s vI) 0 [(0, .ref (xa X q)), (1, .int p1), (2, .int p2)] [] σ _
  unfold f_Cli_recalled
  refine g_iload_n F d_Cli_recalled_0 1 rfl ?_
  refine g_aload_n F d_Cli_recalled_1 0 rfl ?_
  refine g_getI F fs_0_35 hq.1 rfl d_Cli_recalled_2 ?_
  refine g_icmp_ge F (tgt := 26) d_Cli_recalled_5 (by decide) (fun h1 => ?_) (fun h2 => ?_)
  · refine g_bipush F (v := (-9)) d_Cli_recalled_26 (by decide) ?_
    exact g_iret F hlk hr d_Cli_recalled_28
  refine g_iload_n F d_Cli_recalled_8 1 rfl ?_
  refine g_iconst F (v := 0) d_Cli_recalled_9 (by decide) ?_
  refine g_iconst F (v := 5) d_Cli_recalled_10 (by decide) ?_
  refine g_callSN F (dp := 0) (As := [.int p1, .int (0 : Int32), .int (5 : Int32)]) (c_X_isWithin l _ _ _ _) cs_0_59 rfl rfl (Nat.le_of_ble_eq_true rfl) ⟨Nat.le_of_ble_eq_true rfl, Nat.le_of_ble_eq_true rfl⟩ ⟨Nat.zero_le _, Nat.zero_le _⟩ d_Cli_recalled_11 (fun r1 σ2 h3 => ?_)
  refine g_if_eq F (tgt := 26) d_Cli_recalled_14 (by decide) (fun h4 => ?_) (fun h5 => ?_)
  · refine g_bipush F (v := (-9)) d_Cli_recalled_26 (by decide) ?_
    exact g_iret F hlk hr d_Cli_recalled_28
  refine g_iload_n F d_Cli_recalled_17 2 rfl ?_
  refine g_iconst F (v := 0) d_Cli_recalled_18 (by decide) ?_
  refine g_iconst F (v := 2) d_Cli_recalled_19 (by decide) ?_
  refine g_callSN F (dp := 0) (As := [.int p2, .int (0 : Int32), .int (2 : Int32)]) (c_X_isWithin l _ _ _ _) cs_0_59 rfl rfl (Nat.le_of_ble_eq_true rfl) ⟨Nat.le_of_ble_eq_true rfl, Nat.le_of_ble_eq_true rfl⟩ ⟨Nat.zero_le _, Nat.zero_le _⟩ d_Cli_recalled_20 (fun r3 σ4 h6 => ?_)
  refine g_if_ne F (tgt := 29) d_Cli_recalled_23 (by decide) (fun h7 => ?_) (fun h8 => ?_)
  · refine g_bipush F (v := (-9)) d_Cli_recalled_26 (by decide) ?_
    exact g_iret F hlk hr d_Cli_recalled_28
  refine g_aload_n F d_Cli_recalled_29 0 rfl ?_
  refine g_getR F fs_0_9 hq.1 rfl d_Cli_recalled_30 ?_
  refine g_aload_n F d_Cli_recalled_33 0 rfl ?_
  refine g_getI F fs_0_35 hq.1 rfl d_Cli_recalled_34 ?_
  refine g_iconst F (v := 1) d_Cli_recalled_37 (by decide) ?_
  refine g_isub F d_Cli_recalled_38 ?_
  refine g_iload_n F d_Cli_recalled_39 1 rfl ?_
  refine g_isub F d_Cli_recalled_40 ?_
  refine g_bipush F (v := 6) d_Cli_recalled_41 (by decide) ?_
  refine g_callS F (dp := 0) (As := [.int (((σ4 q 6) - (1 : Int32)) - p1), .int (6 : Int32)]) (c_Mat_floorMod l _ _ _) cs_0_51 rfl rfl (Nat.le_of_ble_eq_true rfl) ⟨Nat.le_of_ble_eq_true rfl, Nat.le_of_ble_eq_true rfl⟩ ⟨Nat.zero_le _, Nat.zero_le _⟩ d_Cli_recalled_43 (fun r5 σ6 h9 => ?_)
  refine g_iconst F (v := 3) d_Cli_recalled_46 (by decide) ?_
  refine g_imul F d_Cli_recalled_47 ?_
  refine g_iload_n F d_Cli_recalled_48 2 rfl ?_
  refine g_iadd F d_Cli_recalled_49 ?_
  refine g_iald F (n := 18) hq.2 d_Cli_recalled_50 ?_
  exact g_iret F hlk hr d_Cli_recalled_51
def y_Cli_copyFrom : MethodName := ⟨"SensorHub$Client", "copyFrom", "(LSensorHub$Client;)V"⟩
theorem d_Cli_copyFrom_0 : decode prog_2_method_6_code 0 = .ok (.aload_n 0, 1) := by decide +kernel
theorem d_Cli_copyFrom_1 : decode prog_2_method_6_code 1 = .ok (.aload_n 1, 1) := by decide +kernel
theorem d_Cli_copyFrom_2 : decode prog_2_method_6_code 2 = .ok (.getfield 25, 3) := by decide +kernel
theorem d_Cli_copyFrom_5 : decode prog_2_method_6_code 5 = .ok (.putfield 25, 3) := by decide +kernel
theorem d_Cli_copyFrom_8 : decode prog_2_method_6_code 8 = .ok (.aload_n 0, 1) := by decide +kernel
theorem d_Cli_copyFrom_9 : decode prog_2_method_6_code 9 = .ok (.aload_n 1, 1) := by decide +kernel
theorem d_Cli_copyFrom_10 : decode prog_2_method_6_code 10 = .ok (.getfield 15, 3) := by decide +kernel
theorem d_Cli_copyFrom_13 : decode prog_2_method_6_code 13 = .ok (.putfield 15, 3) := by decide +kernel
theorem d_Cli_copyFrom_16 : decode prog_2_method_6_code 16 = .ok (.aload_n 0, 1) := by decide +kernel
theorem d_Cli_copyFrom_17 : decode prog_2_method_6_code 17 = .ok (.aload_n 1, 1) := by decide +kernel
theorem d_Cli_copyFrom_18 : decode prog_2_method_6_code 18 = .ok (.getfield 19, 3) := by decide +kernel
theorem d_Cli_copyFrom_21 : decode prog_2_method_6_code 21 = .ok (.putfield 19, 3) := by decide +kernel
theorem d_Cli_copyFrom_24 : decode prog_2_method_6_code 24 = .ok (.aload_n 0, 1) := by decide +kernel
theorem d_Cli_copyFrom_25 : decode prog_2_method_6_code 25 = .ok (.aload_n 1, 1) := by decide +kernel
theorem d_Cli_copyFrom_26 : decode prog_2_method_6_code 26 = .ok (.getfield 22, 3) := by decide +kernel
theorem d_Cli_copyFrom_29 : decode prog_2_method_6_code 29 = .ok (.putfield 22, 3) := by decide +kernel
theorem d_Cli_copyFrom_32 : decode prog_2_method_6_code 32 = .ok (.aload_n 0, 1) := by decide +kernel
theorem d_Cli_copyFrom_33 : decode prog_2_method_6_code 33 = .ok (.aload_n 1, 1) := by decide +kernel
theorem d_Cli_copyFrom_34 : decode prog_2_method_6_code 34 = .ok (.getfield 29, 3) := by decide +kernel
theorem d_Cli_copyFrom_37 : decode prog_2_method_6_code 37 = .ok (.putfield 29, 3) := by decide +kernel
theorem d_Cli_copyFrom_40 : decode prog_2_method_6_code 40 = .ok (.aload_n 0, 1) := by decide +kernel
theorem d_Cli_copyFrom_41 : decode prog_2_method_6_code 41 = .ok (.aload_n 1, 1) := by decide +kernel
theorem d_Cli_copyFrom_42 : decode prog_2_method_6_code 42 = .ok (.getfield 32, 3) := by decide +kernel
theorem d_Cli_copyFrom_45 : decode prog_2_method_6_code 45 = .ok (.putfield 32, 3) := by decide +kernel
theorem d_Cli_copyFrom_48 : decode prog_2_method_6_code 48 = .ok (.aload_n 0, 1) := by decide +kernel
theorem d_Cli_copyFrom_49 : decode prog_2_method_6_code 49 = .ok (.aload_n 1, 1) := by decide +kernel
theorem d_Cli_copyFrom_50 : decode prog_2_method_6_code 50 = .ok (.getfield 35, 3) := by decide +kernel
theorem d_Cli_copyFrom_53 : decode prog_2_method_6_code 53 = .ok (.putfield 35, 3) := by decide +kernel
theorem d_Cli_copyFrom_56 : decode prog_2_method_6_code 56 = .ok (.aload_n 0, 1) := by decide +kernel
theorem d_Cli_copyFrom_57 : decode prog_2_method_6_code 57 = .ok (.aload_n 1, 1) := by decide +kernel
theorem d_Cli_copyFrom_58 : decode prog_2_method_6_code 58 = .ok (.getfield 38, 3) := by decide +kernel
theorem d_Cli_copyFrom_61 : decode prog_2_method_6_code 61 = .ok (.putfield 38, 3) := by decide +kernel
theorem d_Cli_copyFrom_64 : decode prog_2_method_6_code 64 = .ok (.aload_n 0, 1) := by decide +kernel
theorem d_Cli_copyFrom_65 : decode prog_2_method_6_code 65 = .ok (.aload_n 1, 1) := by decide +kernel
theorem d_Cli_copyFrom_66 : decode prog_2_method_6_code 66 = .ok (.getfield 41, 3) := by decide +kernel
theorem d_Cli_copyFrom_69 : decode prog_2_method_6_code 69 = .ok (.putfield 41, 3) := by decide +kernel
theorem d_Cli_copyFrom_72 : decode prog_2_method_6_code 72 = .ok (.aload_n 0, 1) := by decide +kernel
theorem d_Cli_copyFrom_73 : decode prog_2_method_6_code 73 = .ok (.aload_n 1, 1) := by decide +kernel
theorem d_Cli_copyFrom_74 : decode prog_2_method_6_code 74 = .ok (.getfield 44, 3) := by decide +kernel
theorem d_Cli_copyFrom_77 : decode prog_2_method_6_code 77 = .ok (.putfield 44, 3) := by decide +kernel
theorem d_Cli_copyFrom_80 : decode prog_2_method_6_code 80 = .ok (.aload_n 1, 1) := by decide +kernel
theorem d_Cli_copyFrom_81 : decode prog_2_method_6_code 81 = .ok (.getfield 9, 3) := by decide +kernel
theorem d_Cli_copyFrom_84 : decode prog_2_method_6_code 84 = .ok (.iconst 0, 1) := by decide +kernel
theorem d_Cli_copyFrom_85 : decode prog_2_method_6_code 85 = .ok (.aload_n 0, 1) := by decide +kernel
theorem d_Cli_copyFrom_86 : decode prog_2_method_6_code 86 = .ok (.getfield 9, 3) := by decide +kernel
theorem d_Cli_copyFrom_89 : decode prog_2_method_6_code 89 = .ok (.iconst 0, 1) := by decide +kernel
theorem d_Cli_copyFrom_90 : decode prog_2_method_6_code 90 = .ok (.bipush 18, 2) := by decide +kernel
theorem d_Cli_copyFrom_92 : decode prog_2_method_6_code 92 = .ok (.invokestatic 63, 3) := by decide +kernel
theorem d_Cli_copyFrom_95 : decode prog_2_method_6_code 95 = .ok (.return_, 1) := by decide +kernel
theorem fs_0_25 : FS "SensorHub$Client" 25 0 0 := ⟨"SensorHub$Client", T_0, 11, rfl, by decide, rfl, gw_I 226 (by decide +kernel) rfl⟩
theorem fs_0_15 : FS "SensorHub$Client" 15 0 1 := ⟨"SensorHub$Client", T_0, 11, rfl, by decide, rfl, gw_I 228 (by decide +kernel) rfl⟩
theorem fs_0_19 : FS "SensorHub$Client" 19 0 2 := ⟨"SensorHub$Client", T_0, 11, rfl, by decide, rfl, gw_I 231 (by decide +kernel) rfl⟩
theorem fs_0_22 : FS "SensorHub$Client" 22 0 3 := ⟨"SensorHub$Client", T_0, 11, rfl, by decide, rfl, gw_I 234 (by decide +kernel) rfl⟩
theorem fs_0_44 : FS "SensorHub$Client" 44 0 9 := ⟨"SensorHub$Client", T_0, 11, rfl, by decide, rfl, gw_I 248 (by decide +kernel) rfl⟩
theorem cp_0_63 : CPY "SensorHub$Client" 63 := ⟨gw_I 441 (by decide +kernel) rfl, gw_I 417 (by decide +kernel) rfl, gw_I 416 (by decide +kernel) rfl, gw_I 80 (by decide +kernel) rfl⟩
def f_Cli_copyFrom (q : Nat) (q1 : Nat) (σ : Mem) : Option (Unit × Mem) :=
  if (σ q1 0) &&& 1 = σ q1 0 then
    lt (wr σ q 0 (σ q1 0)) fun σ1 =>
    lt (wr σ1 q 1 (σ1 q1 1)) fun σ2 =>
    lt (wr σ2 q 2 (σ2 q1 2)) fun σ3 =>
    lt (wr σ3 q 3 (σ3 q1 3)) fun σ4 =>
    lt (wr σ4 q 4 (σ4 q1 4)) fun σ5 =>
    lt (wr σ5 q 5 (σ5 q1 5)) fun σ6 =>
    lt (wr σ6 q 6 (σ6 q1 6)) fun σ7 =>
    lt (wr σ7 q 7 (σ7 q1 7)) fun σ8 =>
    lt (wr σ8 q 8 (σ8 q1 8)) fun σ9 =>
    lt (wr σ9 q 9 (σ9 q1 9)) fun σ10 =>
    lt (cpy σ10 (q1 + 1) (q + 1) 18) fun σ11 =>
    some ((), σ11)
  else none
set_option maxRecDepth 100000 in
set_option maxHeartbeats 4000000 in
theorem c_Cli_copyFrom {X : CX} (l : Launch) (q : Nat) (q1 : Nat) (hq : ClientOK X q) (hq1 : ClientOK X q1) (σ : Mem) : CT X l y_Cli_copyFrom prog_2_method_6_code 2 none 1 vU [.ref (xa X q), .ref (xa X q1)] σ (f_Cli_copyFrom q q1 σ) := by
  refine CT_of (by decide +kernel) (Nat.le_of_ble_eq_true rfl) ?_
  intro p e s m args below meth c F hlk hr
  have F : FR p s m args c prog_2_method_6_code 2 "SensorHub$Client" X := F
  show G X p l e (rmD 1) s m args below meth c 2 0 0 (QI X below args s vU) 0 [(0, .ref (xa X q)), (1, .ref (xa X q1))] [] σ _
  unfold f_Cli_copyFrom
  refine g_aload_n F d_Cli_copyFrom_0 0 rfl ?_
  refine g_aload_n F d_Cli_copyFrom_1 1 rfl ?_
  refine g_getI F fs_0_25 hq1.1 rfl d_Cli_copyFrom_2 ?_
  refine g_putZ F fw_0_25 hq.1 rfl d_Cli_copyFrom_5 ?_
  refine g_ltM (fun σ1 _ => ?_)
  refine g_aload_n F d_Cli_copyFrom_8 0 rfl ?_
  refine g_aload_n F d_Cli_copyFrom_9 1 rfl ?_
  refine g_getI F fs_0_15 hq1.1 rfl d_Cli_copyFrom_10 ?_
  refine g_putI F fw_0_15 hq.1 rfl d_Cli_copyFrom_13 ?_
  refine g_ltM (fun σ2 _ => ?_)
  refine g_aload_n F d_Cli_copyFrom_16 0 rfl ?_
  refine g_aload_n F d_Cli_copyFrom_17 1 rfl ?_
  refine g_getI F fs_0_19 hq1.1 rfl d_Cli_copyFrom_18 ?_
  refine g_putI F fw_0_19 hq.1 rfl d_Cli_copyFrom_21 ?_
  refine g_ltM (fun σ3 _ => ?_)
  refine g_aload_n F d_Cli_copyFrom_24 0 rfl ?_
  refine g_aload_n F d_Cli_copyFrom_25 1 rfl ?_
  refine g_getI F fs_0_22 hq1.1 rfl d_Cli_copyFrom_26 ?_
  refine g_putI F fw_0_22 hq.1 rfl d_Cli_copyFrom_29 ?_
  refine g_ltM (fun σ4 _ => ?_)
  refine g_aload_n F d_Cli_copyFrom_32 0 rfl ?_
  refine g_aload_n F d_Cli_copyFrom_33 1 rfl ?_
  refine g_getI F fs_0_29 hq1.1 rfl d_Cli_copyFrom_34 ?_
  refine g_putI F fw_0_29 hq.1 rfl d_Cli_copyFrom_37 ?_
  refine g_ltM (fun σ5 _ => ?_)
  refine g_aload_n F d_Cli_copyFrom_40 0 rfl ?_
  refine g_aload_n F d_Cli_copyFrom_41 1 rfl ?_
  refine g_getI F fs_0_32 hq1.1 rfl d_Cli_copyFrom_42 ?_
  refine g_putI F fw_0_32 hq.1 rfl d_Cli_copyFrom_45 ?_
  refine g_ltM (fun σ6 _ => ?_)
  refine g_aload_n F d_Cli_copyFrom_48 0 rfl ?_
  refine g_aload_n F d_Cli_copyFrom_49 1 rfl ?_
  refine g_getI F fs_0_35 hq1.1 rfl d_Cli_copyFrom_50 ?_
  refine g_putI F fw_0_35 hq.1 rfl d_Cli_copyFrom_53 ?_
  refine g_ltM (fun σ7 _ => ?_)
  refine g_aload_n F d_Cli_copyFrom_56 0 rfl ?_
  refine g_aload_n F d_Cli_copyFrom_57 1 rfl ?_
  refine g_getI F fs_0_38 hq1.1 rfl d_Cli_copyFrom_58 ?_
  refine g_putI F fw_0_38 hq.1 rfl d_Cli_copyFrom_61 ?_
  refine g_ltM (fun σ8 _ => ?_)
  refine g_aload_n F d_Cli_copyFrom_64 0 rfl ?_
  refine g_aload_n F d_Cli_copyFrom_65 1 rfl ?_
  refine g_getI F fs_0_41 hq1.1 rfl d_Cli_copyFrom_66 ?_
  refine g_putI F fw_0_41 hq.1 rfl d_Cli_copyFrom_69 ?_
  refine g_ltM (fun σ9 _ => ?_)
  refine g_aload_n F d_Cli_copyFrom_72 0 rfl ?_
  refine g_aload_n F d_Cli_copyFrom_73 1 rfl ?_
  refine g_getI F fs_0_44 hq1.1 rfl d_Cli_copyFrom_74 ?_
  refine g_putI F fw_0_44 hq.1 rfl d_Cli_copyFrom_77 ?_
  refine g_ltM (fun σ10 _ => ?_)
  refine g_aload_n F d_Cli_copyFrom_80 1 rfl ?_
  refine g_getR F fs_0_9 hq1.1 rfl d_Cli_copyFrom_81 ?_
  refine g_iconst F (v := 0) d_Cli_copyFrom_84 (by decide) ?_
  refine g_aload_n F d_Cli_copyFrom_85 0 rfl ?_
  refine g_getR F fs_0_9 hq.1 rfl d_Cli_copyFrom_86 ?_
  refine g_iconst F (v := 0) d_Cli_copyFrom_89 (by decide) ?_
  refine g_bipush F (v := 18) d_Cli_copyFrom_90 (by decide) ?_
  refine g_copy F (n := 18) cp_0_63 hq1.2 hq.2 (by decide) ⟨Nat.le_of_ble_eq_true rfl, by decide⟩ d_Cli_copyFrom_92 ?_
  refine g_ltM (fun σ11 _ => ?_)
  exact g_vret F hlk hr d_Cli_copyFrom_95
def y_Out_copyFrom : MethodName := ⟨"SensorHub$Outages", "copyFrom", "(LSensorHub$Outages;)V"⟩
theorem d_Out_copyFrom_0 : decode prog_5_method_5_code 0 = .ok (.aload_n 0, 1) := by decide +kernel
theorem d_Out_copyFrom_1 : decode prog_5_method_5_code 1 = .ok (.aload_n 1, 1) := by decide +kernel
theorem d_Out_copyFrom_2 : decode prog_5_method_5_code 2 = .ok (.getfield 21, 3) := by decide +kernel
theorem d_Out_copyFrom_5 : decode prog_5_method_5_code 5 = .ok (.putfield 21, 3) := by decide +kernel
theorem d_Out_copyFrom_8 : decode prog_5_method_5_code 8 = .ok (.aload_n 1, 1) := by decide +kernel
theorem d_Out_copyFrom_9 : decode prog_5_method_5_code 9 = .ok (.getfield 9, 3) := by decide +kernel
theorem d_Out_copyFrom_12 : decode prog_5_method_5_code 12 = .ok (.iconst 0, 1) := by decide +kernel
theorem d_Out_copyFrom_13 : decode prog_5_method_5_code 13 = .ok (.aload_n 0, 1) := by decide +kernel
theorem d_Out_copyFrom_14 : decode prog_5_method_5_code 14 = .ok (.getfield 9, 3) := by decide +kernel
theorem d_Out_copyFrom_17 : decode prog_5_method_5_code 17 = .ok (.iconst 0, 1) := by decide +kernel
theorem d_Out_copyFrom_18 : decode prog_5_method_5_code 18 = .ok (.iconst 4, 1) := by decide +kernel
theorem d_Out_copyFrom_19 : decode prog_5_method_5_code 19 = .ok (.invokestatic 29, 3) := by decide +kernel
theorem d_Out_copyFrom_22 : decode prog_5_method_5_code 22 = .ok (.aload_n 1, 1) := by decide +kernel
theorem d_Out_copyFrom_23 : decode prog_5_method_5_code 23 = .ok (.getfield 15, 3) := by decide +kernel
theorem d_Out_copyFrom_26 : decode prog_5_method_5_code 26 = .ok (.iconst 0, 1) := by decide +kernel
theorem d_Out_copyFrom_27 : decode prog_5_method_5_code 27 = .ok (.aload_n 0, 1) := by decide +kernel
theorem d_Out_copyFrom_28 : decode prog_5_method_5_code 28 = .ok (.getfield 15, 3) := by decide +kernel
theorem d_Out_copyFrom_31 : decode prog_5_method_5_code 31 = .ok (.iconst 0, 1) := by decide +kernel
theorem d_Out_copyFrom_32 : decode prog_5_method_5_code 32 = .ok (.iconst 4, 1) := by decide +kernel
theorem d_Out_copyFrom_33 : decode prog_5_method_5_code 33 = .ok (.invokestatic 29, 3) := by decide +kernel
theorem d_Out_copyFrom_36 : decode prog_5_method_5_code 36 = .ok (.aload_n 1, 1) := by decide +kernel
theorem d_Out_copyFrom_37 : decode prog_5_method_5_code 37 = .ok (.getfield 18, 3) := by decide +kernel
theorem d_Out_copyFrom_40 : decode prog_5_method_5_code 40 = .ok (.iconst 0, 1) := by decide +kernel
theorem d_Out_copyFrom_41 : decode prog_5_method_5_code 41 = .ok (.aload_n 0, 1) := by decide +kernel
theorem d_Out_copyFrom_42 : decode prog_5_method_5_code 42 = .ok (.getfield 18, 3) := by decide +kernel
theorem d_Out_copyFrom_45 : decode prog_5_method_5_code 45 = .ok (.iconst 0, 1) := by decide +kernel
theorem d_Out_copyFrom_46 : decode prog_5_method_5_code 46 = .ok (.iconst 4, 1) := by decide +kernel
theorem d_Out_copyFrom_47 : decode prog_5_method_5_code 47 = .ok (.invokestatic 29, 3) := by decide +kernel
theorem d_Out_copyFrom_50 : decode prog_5_method_5_code 50 = .ok (.return_, 1) := by decide +kernel
theorem fs_3_21 : FS "SensorHub$Outages" 21 3 0 := ⟨"SensorHub$Outages", T_3, 4, rfl, by decide, rfl, gw_I 109 (by decide +kernel) rfl⟩
theorem fw_3_21 : FW "SensorHub$Outages" 21 3 0 .int := ⟨"SensorHub$Outages", T_3, 4, rfl, by decide, rfl, gw_I 109 (by decide +kernel) rfl, rfl, by decide +kernel⟩
theorem fs_3_9 : FS "SensorHub$Outages" 9 3 1 := ⟨"SensorHub$Outages", T_3, 4, rfl, by decide, rfl, gw_I 112 (by decide +kernel) rfl⟩
theorem cp_3_29 : CPY "SensorHub$Outages" 29 := ⟨gw_I 422 (by decide +kernel) rfl, gw_I 417 (by decide +kernel) rfl, gw_I 416 (by decide +kernel) rfl, gw_I 80 (by decide +kernel) rfl⟩
theorem fs_3_15 : FS "SensorHub$Outages" 15 3 2 := ⟨"SensorHub$Outages", T_3, 4, rfl, by decide, rfl, gw_I 113 (by decide +kernel) rfl⟩
theorem fs_3_18 : FS "SensorHub$Outages" 18 3 3 := ⟨"SensorHub$Outages", T_3, 4, rfl, by decide, rfl, gw_I 114 (by decide +kernel) rfl⟩
def f_Out_copyFrom (q : Nat) (q1 : Nat) (σ : Mem) : Option (Unit × Mem) :=
  lt (wr σ q 0 (σ q1 0)) fun σ1 =>
  lt (cpy σ1 (q1 + 1) (q + 1) 4) fun σ2 =>
  lt (cpy σ2 (q1 + 2) (q + 2) 4) fun σ3 =>
  lt (cpy σ3 (q1 + 3) (q + 3) 4) fun σ4 =>
  some ((), σ4)
set_option maxRecDepth 100000 in
set_option maxHeartbeats 4000000 in
theorem c_Out_copyFrom {X : CX} (l : Launch) (q : Nat) (q1 : Nat) (hq : OutagesOK X q) (hq1 : OutagesOK X q1) (σ : Mem) : CT X l y_Out_copyFrom prog_5_method_5_code 2 none 1 vU [.ref (xa X q), .ref (xa X q1)] σ (f_Out_copyFrom q q1 σ) := by
  refine CT_of (by decide +kernel) (Nat.le_of_ble_eq_true rfl) ?_
  intro p e s m args below meth c F hlk hr
  have F : FR p s m args c prog_5_method_5_code 2 "SensorHub$Outages" X := F
  show G X p l e (rmD 1) s m args below meth c 2 0 0 (QI X below args s vU) 0 [(0, .ref (xa X q)), (1, .ref (xa X q1))] [] σ _
  unfold f_Out_copyFrom
  refine g_aload_n F d_Out_copyFrom_0 0 rfl ?_
  refine g_aload_n F d_Out_copyFrom_1 1 rfl ?_
  refine g_getI F fs_3_21 hq1.1 rfl d_Out_copyFrom_2 ?_
  refine g_putI F fw_3_21 hq.1 rfl d_Out_copyFrom_5 ?_
  refine g_ltM (fun σ1 _ => ?_)
  refine g_aload_n F d_Out_copyFrom_8 1 rfl ?_
  refine g_getR F fs_3_9 hq1.1 rfl d_Out_copyFrom_9 ?_
  refine g_iconst F (v := 0) d_Out_copyFrom_12 (by decide) ?_
  refine g_aload_n F d_Out_copyFrom_13 0 rfl ?_
  refine g_getR F fs_3_9 hq.1 rfl d_Out_copyFrom_14 ?_
  refine g_iconst F (v := 0) d_Out_copyFrom_17 (by decide) ?_
  refine g_iconst F (v := 4) d_Out_copyFrom_18 (by decide) ?_
  refine g_copy F (n := 4) cp_3_29 hq1.2.1 hq.2.1 (by decide) ⟨Nat.le_of_ble_eq_true rfl, by decide⟩ d_Out_copyFrom_19 ?_
  refine g_ltM (fun σ2 _ => ?_)
  refine g_aload_n F d_Out_copyFrom_22 1 rfl ?_
  refine g_getR F fs_3_15 hq1.1 rfl d_Out_copyFrom_23 ?_
  refine g_iconst F (v := 0) d_Out_copyFrom_26 (by decide) ?_
  refine g_aload_n F d_Out_copyFrom_27 0 rfl ?_
  refine g_getR F fs_3_15 hq.1 rfl d_Out_copyFrom_28 ?_
  refine g_iconst F (v := 0) d_Out_copyFrom_31 (by decide) ?_
  refine g_iconst F (v := 4) d_Out_copyFrom_32 (by decide) ?_
  refine g_copy F (n := 4) cp_3_29 hq1.2.2.1 hq.2.2.1 (by decide) ⟨Nat.le_of_ble_eq_true rfl, by decide⟩ d_Out_copyFrom_33 ?_
  refine g_ltM (fun σ3 _ => ?_)
  refine g_aload_n F d_Out_copyFrom_36 1 rfl ?_
  refine g_getR F fs_3_18 hq1.1 rfl d_Out_copyFrom_37 ?_
  refine g_iconst F (v := 0) d_Out_copyFrom_40 (by decide) ?_
  refine g_aload_n F d_Out_copyFrom_41 0 rfl ?_
  refine g_getR F fs_3_18 hq.1 rfl d_Out_copyFrom_42 ?_
  refine g_iconst F (v := 0) d_Out_copyFrom_45 (by decide) ?_
  refine g_iconst F (v := 4) d_Out_copyFrom_46 (by decide) ?_
  refine g_copy F (n := 4) cp_3_29 hq1.2.2.2 hq.2.2.2 (by decide) ⟨Nat.le_of_ble_eq_true rfl, by decide⟩ d_Out_copyFrom_47 ?_
  refine g_ltM (fun σ4 _ => ?_)
  exact g_vret F hlk hr d_Out_copyFrom_50
def y_Sto_copyFrom : MethodName := ⟨"SensorHub$Store", "copyFrom", "(LSensorHub$Store;)V"⟩
theorem d_Sto_copyFrom_0 : decode prog_7_method_5_code 0 = .ok (.aload_n 0, 1) := by decide +kernel
theorem d_Sto_copyFrom_1 : decode prog_7_method_5_code 1 = .ok (.aload_n 1, 1) := by decide +kernel
theorem d_Sto_copyFrom_2 : decode prog_7_method_5_code 2 = .ok (.getfield 15, 3) := by decide +kernel
theorem d_Sto_copyFrom_5 : decode prog_7_method_5_code 5 = .ok (.putfield 15, 3) := by decide +kernel
theorem d_Sto_copyFrom_8 : decode prog_7_method_5_code 8 = .ok (.aload_n 1, 1) := by decide +kernel
theorem d_Sto_copyFrom_9 : decode prog_7_method_5_code 9 = .ok (.getfield 9, 3) := by decide +kernel
theorem d_Sto_copyFrom_12 : decode prog_7_method_5_code 12 = .ok (.iconst 0, 1) := by decide +kernel
theorem d_Sto_copyFrom_13 : decode prog_7_method_5_code 13 = .ok (.aload_n 0, 1) := by decide +kernel
theorem d_Sto_copyFrom_14 : decode prog_7_method_5_code 14 = .ok (.getfield 9, 3) := by decide +kernel
theorem d_Sto_copyFrom_17 : decode prog_7_method_5_code 17 = .ok (.iconst 0, 1) := by decide +kernel
theorem d_Sto_copyFrom_18 : decode prog_7_method_5_code 18 = .ok (.bipush 90, 2) := by decide +kernel
theorem d_Sto_copyFrom_20 : decode prog_7_method_5_code 20 = .ok (.invokestatic 27, 3) := by decide +kernel
theorem d_Sto_copyFrom_23 : decode prog_7_method_5_code 23 = .ok (.return_, 1) := by decide +kernel
theorem fs_5_15 : FS "SensorHub$Store" 15 5 0 := ⟨"SensorHub$Store", T_5, 2, rfl, by decide, rfl, gw_I 131 (by decide +kernel) rfl⟩
theorem fw_5_15 : FW "SensorHub$Store" 15 5 0 .int := ⟨"SensorHub$Store", T_5, 2, rfl, by decide, rfl, gw_I 131 (by decide +kernel) rfl, rfl, by decide +kernel⟩
theorem fs_5_9 : FS "SensorHub$Store" 9 5 1 := ⟨"SensorHub$Store", T_5, 2, rfl, by decide, rfl, gw_I 134 (by decide +kernel) rfl⟩
theorem cp_5_27 : CPY "SensorHub$Store" 27 := ⟨gw_I 427 (by decide +kernel) rfl, gw_I 417 (by decide +kernel) rfl, gw_I 416 (by decide +kernel) rfl, gw_I 80 (by decide +kernel) rfl⟩
def f_Sto_copyFrom (q : Nat) (q1 : Nat) (σ : Mem) : Option (Unit × Mem) :=
  lt (wr σ q 0 (σ q1 0)) fun σ1 =>
  lt (cpy σ1 (q1 + 1) (q + 1) 90) fun σ2 =>
  some ((), σ2)
set_option maxRecDepth 100000 in
set_option maxHeartbeats 4000000 in
theorem c_Sto_copyFrom {X : CX} (l : Launch) (q : Nat) (q1 : Nat) (hq : StoreOK X q) (hq1 : StoreOK X q1) (σ : Mem) : CT X l y_Sto_copyFrom prog_7_method_5_code 2 none 1 vU [.ref (xa X q), .ref (xa X q1)] σ (f_Sto_copyFrom q q1 σ) := by
  refine CT_of (by decide +kernel) (Nat.le_of_ble_eq_true rfl) ?_
  intro p e s m args below meth c F hlk hr
  have F : FR p s m args c prog_7_method_5_code 2 "SensorHub$Store" X := F
  show G X p l e (rmD 1) s m args below meth c 2 0 0 (QI X below args s vU) 0 [(0, .ref (xa X q)), (1, .ref (xa X q1))] [] σ _
  unfold f_Sto_copyFrom
  refine g_aload_n F d_Sto_copyFrom_0 0 rfl ?_
  refine g_aload_n F d_Sto_copyFrom_1 1 rfl ?_
  refine g_getI F fs_5_15 hq1.1 rfl d_Sto_copyFrom_2 ?_
  refine g_putI F fw_5_15 hq.1 rfl d_Sto_copyFrom_5 ?_
  refine g_ltM (fun σ1 _ => ?_)
  refine g_aload_n F d_Sto_copyFrom_8 1 rfl ?_
  refine g_getR F fs_5_9 hq1.1 rfl d_Sto_copyFrom_9 ?_
  refine g_iconst F (v := 0) d_Sto_copyFrom_12 (by decide) ?_
  refine g_aload_n F d_Sto_copyFrom_13 0 rfl ?_
  refine g_getR F fs_5_9 hq.1 rfl d_Sto_copyFrom_14 ?_
  refine g_iconst F (v := 0) d_Sto_copyFrom_17 (by decide) ?_
  refine g_bipush F (v := 90) d_Sto_copyFrom_18 (by decide) ?_
  refine g_copy F (n := 90) cp_5_27 hq1.2 hq.2 (by decide) ⟨Nat.le_of_ble_eq_true rfl, by decide⟩ d_Sto_copyFrom_20 ?_
  refine g_ltM (fun σ2 _ => ?_)
  exact g_vret F hlk hr d_Sto_copyFrom_23
def y_Sen_copyFrom : MethodName := ⟨"SensorHub$Sensor", "copyFrom", "(LSensorHub$Sensor;)V"⟩
theorem d_Sen_copyFrom_0 : decode prog_6_method_12_code 0 = .ok (.aload_n 0, 1) := by decide +kernel
theorem d_Sen_copyFrom_1 : decode prog_6_method_12_code 1 = .ok (.aload_n 1, 1) := by decide +kernel
theorem d_Sen_copyFrom_2 : decode prog_6_method_12_code 2 = .ok (.getfield 15, 3) := by decide +kernel
theorem d_Sen_copyFrom_5 : decode prog_6_method_12_code 5 = .ok (.putfield 15, 3) := by decide +kernel
theorem d_Sen_copyFrom_8 : decode prog_6_method_12_code 8 = .ok (.aload_n 0, 1) := by decide +kernel
theorem d_Sen_copyFrom_9 : decode prog_6_method_12_code 9 = .ok (.aload_n 1, 1) := by decide +kernel
theorem d_Sen_copyFrom_10 : decode prog_6_method_12_code 10 = .ok (.getfield 19, 3) := by decide +kernel
theorem d_Sen_copyFrom_13 : decode prog_6_method_12_code 13 = .ok (.putfield 19, 3) := by decide +kernel
theorem d_Sen_copyFrom_16 : decode prog_6_method_12_code 16 = .ok (.aload_n 0, 1) := by decide +kernel
theorem d_Sen_copyFrom_17 : decode prog_6_method_12_code 17 = .ok (.aload_n 1, 1) := by decide +kernel
theorem d_Sen_copyFrom_18 : decode prog_6_method_12_code 18 = .ok (.getfield 22, 3) := by decide +kernel
theorem d_Sen_copyFrom_21 : decode prog_6_method_12_code 21 = .ok (.putfield 22, 3) := by decide +kernel
theorem d_Sen_copyFrom_24 : decode prog_6_method_12_code 24 = .ok (.aload_n 0, 1) := by decide +kernel
theorem d_Sen_copyFrom_25 : decode prog_6_method_12_code 25 = .ok (.aload_n 1, 1) := by decide +kernel
theorem d_Sen_copyFrom_26 : decode prog_6_method_12_code 26 = .ok (.getfield 25, 3) := by decide +kernel
theorem d_Sen_copyFrom_29 : decode prog_6_method_12_code 29 = .ok (.putfield 25, 3) := by decide +kernel
theorem d_Sen_copyFrom_32 : decode prog_6_method_12_code 32 = .ok (.aload_n 0, 1) := by decide +kernel
theorem d_Sen_copyFrom_33 : decode prog_6_method_12_code 33 = .ok (.aload_n 1, 1) := by decide +kernel
theorem d_Sen_copyFrom_34 : decode prog_6_method_12_code 34 = .ok (.getfield 28, 3) := by decide +kernel
theorem d_Sen_copyFrom_37 : decode prog_6_method_12_code 37 = .ok (.putfield 28, 3) := by decide +kernel
theorem d_Sen_copyFrom_40 : decode prog_6_method_12_code 40 = .ok (.aload_n 0, 1) := by decide +kernel
theorem d_Sen_copyFrom_41 : decode prog_6_method_12_code 41 = .ok (.aload_n 1, 1) := by decide +kernel
theorem d_Sen_copyFrom_42 : decode prog_6_method_12_code 42 = .ok (.getfield 31, 3) := by decide +kernel
theorem d_Sen_copyFrom_45 : decode prog_6_method_12_code 45 = .ok (.putfield 31, 3) := by decide +kernel
theorem d_Sen_copyFrom_48 : decode prog_6_method_12_code 48 = .ok (.aload_n 0, 1) := by decide +kernel
theorem d_Sen_copyFrom_49 : decode prog_6_method_12_code 49 = .ok (.aload_n 1, 1) := by decide +kernel
theorem d_Sen_copyFrom_50 : decode prog_6_method_12_code 50 = .ok (.getfield 34, 3) := by decide +kernel
theorem d_Sen_copyFrom_53 : decode prog_6_method_12_code 53 = .ok (.putfield 34, 3) := by decide +kernel
theorem d_Sen_copyFrom_56 : decode prog_6_method_12_code 56 = .ok (.aload_n 0, 1) := by decide +kernel
theorem d_Sen_copyFrom_57 : decode prog_6_method_12_code 57 = .ok (.aload_n 1, 1) := by decide +kernel
theorem d_Sen_copyFrom_58 : decode prog_6_method_12_code 58 = .ok (.getfield 37, 3) := by decide +kernel
theorem d_Sen_copyFrom_61 : decode prog_6_method_12_code 61 = .ok (.putfield 37, 3) := by decide +kernel
theorem d_Sen_copyFrom_64 : decode prog_6_method_12_code 64 = .ok (.aload_n 0, 1) := by decide +kernel
theorem d_Sen_copyFrom_65 : decode prog_6_method_12_code 65 = .ok (.aload_n 1, 1) := by decide +kernel
theorem d_Sen_copyFrom_66 : decode prog_6_method_12_code 66 = .ok (.getfield 40, 3) := by decide +kernel
theorem d_Sen_copyFrom_69 : decode prog_6_method_12_code 69 = .ok (.putfield 40, 3) := by decide +kernel
theorem d_Sen_copyFrom_72 : decode prog_6_method_12_code 72 = .ok (.aload_n 0, 1) := by decide +kernel
theorem d_Sen_copyFrom_73 : decode prog_6_method_12_code 73 = .ok (.aload_n 1, 1) := by decide +kernel
theorem d_Sen_copyFrom_74 : decode prog_6_method_12_code 74 = .ok (.getfield 80, 3) := by decide +kernel
theorem d_Sen_copyFrom_77 : decode prog_6_method_12_code 77 = .ok (.putfield 80, 3) := by decide +kernel
theorem d_Sen_copyFrom_80 : decode prog_6_method_12_code 80 = .ok (.aload_n 0, 1) := by decide +kernel
theorem d_Sen_copyFrom_81 : decode prog_6_method_12_code 81 = .ok (.aload_n 1, 1) := by decide +kernel
theorem d_Sen_copyFrom_82 : decode prog_6_method_12_code 82 = .ok (.getfield 43, 3) := by decide +kernel
theorem d_Sen_copyFrom_85 : decode prog_6_method_12_code 85 = .ok (.putfield 43, 3) := by decide +kernel
theorem d_Sen_copyFrom_88 : decode prog_6_method_12_code 88 = .ok (.aload_n 0, 1) := by decide +kernel
theorem d_Sen_copyFrom_89 : decode prog_6_method_12_code 89 = .ok (.aload_n 1, 1) := by decide +kernel
theorem d_Sen_copyFrom_90 : decode prog_6_method_12_code 90 = .ok (.getfield 46, 3) := by decide +kernel
theorem d_Sen_copyFrom_93 : decode prog_6_method_12_code 93 = .ok (.putfield 46, 3) := by decide +kernel
theorem d_Sen_copyFrom_96 : decode prog_6_method_12_code 96 = .ok (.aload_n 0, 1) := by decide +kernel
theorem d_Sen_copyFrom_97 : decode prog_6_method_12_code 97 = .ok (.aload_n 1, 1) := by decide +kernel
theorem d_Sen_copyFrom_98 : decode prog_6_method_12_code 98 = .ok (.getfield 52, 3) := by decide +kernel
theorem d_Sen_copyFrom_101 : decode prog_6_method_12_code 101 = .ok (.putfield 52, 3) := by decide +kernel
theorem d_Sen_copyFrom_104 : decode prog_6_method_12_code 104 = .ok (.aload_n 0, 1) := by decide +kernel
theorem d_Sen_copyFrom_105 : decode prog_6_method_12_code 105 = .ok (.aload_n 1, 1) := by decide +kernel
theorem d_Sen_copyFrom_106 : decode prog_6_method_12_code 106 = .ok (.getfield 58, 3) := by decide +kernel
theorem d_Sen_copyFrom_109 : decode prog_6_method_12_code 109 = .ok (.putfield 58, 3) := by decide +kernel
theorem d_Sen_copyFrom_112 : decode prog_6_method_12_code 112 = .ok (.aload_n 0, 1) := by decide +kernel
theorem d_Sen_copyFrom_113 : decode prog_6_method_12_code 113 = .ok (.aload_n 1, 1) := by decide +kernel
theorem d_Sen_copyFrom_114 : decode prog_6_method_12_code 114 = .ok (.getfield 68, 3) := by decide +kernel
theorem d_Sen_copyFrom_117 : decode prog_6_method_12_code 117 = .ok (.putfield 68, 3) := by decide +kernel
theorem d_Sen_copyFrom_120 : decode prog_6_method_12_code 120 = .ok (.aload_n 0, 1) := by decide +kernel
theorem d_Sen_copyFrom_121 : decode prog_6_method_12_code 121 = .ok (.aload_n 1, 1) := by decide +kernel
theorem d_Sen_copyFrom_122 : decode prog_6_method_12_code 122 = .ok (.getfield 74, 3) := by decide +kernel
theorem d_Sen_copyFrom_125 : decode prog_6_method_12_code 125 = .ok (.putfield 74, 3) := by decide +kernel
theorem d_Sen_copyFrom_128 : decode prog_6_method_12_code 128 = .ok (.aload_n 0, 1) := by decide +kernel
theorem d_Sen_copyFrom_129 : decode prog_6_method_12_code 129 = .ok (.aload_n 1, 1) := by decide +kernel
theorem d_Sen_copyFrom_130 : decode prog_6_method_12_code 130 = .ok (.getfield 55, 3) := by decide +kernel
theorem d_Sen_copyFrom_133 : decode prog_6_method_12_code 133 = .ok (.putfield 55, 3) := by decide +kernel
theorem d_Sen_copyFrom_136 : decode prog_6_method_12_code 136 = .ok (.aload_n 1, 1) := by decide +kernel
theorem d_Sen_copyFrom_137 : decode prog_6_method_12_code 137 = .ok (.getfield 9, 3) := by decide +kernel
theorem d_Sen_copyFrom_140 : decode prog_6_method_12_code 140 = .ok (.iconst 0, 1) := by decide +kernel
theorem d_Sen_copyFrom_141 : decode prog_6_method_12_code 141 = .ok (.aload_n 0, 1) := by decide +kernel
theorem d_Sen_copyFrom_142 : decode prog_6_method_12_code 142 = .ok (.getfield 9, 3) := by decide +kernel
theorem d_Sen_copyFrom_145 : decode prog_6_method_12_code 145 = .ok (.iconst 0, 1) := by decide +kernel
theorem d_Sen_copyFrom_146 : decode prog_6_method_12_code 146 = .ok (.bipush 8, 2) := by decide +kernel
theorem d_Sen_copyFrom_148 : decode prog_6_method_12_code 148 = .ok (.invokestatic 83, 3) := by decide +kernel
theorem d_Sen_copyFrom_151 : decode prog_6_method_12_code 151 = .ok (.return_, 1) := by decide +kernel
theorem fs_4_15 : FS "SensorHub$Sensor" 15 4 0 := ⟨"SensorHub$Sensor", T_4, 18, rfl, by decide, rfl, gw_I 145 (by decide +kernel) rfl⟩
theorem fw_4_15 : FW "SensorHub$Sensor" 15 4 0 .int := ⟨"SensorHub$Sensor", T_4, 18, rfl, by decide, rfl, gw_I 145 (by decide +kernel) rfl, rfl, by decide +kernel⟩
theorem fs_4_19 : FS "SensorHub$Sensor" 19 4 1 := ⟨"SensorHub$Sensor", T_4, 18, rfl, by decide, rfl, gw_I 148 (by decide +kernel) rfl⟩
theorem fw_4_19 : FW "SensorHub$Sensor" 19 4 1 .int := ⟨"SensorHub$Sensor", T_4, 18, rfl, by decide, rfl, gw_I 148 (by decide +kernel) rfl, rfl, by decide +kernel⟩
theorem fs_4_22 : FS "SensorHub$Sensor" 22 4 2 := ⟨"SensorHub$Sensor", T_4, 18, rfl, by decide, rfl, gw_I 151 (by decide +kernel) rfl⟩
theorem fw_4_22 : FW "SensorHub$Sensor" 22 4 2 .int := ⟨"SensorHub$Sensor", T_4, 18, rfl, by decide, rfl, gw_I 151 (by decide +kernel) rfl, rfl, by decide +kernel⟩
theorem fs_4_25 : FS "SensorHub$Sensor" 25 4 3 := ⟨"SensorHub$Sensor", T_4, 18, rfl, by decide, rfl, gw_I 152 (by decide +kernel) rfl⟩
theorem fw_4_25 : FW "SensorHub$Sensor" 25 4 3 .int := ⟨"SensorHub$Sensor", T_4, 18, rfl, by decide, rfl, gw_I 152 (by decide +kernel) rfl, rfl, by decide +kernel⟩
theorem fs_4_28 : FS "SensorHub$Sensor" 28 4 4 := ⟨"SensorHub$Sensor", T_4, 18, rfl, by decide, rfl, gw_I 153 (by decide +kernel) rfl⟩
theorem fw_4_28 : FW "SensorHub$Sensor" 28 4 4 .int := ⟨"SensorHub$Sensor", T_4, 18, rfl, by decide, rfl, gw_I 153 (by decide +kernel) rfl, rfl, by decide +kernel⟩
theorem fs_4_31 : FS "SensorHub$Sensor" 31 4 5 := ⟨"SensorHub$Sensor", T_4, 18, rfl, by decide, rfl, gw_I 154 (by decide +kernel) rfl⟩
theorem fw_4_31 : FW "SensorHub$Sensor" 31 4 5 .int := ⟨"SensorHub$Sensor", T_4, 18, rfl, by decide, rfl, gw_I 154 (by decide +kernel) rfl, rfl, by decide +kernel⟩
theorem fs_4_34 : FS "SensorHub$Sensor" 34 4 6 := ⟨"SensorHub$Sensor", T_4, 18, rfl, by decide, rfl, gw_I 156 (by decide +kernel) rfl⟩
theorem fw_4_34 : FW "SensorHub$Sensor" 34 4 6 .int := ⟨"SensorHub$Sensor", T_4, 18, rfl, by decide, rfl, gw_I 156 (by decide +kernel) rfl, rfl, by decide +kernel⟩
theorem fs_4_37 : FS "SensorHub$Sensor" 37 4 7 := ⟨"SensorHub$Sensor", T_4, 18, rfl, by decide, rfl, gw_I 158 (by decide +kernel) rfl⟩
theorem fw_4_37 : FW "SensorHub$Sensor" 37 4 7 .int := ⟨"SensorHub$Sensor", T_4, 18, rfl, by decide, rfl, gw_I 158 (by decide +kernel) rfl, rfl, by decide +kernel⟩
theorem fs_4_40 : FS "SensorHub$Sensor" 40 4 8 := ⟨"SensorHub$Sensor", T_4, 18, rfl, by decide, rfl, gw_I 160 (by decide +kernel) rfl⟩
theorem fw_4_40 : FW "SensorHub$Sensor" 40 4 8 .int := ⟨"SensorHub$Sensor", T_4, 18, rfl, by decide, rfl, gw_I 160 (by decide +kernel) rfl, rfl, by decide +kernel⟩
theorem fs_4_80 : FS "SensorHub$Sensor" 80 4 9 := ⟨"SensorHub$Sensor", T_4, 18, rfl, by decide, rfl, gw_I 163 (by decide +kernel) rfl⟩
theorem fw_4_80 : FW "SensorHub$Sensor" 80 4 9 .int := ⟨"SensorHub$Sensor", T_4, 18, rfl, by decide, rfl, gw_I 163 (by decide +kernel) rfl, rfl, by decide +kernel⟩
theorem fs_4_43 : FS "SensorHub$Sensor" 43 4 10 := ⟨"SensorHub$Sensor", T_4, 18, rfl, by decide, rfl, gw_I 165 (by decide +kernel) rfl⟩
theorem fw_4_43 : FW "SensorHub$Sensor" 43 4 10 .int := ⟨"SensorHub$Sensor", T_4, 18, rfl, by decide, rfl, gw_I 165 (by decide +kernel) rfl, rfl, by decide +kernel⟩
theorem fs_4_46 : FS "SensorHub$Sensor" 46 4 11 := ⟨"SensorHub$Sensor", T_4, 18, rfl, by decide, rfl, gw_I 168 (by decide +kernel) rfl⟩
theorem fw_4_46 : FW "SensorHub$Sensor" 46 4 11 .int := ⟨"SensorHub$Sensor", T_4, 18, rfl, by decide, rfl, gw_I 168 (by decide +kernel) rfl, rfl, by decide +kernel⟩
theorem fs_4_52 : FS "SensorHub$Sensor" 52 4 12 := ⟨"SensorHub$Sensor", T_4, 18, rfl, by decide, rfl, gw_I 171 (by decide +kernel) rfl⟩
theorem fw_4_52 : FW "SensorHub$Sensor" 52 4 12 .int := ⟨"SensorHub$Sensor", T_4, 18, rfl, by decide, rfl, gw_I 171 (by decide +kernel) rfl, rfl, by decide +kernel⟩
theorem fs_4_58 : FS "SensorHub$Sensor" 58 4 13 := ⟨"SensorHub$Sensor", T_4, 18, rfl, by decide, rfl, gw_I 174 (by decide +kernel) rfl⟩
theorem fw_4_58 : FW "SensorHub$Sensor" 58 4 13 .boolean := ⟨"SensorHub$Sensor", T_4, 18, rfl, by decide, rfl, gw_I 174 (by decide +kernel) rfl, rfl, by decide +kernel⟩
theorem fs_4_68 : FS "SensorHub$Sensor" 68 4 14 := ⟨"SensorHub$Sensor", T_4, 18, rfl, by decide, rfl, gw_I 176 (by decide +kernel) rfl⟩
theorem fw_4_68 : FW "SensorHub$Sensor" 68 4 14 .int := ⟨"SensorHub$Sensor", T_4, 18, rfl, by decide, rfl, gw_I 176 (by decide +kernel) rfl, rfl, by decide +kernel⟩
theorem fs_4_74 : FS "SensorHub$Sensor" 74 4 15 := ⟨"SensorHub$Sensor", T_4, 18, rfl, by decide, rfl, gw_I 179 (by decide +kernel) rfl⟩
theorem fw_4_74 : FW "SensorHub$Sensor" 74 4 15 .int := ⟨"SensorHub$Sensor", T_4, 18, rfl, by decide, rfl, gw_I 179 (by decide +kernel) rfl, rfl, by decide +kernel⟩
theorem fs_4_55 : FS "SensorHub$Sensor" 55 4 16 := ⟨"SensorHub$Sensor", T_4, 18, rfl, by decide, rfl, gw_I 182 (by decide +kernel) rfl⟩
theorem fw_4_55 : FW "SensorHub$Sensor" 55 4 16 .int := ⟨"SensorHub$Sensor", T_4, 18, rfl, by decide, rfl, gw_I 182 (by decide +kernel) rfl, rfl, by decide +kernel⟩
theorem fs_4_9 : FS "SensorHub$Sensor" 9 4 17 := ⟨"SensorHub$Sensor", T_4, 18, rfl, by decide, rfl, gw_I 183 (by decide +kernel) rfl⟩
theorem cp_4_83 : CPY "SensorHub$Sensor" 83 := ⟨gw_I 436 (by decide +kernel) rfl, gw_I 417 (by decide +kernel) rfl, gw_I 416 (by decide +kernel) rfl, gw_I 80 (by decide +kernel) rfl⟩
def f_Sen_copyFrom (q : Nat) (q1 : Nat) (σ : Mem) : Option (Unit × Mem) :=
  lt (wr σ q 0 (σ q1 0)) fun σ1 =>
  lt (wr σ1 q 1 (σ1 q1 1)) fun σ2 =>
  lt (wr σ2 q 2 (σ2 q1 2)) fun σ3 =>
  lt (wr σ3 q 3 (σ3 q1 3)) fun σ4 =>
  lt (wr σ4 q 4 (σ4 q1 4)) fun σ5 =>
  lt (wr σ5 q 5 (σ5 q1 5)) fun σ6 =>
  lt (wr σ6 q 6 (σ6 q1 6)) fun σ7 =>
  lt (wr σ7 q 7 (σ7 q1 7)) fun σ8 =>
  lt (wr σ8 q 8 (σ8 q1 8)) fun σ9 =>
  lt (wr σ9 q 9 (σ9 q1 9)) fun σ10 =>
  lt (wr σ10 q 10 (σ10 q1 10)) fun σ11 =>
  lt (wr σ11 q 11 (σ11 q1 11)) fun σ12 =>
  lt (wr σ12 q 12 (σ12 q1 12)) fun σ13 =>
  if (σ13 q1 13) &&& 1 = σ13 q1 13 then
    lt (wr σ13 q 13 (σ13 q1 13)) fun σ14 =>
    lt (wr σ14 q 14 (σ14 q1 14)) fun σ15 =>
    lt (wr σ15 q 15 (σ15 q1 15)) fun σ16 =>
    lt (wr σ16 q 16 (σ16 q1 16)) fun σ17 =>
    lt (cpy σ17 (q1 + 1) (q + 1) 8) fun σ18 =>
    some ((), σ18)
  else none
set_option maxRecDepth 100000 in
set_option maxHeartbeats 4000000 in
theorem c_Sen_copyFrom {X : CX} (l : Launch) (q : Nat) (q1 : Nat) (hq : SensorOK X q) (hq1 : SensorOK X q1) (σ : Mem) : CT X l y_Sen_copyFrom prog_6_method_12_code 2 none 1 vU [.ref (xa X q), .ref (xa X q1)] σ (f_Sen_copyFrom q q1 σ) := by
  refine CT_of (by decide +kernel) (Nat.le_of_ble_eq_true rfl) ?_
  intro p e s m args below meth c F hlk hr
  have F : FR p s m args c prog_6_method_12_code 2 "SensorHub$Sensor" X := F
  show G X p l e (rmD 1) s m args below meth c 2 0 0 (QI X below args s vU) 0 [(0, .ref (xa X q)), (1, .ref (xa X q1))] [] σ _
  unfold f_Sen_copyFrom
  refine g_aload_n F d_Sen_copyFrom_0 0 rfl ?_
  refine g_aload_n F d_Sen_copyFrom_1 1 rfl ?_
  refine g_getI F fs_4_15 hq1.1 rfl d_Sen_copyFrom_2 ?_
  refine g_putI F fw_4_15 hq.1 rfl d_Sen_copyFrom_5 ?_
  refine g_ltM (fun σ1 _ => ?_)
  refine g_aload_n F d_Sen_copyFrom_8 0 rfl ?_
  refine g_aload_n F d_Sen_copyFrom_9 1 rfl ?_
  refine g_getI F fs_4_19 hq1.1 rfl d_Sen_copyFrom_10 ?_
  refine g_putI F fw_4_19 hq.1 rfl d_Sen_copyFrom_13 ?_
  refine g_ltM (fun σ2 _ => ?_)
  refine g_aload_n F d_Sen_copyFrom_16 0 rfl ?_
  refine g_aload_n F d_Sen_copyFrom_17 1 rfl ?_
  refine g_getI F fs_4_22 hq1.1 rfl d_Sen_copyFrom_18 ?_
  refine g_putI F fw_4_22 hq.1 rfl d_Sen_copyFrom_21 ?_
  refine g_ltM (fun σ3 _ => ?_)
  refine g_aload_n F d_Sen_copyFrom_24 0 rfl ?_
  refine g_aload_n F d_Sen_copyFrom_25 1 rfl ?_
  refine g_getI F fs_4_25 hq1.1 rfl d_Sen_copyFrom_26 ?_
  refine g_putI F fw_4_25 hq.1 rfl d_Sen_copyFrom_29 ?_
  refine g_ltM (fun σ4 _ => ?_)
  refine g_aload_n F d_Sen_copyFrom_32 0 rfl ?_
  refine g_aload_n F d_Sen_copyFrom_33 1 rfl ?_
  refine g_getI F fs_4_28 hq1.1 rfl d_Sen_copyFrom_34 ?_
  refine g_putI F fw_4_28 hq.1 rfl d_Sen_copyFrom_37 ?_
  refine g_ltM (fun σ5 _ => ?_)
  refine g_aload_n F d_Sen_copyFrom_40 0 rfl ?_
  refine g_aload_n F d_Sen_copyFrom_41 1 rfl ?_
  refine g_getI F fs_4_31 hq1.1 rfl d_Sen_copyFrom_42 ?_
  refine g_putI F fw_4_31 hq.1 rfl d_Sen_copyFrom_45 ?_
  refine g_ltM (fun σ6 _ => ?_)
  refine g_aload_n F d_Sen_copyFrom_48 0 rfl ?_
  refine g_aload_n F d_Sen_copyFrom_49 1 rfl ?_
  refine g_getI F fs_4_34 hq1.1 rfl d_Sen_copyFrom_50 ?_
  refine g_putI F fw_4_34 hq.1 rfl d_Sen_copyFrom_53 ?_
  refine g_ltM (fun σ7 _ => ?_)
  refine g_aload_n F d_Sen_copyFrom_56 0 rfl ?_
  refine g_aload_n F d_Sen_copyFrom_57 1 rfl ?_
  refine g_getI F fs_4_37 hq1.1 rfl d_Sen_copyFrom_58 ?_
  refine g_putI F fw_4_37 hq.1 rfl d_Sen_copyFrom_61 ?_
  refine g_ltM (fun σ8 _ => ?_)
  refine g_aload_n F d_Sen_copyFrom_64 0 rfl ?_
  refine g_aload_n F d_Sen_copyFrom_65 1 rfl ?_
  refine g_getI F fs_4_40 hq1.1 rfl d_Sen_copyFrom_66 ?_
  refine g_putI F fw_4_40 hq.1 rfl d_Sen_copyFrom_69 ?_
  refine g_ltM (fun σ9 _ => ?_)
  refine g_aload_n F d_Sen_copyFrom_72 0 rfl ?_
  refine g_aload_n F d_Sen_copyFrom_73 1 rfl ?_
  refine g_getI F fs_4_80 hq1.1 rfl d_Sen_copyFrom_74 ?_
  refine g_putI F fw_4_80 hq.1 rfl d_Sen_copyFrom_77 ?_
  refine g_ltM (fun σ10 _ => ?_)
  refine g_aload_n F d_Sen_copyFrom_80 0 rfl ?_
  refine g_aload_n F d_Sen_copyFrom_81 1 rfl ?_
  refine g_getI F fs_4_43 hq1.1 rfl d_Sen_copyFrom_82 ?_
  refine g_putI F fw_4_43 hq.1 rfl d_Sen_copyFrom_85 ?_
  refine g_ltM (fun σ11 _ => ?_)
  refine g_aload_n F d_Sen_copyFrom_88 0 rfl ?_
  refine g_aload_n F d_Sen_copyFrom_89 1 rfl ?_
  refine g_getI F fs_4_46 hq1.1 rfl d_Sen_copyFrom_90 ?_
  refine g_putI F fw_4_46 hq.1 rfl d_Sen_copyFrom_93 ?_
  refine g_ltM (fun σ12 _ => ?_)
  refine g_aload_n F d_Sen_copyFrom_96 0 rfl ?_
  refine g_aload_n F d_Sen_copyFrom_97 1 rfl ?_
  refine g_getI F fs_4_52 hq1.1 rfl d_Sen_copyFrom_98 ?_
  refine g_putI F fw_4_52 hq.1 rfl d_Sen_copyFrom_101 ?_
  refine g_ltM (fun σ13 _ => ?_)
  refine g_aload_n F d_Sen_copyFrom_104 0 rfl ?_
  refine g_aload_n F d_Sen_copyFrom_105 1 rfl ?_
  refine g_getI F fs_4_58 hq1.1 rfl d_Sen_copyFrom_106 ?_
  refine g_putZ F fw_4_58 hq.1 rfl d_Sen_copyFrom_109 ?_
  refine g_ltM (fun σ14 _ => ?_)
  refine g_aload_n F d_Sen_copyFrom_112 0 rfl ?_
  refine g_aload_n F d_Sen_copyFrom_113 1 rfl ?_
  refine g_getI F fs_4_68 hq1.1 rfl d_Sen_copyFrom_114 ?_
  refine g_putI F fw_4_68 hq.1 rfl d_Sen_copyFrom_117 ?_
  refine g_ltM (fun σ15 _ => ?_)
  refine g_aload_n F d_Sen_copyFrom_120 0 rfl ?_
  refine g_aload_n F d_Sen_copyFrom_121 1 rfl ?_
  refine g_getI F fs_4_74 hq1.1 rfl d_Sen_copyFrom_122 ?_
  refine g_putI F fw_4_74 hq.1 rfl d_Sen_copyFrom_125 ?_
  refine g_ltM (fun σ16 _ => ?_)
  refine g_aload_n F d_Sen_copyFrom_128 0 rfl ?_
  refine g_aload_n F d_Sen_copyFrom_129 1 rfl ?_
  refine g_getI F fs_4_55 hq1.1 rfl d_Sen_copyFrom_130 ?_
  refine g_putI F fw_4_55 hq.1 rfl d_Sen_copyFrom_133 ?_
  refine g_ltM (fun σ17 _ => ?_)
  refine g_aload_n F d_Sen_copyFrom_136 1 rfl ?_
  refine g_getR F fs_4_9 hq1.1 rfl d_Sen_copyFrom_137 ?_
  refine g_iconst F (v := 0) d_Sen_copyFrom_140 (by decide) ?_
  refine g_aload_n F d_Sen_copyFrom_141 0 rfl ?_
  refine g_getR F fs_4_9 hq.1 rfl d_Sen_copyFrom_142 ?_
  refine g_iconst F (v := 0) d_Sen_copyFrom_145 (by decide) ?_
  refine g_bipush F (v := 8) d_Sen_copyFrom_146 (by decide) ?_
  refine g_copy F (n := 8) cp_4_83 hq1.2 hq.2 (by decide) ⟨Nat.le_of_ble_eq_true rfl, by decide⟩ d_Sen_copyFrom_148 ?_
  refine g_ltM (fun σ18 _ => ?_)
  exact g_vret F hlk hr d_Sen_copyFrom_151
def y_Sen_becomePhysical : MethodName := ⟨"SensorHub$Sensor", "becomePhysical", "(IIIIII)V"⟩
theorem d_Sen_becomePhysical_0 : decode prog_6_method_2_code 0 = .ok (.aload_n 0, 1) := by decide +kernel
theorem d_Sen_becomePhysical_1 : decode prog_6_method_2_code 1 = .ok (.iconst 4, 1) := by decide +kernel
theorem d_Sen_becomePhysical_2 : decode prog_6_method_2_code 2 = .ok (.putfield 15, 3) := by decide +kernel
theorem d_Sen_becomePhysical_5 : decode prog_6_method_2_code 5 = .ok (.aload_n 0, 1) := by decide +kernel
theorem d_Sen_becomePhysical_6 : decode prog_6_method_2_code 6 = .ok (.iload_n 1, 1) := by decide +kernel
theorem d_Sen_becomePhysical_7 : decode prog_6_method_2_code 7 = .ok (.putfield 19, 3) := by decide +kernel
theorem d_Sen_becomePhysical_10 : decode prog_6_method_2_code 10 = .ok (.aload_n 0, 1) := by decide +kernel
theorem d_Sen_becomePhysical_11 : decode prog_6_method_2_code 11 = .ok (.iload_n 2, 1) := by decide +kernel
theorem d_Sen_becomePhysical_12 : decode prog_6_method_2_code 12 = .ok (.putfield 22, 3) := by decide +kernel
theorem d_Sen_becomePhysical_15 : decode prog_6_method_2_code 15 = .ok (.aload_n 0, 1) := by decide +kernel
theorem d_Sen_becomePhysical_16 : decode prog_6_method_2_code 16 = .ok (.iload_n 3, 1) := by decide +kernel
theorem d_Sen_becomePhysical_17 : decode prog_6_method_2_code 17 = .ok (.putfield 25, 3) := by decide +kernel
theorem d_Sen_becomePhysical_20 : decode prog_6_method_2_code 20 = .ok (.aload_n 0, 1) := by decide +kernel
theorem d_Sen_becomePhysical_21 : decode prog_6_method_2_code 21 = .ok (.iload 4, 2) := by decide +kernel
theorem d_Sen_becomePhysical_23 : decode prog_6_method_2_code 23 = .ok (.putfield 28, 3) := by decide +kernel
theorem d_Sen_becomePhysical_26 : decode prog_6_method_2_code 26 = .ok (.aload_n 0, 1) := by decide +kernel
theorem d_Sen_becomePhysical_27 : decode prog_6_method_2_code 27 = .ok (.iload 5, 2) := by decide +kernel
theorem d_Sen_becomePhysical_29 : decode prog_6_method_2_code 29 = .ok (.putfield 31, 3) := by decide +kernel
theorem d_Sen_becomePhysical_32 : decode prog_6_method_2_code 32 = .ok (.aload_n 0, 1) := by decide +kernel
theorem d_Sen_becomePhysical_33 : decode prog_6_method_2_code 33 = .ok (.iload 6, 2) := by decide +kernel
theorem d_Sen_becomePhysical_35 : decode prog_6_method_2_code 35 = .ok (.putfield 34, 3) := by decide +kernel
theorem d_Sen_becomePhysical_38 : decode prog_6_method_2_code 38 = .ok (.return_, 1) := by decide +kernel
def f_Sen_becomePhysical (q : Nat) (p1 : Int32) (p2 : Int32) (p3 : Int32) (p4 : Int32) (p5 : Int32) (p6 : Int32) (σ : Mem) : Option (Unit × Mem) :=
  lt (wr σ q 0 (4 : Int32)) fun σ1 =>
  lt (wr σ1 q 1 p1) fun σ2 =>
  lt (wr σ2 q 2 p2) fun σ3 =>
  lt (wr σ3 q 3 p3) fun σ4 =>
  lt (wr σ4 q 4 p4) fun σ5 =>
  lt (wr σ5 q 5 p5) fun σ6 =>
  lt (wr σ6 q 6 p6) fun σ7 =>
  some ((), σ7)
set_option maxRecDepth 100000 in
set_option maxHeartbeats 4000000 in
theorem c_Sen_becomePhysical {X : CX} (l : Launch) (q : Nat) (p1 : Int32) (p2 : Int32) (p3 : Int32) (p4 : Int32) (p5 : Int32) (p6 : Int32) (hq : SensorOK X q) (σ : Mem) : CT X l y_Sen_becomePhysical prog_6_method_2_code 7 none 0 vU [.ref (xa X q), .int p1, .int p2, .int p3, .int p4, .int p5, .int p6] σ (f_Sen_becomePhysical q p1 p2 p3 p4 p5 p6 σ) := by
  refine CT_of (by decide +kernel) (Nat.le_of_ble_eq_true rfl) ?_
  intro p e s m args below meth c F hlk hr
  have F : FR p s m args c prog_6_method_2_code 7 "SensorHub$Sensor" X := F
  show G X p l e (rmD 0) s m args below meth c 7 0 0 (QI X below args s vU) 0 [(0, .ref (xa X q)), (1, .int p1), (2, .int p2), (3, .int p3), (4, .int p4), (5, .int p5), (6, .int p6)] [] σ _
  unfold f_Sen_becomePhysical
  refine g_aload_n F d_Sen_becomePhysical_0 0 rfl ?_
  refine g_iconst F (v := 4) d_Sen_becomePhysical_1 (by decide) ?_
  refine g_putI F fw_4_15 hq.1 rfl d_Sen_becomePhysical_2 ?_
  refine g_ltM (fun σ1 _ => ?_)
  refine g_aload_n F d_Sen_becomePhysical_5 0 rfl ?_
  refine g_iload_n F d_Sen_becomePhysical_6 1 rfl ?_
  refine g_putI F fw_4_19 hq.1 rfl d_Sen_becomePhysical_7 ?_
  refine g_ltM (fun σ2 _ => ?_)
  refine g_aload_n F d_Sen_becomePhysical_10 0 rfl ?_
  refine g_iload_n F d_Sen_becomePhysical_11 2 rfl ?_
  refine g_putI F fw_4_22 hq.1 rfl d_Sen_becomePhysical_12 ?_
  refine g_ltM (fun σ3 _ => ?_)
  refine g_aload_n F d_Sen_becomePhysical_15 0 rfl ?_
  refine g_iload_n F d_Sen_becomePhysical_16 3 rfl ?_
  refine g_putI F fw_4_25 hq.1 rfl d_Sen_becomePhysical_17 ?_
  refine g_ltM (fun σ4 _ => ?_)
  refine g_aload_n F d_Sen_becomePhysical_20 0 rfl ?_
  refine g_iload F d_Sen_becomePhysical_21 4 rfl ?_
  refine g_putI F fw_4_28 hq.1 rfl d_Sen_becomePhysical_23 ?_
  refine g_ltM (fun σ5 _ => ?_)
  refine g_aload_n F d_Sen_becomePhysical_26 0 rfl ?_
  refine g_iload F d_Sen_becomePhysical_27 5 rfl ?_
  refine g_putI F fw_4_31 hq.1 rfl d_Sen_becomePhysical_29 ?_
  refine g_ltM (fun σ6 _ => ?_)
  refine g_aload_n F d_Sen_becomePhysical_32 0 rfl ?_
  refine g_iload F d_Sen_becomePhysical_33 6 rfl ?_
  refine g_putI F fw_4_34 hq.1 rfl d_Sen_becomePhysical_35 ?_
  refine g_ltM (fun σ7 _ => ?_)
  exact g_vret F hlk hr d_Sen_becomePhysical_38
def y_Sen_forget : MethodName := ⟨"SensorHub$Sensor", "forget", "()V"⟩
theorem d_Sen_forget_0 : decode prog_6_method_5_code 0 = .ok (.aload_n 0, 1) := by decide +kernel
theorem d_Sen_forget_1 : decode prog_6_method_5_code 1 = .ok (.iconst 0, 1) := by decide +kernel
theorem d_Sen_forget_2 : decode prog_6_method_5_code 2 = .ok (.putfield 52, 3) := by decide +kernel
theorem d_Sen_forget_5 : decode prog_6_method_5_code 5 = .ok (.aload_n 0, 1) := by decide +kernel
theorem d_Sen_forget_6 : decode prog_6_method_5_code 6 = .ok (.iconst 0, 1) := by decide +kernel
theorem d_Sen_forget_7 : decode prog_6_method_5_code 7 = .ok (.putfield 55, 3) := by decide +kernel
theorem d_Sen_forget_10 : decode prog_6_method_5_code 10 = .ok (.aload_n 0, 1) := by decide +kernel
theorem d_Sen_forget_11 : decode prog_6_method_5_code 11 = .ok (.iconst 0, 1) := by decide +kernel
theorem d_Sen_forget_12 : decode prog_6_method_5_code 12 = .ok (.putfield 58, 3) := by decide +kernel
theorem d_Sen_forget_15 : decode prog_6_method_5_code 15 = .ok (.return_, 1) := by decide +kernel
def f_Sen_forget (q : Nat) (σ : Mem) : Option (Unit × Mem) :=
  lt (wr σ q 12 (0 : Int32)) fun σ1 =>
  lt (wr σ1 q 16 (0 : Int32)) fun σ2 =>
  lt (wr σ2 q 13 (0 : Int32)) fun σ3 =>
  some ((), σ3)
set_option maxRecDepth 100000 in
set_option maxHeartbeats 4000000 in
theorem c_Sen_forget {X : CX} (l : Launch) (q : Nat) (hq : SensorOK X q) (σ : Mem) : CT X l y_Sen_forget prog_6_method_5_code 1 none 0 vU [.ref (xa X q)] σ (f_Sen_forget q σ) := by
  refine CT_of (by decide +kernel) (Nat.le_of_ble_eq_true rfl) ?_
  intro p e s m args below meth c F hlk hr
  have F : FR p s m args c prog_6_method_5_code 1 "SensorHub$Sensor" X := F
  show G X p l e (rmD 0) s m args below meth c 1 0 0 (QI X below args s vU) 0 [(0, .ref (xa X q))] [] σ _
  unfold f_Sen_forget
  refine g_aload_n F d_Sen_forget_0 0 rfl ?_
  refine g_iconst F (v := 0) d_Sen_forget_1 (by decide) ?_
  refine g_putI F fw_4_52 hq.1 rfl d_Sen_forget_2 ?_
  refine g_ltM (fun σ1 _ => ?_)
  refine g_aload_n F d_Sen_forget_5 0 rfl ?_
  refine g_iconst F (v := 0) d_Sen_forget_6 (by decide) ?_
  refine g_putI F fw_4_55 hq.1 rfl d_Sen_forget_7 ?_
  refine g_ltM (fun σ2 _ => ?_)
  refine g_aload_n F d_Sen_forget_10 0 rfl ?_
  refine g_iconst F (v := 0) d_Sen_forget_11 (by decide) ?_
  refine g_pt (q := (0 : Int32) &&& 1 = (0 : Int32)) (by decide) (g_putZ F fw_4_58 hq.1 rfl d_Sen_forget_12 ?_)
  refine g_ltM (fun σ3 _ => ?_)
  exact g_vret F hlk hr d_Sen_forget_15
def y_Sen_becomeIdle : MethodName := ⟨"SensorHub$Sensor", "becomeIdle", "()V"⟩
theorem d_Sen_becomeIdle_0 : decode prog_6_method_4_code 0 = .ok (.aload_n 0, 1) := by decide +kernel
theorem d_Sen_becomeIdle_1 : decode prog_6_method_4_code 1 = .ok (.bipush (-9), 2) := by decide +kernel
theorem d_Sen_becomeIdle_3 : decode prog_6_method_4_code 3 = .ok (.putfield 43, 3) := by decide +kernel
theorem d_Sen_becomeIdle_6 : decode prog_6_method_4_code 6 = .ok (.aload_n 0, 1) := by decide +kernel
theorem d_Sen_becomeIdle_7 : decode prog_6_method_4_code 7 = .ok (.bipush (-9), 2) := by decide +kernel
theorem d_Sen_becomeIdle_9 : decode prog_6_method_4_code 9 = .ok (.putfield 46, 3) := by decide +kernel
theorem d_Sen_becomeIdle_12 : decode prog_6_method_4_code 12 = .ok (.aload_n 0, 1) := by decide +kernel
theorem d_Sen_becomeIdle_13 : decode prog_6_method_4_code 13 = .ok (.invokevirtual 49, 3) := by decide +kernel
theorem d_Sen_becomeIdle_16 : decode prog_6_method_4_code 16 = .ok (.return_, 1) := by decide +kernel
theorem cv_4_49 : CSV "SensorHub$Sensor" 49 y_Sen_forget prog_6_method_5_code 1 none 0 := ⟨gw_I 455 (by decide +kernel) rfl, gw_I 456 (by decide +kernel) rfl, gw_I 457 (by decide +kernel) rfl, gw_I 74 (by decide +kernel) rfl, gw_I 458 (by decide +kernel) rfl, ⟨by decide +kernel, by decide +kernel⟩, by decide +kernel⟩
def f_Sen_becomeIdle (q : Nat) (σ : Mem) : Option (Unit × Mem) :=
  lt (wr σ q 10 (-9 : Int32)) fun σ1 =>
  lt (wr σ1 q 11 (-9 : Int32)) fun σ2 =>
  bd (f_Sen_forget q σ2) fun _ σ4 =>
  some ((), σ4)
set_option maxRecDepth 100000 in
set_option maxHeartbeats 4000000 in
theorem c_Sen_becomeIdle {X : CX} (l : Launch) (q : Nat) (hq : SensorOK X q) (σ : Mem) : CT X l y_Sen_becomeIdle prog_6_method_4_code 1 none 1 vU [.ref (xa X q)] σ (f_Sen_becomeIdle q σ) := by
  refine CT_of (by decide +kernel) (Nat.le_of_ble_eq_true rfl) ?_
  intro p e s m args below meth c F hlk hr
  have F : FR p s m args c prog_6_method_4_code 1 "SensorHub$Sensor" X := F
  show G X p l e (rmD 1) s m args below meth c 1 0 0 (QI X below args s vU) 0 [(0, .ref (xa X q))] [] σ _
  unfold f_Sen_becomeIdle
  refine g_aload_n F d_Sen_becomeIdle_0 0 rfl ?_
  refine g_bipush F (v := (-9)) d_Sen_becomeIdle_1 (by decide) ?_
  refine g_putI F fw_4_43 hq.1 rfl d_Sen_becomeIdle_3 ?_
  refine g_ltM (fun σ1 _ => ?_)
  refine g_aload_n F d_Sen_becomeIdle_6 0 rfl ?_
  refine g_bipush F (v := (-9)) d_Sen_becomeIdle_7 (by decide) ?_
  refine g_putI F fw_4_46 hq.1 rfl d_Sen_becomeIdle_9 ?_
  refine g_ltM (fun σ2 _ => ?_)
  refine g_aload_n F d_Sen_becomeIdle_12 0 rfl ?_
  refine g_callV F (dp := 0) (ci := 4) (As := []) (c_Sen_forget l _ hq _) cv_4_49 hq.1 rfl rfl rfl (Nat.le_of_ble_eq_true rfl) ⟨Nat.le_of_ble_eq_true rfl, Nat.le_of_ble_eq_true rfl⟩ ⟨Nat.zero_le _, Nat.zero_le _⟩ d_Sen_becomeIdle_13 (fun _ σ4 h1 => ?_)
  exact g_vret F hlk hr d_Sen_becomeIdle_16
def y_Sen_becomeComputed : MethodName := ⟨"SensorHub$Sensor", "becomeComputed", "(III)V"⟩
theorem d_Sen_becomeComputed_0 : decode prog_6_method_3_code 0 = .ok (.aload_n 0, 1) := by decide +kernel
theorem d_Sen_becomeComputed_1 : decode prog_6_method_3_code 1 = .ok (.iload_n 1, 1) := by decide +kernel
theorem d_Sen_becomeComputed_2 : decode prog_6_method_3_code 2 = .ok (.putfield 15, 3) := by decide +kernel
theorem d_Sen_becomeComputed_5 : decode prog_6_method_3_code 5 = .ok (.aload_n 0, 1) := by decide +kernel
theorem d_Sen_becomeComputed_6 : decode prog_6_method_3_code 6 = .ok (.iload_n 2, 1) := by decide +kernel
theorem d_Sen_becomeComputed_7 : decode prog_6_method_3_code 7 = .ok (.putfield 37, 3) := by decide +kernel
theorem d_Sen_becomeComputed_10 : decode prog_6_method_3_code 10 = .ok (.aload_n 0, 1) := by decide +kernel
theorem d_Sen_becomeComputed_11 : decode prog_6_method_3_code 11 = .ok (.iload_n 3, 1) := by decide +kernel
theorem d_Sen_becomeComputed_12 : decode prog_6_method_3_code 12 = .ok (.putfield 40, 3) := by decide +kernel
theorem d_Sen_becomeComputed_15 : decode prog_6_method_3_code 15 = .ok (.return_, 1) := by decide +kernel
def f_Sen_becomeComputed (q : Nat) (p1 : Int32) (p2 : Int32) (p3 : Int32) (σ : Mem) : Option (Unit × Mem) :=
  lt (wr σ q 0 p1) fun σ1 =>
  lt (wr σ1 q 7 p2) fun σ2 =>
  lt (wr σ2 q 8 p3) fun σ3 =>
  some ((), σ3)
set_option maxRecDepth 100000 in
set_option maxHeartbeats 4000000 in
theorem c_Sen_becomeComputed {X : CX} (l : Launch) (q : Nat) (p1 : Int32) (p2 : Int32) (p3 : Int32) (hq : SensorOK X q) (σ : Mem) : CT X l y_Sen_becomeComputed prog_6_method_3_code 4 none 0 vU [.ref (xa X q), .int p1, .int p2, .int p3] σ (f_Sen_becomeComputed q p1 p2 p3 σ) := by
  refine CT_of (by decide +kernel) (Nat.le_of_ble_eq_true rfl) ?_
  intro p e s m args below meth c F hlk hr
  have F : FR p s m args c prog_6_method_3_code 4 "SensorHub$Sensor" X := F
  show G X p l e (rmD 0) s m args below meth c 4 0 0 (QI X below args s vU) 0 [(0, .ref (xa X q)), (1, .int p1), (2, .int p2), (3, .int p3)] [] σ _
  unfold f_Sen_becomeComputed
  refine g_aload_n F d_Sen_becomeComputed_0 0 rfl ?_
  refine g_iload_n F d_Sen_becomeComputed_1 1 rfl ?_
  refine g_putI F fw_4_15 hq.1 rfl d_Sen_becomeComputed_2 ?_
  refine g_ltM (fun σ1 _ => ?_)
  refine g_aload_n F d_Sen_becomeComputed_5 0 rfl ?_
  refine g_iload_n F d_Sen_becomeComputed_6 2 rfl ?_
  refine g_putI F fw_4_37 hq.1 rfl d_Sen_becomeComputed_7 ?_
  refine g_ltM (fun σ2 _ => ?_)
  refine g_aload_n F d_Sen_becomeComputed_10 0 rfl ?_
  refine g_iload_n F d_Sen_becomeComputed_11 3 rfl ?_
  refine g_putI F fw_4_40 hq.1 rfl d_Sen_becomeComputed_12 ?_
  refine g_ltM (fun σ3 _ => ?_)
  exact g_vret F hlk hr d_Sen_becomeComputed_15
def y_Sen_demandAtMost : MethodName := ⟨"SensorHub$Sensor", "demandAtMost", "(I)V"⟩
theorem d_Sen_demandAtMost_0 : decode prog_6_method_6_code 0 = .ok (.aload_n 0, 1) := by decide +kernel
theorem d_Sen_demandAtMost_1 : decode prog_6_method_6_code 1 = .ok (.getfield 43, 3) := by decide +kernel
theorem d_Sen_demandAtMost_4 : decode prog_6_method_6_code 4 = .ok (.bipush (-9), 2) := by decide +kernel
theorem d_Sen_demandAtMost_6 : decode prog_6_method_6_code 6 = .ok (.if_icmp .eq 11, 3) := by decide +kernel
theorem d_Sen_demandAtMost_9 : decode prog_6_method_6_code 9 = .ok (.aload_n 0, 1) := by decide +kernel
theorem d_Sen_demandAtMost_10 : decode prog_6_method_6_code 10 = .ok (.getfield 43, 3) := by decide +kernel
theorem d_Sen_demandAtMost_13 : decode prog_6_method_6_code 13 = .ok (.iload_n 1, 1) := by decide +kernel
theorem d_Sen_demandAtMost_14 : decode prog_6_method_6_code 14 = .ok (.if_icmp .le 8, 3) := by decide +kernel
theorem d_Sen_demandAtMost_17 : decode prog_6_method_6_code 17 = .ok (.aload_n 0, 1) := by decide +kernel
theorem d_Sen_demandAtMost_18 : decode prog_6_method_6_code 18 = .ok (.iload_n 1, 1) := by decide +kernel
theorem d_Sen_demandAtMost_19 : decode prog_6_method_6_code 19 = .ok (.putfield 43, 3) := by decide +kernel
theorem d_Sen_demandAtMost_22 : decode prog_6_method_6_code 22 = .ok (.return_, 1) := by decide +kernel
def f_Sen_demandAtMost (q : Nat) (p1 : Int32) (σ : Mem) : Option (Unit × Mem) :=
  if (σ q 10) = (-9 : Int32) then
    lt (wr σ q 10 p1) fun σ1 =>
    some ((), σ1)
  else
    if (σ q 10) ≤ p1 then
      some ((), σ)
    else
      lt (wr σ q 10 p1) fun σ2 =>
      some ((), σ2)
set_option maxRecDepth 100000 in
set_option maxHeartbeats 4000000 in
theorem c_Sen_demandAtMost {X : CX} (l : Launch) (q : Nat) (p1 : Int32) (hq : SensorOK X q) (σ : Mem) : CT X l y_Sen_demandAtMost prog_6_method_6_code 2 none 0 vU [.ref (xa X q), .int p1] σ (f_Sen_demandAtMost q p1 σ) := by
  refine CT_of (by decide +kernel) (Nat.le_of_ble_eq_true rfl) ?_
  intro p e s m args below meth c F hlk hr
  have F : FR p s m args c prog_6_method_6_code 2 "SensorHub$Sensor" X := F
  show G X p l e (rmD 0) s m args below meth c 2 0 0 (QI X below args s vU) 0 [(0, .ref (xa X q)), (1, .int p1)] [] σ _
  unfold f_Sen_demandAtMost
  refine g_aload_n F d_Sen_demandAtMost_0 0 rfl ?_
  refine g_getI F fs_4_43 hq.1 rfl d_Sen_demandAtMost_1 ?_
  refine g_bipush F (v := (-9)) d_Sen_demandAtMost_4 (by decide) ?_
  refine g_icmp_eq F (tgt := 17) d_Sen_demandAtMost_6 (by decide) (fun h1 => ?_) (fun h2 => ?_)
  · refine g_aload_n F d_Sen_demandAtMost_17 0 rfl ?_
    refine g_iload_n F d_Sen_demandAtMost_18 1 rfl ?_
    refine g_putI F fw_4_43 hq.1 rfl d_Sen_demandAtMost_19 ?_
    refine g_ltM (fun σ1 _ => ?_)
    exact g_vret F hlk hr d_Sen_demandAtMost_22
  refine g_aload_n F d_Sen_demandAtMost_9 0 rfl ?_
  refine g_getI F fs_4_43 hq.1 rfl d_Sen_demandAtMost_10 ?_
  refine g_iload_n F d_Sen_demandAtMost_13 1 rfl ?_
  refine g_icmp_le F (tgt := 22) d_Sen_demandAtMost_14 (by decide) (fun h3 => ?_) (fun h4 => ?_)
  · exact g_vret F hlk hr d_Sen_demandAtMost_22
  refine g_aload_n F d_Sen_demandAtMost_17 0 rfl ?_
  refine g_iload_n F d_Sen_demandAtMost_18 1 rfl ?_
  refine g_putI F fw_4_43 hq.1 rfl d_Sen_demandAtMost_19 ?_
  refine g_ltM (fun σ2 _ => ?_)
  exact g_vret F hlk hr d_Sen_demandAtMost_22
def y_Sen_greatestSupported : MethodName := ⟨"SensorHub$Sensor", "greatestSupported", "()I"⟩
theorem d_Sen_greatestSupported_0 : decode prog_6_method_7_code 0 = .ok (.aload_n 0, 1) := by decide +kernel
theorem d_Sen_greatestSupported_1 : decode prog_6_method_7_code 1 = .ok (.getfield 19, 3) := by decide +kernel
theorem d_Sen_greatestSupported_4 : decode prog_6_method_7_code 4 = .ok (.istore_n 1, 1) := by decide +kernel
theorem d_Sen_greatestSupported_5 : decode prog_6_method_7_code 5 = .ok (.iconst 1, 1) := by decide +kernel
theorem d_Sen_greatestSupported_6 : decode prog_6_method_7_code 6 = .ok (.istore_n 2, 1) := by decide +kernel
theorem d_Sen_greatestSupported_7 : decode prog_6_method_7_code 7 = .ok (.iload_n 2, 1) := by decide +kernel
theorem d_Sen_greatestSupported_8 : decode prog_6_method_7_code 8 = .ok (.aload_n 0, 1) := by decide +kernel
theorem d_Sen_greatestSupported_9 : decode prog_6_method_7_code 9 = .ok (.getfield 22, 3) := by decide +kernel
theorem d_Sen_greatestSupported_12 : decode prog_6_method_7_code 12 = .ok (.if_icmp .ge 23, 3) := by decide +kernel
theorem d_Sen_greatestSupported_15 : decode prog_6_method_7_code 15 = .ok (.iconst 2, 1) := by decide +kernel
theorem d_Sen_greatestSupported_16 : decode prog_6_method_7_code 16 = .ok (.iload_n 1, 1) := by decide +kernel
theorem d_Sen_greatestSupported_17 : decode prog_6_method_7_code 17 = .ok (.imul, 1) := by decide +kernel
theorem d_Sen_greatestSupported_18 : decode prog_6_method_7_code 18 = .ok (.aload_n 0, 1) := by decide +kernel
theorem d_Sen_greatestSupported_19 : decode prog_6_method_7_code 19 = .ok (.getfield 43, 3) := by decide +kernel
theorem d_Sen_greatestSupported_22 : decode prog_6_method_7_code 22 = .ok (.if_icmp .gt 13, 3) := by decide +kernel
theorem d_Sen_greatestSupported_25 : decode prog_6_method_7_code 25 = .ok (.iconst 2, 1) := by decide +kernel
theorem d_Sen_greatestSupported_26 : decode prog_6_method_7_code 26 = .ok (.iload_n 1, 1) := by decide +kernel
theorem d_Sen_greatestSupported_27 : decode prog_6_method_7_code 27 = .ok (.imul, 1) := by decide +kernel
theorem d_Sen_greatestSupported_28 : decode prog_6_method_7_code 28 = .ok (.istore_n 1, 1) := by decide +kernel
theorem d_Sen_greatestSupported_29 : decode prog_6_method_7_code 29 = .ok (.iinc 2 1, 3) := by decide +kernel
theorem d_Sen_greatestSupported_32 : decode prog_6_method_7_code 32 = .ok (.goto (-25), 3) := by decide +kernel
theorem d_Sen_greatestSupported_35 : decode prog_6_method_7_code 35 = .ok (.iload_n 1, 1) := by decide +kernel
theorem d_Sen_greatestSupported_36 : decode prog_6_method_7_code 36 = .ok (.ireturn, 1) := by decide +kernel
def L_Sen_greatestSupported_7 (r0 : Nat) (k : Int32 → Mem → Option (Int32 × Mem)) : Nat → Int32 → Int32 → Mem → Option (Int32 × Mem)
  | 0, _, _, _ => none
  | n + 1, x1, x2, σ =>
    if (σ r0 2) ≤ x2 then
      k x1 σ
    else
      if (σ r0 10) < ((2 : Int32) * x1) then
        k x1 σ
      else
        lt ((2 : Int32) * x1) fun v2 =>
        L_Sen_greatestSupported_7 r0 k n v2 (x2 + 1) σ
def f_Sen_greatestSupported (q : Nat) (σ : Mem) : Option (Int32 × Mem) :=
  lt (σ q 1) fun v1 =>
  L_Sen_greatestSupported_7 q (fun z3 σ4 =>
    some (z3, σ4)) FU v1 (1 : Int32) σ
set_option maxRecDepth 100000 in
set_option maxHeartbeats 4000000 in
theorem l_L_Sen_greatestSupported_7 {X : CX} {p : Program} {l : Launch} {e : Env} {s : State} {m : MethodId} {args : Array Value} {below : List Frame} {meth : Method} {c : Code} (F : FR p s m args c prog_6_method_7_code 3 "SensorHub$Sensor" X) (hlk : meth.locks = false) (hr : meth.sig.returnType = some .int) (r0 : Nat) (hr0 : SensorOK X r0) (k : Int32 → Mem → Option (Int32 × Mem)) (hk : ∀ (x1 : Int32) (σ : Mem), G X p l e (rmD 0) s m args below meth c 3 0 0 (QI X below args s vI) 35 [(1, .int x1)] [] σ (k x1 σ)) : ∀ (n : Nat) (x1 : Int32) (x2 : Int32) (σ : Mem), G X p l e (rmD 0) s m args below meth c 3 0 0 (QI X below args s vI) 7 [(0, .ref (xa X r0)), (1, .int x1), (2, .int x2)] [] σ (L_Sen_greatestSupported_7 r0 k n x1 x2 σ) := by
  intro n
  induction n with
  | zero => intros; exact g_no
  | succ n ih =>
    intro x1 x2 σ
    unfold L_Sen_greatestSupported_7
    refine g_iload_n F d_Sen_greatestSupported_7 2 rfl ?_
    refine g_aload_n F d_Sen_greatestSupported_8 0 rfl ?_
    refine g_getI F fs_4_22 hr0.1 rfl d_Sen_greatestSupported_9 ?_
    refine g_icmp_ge F (tgt := 35) d_Sen_greatestSupported_12 (by decide) (fun h1 => ?_) (fun h2 => ?_)
    · exact g_sub [1] rfl (hk _ _)
    refine g_iconst F (v := 2) d_Sen_greatestSupported_15 (by decide) ?_
    refine g_iload_n F d_Sen_greatestSupported_16 1 rfl ?_
    refine g_imul F d_Sen_greatestSupported_17 ?_
    refine g_aload_n F d_Sen_greatestSupported_18 0 rfl ?_
    refine g_getI F fs_4_43 hr0.1 rfl d_Sen_greatestSupported_19 ?_
    refine g_icmp_gt F (tgt := 35) d_Sen_greatestSupported_22 (by decide) (fun h3 => ?_) (fun h4 => ?_)
    · exact g_sub [1] rfl (hk _ _)
    refine g_iconst F (v := 2) d_Sen_greatestSupported_25 (by decide) ?_
    refine g_iload_n F d_Sen_greatestSupported_26 1 rfl ?_
    refine g_imul F d_Sen_greatestSupported_27 ?_
    refine g_ltI (fun v2 _ => ?_)
    refine g_istore_n F (ls' := [(1, .int v2), (0, .ref (xa X r0)), (2, .int x2)]) d_Sen_greatestSupported_28 (by decide) rfl ?_
    refine g_iinc F (v := 1) (ls' := [(2, .int (x2 + 1)), (1, .int v2), (0, .ref (xa X r0))]) d_Sen_greatestSupported_29 2 rfl (by decide) (by decide) rfl ?_
    refine g_goto F (tgt := 7) d_Sen_greatestSupported_32 (by decide) ?_
    exact g_sub [2, 1, 0] rfl (ih _ _ _)
set_option maxRecDepth 100000 in
set_option maxHeartbeats 4000000 in
theorem c_Sen_greatestSupported {X : CX} (l : Launch) (q : Nat) (hq : SensorOK X q) (σ : Mem) : CT X l y_Sen_greatestSupported prog_6_method_7_code 3 (some .int) 0 vI [.ref (xa X q)] σ (f_Sen_greatestSupported q σ) := by
  refine CT_of (by decide +kernel) (Nat.le_of_ble_eq_true rfl) ?_
  intro p e s m args below meth c F hlk hr
  have F : FR p s m args c prog_6_method_7_code 3 "SensorHub$Sensor" X := F
  show G X p l e (rmD 0) s m args below meth c 3 0 0 (QI X below args s vI) 0 [(0, .ref (xa X q))] [] σ _
  unfold f_Sen_greatestSupported
  refine g_aload_n F d_Sen_greatestSupported_0 0 rfl ?_
  refine g_getI F fs_4_19 hq.1 rfl d_Sen_greatestSupported_1 ?_
  refine g_ltI (fun v1 _ => ?_)
  refine g_istore_n F (ls' := [(1, .int v1), (0, .ref (xa X q))]) d_Sen_greatestSupported_4 (by decide) rfl ?_
  refine g_iconst F (v := 1) d_Sen_greatestSupported_5 (by decide) ?_
  refine g_istore_n F (ls' := [(2, .int (1 : Int32)), (1, .int v1), (0, .ref (xa X q))]) d_Sen_greatestSupported_6 (by decide) rfl ?_
  refine g_sub [2, 1, 0] rfl (l_L_Sen_greatestSupported_7 F hlk hr _ hq _ (fun z3 σ4 => ?_) FU _ _ _)
  refine g_iload_n F d_Sen_greatestSupported_35 0 rfl ?_
  exact g_iret F hlk hr d_Sen_greatestSupported_36
def y_X_quotient : MethodName := ⟨"SensorHub", "quotient", "(II)I"⟩
theorem d_X_quotient_0 : decode prog_1_method_26_code 0 = .ok (.iload_n 1, 1) := by decide +kernel
theorem d_X_quotient_1 : decode prog_1_method_26_code 1 = .ok (.ifCond .le 11, 3) := by decide +kernel
theorem d_X_quotient_4 : decode prog_1_method_26_code 4 = .ok (.iload_n 0, 1) := by decide +kernel
theorem d_X_quotient_5 : decode prog_1_method_26_code 5 = .ok (.iload_n 1, 1) := by decide +kernel
theorem d_X_quotient_6 : decode prog_1_method_26_code 6 = .ok (.invokestatic 233, 3) := by decide +kernel
theorem d_X_quotient_9 : decode prog_1_method_26_code 9 = .ok (.goto 4, 3) := by decide +kernel
theorem d_X_quotient_12 : decode prog_1_method_26_code 12 = .ok (.iconst 0, 1) := by decide +kernel
theorem d_X_quotient_13 : decode prog_1_method_26_code 13 = .ok (.ireturn, 1) := by decide +kernel
theorem cs_7_233 : CSS "SensorHub" 233 y_Mat_floorDiv prog_11_method_47_code 3 (some .int) 2 := ⟨gw_I 571 (by decide +kernel) rfl, gw_I 572 (by decide +kernel) rfl, gw_I 79 (by decide +kernel) rfl, gw_I 573 (by decide +kernel) rfl, ⟨by decide +kernel, by decide +kernel⟩, by decide +kernel⟩
def f_X_quotient (p0 : Int32) (p1 : Int32) (σ : Mem) : Option (Int32 × Mem) :=
  if p1 ≤ 0 then
    some ((0 : Int32), σ)
  else
    bd (f_Mat_floorDiv p0 p1 σ) fun r1 σ2 =>
    some (r1, σ2)
set_option maxRecDepth 100000 in
set_option maxHeartbeats 4000000 in
theorem c_X_quotient {X : CX} (l : Launch) (p0 : Int32) (p1 : Int32)  (σ : Mem) : CT X l y_X_quotient prog_1_method_26_code 2 (some .int) 1 vI [.int p0, .int p1] σ (f_X_quotient p0 p1 σ) := by
  refine CT_of (by decide +kernel) (Nat.le_of_ble_eq_true rfl) ?_
  intro p e s m args below meth c F hlk hr
  have F : FR p s m args c prog_1_method_26_code 2 "SensorHub" X := F
  show G X p l e (rmD 1) s m args below meth c 2 0 0 (QI X below args s vI) 0 [(0, .int p0), (1, .int p1)] [] σ _
  unfold f_X_quotient
  refine g_iload_n F d_X_quotient_0 1 rfl ?_
  refine g_if_le F (tgt := 12) d_X_quotient_1 (by decide) (fun h1 => ?_) (fun h2 => ?_)
  · refine g_iconst F (v := 0) d_X_quotient_12 (by decide) ?_
    exact g_iret F hlk hr d_X_quotient_13
  refine g_iload_n F d_X_quotient_4 0 rfl ?_
  refine g_iload_n F d_X_quotient_5 1 rfl ?_
  refine g_callS F (dp := 0) (As := [.int p0, .int p1]) (c_Mat_floorDiv l _ _ _) cs_7_233 rfl rfl (Nat.le_of_ble_eq_true rfl) ⟨Nat.le_of_ble_eq_true rfl, Nat.le_of_ble_eq_true rfl⟩ ⟨Nat.zero_le _, Nat.zero_le _⟩ d_X_quotient_6 (fun r1 σ2 h3 => ?_)
  refine g_goto F (tgt := 13) d_X_quotient_9 (by decide) ?_
  exact g_iret F hlk hr d_X_quotient_13
def y_Out_cover : MethodName := ⟨"SensorHub$Outages", "cover", "(II)Z"⟩
theorem d_Out_cover_0 : decode prog_5_method_4_code 0 = .ok (.iconst 0, 1) := by decide +kernel
theorem d_Out_cover_1 : decode prog_5_method_4_code 1 = .ok (.istore_n 3, 1) := by decide +kernel
theorem d_Out_cover_2 : decode prog_5_method_4_code 2 = .ok (.iload_n 3, 1) := by decide +kernel
theorem d_Out_cover_3 : decode prog_5_method_4_code 3 = .ok (.aload_n 0, 1) := by decide +kernel
theorem d_Out_cover_4 : decode prog_5_method_4_code 4 = .ok (.getfield 21, 3) := by decide +kernel
theorem d_Out_cover_7 : decode prog_5_method_4_code 7 = .ok (.if_icmp .ge 45, 3) := by decide +kernel
theorem d_Out_cover_10 : decode prog_5_method_4_code 10 = .ok (.iload_n 3, 1) := by decide +kernel
theorem d_Out_cover_11 : decode prog_5_method_4_code 11 = .ok (.iconst 4, 1) := by decide +kernel
theorem d_Out_cover_12 : decode prog_5_method_4_code 12 = .ok (.if_icmp .ge 40, 3) := by decide +kernel
theorem d_Out_cover_15 : decode prog_5_method_4_code 15 = .ok (.aload_n 0, 1) := by decide +kernel
theorem d_Out_cover_16 : decode prog_5_method_4_code 16 = .ok (.getfield 9, 3) := by decide +kernel
theorem d_Out_cover_19 : decode prog_5_method_4_code 19 = .ok (.iload_n 3, 1) := by decide +kernel
theorem d_Out_cover_20 : decode prog_5_method_4_code 20 = .ok (.iaload, 1) := by decide +kernel
theorem d_Out_cover_21 : decode prog_5_method_4_code 21 = .ok (.iload_n 1, 1) := by decide +kernel
theorem d_Out_cover_22 : decode prog_5_method_4_code 22 = .ok (.if_icmp .ne 24, 3) := by decide +kernel
theorem d_Out_cover_25 : decode prog_5_method_4_code 25 = .ok (.iload_n 2, 1) := by decide +kernel
theorem d_Out_cover_26 : decode prog_5_method_4_code 26 = .ok (.aload_n 0, 1) := by decide +kernel
theorem d_Out_cover_27 : decode prog_5_method_4_code 27 = .ok (.getfield 15, 3) := by decide +kernel
theorem d_Out_cover_30 : decode prog_5_method_4_code 30 = .ok (.iload_n 3, 1) := by decide +kernel
theorem d_Out_cover_31 : decode prog_5_method_4_code 31 = .ok (.iaload, 1) := by decide +kernel
theorem d_Out_cover_32 : decode prog_5_method_4_code 32 = .ok (.aload_n 0, 1) := by decide +kernel
theorem d_Out_cover_33 : decode prog_5_method_4_code 33 = .ok (.getfield 18, 3) := by decide +kernel
theorem d_Out_cover_36 : decode prog_5_method_4_code 36 = .ok (.iload_n 3, 1) := by decide +kernel
theorem d_Out_cover_37 : decode prog_5_method_4_code 37 = .ok (.iaload, 1) := by decide +kernel
theorem d_Out_cover_38 : decode prog_5_method_4_code 38 = .ok (.invokestatic 25, 3) := by decide +kernel
theorem d_Out_cover_41 : decode prog_5_method_4_code 41 = .ok (.ifCond .eq 5, 3) := by decide +kernel
theorem d_Out_cover_44 : decode prog_5_method_4_code 44 = .ok (.iconst 1, 1) := by decide +kernel
theorem d_Out_cover_45 : decode prog_5_method_4_code 45 = .ok (.ireturn, 1) := by decide +kernel
theorem d_Out_cover_46 : decode prog_5_method_4_code 46 = .ok (.iinc 3 1, 3) := by decide +kernel
theorem d_Out_cover_49 : decode prog_5_method_4_code 49 = .ok (.goto (-47), 3) := by decide +kernel
theorem d_Out_cover_52 : decode prog_5_method_4_code 52 = .ok (.iconst 0, 1) := by decide +kernel
theorem d_Out_cover_53 : decode prog_5_method_4_code 53 = .ok (.ireturn, 1) := by decide +kernel
theorem cs_3_25 : CSN "SensorHub$Outages" 25 y_X_isWithin "SensorHub" prog_1_method_24_code 3 (some .boolean) 3 := ⟨List.mem_of_getElem? (i := 6) rfl, gw_I 284 (by decide +kernel) rfl, gw_I 70 (by decide +kernel) rfl, gw_I 285 (by decide +kernel) rfl, ⟨by decide +kernel, by decide +kernel⟩, by decide +kernel⟩
def L_Out_cover_2 (r0 : Nat) (y1 : Int32) (y2 : Int32) (k : Mem → Option (Int32 × Mem)) : Nat → Int32 → Mem → Option (Int32 × Mem)
  | 0, _, _ => none
  | n + 1, x3, σ =>
    if (σ r0 0) ≤ x3 then
      k σ
    else
      if (4 : Int32) ≤ x3 then
        k σ
      else
        if ib x3 4 then
          if (σ (r0 + 1) x3.toNatClampNeg) = y1 then
            if ib x3 4 then
              if ib x3 4 then
                bd (f_X_isWithin y2 (σ (r0 + 2) x3.toNatClampNeg) (σ (r0 + 3) x3.toNatClampNeg) σ) fun r1 σ2 =>
                if r1 = 0 then L_Out_cover_2 r0 y1 y2 k n (x3 + 1) σ2 else some ((1 : Int32), σ2)
              else none
            else none
          else
            L_Out_cover_2 r0 y1 y2 k n (x3 + 1) σ
        else none
def f_Out_cover (q : Nat) (p1 : Int32) (p2 : Int32) (σ : Mem) : Option (Int32 × Mem) :=
  L_Out_cover_2 q p1 p2 (fun σ3 =>
    some ((0 : Int32), σ3)) FU (0 : Int32) σ
set_option maxRecDepth 100000 in
set_option maxHeartbeats 4000000 in
theorem l_L_Out_cover_2 {X : CX} {p : Program} {l : Launch} {e : Env} {s : State} {m : MethodId} {args : Array Value} {below : List Frame} {meth : Method} {c : Code} (F : FR p s m args c prog_5_method_4_code 4 "SensorHub$Outages" X) (hlk : meth.locks = false) (hr : meth.sig.returnType = some .boolean) (r0 : Nat) (y1 : Int32) (y2 : Int32) (hr0 : OutagesOK X r0) (k : Mem → Option (Int32 × Mem)) (hk : ∀  (σ : Mem), G X p l e (rmD 1) s m args below meth c 4 0 0 (QI X below args s vI) 52 [] [] σ (k σ)) : ∀ (n : Nat) (x3 : Int32) (σ : Mem), G X p l e (rmD 1) s m args below meth c 4 0 0 (QI X below args s vI) 2 [(0, .ref (xa X r0)), (1, .int y1), (2, .int y2), (3, .int x3)] [] σ (L_Out_cover_2 r0 y1 y2 k n x3 σ) := by
  intro n
  induction n with
  | zero => intros; exact g_no
  | succ n ih =>
    intro x3 σ
    unfold L_Out_cover_2
    refine g_iload_n F d_Out_cover_2 3 rfl ?_
    refine g_aload_n F d_Out_cover_3 0 rfl ?_
    refine g_getI F fs_3_21 hr0.1 rfl d_Out_cover_4 ?_
    refine g_icmp_ge F (tgt := 52) d_Out_cover_7 (by decide) (fun h1 => ?_) (fun h2 => ?_)
    · exact g_sub [] rfl (hk  _)
    refine g_iload_n F d_Out_cover_10 3 rfl ?_
    refine g_iconst F (v := 4) d_Out_cover_11 (by decide) ?_
    refine g_icmp_ge F (tgt := 52) d_Out_cover_12 (by decide) (fun h3 => ?_) (fun h4 => ?_)
    · exact g_sub [] rfl (hk  _)
    refine g_aload_n F d_Out_cover_15 0 rfl ?_
    refine g_getR F fs_3_9 hr0.1 rfl d_Out_cover_16 ?_
    refine g_iload_n F d_Out_cover_19 3 rfl ?_
    refine g_iald F (n := 4) hr0.2.1 d_Out_cover_20 ?_
    refine g_iload_n F d_Out_cover_21 1 rfl ?_
    refine g_icmp_ne F (tgt := 46) d_Out_cover_22 (by decide) (fun h5 => ?_) (fun h6 => ?_)
    · refine g_iload_n F d_Out_cover_25 2 rfl ?_
      refine g_aload_n F d_Out_cover_26 0 rfl ?_
      refine g_getR F fs_3_15 hr0.1 rfl d_Out_cover_27 ?_
      refine g_iload_n F d_Out_cover_30 3 rfl ?_
      refine g_iald F (n := 4) hr0.2.2.1 d_Out_cover_31 ?_
      refine g_aload_n F d_Out_cover_32 0 rfl ?_
      refine g_getR F fs_3_18 hr0.1 rfl d_Out_cover_33 ?_
      refine g_iload_n F d_Out_cover_36 3 rfl ?_
      refine g_iald F (n := 4) hr0.2.2.2 d_Out_cover_37 ?_
      refine g_callSN F (dp := 0) (As := [.int y2, .int (σ (r0 + 2) x3.toNatClampNeg), .int (σ (r0 + 3) x3.toNatClampNeg)]) (c_X_isWithin l _ _ _ _) cs_3_25 rfl rfl (Nat.le_of_ble_eq_true rfl) ⟨Nat.le_of_ble_eq_true rfl, Nat.le_of_ble_eq_true rfl⟩ ⟨Nat.zero_le _, Nat.zero_le _⟩ d_Out_cover_38 (fun r1 σ2 h7 => ?_)
      refine g_if_eq F (tgt := 46) d_Out_cover_41 (by decide) (fun h8 => ?_) (fun h9 => ?_)
      · refine g_iinc F (v := 1) (ls' := [(3, .int (x3 + 1)), (0, .ref (xa X r0)), (1, .int y1), (2, .int y2)]) d_Out_cover_46 3 rfl (by decide) (by decide) rfl ?_
        refine g_goto F (tgt := 2) d_Out_cover_49 (by decide) ?_
        exact g_sub [1, 2, 3, 0] rfl (ih _ _)
      refine g_iconst F (v := 1) d_Out_cover_44 (by decide) ?_
      exact g_zretC F hlk hr (by decide) d_Out_cover_45
    refine g_iinc F (v := 1) (ls' := [(3, .int (x3 + 1)), (0, .ref (xa X r0)), (1, .int y1), (2, .int y2)]) d_Out_cover_46 3 rfl (by decide) (by decide) rfl ?_
    refine g_goto F (tgt := 2) d_Out_cover_49 (by decide) ?_
    exact g_sub [1, 2, 3, 0] rfl (ih _ _)
set_option maxRecDepth 100000 in
set_option maxHeartbeats 4000000 in
theorem c_Out_cover {X : CX} (l : Launch) (q : Nat) (p1 : Int32) (p2 : Int32) (hq : OutagesOK X q) (σ : Mem) : CT X l y_Out_cover prog_5_method_4_code 4 (some .boolean) 1 vI [.ref (xa X q), .int p1, .int p2] σ (f_Out_cover q p1 p2 σ) := by
  refine CT_of (by decide +kernel) (Nat.le_of_ble_eq_true rfl) ?_
  intro p e s m args below meth c F hlk hr
  have F : FR p s m args c prog_5_method_4_code 4 "SensorHub$Outages" X := F
  show G X p l e (rmD 1) s m args below meth c 4 0 0 (QI X below args s vI) 0 [(0, .ref (xa X q)), (1, .int p1), (2, .int p2)] [] σ _
  unfold f_Out_cover
  refine g_iconst F (v := 0) d_Out_cover_0 (by decide) ?_
  refine g_istore_n F (ls' := [(3, .int (0 : Int32)), (0, .ref (xa X q)), (1, .int p1), (2, .int p2)]) d_Out_cover_1 (by decide) rfl ?_
  refine g_sub [1, 2, 3, 0] rfl (l_L_Out_cover_2 F hlk hr _ _ _ hq _ (fun σ3 => ?_) FU _ _)
  refine g_iconst F (v := 0) d_Out_cover_52 (by decide) ?_
  exact g_zretC F hlk hr (by decide) d_Out_cover_53
def y_Sen_valueAt : MethodName := ⟨"SensorHub$Sensor", "valueAt", "(I)I"⟩
theorem d_Sen_valueAt_0 : decode prog_6_method_8_code 0 = .ok (.aload_n 0, 1) := by decide +kernel
theorem d_Sen_valueAt_1 : decode prog_6_method_8_code 1 = .ok (.getfield 25, 3) := by decide +kernel
theorem d_Sen_valueAt_4 : decode prog_6_method_8_code 4 = .ok (.iload_n 1, 1) := by decide +kernel
theorem d_Sen_valueAt_5 : decode prog_6_method_8_code 5 = .ok (.imul, 1) := by decide +kernel
theorem d_Sen_valueAt_6 : decode prog_6_method_8_code 6 = .ok (.aload_n 0, 1) := by decide +kernel
theorem d_Sen_valueAt_7 : decode prog_6_method_8_code 7 = .ok (.getfield 28, 3) := by decide +kernel
theorem d_Sen_valueAt_10 : decode prog_6_method_8_code 10 = .ok (.iadd, 1) := by decide +kernel
theorem d_Sen_valueAt_11 : decode prog_6_method_8_code 11 = .ok (.sipush 1000, 3) := by decide +kernel
theorem d_Sen_valueAt_14 : decode prog_6_method_8_code 14 = .ok (.invokestatic 62, 3) := by decide +kernel
theorem d_Sen_valueAt_17 : decode prog_6_method_8_code 17 = .ok (.ireturn, 1) := by decide +kernel
theorem cs_4_62 : CSS "SensorHub$Sensor" 62 y_Mat_floorMod prog_11_method_50_code 3 (some .int) 2 := ⟨gw_I 759 (by decide +kernel) rfl, gw_I 409 (by decide +kernel) rfl, gw_I 79 (by decide +kernel) rfl, gw_I 410 (by decide +kernel) rfl, ⟨by decide +kernel, by decide +kernel⟩, by decide +kernel⟩
def f_Sen_valueAt (q : Nat) (p1 : Int32) (σ : Mem) : Option (Int32 × Mem) :=
  bd (f_Mat_floorMod (((σ q 3) * p1) + (σ q 4)) (1000 : Int32) σ) fun r1 σ2 =>
  some (r1, σ2)
set_option maxRecDepth 100000 in
set_option maxHeartbeats 4000000 in
theorem c_Sen_valueAt {X : CX} (l : Launch) (q : Nat) (p1 : Int32) (hq : SensorOK X q) (σ : Mem) : CT X l y_Sen_valueAt prog_6_method_8_code 2 (some .int) 1 vI [.ref (xa X q), .int p1] σ (f_Sen_valueAt q p1 σ) := by
  refine CT_of (by decide +kernel) (Nat.le_of_ble_eq_true rfl) ?_
  intro p e s m args below meth c F hlk hr
  have F : FR p s m args c prog_6_method_8_code 2 "SensorHub$Sensor" X := F
  show G X p l e (rmD 1) s m args below meth c 2 0 0 (QI X below args s vI) 0 [(0, .ref (xa X q)), (1, .int p1)] [] σ _
  unfold f_Sen_valueAt
  refine g_aload_n F d_Sen_valueAt_0 0 rfl ?_
  refine g_getI F fs_4_25 hq.1 rfl d_Sen_valueAt_1 ?_
  refine g_iload_n F d_Sen_valueAt_4 1 rfl ?_
  refine g_imul F d_Sen_valueAt_5 ?_
  refine g_aload_n F d_Sen_valueAt_6 0 rfl ?_
  refine g_getI F fs_4_28 hq.1 rfl d_Sen_valueAt_7 ?_
  refine g_iadd F d_Sen_valueAt_10 ?_
  refine g_sipush F (v := 1000) d_Sen_valueAt_11 (by decide) ?_
  refine g_callS F (dp := 0) (As := [.int (((σ q 3) * p1) + (σ q 4)), .int (1000 : Int32)]) (c_Mat_floorMod l _ _ _) cs_4_62 rfl rfl (Nat.le_of_ble_eq_true rfl) ⟨Nat.le_of_ble_eq_true rfl, Nat.le_of_ble_eq_true rfl⟩ ⟨Nat.zero_le _, Nat.zero_le _⟩ d_Sen_valueAt_14 (fun r1 σ2 h1 => ?_)
  exact g_iret F hlk hr d_Sen_valueAt_17
def y_Sen_smoothedStamp : MethodName := ⟨"SensorHub$Sensor", "smoothedStamp", "(I)I"⟩
theorem d_Sen_smoothedStamp_0 : decode prog_6_method_9_code 0 = .ok (.aload_n 0, 1) := by decide +kernel
theorem d_Sen_smoothedStamp_1 : decode prog_6_method_9_code 1 = .ok (.getfield 52, 3) := by decide +kernel
theorem d_Sen_smoothedStamp_4 : decode prog_6_method_9_code 4 = .ok (.ifCond .ne 5, 3) := by decide +kernel
theorem d_Sen_smoothedStamp_7 : decode prog_6_method_9_code 7 = .ok (.iload_n 1, 1) := by decide +kernel
theorem d_Sen_smoothedStamp_8 : decode prog_6_method_9_code 8 = .ok (.ireturn, 1) := by decide +kernel
theorem d_Sen_smoothedStamp_9 : decode prog_6_method_9_code 9 = .ok (.aload_n 0, 1) := by decide +kernel
theorem d_Sen_smoothedStamp_10 : decode prog_6_method_9_code 10 = .ok (.getfield 68, 3) := by decide +kernel
theorem d_Sen_smoothedStamp_13 : decode prog_6_method_9_code 13 = .ok (.aload_n 0, 1) := by decide +kernel
theorem d_Sen_smoothedStamp_14 : decode prog_6_method_9_code 14 = .ok (.getfield 46, 3) := by decide +kernel
theorem d_Sen_smoothedStamp_17 : decode prog_6_method_9_code 17 = .ok (.iadd, 1) := by decide +kernel
theorem d_Sen_smoothedStamp_18 : decode prog_6_method_9_code 18 = .ok (.istore_n 2, 1) := by decide +kernel
theorem d_Sen_smoothedStamp_19 : decode prog_6_method_9_code 19 = .ok (.iload_n 2, 1) := by decide +kernel
theorem d_Sen_smoothedStamp_20 : decode prog_6_method_9_code 20 = .ok (.iload_n 1, 1) := by decide +kernel
theorem d_Sen_smoothedStamp_21 : decode prog_6_method_9_code 21 = .ok (.iload_n 2, 1) := by decide +kernel
theorem d_Sen_smoothedStamp_22 : decode prog_6_method_9_code 22 = .ok (.isub, 1) := by decide +kernel
theorem d_Sen_smoothedStamp_23 : decode prog_6_method_9_code 23 = .ok (.iconst 4, 1) := by decide +kernel
theorem d_Sen_smoothedStamp_24 : decode prog_6_method_9_code 24 = .ok (.invokestatic 71, 3) := by decide +kernel
theorem d_Sen_smoothedStamp_27 : decode prog_6_method_9_code 27 = .ok (.iadd, 1) := by decide +kernel
theorem d_Sen_smoothedStamp_28 : decode prog_6_method_9_code 28 = .ok (.ireturn, 1) := by decide +kernel
theorem cs_4_71 : CSS "SensorHub$Sensor" 71 y_Mat_floorDiv prog_11_method_47_code 3 (some .int) 2 := ⟨gw_I 764 (by decide +kernel) rfl, gw_I 572 (by decide +kernel) rfl, gw_I 79 (by decide +kernel) rfl, gw_I 573 (by decide +kernel) rfl, ⟨by decide +kernel, by decide +kernel⟩, by decide +kernel⟩
def f_Sen_smoothedStamp (q : Nat) (p1 : Int32) (σ : Mem) : Option (Int32 × Mem) :=
  if (σ q 12) = 0 then
    some (p1, σ)
  else
    lt ((σ q 14) + (σ q 11)) fun v1 =>
    bd (f_Mat_floorDiv (p1 - v1) (4 : Int32) σ) fun r2 σ3 =>
    some (v1 + r2, σ3)
set_option maxRecDepth 100000 in
set_option maxHeartbeats 4000000 in
theorem c_Sen_smoothedStamp {X : CX} (l : Launch) (q : Nat) (p1 : Int32) (hq : SensorOK X q) (σ : Mem) : CT X l y_Sen_smoothedStamp prog_6_method_9_code 3 (some .int) 1 vI [.ref (xa X q), .int p1] σ (f_Sen_smoothedStamp q p1 σ) := by
  refine CT_of (by decide +kernel) (Nat.le_of_ble_eq_true rfl) ?_
  intro p e s m args below meth c F hlk hr
  have F : FR p s m args c prog_6_method_9_code 3 "SensorHub$Sensor" X := F
  show G X p l e (rmD 1) s m args below meth c 3 0 0 (QI X below args s vI) 0 [(0, .ref (xa X q)), (1, .int p1)] [] σ _
  unfold f_Sen_smoothedStamp
  refine g_aload_n F d_Sen_smoothedStamp_0 0 rfl ?_
  refine g_getI F fs_4_52 hq.1 rfl d_Sen_smoothedStamp_1 ?_
  refine g_if_ne F (tgt := 9) d_Sen_smoothedStamp_4 (by decide) (fun h1 => ?_) (fun h2 => ?_)
  · refine g_iload_n F d_Sen_smoothedStamp_7 1 rfl ?_
    exact g_iret F hlk hr d_Sen_smoothedStamp_8
  refine g_aload_n F d_Sen_smoothedStamp_9 0 rfl ?_
  refine g_getI F fs_4_68 hq.1 rfl d_Sen_smoothedStamp_10 ?_
  refine g_aload_n F d_Sen_smoothedStamp_13 0 rfl ?_
  refine g_getI F fs_4_46 hq.1 rfl d_Sen_smoothedStamp_14 ?_
  refine g_iadd F d_Sen_smoothedStamp_17 ?_
  refine g_ltI (fun v1 _ => ?_)
  refine g_istore_n F (ls' := [(2, .int v1), (0, .ref (xa X q)), (1, .int p1)]) d_Sen_smoothedStamp_18 (by decide) rfl ?_
  refine g_iload_n F d_Sen_smoothedStamp_19 0 rfl ?_
  refine g_iload_n F d_Sen_smoothedStamp_20 2 rfl ?_
  refine g_iload_n F d_Sen_smoothedStamp_21 0 rfl ?_
  refine g_isub F d_Sen_smoothedStamp_22 ?_
  refine g_iconst F (v := 4) d_Sen_smoothedStamp_23 (by decide) ?_
  refine g_callS F (dp := 0) (As := [.int (p1 - v1), .int (4 : Int32)]) (c_Mat_floorDiv l _ _ _) cs_4_71 rfl rfl (Nat.le_of_ble_eq_true rfl) ⟨Nat.le_of_ble_eq_true rfl, Nat.le_of_ble_eq_true rfl⟩ ⟨Nat.zero_le _, Nat.zero_le _⟩ d_Sen_smoothedStamp_24 (fun r2 σ3 h3 => ?_)
  refine g_iadd F d_Sen_smoothedStamp_27 ?_
  exact g_iret F hlk hr d_Sen_smoothedStamp_28
def y_Sen_accept : MethodName := ⟨"SensorHub$Sensor", "accept", "(II)V"⟩
theorem d_Sen_accept_0 : decode prog_6_method_10_code 0 = .ok (.aload_n 0, 1) := by decide +kernel
theorem d_Sen_accept_1 : decode prog_6_method_10_code 1 = .ok (.iload_n 1, 1) := by decide +kernel
theorem d_Sen_accept_2 : decode prog_6_method_10_code 2 = .ok (.putfield 68, 3) := by decide +kernel
theorem d_Sen_accept_5 : decode prog_6_method_10_code 5 = .ok (.aload_n 0, 1) := by decide +kernel
theorem d_Sen_accept_6 : decode prog_6_method_10_code 6 = .ok (.iload_n 2, 1) := by decide +kernel
theorem d_Sen_accept_7 : decode prog_6_method_10_code 7 = .ok (.putfield 74, 3) := by decide +kernel
theorem d_Sen_accept_10 : decode prog_6_method_10_code 10 = .ok (.aload_n 0, 1) := by decide +kernel
theorem d_Sen_accept_11 : decode prog_6_method_10_code 11 = .ok (.dup, 1) := by decide +kernel
theorem d_Sen_accept_12 : decode prog_6_method_10_code 12 = .ok (.getfield 52, 3) := by decide +kernel
theorem d_Sen_accept_15 : decode prog_6_method_10_code 15 = .ok (.iconst 1, 1) := by decide +kernel
theorem d_Sen_accept_16 : decode prog_6_method_10_code 16 = .ok (.iadd, 1) := by decide +kernel
theorem d_Sen_accept_17 : decode prog_6_method_10_code 17 = .ok (.putfield 52, 3) := by decide +kernel
theorem d_Sen_accept_20 : decode prog_6_method_10_code 20 = .ok (.aload_n 0, 1) := by decide +kernel
theorem d_Sen_accept_21 : decode prog_6_method_10_code 21 = .ok (.iconst 1, 1) := by decide +kernel
theorem d_Sen_accept_22 : decode prog_6_method_10_code 22 = .ok (.putfield 58, 3) := by decide +kernel
theorem d_Sen_accept_25 : decode prog_6_method_10_code 25 = .ok (.iload_n 2, 1) := by decide +kernel
theorem d_Sen_accept_26 : decode prog_6_method_10_code 26 = .ok (.bipush (-8), 2) := by decide +kernel
theorem d_Sen_accept_28 : decode prog_6_method_10_code 28 = .ok (.if_icmp .eq 28, 3) := by decide +kernel
theorem d_Sen_accept_31 : decode prog_6_method_10_code 31 = .ok (.aload_n 0, 1) := by decide +kernel
theorem d_Sen_accept_32 : decode prog_6_method_10_code 32 = .ok (.getfield 9, 3) := by decide +kernel
theorem d_Sen_accept_35 : decode prog_6_method_10_code 35 = .ok (.aload_n 0, 1) := by decide +kernel
theorem d_Sen_accept_36 : decode prog_6_method_10_code 36 = .ok (.getfield 55, 3) := by decide +kernel
theorem d_Sen_accept_39 : decode prog_6_method_10_code 39 = .ok (.bipush 8, 2) := by decide +kernel
theorem d_Sen_accept_41 : decode prog_6_method_10_code 41 = .ok (.invokestatic 62, 3) := by decide +kernel
theorem d_Sen_accept_44 : decode prog_6_method_10_code 44 = .ok (.iload_n 2, 1) := by decide +kernel
theorem d_Sen_accept_45 : decode prog_6_method_10_code 45 = .ok (.iastore, 1) := by decide +kernel
theorem d_Sen_accept_46 : decode prog_6_method_10_code 46 = .ok (.aload_n 0, 1) := by decide +kernel
theorem d_Sen_accept_47 : decode prog_6_method_10_code 47 = .ok (.dup, 1) := by decide +kernel
theorem d_Sen_accept_48 : decode prog_6_method_10_code 48 = .ok (.getfield 55, 3) := by decide +kernel
theorem d_Sen_accept_51 : decode prog_6_method_10_code 51 = .ok (.iconst 1, 1) := by decide +kernel
theorem d_Sen_accept_52 : decode prog_6_method_10_code 52 = .ok (.iadd, 1) := by decide +kernel
theorem d_Sen_accept_53 : decode prog_6_method_10_code 53 = .ok (.putfield 55, 3) := by decide +kernel
theorem d_Sen_accept_56 : decode prog_6_method_10_code 56 = .ok (.return_, 1) := by decide +kernel
def f_Sen_accept (q : Nat) (p1 : Int32) (p2 : Int32) (σ : Mem) : Option (Unit × Mem) :=
  lt (wr σ q 14 p1) fun σ1 =>
  lt (wr σ1 q 15 p2) fun σ2 =>
  lt (wr σ2 q 12 ((σ2 q 12) + (1 : Int32))) fun σ3 =>
  lt (wr σ3 q 13 (1 : Int32)) fun σ4 =>
  if p2 = (-8 : Int32) then
    some ((), σ4)
  else
    bd (f_Mat_floorMod (σ4 q 16) (8 : Int32) σ4) fun r5 σ6 =>
    if ib r5 8 then
      lt (wr σ6 (q + 1) r5.toNatClampNeg p2) fun σ7 =>
      lt (wr σ7 q 16 ((σ7 q 16) + (1 : Int32))) fun σ8 =>
      some ((), σ8)
    else none
set_option maxRecDepth 100000 in
set_option maxHeartbeats 4000000 in
theorem c_Sen_accept {X : CX} (l : Launch) (q : Nat) (p1 : Int32) (p2 : Int32) (hq : SensorOK X q) (σ : Mem) : CT X l y_Sen_accept prog_6_method_10_code 3 none 1 vU [.ref (xa X q), .int p1, .int p2] σ (f_Sen_accept q p1 p2 σ) := by
  refine CT_of (by decide +kernel) (Nat.le_of_ble_eq_true rfl) ?_
  intro p e s m args below meth c F hlk hr
  have F : FR p s m args c prog_6_method_10_code 3 "SensorHub$Sensor" X := F
  show G X p l e (rmD 1) s m args below meth c 3 0 0 (QI X below args s vU) 0 [(0, .ref (xa X q)), (1, .int p1), (2, .int p2)] [] σ _
  unfold f_Sen_accept
  refine g_aload_n F d_Sen_accept_0 0 rfl ?_
  refine g_iload_n F d_Sen_accept_1 1 rfl ?_
  refine g_putI F fw_4_68 hq.1 rfl d_Sen_accept_2 ?_
  refine g_ltM (fun σ1 _ => ?_)
  refine g_aload_n F d_Sen_accept_5 0 rfl ?_
  refine g_iload_n F d_Sen_accept_6 2 rfl ?_
  refine g_putI F fw_4_74 hq.1 rfl d_Sen_accept_7 ?_
  refine g_ltM (fun σ2 _ => ?_)
  refine g_aload_n F d_Sen_accept_10 0 rfl ?_
  refine g_dup F d_Sen_accept_11 rfl ?_
  refine g_getI F fs_4_52 hq.1 rfl d_Sen_accept_12 ?_
  refine g_iconst F (v := 1) d_Sen_accept_15 (by decide) ?_
  refine g_iadd F d_Sen_accept_16 ?_
  refine g_putI F fw_4_52 hq.1 rfl d_Sen_accept_17 ?_
  refine g_ltM (fun σ3 _ => ?_)
  refine g_aload_n F d_Sen_accept_20 0 rfl ?_
  refine g_iconst F (v := 1) d_Sen_accept_21 (by decide) ?_
  refine g_pt (q := (1 : Int32) &&& 1 = (1 : Int32)) (by decide) (g_putZ F fw_4_58 hq.1 rfl d_Sen_accept_22 ?_)
  refine g_ltM (fun σ4 _ => ?_)
  refine g_iload_n F d_Sen_accept_25 2 rfl ?_
  refine g_bipush F (v := (-8)) d_Sen_accept_26 (by decide) ?_
  refine g_icmp_eq F (tgt := 56) d_Sen_accept_28 (by decide) (fun h1 => ?_) (fun h2 => ?_)
  · exact g_vret F hlk hr d_Sen_accept_56
  refine g_aload_n F d_Sen_accept_31 0 rfl ?_
  refine g_getR F fs_4_9 hq.1 rfl d_Sen_accept_32 ?_
  refine g_aload_n F d_Sen_accept_35 0 rfl ?_
  refine g_getI F fs_4_55 hq.1 rfl d_Sen_accept_36 ?_
  refine g_bipush F (v := 8) d_Sen_accept_39 (by decide) ?_
  refine g_callS F (dp := 0) (As := [.int (σ4 q 16), .int (8 : Int32)]) (c_Mat_floorMod l _ _ _) cs_4_62 rfl rfl (Nat.le_of_ble_eq_true rfl) ⟨Nat.le_of_ble_eq_true rfl, Nat.le_of_ble_eq_true rfl⟩ ⟨Nat.zero_le _, Nat.zero_le _⟩ d_Sen_accept_41 (fun r5 σ6 h3 => ?_)
  refine g_iload_n F d_Sen_accept_44 2 rfl ?_
  refine g_iast F (n := 8) hq.2 d_Sen_accept_45 ?_
  refine g_ltM (fun σ7 _ => ?_)
  refine g_aload_n F d_Sen_accept_46 0 rfl ?_
  refine g_dup F d_Sen_accept_47 rfl ?_
  refine g_getI F fs_4_55 hq.1 rfl d_Sen_accept_48 ?_
  refine g_iconst F (v := 1) d_Sen_accept_51 (by decide) ?_
  refine g_iadd F d_Sen_accept_52 ?_
  refine g_putI F fw_4_55 hq.1 rfl d_Sen_accept_53 ?_
  refine g_ltM (fun σ8 _ => ?_)
  exact g_vret F hlk hr d_Sen_accept_56
def y_Sen_meanOfLatest : MethodName := ⟨"SensorHub$Sensor", "meanOfLatest", "(I)I"⟩
theorem d_Sen_meanOfLatest_0 : decode prog_6_method_11_code 0 = .ok (.iload_n 1, 1) := by decide +kernel
theorem d_Sen_meanOfLatest_1 : decode prog_6_method_11_code 1 = .ok (.bipush 8, 2) := by decide +kernel
theorem d_Sen_meanOfLatest_3 : decode prog_6_method_11_code 3 = .ok (.invokestatic 77, 3) := by decide +kernel
theorem d_Sen_meanOfLatest_6 : decode prog_6_method_11_code 6 = .ok (.aload_n 0, 1) := by decide +kernel
theorem d_Sen_meanOfLatest_7 : decode prog_6_method_11_code 7 = .ok (.getfield 55, 3) := by decide +kernel
theorem d_Sen_meanOfLatest_10 : decode prog_6_method_11_code 10 = .ok (.invokestatic 77, 3) := by decide +kernel
theorem d_Sen_meanOfLatest_13 : decode prog_6_method_11_code 13 = .ok (.istore_n 2, 1) := by decide +kernel
theorem d_Sen_meanOfLatest_14 : decode prog_6_method_11_code 14 = .ok (.iconst 0, 1) := by decide +kernel
theorem d_Sen_meanOfLatest_15 : decode prog_6_method_11_code 15 = .ok (.istore_n 3, 1) := by decide +kernel
theorem d_Sen_meanOfLatest_16 : decode prog_6_method_11_code 16 = .ok (.iconst 1, 1) := by decide +kernel
theorem d_Sen_meanOfLatest_17 : decode prog_6_method_11_code 17 = .ok (.istore 4, 2) := by decide +kernel
theorem d_Sen_meanOfLatest_19 : decode prog_6_method_11_code 19 = .ok (.iload 4, 2) := by decide +kernel
theorem d_Sen_meanOfLatest_21 : decode prog_6_method_11_code 21 = .ok (.iload_n 2, 1) := by decide +kernel
theorem d_Sen_meanOfLatest_22 : decode prog_6_method_11_code 22 = .ok (.if_icmp .gt 29, 3) := by decide +kernel
theorem d_Sen_meanOfLatest_25 : decode prog_6_method_11_code 25 = .ok (.iload_n 3, 1) := by decide +kernel
theorem d_Sen_meanOfLatest_26 : decode prog_6_method_11_code 26 = .ok (.aload_n 0, 1) := by decide +kernel
theorem d_Sen_meanOfLatest_27 : decode prog_6_method_11_code 27 = .ok (.getfield 9, 3) := by decide +kernel
theorem d_Sen_meanOfLatest_30 : decode prog_6_method_11_code 30 = .ok (.aload_n 0, 1) := by decide +kernel
theorem d_Sen_meanOfLatest_31 : decode prog_6_method_11_code 31 = .ok (.getfield 55, 3) := by decide +kernel
theorem d_Sen_meanOfLatest_34 : decode prog_6_method_11_code 34 = .ok (.iload 4, 2) := by decide +kernel
theorem d_Sen_meanOfLatest_36 : decode prog_6_method_11_code 36 = .ok (.isub, 1) := by decide +kernel
theorem d_Sen_meanOfLatest_37 : decode prog_6_method_11_code 37 = .ok (.bipush 8, 2) := by decide +kernel
theorem d_Sen_meanOfLatest_39 : decode prog_6_method_11_code 39 = .ok (.invokestatic 62, 3) := by decide +kernel
theorem d_Sen_meanOfLatest_42 : decode prog_6_method_11_code 42 = .ok (.iaload, 1) := by decide +kernel
theorem d_Sen_meanOfLatest_43 : decode prog_6_method_11_code 43 = .ok (.iadd, 1) := by decide +kernel
theorem d_Sen_meanOfLatest_44 : decode prog_6_method_11_code 44 = .ok (.istore_n 3, 1) := by decide +kernel
theorem d_Sen_meanOfLatest_45 : decode prog_6_method_11_code 45 = .ok (.iinc 4 1, 3) := by decide +kernel
theorem d_Sen_meanOfLatest_48 : decode prog_6_method_11_code 48 = .ok (.goto (-29), 3) := by decide +kernel
theorem d_Sen_meanOfLatest_51 : decode prog_6_method_11_code 51 = .ok (.iload_n 2, 1) := by decide +kernel
theorem d_Sen_meanOfLatest_52 : decode prog_6_method_11_code 52 = .ok (.ifCond .le 9, 3) := by decide +kernel
theorem d_Sen_meanOfLatest_55 : decode prog_6_method_11_code 55 = .ok (.iload_n 3, 1) := by decide +kernel
theorem d_Sen_meanOfLatest_56 : decode prog_6_method_11_code 56 = .ok (.iload_n 2, 1) := by decide +kernel
theorem d_Sen_meanOfLatest_57 : decode prog_6_method_11_code 57 = .ok (.idiv, 1) := by decide +kernel
theorem d_Sen_meanOfLatest_58 : decode prog_6_method_11_code 58 = .ok (.goto 5, 3) := by decide +kernel
theorem d_Sen_meanOfLatest_61 : decode prog_6_method_11_code 61 = .ok (.bipush (-8), 2) := by decide +kernel
theorem d_Sen_meanOfLatest_63 : decode prog_6_method_11_code 63 = .ok (.ireturn, 1) := by decide +kernel
theorem cs_4_77 : CSS "SensorHub$Sensor" 77 y_Mat_min prog_11_method_69_code 2 (some .int) 2 := ⟨gw_I 777 (by decide +kernel) rfl, gw_I 398 (by decide +kernel) rfl, gw_I 79 (by decide +kernel) rfl, gw_I 399 (by decide +kernel) rfl, ⟨by decide +kernel, by decide +kernel⟩, by decide +kernel⟩
def L_Sen_meanOfLatest_19 (r0 : Nat) (y2 : Int32) (k : Int32 → Mem → Option (Int32 × Mem)) : Nat → Int32 → Int32 → Mem → Option (Int32 × Mem)
  | 0, _, _, _ => none
  | n + 1, x3, x4, σ =>
    if y2 < x4 then
      k x3 σ
    else
      bd (f_Mat_floorMod ((σ r0 16) - x4) (8 : Int32) σ) fun r5 σ6 =>
      if ib r5 8 then
        lt (x3 + (σ6 (r0 + 1) r5.toNatClampNeg)) fun v7 =>
        L_Sen_meanOfLatest_19 r0 y2 k n v7 (x4 + 1) σ6
      else none
def f_Sen_meanOfLatest (q : Nat) (p1 : Int32) (σ : Mem) : Option (Int32 × Mem) :=
  bd (f_Mat_min p1 (8 : Int32) σ) fun r1 σ2 =>
  bd (f_Mat_min r1 (σ2 q 16) σ2) fun r3 σ4 =>
  L_Sen_meanOfLatest_19 q r3 (fun z8 σ9 =>
    if r3 ≤ 0 then
      some ((-8 : Int32), σ9)
    else
      if r3 = 0 then none else
      some (z8 / r3, σ9)) FU (0 : Int32) (1 : Int32) σ4
set_option maxRecDepth 100000 in
set_option maxHeartbeats 4000000 in
theorem l_L_Sen_meanOfLatest_19 {X : CX} {p : Program} {l : Launch} {e : Env} {s : State} {m : MethodId} {args : Array Value} {below : List Frame} {meth : Method} {c : Code} (F : FR p s m args c prog_6_method_11_code 5 "SensorHub$Sensor" X) (hlk : meth.locks = false) (hr : meth.sig.returnType = some .int) (r0 : Nat) (y2 : Int32) (hr0 : SensorOK X r0) (k : Int32 → Mem → Option (Int32 × Mem)) (hk : ∀ (x3 : Int32) (σ : Mem), G X p l e (rmD 1) s m args below meth c 5 0 0 (QI X below args s vI) 51 [(2, .int y2), (3, .int x3)] [] σ (k x3 σ)) : ∀ (n : Nat) (x3 : Int32) (x4 : Int32) (σ : Mem), G X p l e (rmD 1) s m args below meth c 5 0 0 (QI X below args s vI) 19 [(0, .ref (xa X r0)), (2, .int y2), (3, .int x3), (4, .int x4)] [] σ (L_Sen_meanOfLatest_19 r0 y2 k n x3 x4 σ) := by
  intro n
  induction n with
  | zero => intros; exact g_no
  | succ n ih =>
    intro x3 x4 σ
    unfold L_Sen_meanOfLatest_19
    refine g_iload F d_Sen_meanOfLatest_19 3 rfl ?_
    refine g_iload_n F d_Sen_meanOfLatest_21 1 rfl ?_
    refine g_icmp_gt F (tgt := 51) d_Sen_meanOfLatest_22 (by decide) (fun h3 => ?_) (fun h4 => ?_)
    · exact g_sub [1, 2] rfl (hk _ _)
    refine g_iload_n F d_Sen_meanOfLatest_25 2 rfl ?_
    refine g_aload_n F d_Sen_meanOfLatest_26 0 rfl ?_
    refine g_getR F fs_4_9 hr0.1 rfl d_Sen_meanOfLatest_27 ?_
    refine g_aload_n F d_Sen_meanOfLatest_30 0 rfl ?_
    refine g_getI F fs_4_55 hr0.1 rfl d_Sen_meanOfLatest_31 ?_
    refine g_iload F d_Sen_meanOfLatest_34 3 rfl ?_
    refine g_isub F d_Sen_meanOfLatest_36 ?_
    refine g_bipush F (v := 8) d_Sen_meanOfLatest_37 (by decide) ?_
    refine g_callS F (dp := 0) (As := [.int ((σ r0 16) - x4), .int (8 : Int32)]) (c_Mat_floorMod l _ _ _) cs_4_62 rfl rfl (Nat.le_of_ble_eq_true rfl) ⟨Nat.le_of_ble_eq_true rfl, Nat.le_of_ble_eq_true rfl⟩ ⟨Nat.zero_le _, Nat.zero_le _⟩ d_Sen_meanOfLatest_39 (fun r5 σ6 h5 => ?_)
    refine g_iald F (n := 8) hr0.2 d_Sen_meanOfLatest_42 ?_
    refine g_iadd F d_Sen_meanOfLatest_43 ?_
    refine g_ltI (fun v7 _ => ?_)
    refine g_istore_n F (ls' := [(3, .int v7), (0, .ref (xa X r0)), (2, .int y2), (4, .int x4)]) d_Sen_meanOfLatest_44 (by decide) rfl ?_
    refine g_iinc F (v := 1) (ls' := [(4, .int (x4 + 1)), (3, .int v7), (0, .ref (xa X r0)), (2, .int y2)]) d_Sen_meanOfLatest_45 3 rfl (by decide) (by decide) rfl ?_
    refine g_goto F (tgt := 19) d_Sen_meanOfLatest_48 (by decide) ?_
    exact g_sub [2, 3, 1, 0] rfl (ih _ _ _)
set_option maxRecDepth 100000 in
set_option maxHeartbeats 4000000 in
theorem c_Sen_meanOfLatest {X : CX} (l : Launch) (q : Nat) (p1 : Int32) (hq : SensorOK X q) (σ : Mem) : CT X l y_Sen_meanOfLatest prog_6_method_11_code 5 (some .int) 1 vI [.ref (xa X q), .int p1] σ (f_Sen_meanOfLatest q p1 σ) := by
  refine CT_of (by decide +kernel) (Nat.le_of_ble_eq_true rfl) ?_
  intro p e s m args below meth c F hlk hr
  have F : FR p s m args c prog_6_method_11_code 5 "SensorHub$Sensor" X := F
  show G X p l e (rmD 1) s m args below meth c 5 0 0 (QI X below args s vI) 0 [(0, .ref (xa X q)), (1, .int p1)] [] σ _
  unfold f_Sen_meanOfLatest
  refine g_iload_n F d_Sen_meanOfLatest_0 1 rfl ?_
  refine g_bipush F (v := 8) d_Sen_meanOfLatest_1 (by decide) ?_
  refine g_callS F (dp := 0) (As := [.int p1, .int (8 : Int32)]) (c_Mat_min l _ _ _) cs_4_77 rfl rfl (Nat.le_of_ble_eq_true rfl) ⟨Nat.le_of_ble_eq_true rfl, Nat.le_of_ble_eq_true rfl⟩ ⟨Nat.zero_le _, Nat.zero_le _⟩ d_Sen_meanOfLatest_3 (fun r1 σ2 h1 => ?_)
  refine g_aload_n F d_Sen_meanOfLatest_6 0 rfl ?_
  refine g_getI F fs_4_55 hq.1 rfl d_Sen_meanOfLatest_7 ?_
  refine g_callS F (dp := 0) (As := [.int r1, .int (σ2 q 16)]) (c_Mat_min l _ _ _) cs_4_77 rfl rfl (Nat.le_of_ble_eq_true rfl) ⟨Nat.le_of_ble_eq_true rfl, Nat.le_of_ble_eq_true rfl⟩ ⟨Nat.zero_le _, Nat.zero_le _⟩ d_Sen_meanOfLatest_10 (fun r3 σ4 h2 => ?_)
  refine g_istore_n F (ls' := [(2, .int r3), (0, .ref (xa X q)), (1, .int p1)]) d_Sen_meanOfLatest_13 (by decide) rfl ?_
  refine g_iconst F (v := 0) d_Sen_meanOfLatest_14 (by decide) ?_
  refine g_istore_n F (ls' := [(3, .int (0 : Int32)), (2, .int r3), (0, .ref (xa X q)), (1, .int p1)]) d_Sen_meanOfLatest_15 (by decide) rfl ?_
  refine g_iconst F (v := 1) d_Sen_meanOfLatest_16 (by decide) ?_
  refine g_istore F (ls' := [(4, .int (1 : Int32)), (3, .int (0 : Int32)), (2, .int r3), (0, .ref (xa X q)), (1, .int p1)]) d_Sen_meanOfLatest_17 (by decide) rfl ?_
  refine g_sub [3, 2, 1, 0] rfl (l_L_Sen_meanOfLatest_19 F hlk hr _ _ hq _ (fun z8 σ9 => ?_) FU _ _ _)
  refine g_iload_n F d_Sen_meanOfLatest_51 0 rfl ?_
  refine g_if_le F (tgt := 61) d_Sen_meanOfLatest_52 (by decide) (fun h6 => ?_) (fun h7 => ?_)
  · refine g_bipush F (v := (-8)) d_Sen_meanOfLatest_61 (by decide) ?_
    exact g_iret F hlk hr d_Sen_meanOfLatest_63
  refine g_iload_n F d_Sen_meanOfLatest_55 1 rfl ?_
  refine g_iload_n F d_Sen_meanOfLatest_56 0 rfl ?_
  refine g_idiv F d_Sen_meanOfLatest_57 ?_
  refine g_goto F (tgt := 63) d_Sen_meanOfLatest_58 (by decide) ?_
  exact g_iret F hlk hr d_Sen_meanOfLatest_63
def y_Sto_part : MethodName := ⟨"SensorHub$Store", "part", "(II)I"⟩
theorem d_Sto_part_0 : decode prog_7_method_3_code 0 = .ok (.iload_n 1, 1) := by decide +kernel
theorem d_Sto_part_1 : decode prog_7_method_3_code 1 = .ok (.aload_n 0, 1) := by decide +kernel
theorem d_Sto_part_2 : decode prog_7_method_3_code 2 = .ok (.getfield 15, 3) := by decide +kernel
theorem d_Sto_part_5 : decode prog_7_method_3_code 5 = .ok (.if_icmp .ge 22, 3) := by decide +kernel
theorem d_Sto_part_8 : decode prog_7_method_3_code 8 = .ok (.iload_n 1, 1) := by decide +kernel
theorem d_Sto_part_9 : decode prog_7_method_3_code 9 = .ok (.iconst 0, 1) := by decide +kernel
theorem d_Sto_part_10 : decode prog_7_method_3_code 10 = .ok (.bipush 29, 2) := by decide +kernel
theorem d_Sto_part_12 : decode prog_7_method_3_code 12 = .ok (.invokestatic 19, 3) := by decide +kernel
theorem d_Sto_part_15 : decode prog_7_method_3_code 15 = .ok (.ifCond .eq 12, 3) := by decide +kernel
theorem d_Sto_part_18 : decode prog_7_method_3_code 18 = .ok (.iload_n 2, 1) := by decide +kernel
theorem d_Sto_part_19 : decode prog_7_method_3_code 19 = .ok (.iconst 0, 1) := by decide +kernel
theorem d_Sto_part_20 : decode prog_7_method_3_code 20 = .ok (.iconst 2, 1) := by decide +kernel
theorem d_Sto_part_21 : decode prog_7_method_3_code 21 = .ok (.invokestatic 19, 3) := by decide +kernel
theorem d_Sto_part_24 : decode prog_7_method_3_code 24 = .ok (.ifCond .ne 6, 3) := by decide +kernel
theorem d_Sto_part_27 : decode prog_7_method_3_code 27 = .ok (.bipush (-9), 2) := by decide +kernel
theorem d_Sto_part_29 : decode prog_7_method_3_code 29 = .ok (.ireturn, 1) := by decide +kernel
theorem d_Sto_part_30 : decode prog_7_method_3_code 30 = .ok (.aload_n 0, 1) := by decide +kernel
theorem d_Sto_part_31 : decode prog_7_method_3_code 31 = .ok (.getfield 9, 3) := by decide +kernel
theorem d_Sto_part_34 : decode prog_7_method_3_code 34 = .ok (.iload_n 1, 1) := by decide +kernel
theorem d_Sto_part_35 : decode prog_7_method_3_code 35 = .ok (.iconst 3, 1) := by decide +kernel
theorem d_Sto_part_36 : decode prog_7_method_3_code 36 = .ok (.imul, 1) := by decide +kernel
theorem d_Sto_part_37 : decode prog_7_method_3_code 37 = .ok (.iload_n 2, 1) := by decide +kernel
theorem d_Sto_part_38 : decode prog_7_method_3_code 38 = .ok (.iadd, 1) := by decide +kernel
theorem d_Sto_part_39 : decode prog_7_method_3_code 39 = .ok (.iaload, 1) := by decide +kernel
theorem d_Sto_part_40 : decode prog_7_method_3_code 40 = .ok (.ireturn, 1) := by decide +kernel
theorem cs_5_19 : CSN "SensorHub$Store" 19 y_X_isWithin "SensorHub" prog_1_method_24_code 3 (some .boolean) 3 := ⟨List.mem_of_getElem? (i := 7) rfl, gw_I 284 (by decide +kernel) rfl, gw_I 70 (by decide +kernel) rfl, gw_I 285 (by decide +kernel) rfl, ⟨by decide +kernel, by decide +kernel⟩, by decide +kernel⟩
def f_Sto_part (q : Nat) (p1 : Int32) (p2 : Int32) (σ : Mem) : Option (Int32 × Mem) :=
  if (σ q 0) ≤ p1 then
    some ((-9 : Int32), σ)
  else
    bd (f_X_isWithin p1 (0 : Int32) (29 : Int32) σ) fun r1 σ2 =>
    if r1 = 0 then
      some ((-9 : Int32), σ2)
    else
      bd (f_X_isWithin p2 (0 : Int32) (2 : Int32) σ2) fun r3 σ4 =>
      if r3 = 0 then
        some ((-9 : Int32), σ4)
      else
        if ib ((p1 * (3 : Int32)) + p2) 90 then
          some (σ4 (q + 1) ((p1 * (3 : Int32)) + p2).toNatClampNeg, σ4)
        else none
set_option maxRecDepth 100000 in
set_option maxHeartbeats 4000000 in
theorem c_Sto_part {X : CX} (l : Launch) (q : Nat) (p1 : Int32) (p2 : Int32) (hq : StoreOK X q) (σ : Mem) : CT X l y_Sto_part prog_7_method_3_code 3 (some .int) 1 vI [.ref (xa X q), .int p1, .int p2] σ (f_Sto_part q p1 p2 σ) := by
  refine CT_of (by decide +kernel) (Nat.le_of_ble_eq_true rfl) ?_
  intro p e s m args below meth c F hlk hr
  have F : FR p s m args c prog_7_method_3_code 3 "SensorHub$Store" X := F
  show G X p l e (rmD 1) s m args below meth c 3 0 0 (QI X below args s vI) 0 [(0, .ref (xa X q)), (1, .int p1), (2, .int p2)] [] σ _
  unfold f_Sto_part
  refine g_iload_n F d_Sto_part_0 1 rfl ?_
  refine g_aload_n F d_Sto_part_1 0 rfl ?_
  refine g_getI F fs_5_15 hq.1 rfl d_Sto_part_2 ?_
  refine g_icmp_ge F (tgt := 27) d_Sto_part_5 (by decide) (fun h1 => ?_) (fun h2 => ?_)
  · refine g_bipush F (v := (-9)) d_Sto_part_27 (by decide) ?_
    exact g_iret F hlk hr d_Sto_part_29
  refine g_iload_n F d_Sto_part_8 1 rfl ?_
  refine g_iconst F (v := 0) d_Sto_part_9 (by decide) ?_
  refine g_bipush F (v := 29) d_Sto_part_10 (by decide) ?_
  refine g_callSN F (dp := 0) (As := [.int p1, .int (0 : Int32), .int (29 : Int32)]) (c_X_isWithin l _ _ _ _) cs_5_19 rfl rfl (Nat.le_of_ble_eq_true rfl) ⟨Nat.le_of_ble_eq_true rfl, Nat.le_of_ble_eq_true rfl⟩ ⟨Nat.zero_le _, Nat.zero_le _⟩ d_Sto_part_12 (fun r1 σ2 h3 => ?_)
  refine g_if_eq F (tgt := 27) d_Sto_part_15 (by decide) (fun h4 => ?_) (fun h5 => ?_)
  · refine g_bipush F (v := (-9)) d_Sto_part_27 (by decide) ?_
    exact g_iret F hlk hr d_Sto_part_29
  refine g_iload_n F d_Sto_part_18 2 rfl ?_
  refine g_iconst F (v := 0) d_Sto_part_19 (by decide) ?_
  refine g_iconst F (v := 2) d_Sto_part_20 (by decide) ?_
  refine g_callSN F (dp := 0) (As := [.int p2, .int (0 : Int32), .int (2 : Int32)]) (c_X_isWithin l _ _ _ _) cs_5_19 rfl rfl (Nat.le_of_ble_eq_true rfl) ⟨Nat.le_of_ble_eq_true rfl, Nat.le_of_ble_eq_true rfl⟩ ⟨Nat.zero_le _, Nat.zero_le _⟩ d_Sto_part_21 (fun r3 σ4 h6 => ?_)
  refine g_if_ne F (tgt := 30) d_Sto_part_24 (by decide) (fun h7 => ?_) (fun h8 => ?_)
  · refine g_bipush F (v := (-9)) d_Sto_part_27 (by decide) ?_
    exact g_iret F hlk hr d_Sto_part_29
  refine g_aload_n F d_Sto_part_30 0 rfl ?_
  refine g_getR F fs_5_9 hq.1 rfl d_Sto_part_31 ?_
  refine g_iload_n F d_Sto_part_34 1 rfl ?_
  refine g_iconst F (v := 3) d_Sto_part_35 (by decide) ?_
  refine g_imul F d_Sto_part_36 ?_
  refine g_iload_n F d_Sto_part_37 2 rfl ?_
  refine g_iadd F d_Sto_part_38 ?_
  refine g_iald F (n := 90) hq.2 d_Sto_part_39 ?_
  exact g_iret F hlk hr d_Sto_part_40
def y_Sto_add : MethodName := ⟨"SensorHub$Store", "add", "(III)V"⟩
theorem d_Sto_add_0 : decode prog_7_method_2_code 0 = .ok (.aload_n 0, 1) := by decide +kernel
theorem d_Sto_add_1 : decode prog_7_method_2_code 1 = .ok (.getfield 15, 3) := by decide +kernel
theorem d_Sto_add_4 : decode prog_7_method_2_code 4 = .ok (.iconst 0, 1) := by decide +kernel
theorem d_Sto_add_5 : decode prog_7_method_2_code 5 = .ok (.bipush 29, 2) := by decide +kernel
theorem d_Sto_add_7 : decode prog_7_method_2_code 7 = .ok (.invokestatic 19, 3) := by decide +kernel
theorem d_Sto_add_10 : decode prog_7_method_2_code 10 = .ok (.ifCond .eq 55, 3) := by decide +kernel
theorem d_Sto_add_13 : decode prog_7_method_2_code 13 = .ok (.aload_n 0, 1) := by decide +kernel
theorem d_Sto_add_14 : decode prog_7_method_2_code 14 = .ok (.getfield 9, 3) := by decide +kernel
theorem d_Sto_add_17 : decode prog_7_method_2_code 17 = .ok (.aload_n 0, 1) := by decide +kernel
theorem d_Sto_add_18 : decode prog_7_method_2_code 18 = .ok (.getfield 15, 3) := by decide +kernel
theorem d_Sto_add_21 : decode prog_7_method_2_code 21 = .ok (.iconst 3, 1) := by decide +kernel
theorem d_Sto_add_22 : decode prog_7_method_2_code 22 = .ok (.imul, 1) := by decide +kernel
theorem d_Sto_add_23 : decode prog_7_method_2_code 23 = .ok (.iconst 0, 1) := by decide +kernel
theorem d_Sto_add_24 : decode prog_7_method_2_code 24 = .ok (.iadd, 1) := by decide +kernel
theorem d_Sto_add_25 : decode prog_7_method_2_code 25 = .ok (.iload_n 1, 1) := by decide +kernel
theorem d_Sto_add_26 : decode prog_7_method_2_code 26 = .ok (.iastore, 1) := by decide +kernel
theorem d_Sto_add_27 : decode prog_7_method_2_code 27 = .ok (.aload_n 0, 1) := by decide +kernel
theorem d_Sto_add_28 : decode prog_7_method_2_code 28 = .ok (.getfield 9, 3) := by decide +kernel
theorem d_Sto_add_31 : decode prog_7_method_2_code 31 = .ok (.aload_n 0, 1) := by decide +kernel
theorem d_Sto_add_32 : decode prog_7_method_2_code 32 = .ok (.getfield 15, 3) := by decide +kernel
theorem d_Sto_add_35 : decode prog_7_method_2_code 35 = .ok (.iconst 3, 1) := by decide +kernel
theorem d_Sto_add_36 : decode prog_7_method_2_code 36 = .ok (.imul, 1) := by decide +kernel
theorem d_Sto_add_37 : decode prog_7_method_2_code 37 = .ok (.iconst 1, 1) := by decide +kernel
theorem d_Sto_add_38 : decode prog_7_method_2_code 38 = .ok (.iadd, 1) := by decide +kernel
theorem d_Sto_add_39 : decode prog_7_method_2_code 39 = .ok (.iload_n 2, 1) := by decide +kernel
theorem d_Sto_add_40 : decode prog_7_method_2_code 40 = .ok (.iastore, 1) := by decide +kernel
theorem d_Sto_add_41 : decode prog_7_method_2_code 41 = .ok (.aload_n 0, 1) := by decide +kernel
theorem d_Sto_add_42 : decode prog_7_method_2_code 42 = .ok (.getfield 9, 3) := by decide +kernel
theorem d_Sto_add_45 : decode prog_7_method_2_code 45 = .ok (.aload_n 0, 1) := by decide +kernel
theorem d_Sto_add_46 : decode prog_7_method_2_code 46 = .ok (.getfield 15, 3) := by decide +kernel
theorem d_Sto_add_49 : decode prog_7_method_2_code 49 = .ok (.iconst 3, 1) := by decide +kernel
theorem d_Sto_add_50 : decode prog_7_method_2_code 50 = .ok (.imul, 1) := by decide +kernel
theorem d_Sto_add_51 : decode prog_7_method_2_code 51 = .ok (.iconst 2, 1) := by decide +kernel
theorem d_Sto_add_52 : decode prog_7_method_2_code 52 = .ok (.iadd, 1) := by decide +kernel
theorem d_Sto_add_53 : decode prog_7_method_2_code 53 = .ok (.iload_n 3, 1) := by decide +kernel
theorem d_Sto_add_54 : decode prog_7_method_2_code 54 = .ok (.iastore, 1) := by decide +kernel
theorem d_Sto_add_55 : decode prog_7_method_2_code 55 = .ok (.aload_n 0, 1) := by decide +kernel
theorem d_Sto_add_56 : decode prog_7_method_2_code 56 = .ok (.dup, 1) := by decide +kernel
theorem d_Sto_add_57 : decode prog_7_method_2_code 57 = .ok (.getfield 15, 3) := by decide +kernel
theorem d_Sto_add_60 : decode prog_7_method_2_code 60 = .ok (.iconst 1, 1) := by decide +kernel
theorem d_Sto_add_61 : decode prog_7_method_2_code 61 = .ok (.iadd, 1) := by decide +kernel
theorem d_Sto_add_62 : decode prog_7_method_2_code 62 = .ok (.putfield 15, 3) := by decide +kernel
theorem d_Sto_add_65 : decode prog_7_method_2_code 65 = .ok (.return_, 1) := by decide +kernel
def f_Sto_add (q : Nat) (p1 : Int32) (p2 : Int32) (p3 : Int32) (σ : Mem) : Option (Unit × Mem) :=
  bd (f_X_isWithin (σ q 0) (0 : Int32) (29 : Int32) σ) fun r1 σ2 =>
  if r1 = 0 then
    some ((), σ2)
  else
    if ib (((σ2 q 0) * (3 : Int32)) + (0 : Int32)) 90 then
      lt (wr σ2 (q + 1) (((σ2 q 0) * (3 : Int32)) + (0 : Int32)).toNatClampNeg p1) fun σ3 =>
      if ib (((σ3 q 0) * (3 : Int32)) + (1 : Int32)) 90 then
        lt (wr σ3 (q + 1) (((σ3 q 0) * (3 : Int32)) + (1 : Int32)).toNatClampNeg p2) fun σ4 =>
        if ib (((σ4 q 0) * (3 : Int32)) + (2 : Int32)) 90 then
          lt (wr σ4 (q + 1) (((σ4 q 0) * (3 : Int32)) + (2 : Int32)).toNatClampNeg p3) fun σ5 =>
          lt (wr σ5 q 0 ((σ5 q 0) + (1 : Int32))) fun σ6 =>
          some ((), σ6)
        else none
      else none
    else none
set_option maxRecDepth 100000 in
set_option maxHeartbeats 4000000 in
theorem c_Sto_add {X : CX} (l : Launch) (q : Nat) (p1 : Int32) (p2 : Int32) (p3 : Int32) (hq : StoreOK X q) (σ : Mem) : CT X l y_Sto_add prog_7_method_2_code 4 none 1 vU [.ref (xa X q), .int p1, .int p2, .int p3] σ (f_Sto_add q p1 p2 p3 σ) := by
  refine CT_of (by decide +kernel) (Nat.le_of_ble_eq_true rfl) ?_
  intro p e s m args below meth c F hlk hr
  have F : FR p s m args c prog_7_method_2_code 4 "SensorHub$Store" X := F
  show G X p l e (rmD 1) s m args below meth c 4 0 0 (QI X below args s vU) 0 [(0, .ref (xa X q)), (1, .int p1), (2, .int p2), (3, .int p3)] [] σ _
  unfold f_Sto_add
  refine g_aload_n F d_Sto_add_0 0 rfl ?_
  refine g_getI F fs_5_15 hq.1 rfl d_Sto_add_1 ?_
  refine g_iconst F (v := 0) d_Sto_add_4 (by decide) ?_
  refine g_bipush F (v := 29) d_Sto_add_5 (by decide) ?_
  refine g_callSN F (dp := 0) (As := [.int (σ q 0), .int (0 : Int32), .int (29 : Int32)]) (c_X_isWithin l _ _ _ _) cs_5_19 rfl rfl (Nat.le_of_ble_eq_true rfl) ⟨Nat.le_of_ble_eq_true rfl, Nat.le_of_ble_eq_true rfl⟩ ⟨Nat.zero_le _, Nat.zero_le _⟩ d_Sto_add_7 (fun r1 σ2 h1 => ?_)
  refine g_if_eq F (tgt := 65) d_Sto_add_10 (by decide) (fun h2 => ?_) (fun h3 => ?_)
  · exact g_vret F hlk hr d_Sto_add_65
  refine g_aload_n F d_Sto_add_13 0 rfl ?_
  refine g_getR F fs_5_9 hq.1 rfl d_Sto_add_14 ?_
  refine g_aload_n F d_Sto_add_17 0 rfl ?_
  refine g_getI F fs_5_15 hq.1 rfl d_Sto_add_18 ?_
  refine g_iconst F (v := 3) d_Sto_add_21 (by decide) ?_
  refine g_imul F d_Sto_add_22 ?_
  refine g_iconst F (v := 0) d_Sto_add_23 (by decide) ?_
  refine g_iadd F d_Sto_add_24 ?_
  refine g_iload_n F d_Sto_add_25 1 rfl ?_
  refine g_iast F (n := 90) hq.2 d_Sto_add_26 ?_
  refine g_ltM (fun σ3 _ => ?_)
  refine g_aload_n F d_Sto_add_27 0 rfl ?_
  refine g_getR F fs_5_9 hq.1 rfl d_Sto_add_28 ?_
  refine g_aload_n F d_Sto_add_31 0 rfl ?_
  refine g_getI F fs_5_15 hq.1 rfl d_Sto_add_32 ?_
  refine g_iconst F (v := 3) d_Sto_add_35 (by decide) ?_
  refine g_imul F d_Sto_add_36 ?_
  refine g_iconst F (v := 1) d_Sto_add_37 (by decide) ?_
  refine g_iadd F d_Sto_add_38 ?_
  refine g_iload_n F d_Sto_add_39 2 rfl ?_
  refine g_iast F (n := 90) hq.2 d_Sto_add_40 ?_
  refine g_ltM (fun σ4 _ => ?_)
  refine g_aload_n F d_Sto_add_41 0 rfl ?_
  refine g_getR F fs_5_9 hq.1 rfl d_Sto_add_42 ?_
  refine g_aload_n F d_Sto_add_45 0 rfl ?_
  refine g_getI F fs_5_15 hq.1 rfl d_Sto_add_46 ?_
  refine g_iconst F (v := 3) d_Sto_add_49 (by decide) ?_
  refine g_imul F d_Sto_add_50 ?_
  refine g_iconst F (v := 2) d_Sto_add_51 (by decide) ?_
  refine g_iadd F d_Sto_add_52 ?_
  refine g_iload_n F d_Sto_add_53 3 rfl ?_
  refine g_iast F (n := 90) hq.2 d_Sto_add_54 ?_
  refine g_ltM (fun σ5 _ => ?_)
  refine g_aload_n F d_Sto_add_55 0 rfl ?_
  refine g_dup F d_Sto_add_56 rfl ?_
  refine g_getI F fs_5_15 hq.1 rfl d_Sto_add_57 ?_
  refine g_iconst F (v := 1) d_Sto_add_60 (by decide) ?_
  refine g_iadd F d_Sto_add_61 ?_
  refine g_putI F fw_5_15 hq.1 rfl d_Sto_add_62 ?_
  refine g_ltM (fun σ6 _ => ?_)
  exact g_vret F hlk hr d_Sto_add_65
def y_Out_isFull : MethodName := ⟨"SensorHub$Outages", "isFull", "()Z"⟩
theorem d_Out_isFull_0 : decode prog_5_method_2_code 0 = .ok (.aload_n 0, 1) := by decide +kernel
theorem d_Out_isFull_1 : decode prog_5_method_2_code 1 = .ok (.getfield 21, 3) := by decide +kernel
theorem d_Out_isFull_4 : decode prog_5_method_2_code 4 = .ok (.iconst 4, 1) := by decide +kernel
theorem d_Out_isFull_5 : decode prog_5_method_2_code 5 = .ok (.if_icmp .lt 7, 3) := by decide +kernel
theorem d_Out_isFull_8 : decode prog_5_method_2_code 8 = .ok (.iconst 1, 1) := by decide +kernel
theorem d_Out_isFull_9 : decode prog_5_method_2_code 9 = .ok (.goto 4, 3) := by decide +kernel
theorem d_Out_isFull_12 : decode prog_5_method_2_code 12 = .ok (.iconst 0, 1) := by decide +kernel
theorem d_Out_isFull_13 : decode prog_5_method_2_code 13 = .ok (.ireturn, 1) := by decide +kernel
def f_Out_isFull (q : Nat) (σ : Mem) : Option (Int32 × Mem) :=
  if (σ q 0) < (4 : Int32) then some ((0 : Int32), σ) else some ((1 : Int32), σ)
set_option maxRecDepth 100000 in
set_option maxHeartbeats 4000000 in
theorem c_Out_isFull {X : CX} (l : Launch) (q : Nat) (hq : OutagesOK X q) (σ : Mem) : CT X l y_Out_isFull prog_5_method_2_code 1 (some .boolean) 0 vI [.ref (xa X q)] σ (f_Out_isFull q σ) := by
  refine CT_of (by decide +kernel) (Nat.le_of_ble_eq_true rfl) ?_
  intro p e s m args below meth c F hlk hr
  have F : FR p s m args c prog_5_method_2_code 1 "SensorHub$Outages" X := F
  show G X p l e (rmD 0) s m args below meth c 1 0 0 (QI X below args s vI) 0 [(0, .ref (xa X q))] [] σ _
  unfold f_Out_isFull
  refine g_aload_n F d_Out_isFull_0 0 rfl ?_
  refine g_getI F fs_3_21 hq.1 rfl d_Out_isFull_1 ?_
  refine g_iconst F (v := 4) d_Out_isFull_4 (by decide) ?_
  refine g_icmp_lt F (tgt := 12) d_Out_isFull_5 (by decide) (fun h1 => ?_) (fun h2 => ?_)
  · refine g_iconst F (v := 0) d_Out_isFull_12 (by decide) ?_
    exact g_zretC F hlk hr (by decide) d_Out_isFull_13
  refine g_iconst F (v := 1) d_Out_isFull_8 (by decide) ?_
  refine g_goto F (tgt := 13) d_Out_isFull_9 (by decide) ?_
  exact g_zretC F hlk hr (by decide) d_Out_isFull_13
def y_Out_add : MethodName := ⟨"SensorHub$Outages", "add", "(III)I"⟩
theorem d_Out_add_0 : decode prog_5_method_3_code 0 = .ok (.aload_n 0, 1) := by decide +kernel
theorem d_Out_add_1 : decode prog_5_method_3_code 1 = .ok (.getfield 21, 3) := by decide +kernel
theorem d_Out_add_4 : decode prog_5_method_3_code 4 = .ok (.iconst 0, 1) := by decide +kernel
theorem d_Out_add_5 : decode prog_5_method_3_code 5 = .ok (.iconst 3, 1) := by decide +kernel
theorem d_Out_add_6 : decode prog_5_method_3_code 6 = .ok (.invokestatic 25, 3) := by decide +kernel
theorem d_Out_add_9 : decode prog_5_method_3_code 9 = .ok (.ifCond .eq 43, 3) := by decide +kernel
theorem d_Out_add_12 : decode prog_5_method_3_code 12 = .ok (.aload_n 0, 1) := by decide +kernel
theorem d_Out_add_13 : decode prog_5_method_3_code 13 = .ok (.getfield 9, 3) := by decide +kernel
theorem d_Out_add_16 : decode prog_5_method_3_code 16 = .ok (.aload_n 0, 1) := by decide +kernel
theorem d_Out_add_17 : decode prog_5_method_3_code 17 = .ok (.getfield 21, 3) := by decide +kernel
theorem d_Out_add_20 : decode prog_5_method_3_code 20 = .ok (.iload_n 1, 1) := by decide +kernel
theorem d_Out_add_21 : decode prog_5_method_3_code 21 = .ok (.iastore, 1) := by decide +kernel
theorem d_Out_add_22 : decode prog_5_method_3_code 22 = .ok (.aload_n 0, 1) := by decide +kernel
theorem d_Out_add_23 : decode prog_5_method_3_code 23 = .ok (.getfield 15, 3) := by decide +kernel
theorem d_Out_add_26 : decode prog_5_method_3_code 26 = .ok (.aload_n 0, 1) := by decide +kernel
theorem d_Out_add_27 : decode prog_5_method_3_code 27 = .ok (.getfield 21, 3) := by decide +kernel
theorem d_Out_add_30 : decode prog_5_method_3_code 30 = .ok (.iload_n 2, 1) := by decide +kernel
theorem d_Out_add_31 : decode prog_5_method_3_code 31 = .ok (.iastore, 1) := by decide +kernel
theorem d_Out_add_32 : decode prog_5_method_3_code 32 = .ok (.aload_n 0, 1) := by decide +kernel
theorem d_Out_add_33 : decode prog_5_method_3_code 33 = .ok (.getfield 18, 3) := by decide +kernel
theorem d_Out_add_36 : decode prog_5_method_3_code 36 = .ok (.aload_n 0, 1) := by decide +kernel
theorem d_Out_add_37 : decode prog_5_method_3_code 37 = .ok (.getfield 21, 3) := by decide +kernel
theorem d_Out_add_40 : decode prog_5_method_3_code 40 = .ok (.iload_n 3, 1) := by decide +kernel
theorem d_Out_add_41 : decode prog_5_method_3_code 41 = .ok (.iastore, 1) := by decide +kernel
theorem d_Out_add_42 : decode prog_5_method_3_code 42 = .ok (.aload_n 0, 1) := by decide +kernel
theorem d_Out_add_43 : decode prog_5_method_3_code 43 = .ok (.dup, 1) := by decide +kernel
theorem d_Out_add_44 : decode prog_5_method_3_code 44 = .ok (.getfield 21, 3) := by decide +kernel
theorem d_Out_add_47 : decode prog_5_method_3_code 47 = .ok (.iconst 1, 1) := by decide +kernel
theorem d_Out_add_48 : decode prog_5_method_3_code 48 = .ok (.iadd, 1) := by decide +kernel
theorem d_Out_add_49 : decode prog_5_method_3_code 49 = .ok (.putfield 21, 3) := by decide +kernel
theorem d_Out_add_52 : decode prog_5_method_3_code 52 = .ok (.aload_n 0, 1) := by decide +kernel
theorem d_Out_add_53 : decode prog_5_method_3_code 53 = .ok (.getfield 21, 3) := by decide +kernel
theorem d_Out_add_56 : decode prog_5_method_3_code 56 = .ok (.ireturn, 1) := by decide +kernel
def f_Out_add (q : Nat) (p1 : Int32) (p2 : Int32) (p3 : Int32) (σ : Mem) : Option (Int32 × Mem) :=
  bd (f_X_isWithin (σ q 0) (0 : Int32) (3 : Int32) σ) fun r1 σ2 =>
  if r1 = 0 then
    some (σ2 q 0, σ2)
  else
    if ib (σ2 q 0) 4 then
      lt (wr σ2 (q + 1) (σ2 q 0).toNatClampNeg p1) fun σ3 =>
      if ib (σ3 q 0) 4 then
        lt (wr σ3 (q + 2) (σ3 q 0).toNatClampNeg p2) fun σ4 =>
        if ib (σ4 q 0) 4 then
          lt (wr σ4 (q + 3) (σ4 q 0).toNatClampNeg p3) fun σ5 =>
          lt (wr σ5 q 0 ((σ5 q 0) + (1 : Int32))) fun σ6 =>
          some (σ6 q 0, σ6)
        else none
      else none
    else none
set_option maxRecDepth 100000 in
set_option maxHeartbeats 4000000 in
theorem c_Out_add {X : CX} (l : Launch) (q : Nat) (p1 : Int32) (p2 : Int32) (p3 : Int32) (hq : OutagesOK X q) (σ : Mem) : CT X l y_Out_add prog_5_method_3_code 4 (some .int) 1 vI [.ref (xa X q), .int p1, .int p2, .int p3] σ (f_Out_add q p1 p2 p3 σ) := by
  refine CT_of (by decide +kernel) (Nat.le_of_ble_eq_true rfl) ?_
  intro p e s m args below meth c F hlk hr
  have F : FR p s m args c prog_5_method_3_code 4 "SensorHub$Outages" X := F
  show G X p l e (rmD 1) s m args below meth c 4 0 0 (QI X below args s vI) 0 [(0, .ref (xa X q)), (1, .int p1), (2, .int p2), (3, .int p3)] [] σ _
  unfold f_Out_add
  refine g_aload_n F d_Out_add_0 0 rfl ?_
  refine g_getI F fs_3_21 hq.1 rfl d_Out_add_1 ?_
  refine g_iconst F (v := 0) d_Out_add_4 (by decide) ?_
  refine g_iconst F (v := 3) d_Out_add_5 (by decide) ?_
  refine g_callSN F (dp := 0) (As := [.int (σ q 0), .int (0 : Int32), .int (3 : Int32)]) (c_X_isWithin l _ _ _ _) cs_3_25 rfl rfl (Nat.le_of_ble_eq_true rfl) ⟨Nat.le_of_ble_eq_true rfl, Nat.le_of_ble_eq_true rfl⟩ ⟨Nat.zero_le _, Nat.zero_le _⟩ d_Out_add_6 (fun r1 σ2 h1 => ?_)
  refine g_if_eq F (tgt := 52) d_Out_add_9 (by decide) (fun h2 => ?_) (fun h3 => ?_)
  · refine g_aload_n F d_Out_add_52 0 rfl ?_
    refine g_getI F fs_3_21 hq.1 rfl d_Out_add_53 ?_
    exact g_iret F hlk hr d_Out_add_56
  refine g_aload_n F d_Out_add_12 0 rfl ?_
  refine g_getR F fs_3_9 hq.1 rfl d_Out_add_13 ?_
  refine g_aload_n F d_Out_add_16 0 rfl ?_
  refine g_getI F fs_3_21 hq.1 rfl d_Out_add_17 ?_
  refine g_iload_n F d_Out_add_20 1 rfl ?_
  refine g_iast F (n := 4) hq.2.1 d_Out_add_21 ?_
  refine g_ltM (fun σ3 _ => ?_)
  refine g_aload_n F d_Out_add_22 0 rfl ?_
  refine g_getR F fs_3_15 hq.1 rfl d_Out_add_23 ?_
  refine g_aload_n F d_Out_add_26 0 rfl ?_
  refine g_getI F fs_3_21 hq.1 rfl d_Out_add_27 ?_
  refine g_iload_n F d_Out_add_30 2 rfl ?_
  refine g_iast F (n := 4) hq.2.2.1 d_Out_add_31 ?_
  refine g_ltM (fun σ4 _ => ?_)
  refine g_aload_n F d_Out_add_32 0 rfl ?_
  refine g_getR F fs_3_18 hq.1 rfl d_Out_add_33 ?_
  refine g_aload_n F d_Out_add_36 0 rfl ?_
  refine g_getI F fs_3_21 hq.1 rfl d_Out_add_37 ?_
  refine g_iload_n F d_Out_add_40 3 rfl ?_
  refine g_iast F (n := 4) hq.2.2.2 d_Out_add_41 ?_
  refine g_ltM (fun σ5 _ => ?_)
  refine g_aload_n F d_Out_add_42 0 rfl ?_
  refine g_dup F d_Out_add_43 rfl ?_
  refine g_getI F fs_3_21 hq.1 rfl d_Out_add_44 ?_
  refine g_iconst F (v := 1) d_Out_add_47 (by decide) ?_
  refine g_iadd F d_Out_add_48 ?_
  refine g_putI F fw_3_21 hq.1 rfl d_Out_add_49 ?_
  refine g_ltM (fun σ6 _ => ?_)
  refine g_aload_n F d_Out_add_52 0 rfl ?_
  refine g_getI F fs_3_21 hq.1 rfl d_Out_add_53 ?_
  exact g_iret F hlk hr d_Out_add_56
def y_Sto_entriesOf : MethodName := ⟨"SensorHub$Store", "entriesOf", "(I)I"⟩
theorem d_Sto_entriesOf_0 : decode prog_7_method_4_code 0 = .ok (.iconst 0, 1) := by decide +kernel
theorem d_Sto_entriesOf_1 : decode prog_7_method_4_code 1 = .ok (.istore_n 2, 1) := by decide +kernel
theorem d_Sto_entriesOf_2 : decode prog_7_method_4_code 2 = .ok (.iconst 0, 1) := by decide +kernel
theorem d_Sto_entriesOf_3 : decode prog_7_method_4_code 3 = .ok (.istore_n 3, 1) := by decide +kernel
theorem d_Sto_entriesOf_4 : decode prog_7_method_4_code 4 = .ok (.iload_n 3, 1) := by decide +kernel
theorem d_Sto_entriesOf_5 : decode prog_7_method_4_code 5 = .ok (.aload_n 0, 1) := by decide +kernel
theorem d_Sto_entriesOf_6 : decode prog_7_method_4_code 6 = .ok (.getfield 15, 3) := by decide +kernel
theorem d_Sto_entriesOf_9 : decode prog_7_method_4_code 9 = .ok (.if_icmp .ge 22, 3) := by decide +kernel
theorem d_Sto_entriesOf_12 : decode prog_7_method_4_code 12 = .ok (.aload_n 0, 1) := by decide +kernel
theorem d_Sto_entriesOf_13 : decode prog_7_method_4_code 13 = .ok (.iload_n 3, 1) := by decide +kernel
theorem d_Sto_entriesOf_14 : decode prog_7_method_4_code 14 = .ok (.iconst 0, 1) := by decide +kernel
theorem d_Sto_entriesOf_15 : decode prog_7_method_4_code 15 = .ok (.invokevirtual 23, 3) := by decide +kernel
theorem d_Sto_entriesOf_18 : decode prog_7_method_4_code 18 = .ok (.iload_n 1, 1) := by decide +kernel
theorem d_Sto_entriesOf_19 : decode prog_7_method_4_code 19 = .ok (.if_icmp .ne 6, 3) := by decide +kernel
theorem d_Sto_entriesOf_22 : decode prog_7_method_4_code 22 = .ok (.iinc 2 1, 3) := by decide +kernel
theorem d_Sto_entriesOf_25 : decode prog_7_method_4_code 25 = .ok (.iinc 3 1, 3) := by decide +kernel
theorem d_Sto_entriesOf_28 : decode prog_7_method_4_code 28 = .ok (.goto (-24), 3) := by decide +kernel
theorem d_Sto_entriesOf_31 : decode prog_7_method_4_code 31 = .ok (.iload_n 2, 1) := by decide +kernel
theorem d_Sto_entriesOf_32 : decode prog_7_method_4_code 32 = .ok (.ireturn, 1) := by decide +kernel
theorem cv_5_23 : CSV "SensorHub$Store" 23 y_Sto_part prog_7_method_3_code 3 (some .int) 2 := ⟨gw_I 845 (by decide +kernel) rfl, gw_I 517 (by decide +kernel) rfl, gw_I 518 (by decide +kernel) rfl, gw_I 73 (by decide +kernel) rfl, gw_I 519 (by decide +kernel) rfl, ⟨by decide +kernel, by decide +kernel⟩, by decide +kernel⟩
def L_Sto_entriesOf_4 (r0 : Nat) (y1 : Int32) (k : Int32 → Mem → Option (Int32 × Mem)) : Nat → Int32 → Int32 → Mem → Option (Int32 × Mem)
  | 0, _, _, _ => none
  | n + 1, x2, x3, σ =>
    if (σ r0 0) ≤ x3 then
      k x2 σ
    else
      bd (f_Sto_part r0 x3 (0 : Int32) σ) fun r1 σ2 =>
      if r1 = y1 then L_Sto_entriesOf_4 r0 y1 k n (x2 + 1) (x3 + 1) σ2 else L_Sto_entriesOf_4 r0 y1 k n x2 (x3 + 1) σ2
def f_Sto_entriesOf (q : Nat) (p1 : Int32) (σ : Mem) : Option (Int32 × Mem) :=
  L_Sto_entriesOf_4 q p1 (fun z3 σ4 =>
    some (z3, σ4)) FU (0 : Int32) (0 : Int32) σ
set_option maxRecDepth 100000 in
set_option maxHeartbeats 4000000 in
theorem l_L_Sto_entriesOf_4 {X : CX} {p : Program} {l : Launch} {e : Env} {s : State} {m : MethodId} {args : Array Value} {below : List Frame} {meth : Method} {c : Code} (F : FR p s m args c prog_7_method_4_code 4 "SensorHub$Store" X) (hlk : meth.locks = false) (hr : meth.sig.returnType = some .int) (r0 : Nat) (y1 : Int32) (hr0 : StoreOK X r0) (k : Int32 → Mem → Option (Int32 × Mem)) (hk : ∀ (x2 : Int32) (σ : Mem), G X p l e (rmD 2) s m args below meth c 4 0 0 (QI X below args s vI) 31 [(2, .int x2)] [] σ (k x2 σ)) : ∀ (n : Nat) (x2 : Int32) (x3 : Int32) (σ : Mem), G X p l e (rmD 2) s m args below meth c 4 0 0 (QI X below args s vI) 4 [(0, .ref (xa X r0)), (1, .int y1), (2, .int x2), (3, .int x3)] [] σ (L_Sto_entriesOf_4 r0 y1 k n x2 x3 σ) := by
  intro n
  induction n with
  | zero => intros; exact g_no
  | succ n ih =>
    intro x2 x3 σ
    unfold L_Sto_entriesOf_4
    refine g_iload_n F d_Sto_entriesOf_4 3 rfl ?_
    refine g_aload_n F d_Sto_entriesOf_5 0 rfl ?_
    refine g_getI F fs_5_15 hr0.1 rfl d_Sto_entriesOf_6 ?_
    refine g_icmp_ge F (tgt := 31) d_Sto_entriesOf_9 (by decide) (fun h1 => ?_) (fun h2 => ?_)
    · exact g_sub [2] rfl (hk _ _)
    refine g_aload_n F d_Sto_entriesOf_12 0 rfl ?_
    refine g_iload_n F d_Sto_entriesOf_13 3 rfl ?_
    refine g_iconst F (v := 0) d_Sto_entriesOf_14 (by decide) ?_
    refine g_callV F (dp := 1) (ci := 5) (As := [.int x3, .int (0 : Int32)]) (c_Sto_part l _ _ _ hr0 _) cv_5_23 hr0.1 rfl rfl rfl (Nat.le_of_ble_eq_true rfl) ⟨Nat.le_of_ble_eq_true rfl, Nat.le_of_ble_eq_true rfl⟩ ⟨Nat.zero_le _, Nat.zero_le _⟩ d_Sto_entriesOf_15 (fun r1 σ2 h3 => ?_)
    refine g_iload_n F d_Sto_entriesOf_18 1 rfl ?_
    refine g_icmp_ne F (tgt := 25) d_Sto_entriesOf_19 (by decide) (fun h4 => ?_) (fun h5 => ?_)
    · refine g_iinc F (v := 1) (ls' := [(2, .int (x2 + 1)), (0, .ref (xa X r0)), (1, .int y1), (3, .int x3)]) d_Sto_entriesOf_22 2 rfl (by decide) (by decide) rfl ?_
      refine g_iinc F (v := 1) (ls' := [(3, .int (x3 + 1)), (2, .int (x2 + 1)), (0, .ref (xa X r0)), (1, .int y1)]) d_Sto_entriesOf_25 3 rfl (by decide) (by decide) rfl ?_
      refine g_goto F (tgt := 4) d_Sto_entriesOf_28 (by decide) ?_
      exact g_sub [2, 3, 1, 0] rfl (ih _ _ _)
    refine g_iinc F (v := 1) (ls' := [(3, .int (x3 + 1)), (0, .ref (xa X r0)), (1, .int y1), (2, .int x2)]) d_Sto_entriesOf_25 3 rfl (by decide) (by decide) rfl ?_
    refine g_goto F (tgt := 4) d_Sto_entriesOf_28 (by decide) ?_
    exact g_sub [1, 2, 3, 0] rfl (ih _ _ _)
set_option maxRecDepth 100000 in
set_option maxHeartbeats 4000000 in
theorem c_Sto_entriesOf {X : CX} (l : Launch) (q : Nat) (p1 : Int32) (hq : StoreOK X q) (σ : Mem) : CT X l y_Sto_entriesOf prog_7_method_4_code 4 (some .int) 2 vI [.ref (xa X q), .int p1] σ (f_Sto_entriesOf q p1 σ) := by
  refine CT_of (by decide +kernel) (Nat.le_of_ble_eq_true rfl) ?_
  intro p e s m args below meth c F hlk hr
  have F : FR p s m args c prog_7_method_4_code 4 "SensorHub$Store" X := F
  show G X p l e (rmD 2) s m args below meth c 4 0 0 (QI X below args s vI) 0 [(0, .ref (xa X q)), (1, .int p1)] [] σ _
  unfold f_Sto_entriesOf
  refine g_iconst F (v := 0) d_Sto_entriesOf_0 (by decide) ?_
  refine g_istore_n F (ls' := [(2, .int (0 : Int32)), (0, .ref (xa X q)), (1, .int p1)]) d_Sto_entriesOf_1 (by decide) rfl ?_
  refine g_iconst F (v := 0) d_Sto_entriesOf_2 (by decide) ?_
  refine g_istore_n F (ls' := [(3, .int (0 : Int32)), (2, .int (0 : Int32)), (0, .ref (xa X q)), (1, .int p1)]) d_Sto_entriesOf_3 (by decide) rfl ?_
  refine g_sub [2, 3, 1, 0] rfl (l_L_Sto_entriesOf_4 F hlk hr _ _ hq _ (fun z3 σ4 => ?_) FU _ _ _)
  refine g_iload_n F d_Sto_entriesOf_31 0 rfl ?_
  exact g_iret F hlk hr d_Sto_entriesOf_32
def y_X_greatestJitter : MethodName := ⟨"SensorHub", "greatestJitter", "(I)I"⟩
theorem d_X_greatestJitter_0 : decode prog_1_method_25_code 0 = .ok (.bipush 9, 2) := by decide +kernel
theorem d_X_greatestJitter_2 : decode prog_1_method_25_code 2 = .ok (.iload_n 0, 1) := by decide +kernel
theorem d_X_greatestJitter_3 : decode prog_1_method_25_code 3 = .ok (.iconst 1, 1) := by decide +kernel
theorem d_X_greatestJitter_4 : decode prog_1_method_25_code 4 = .ok (.isub, 1) := by decide +kernel
theorem d_X_greatestJitter_5 : decode prog_1_method_25_code 5 = .ok (.invokestatic 230, 3) := by decide +kernel
theorem d_X_greatestJitter_8 : decode prog_1_method_25_code 8 = .ok (.ireturn, 1) := by decide +kernel
theorem cs_7_230 : CSS "SensorHub" 230 y_Mat_min prog_11_method_69_code 2 (some .int) 2 := ⟨gw_I 397 (by decide +kernel) rfl, gw_I 398 (by decide +kernel) rfl, gw_I 79 (by decide +kernel) rfl, gw_I 399 (by decide +kernel) rfl, ⟨by decide +kernel, by decide +kernel⟩, by decide +kernel⟩
def f_X_greatestJitter (p0 : Int32) (σ : Mem) : Option (Int32 × Mem) :=
  bd (f_Mat_min (9 : Int32) (p0 - (1 : Int32)) σ) fun r1 σ2 =>
  some (r1, σ2)
set_option maxRecDepth 100000 in
set_option maxHeartbeats 4000000 in
theorem c_X_greatestJitter {X : CX} (l : Launch) (p0 : Int32)  (σ : Mem) : CT X l y_X_greatestJitter prog_1_method_25_code 1 (some .int) 1 vI [.int p0] σ (f_X_greatestJitter p0 σ) := by
  refine CT_of (by decide +kernel) (Nat.le_of_ble_eq_true rfl) ?_
  intro p e s m args below meth c F hlk hr
  have F : FR p s m args c prog_1_method_25_code 1 "SensorHub" X := F
  show G X p l e (rmD 1) s m args below meth c 1 0 0 (QI X below args s vI) 0 [(0, .int p0)] [] σ _
  unfold f_X_greatestJitter
  refine g_bipush F (v := 9) d_X_greatestJitter_0 (by decide) ?_
  refine g_iload_n F d_X_greatestJitter_2 0 rfl ?_
  refine g_iconst F (v := 1) d_X_greatestJitter_3 (by decide) ?_
  refine g_isub F d_X_greatestJitter_4 ?_
  refine g_callS F (dp := 0) (As := [.int (9 : Int32), .int (p0 - (1 : Int32))]) (c_Mat_min l _ _ _) cs_7_230 rfl rfl (Nat.le_of_ble_eq_true rfl) ⟨Nat.le_of_ble_eq_true rfl, Nat.le_of_ble_eq_true rfl⟩ ⟨Nat.zero_le _, Nat.zero_le _⟩ d_X_greatestJitter_5 (fun r1 σ2 h1 => ?_)
  exact g_iret F hlk hr d_X_greatestJitter_8
end
section
def y_Hub_clientRoom : MethodName := ⟨"SensorHub$Hub", "clientRoom", "(I)LSensorHub$Client;"⟩
theorem d_Hub_clientRoom_0 : decode prog_4_method_5_code 0 = .ok (.iload_n 1, 1) := by decide +kernel
theorem d_Hub_clientRoom_1 : decode prog_4_method_5_code 1 = .ok (.iconst 0, 1) := by decide +kernel
theorem d_Hub_clientRoom_2 : decode prog_4_method_5_code 2 = .ok (.bipush 7, 2) := by decide +kernel
theorem d_Hub_clientRoom_4 : decode prog_4_method_5_code 4 = .ok (.invokestatic 97, 3) := by decide +kernel
theorem d_Hub_clientRoom_7 : decode prog_4_method_5_code 7 = .ok (.ifCond .eq 12, 3) := by decide +kernel
theorem d_Hub_clientRoom_10 : decode prog_4_method_5_code 10 = .ok (.aload_n 0, 1) := by decide +kernel
theorem d_Hub_clientRoom_11 : decode prog_4_method_5_code 11 = .ok (.getfield 23, 3) := by decide +kernel
theorem d_Hub_clientRoom_14 : decode prog_4_method_5_code 14 = .ok (.iload_n 1, 1) := by decide +kernel
theorem d_Hub_clientRoom_15 : decode prog_4_method_5_code 15 = .ok (.aaload, 1) := by decide +kernel
theorem d_Hub_clientRoom_16 : decode prog_4_method_5_code 16 = .ok (.goto 4, 3) := by decide +kernel
theorem d_Hub_clientRoom_19 : decode prog_4_method_5_code 19 = .ok (.aconst_null, 1) := by decide +kernel
theorem d_Hub_clientRoom_20 : decode prog_4_method_5_code 20 = .ok (.areturn, 1) := by decide +kernel
theorem cs_2_97 : CSN "SensorHub$Hub" 97 y_X_isWithin "SensorHub" prog_1_method_24_code 3 (some .boolean) 3 := ⟨List.mem_of_getElem? (i := 4) rfl, gw_I 284 (by decide +kernel) rfl, gw_I 70 (by decide +kernel) rfl, gw_I 285 (by decide +kernel) rfl, ⟨by decide +kernel, by decide +kernel⟩, by decide +kernel⟩
theorem fs_2_23 : FS "SensorHub$Hub" 23 2 8 := ⟨"SensorHub$Hub", T_2, 11, rfl, by decide, rfl, gw_I 301 (by decide +kernel) rfl⟩
def f_Hub_clientRoom (q : Nat) (p1 : Int32) (σ : Mem) : Option ((Option Nat) × Mem) :=
  bd (f_X_isWithin p1 (0 : Int32) (7 : Int32) σ) fun r1 σ2 =>
  if r1 = 0 then
    some (none, σ2)
  else
    if ib p1 8 then
      some (some (q + 3 + (23 + 2 * p1.toNatClampNeg)), σ2)
    else none
set_option maxRecDepth 100000 in
set_option maxHeartbeats 4000000 in
theorem c_Hub_clientRoom {X : CX} (l : Launch) (q : Nat) (p1 : Int32) (hq : HubOK X q) (σ : Mem) : CT X l y_Hub_clientRoom prog_4_method_5_code 2 (some (.object "SensorHub$Client")) 1 (vQ X) [.ref (xa X q), .int p1] σ (f_Hub_clientRoom q p1 σ) := by
  refine CT_of (by decide +kernel) (Nat.le_of_ble_eq_true rfl) ?_
  intro p e s m args below meth c F hlk hr
  have F : FR p s m args c prog_4_method_5_code 2 "SensorHub$Hub" X := F
  show G X p l e (rmD 1) s m args below meth c 2 0 0 (QI X below args s (vQ X)) 0 [(0, .ref (xa X q)), (1, .int p1)] [] σ _
  unfold f_Hub_clientRoom
  refine g_iload_n F d_Hub_clientRoom_0 1 rfl ?_
  refine g_iconst F (v := 0) d_Hub_clientRoom_1 (by decide) ?_
  refine g_bipush F (v := 7) d_Hub_clientRoom_2 (by decide) ?_
  refine g_callSN F (dp := 0) (As := [.int p1, .int (0 : Int32), .int (7 : Int32)]) (c_X_isWithin l _ _ _ _) cs_2_97 rfl rfl (Nat.le_of_ble_eq_true rfl) ⟨Nat.le_of_ble_eq_true rfl, Nat.le_of_ble_eq_true rfl⟩ ⟨Nat.zero_le _, Nat.zero_le _⟩ d_Hub_clientRoom_4 (fun r1 σ2 h1 => ?_)
  refine g_if_eq F (tgt := 19) d_Hub_clientRoom_7 (by decide) (fun h2 => ?_) (fun h3 => ?_)
  · refine g_null F d_Hub_clientRoom_19 ?_
    exact g_aretN F hlk hr d_Hub_clientRoom_20
  refine g_aload_n F d_Hub_clientRoom_10 0 rfl ?_
  refine g_getR F fs_2_23 hq.1 rfl d_Hub_clientRoom_11 ?_
  refine g_iload_n F d_Hub_clientRoom_14 1 rfl ?_
  refine g_aald F 22 3 8 23 2 "SensorHub$Client" hq.2.2.2.1 (Or.inr (Or.inl ⟨rfl, rfl, rfl, rfl, rfl⟩)) rfl d_Hub_clientRoom_15 (fun h4 => ?_)
  refine g_goto F (tgt := 20) d_Hub_clientRoom_16 (by decide) ?_
  exact g_aret F hlk hr d_Hub_clientRoom_20
theorem at_Hub_clientRoom {q : Nat} {x : Int32} {σ σ' : Mem} {v : Nat} (h : f_Hub_clientRoom q x σ = some (some v, σ')) : ∃ j, j < 8 ∧ v = q + 3 + (23 + 2 * j) := by
  unfold f_Hub_clientRoom at h
  simp only [bd, lt, f_X_isWithin] at h
  repeat' split at h
  all_goals first
    | (cases h; done)
    | (rename_i hib; simp only [Option.some.injEq, Prod.mk.injEq] at h; obtain ⟨rfl, -⟩ := h; exact ⟨_, ib_lt (by first | assumption | (rename_i q1; exact q1) | exact hib), rfl⟩)
    | (simp only [Option.some.injEq, Prod.mk.injEq] at h; obtain ⟨rfl, -⟩ := h; exact ⟨_, ib_lt (by assumption), rfl⟩)
    | (simp at h; done)
theorem ok_Hub_clientRoom {X : CX} {q : Nat} {x : Int32} {σ σ' : Mem} {v : Nat} (hq : HubOK X q) (h : f_Hub_clientRoom q x σ = some (some v, σ')) : ClientOK X v := by
  obtain ⟨j, hj, rfl⟩ := at_Hub_clientRoom h
  exact hq.2.2.2.2.2.2.2 j hj
def y_Hub_clear : MethodName := ⟨"SensorHub$Hub", "clear", "()V"⟩
theorem d_Hub_clear_0 : decode prog_4_method_2_code 0 = .ok (.aload_n 0, 1) := by decide +kernel
theorem d_Hub_clear_1 : decode prog_4_method_2_code 1 = .ok (.iconst 0, 1) := by decide +kernel
theorem d_Hub_clear_2 : decode prog_4_method_2_code 2 = .ok (.putfield 46, 3) := by decide +kernel
theorem d_Hub_clear_5 : decode prog_4_method_2_code 5 = .ok (.aload_n 0, 1) := by decide +kernel
theorem d_Hub_clear_6 : decode prog_4_method_2_code 6 = .ok (.iconst 0, 1) := by decide +kernel
theorem d_Hub_clear_7 : decode prog_4_method_2_code 7 = .ok (.putfield 50, 3) := by decide +kernel
theorem d_Hub_clear_10 : decode prog_4_method_2_code 10 = .ok (.aload_n 0, 1) := by decide +kernel
theorem d_Hub_clear_11 : decode prog_4_method_2_code 11 = .ok (.iconst 0, 1) := by decide +kernel
theorem d_Hub_clear_12 : decode prog_4_method_2_code 12 = .ok (.putfield 53, 3) := by decide +kernel
theorem d_Hub_clear_15 : decode prog_4_method_2_code 15 = .ok (.aload_n 0, 1) := by decide +kernel
theorem d_Hub_clear_16 : decode prog_4_method_2_code 16 = .ok (.bipush 10, 2) := by decide +kernel
theorem d_Hub_clear_18 : decode prog_4_method_2_code 18 = .ok (.putfield 56, 3) := by decide +kernel
theorem d_Hub_clear_21 : decode prog_4_method_2_code 21 = .ok (.aload_n 0, 1) := by decide +kernel
theorem d_Hub_clear_22 : decode prog_4_method_2_code 22 = .ok (.iconst 0, 1) := by decide +kernel
theorem d_Hub_clear_23 : decode prog_4_method_2_code 23 = .ok (.putfield 59, 3) := by decide +kernel
theorem d_Hub_clear_26 : decode prog_4_method_2_code 26 = .ok (.aload_n 0, 1) := by decide +kernel
theorem d_Hub_clear_27 : decode prog_4_method_2_code 27 = .ok (.getfield 30, 3) := by decide +kernel
theorem d_Hub_clear_30 : decode prog_4_method_2_code 30 = .ok (.iconst 0, 1) := by decide +kernel
theorem d_Hub_clear_31 : decode prog_4_method_2_code 31 = .ok (.putfield 62, 3) := by decide +kernel
theorem d_Hub_clear_34 : decode prog_4_method_2_code 34 = .ok (.aload_n 0, 1) := by decide +kernel
theorem d_Hub_clear_35 : decode prog_4_method_2_code 35 = .ok (.getfield 37, 3) := by decide +kernel
theorem d_Hub_clear_38 : decode prog_4_method_2_code 38 = .ok (.iconst 0, 1) := by decide +kernel
theorem d_Hub_clear_39 : decode prog_4_method_2_code 39 = .ok (.putfield 65, 3) := by decide +kernel
theorem d_Hub_clear_42 : decode prog_4_method_2_code 42 = .ok (.iconst 0, 1) := by decide +kernel
theorem d_Hub_clear_43 : decode prog_4_method_2_code 43 = .ok (.istore_n 1, 1) := by decide +kernel
theorem d_Hub_clear_44 : decode prog_4_method_2_code 44 = .ok (.iload_n 1, 1) := by decide +kernel
theorem d_Hub_clear_45 : decode prog_4_method_2_code 45 = .ok (.iconst 4, 1) := by decide +kernel
theorem d_Hub_clear_46 : decode prog_4_method_2_code 46 = .ok (.if_icmp .ge 16, 3) := by decide +kernel
theorem d_Hub_clear_49 : decode prog_4_method_2_code 49 = .ok (.aload_n 0, 1) := by decide +kernel
theorem d_Hub_clear_50 : decode prog_4_method_2_code 50 = .ok (.getfield 9, 3) := by decide +kernel
theorem d_Hub_clear_53 : decode prog_4_method_2_code 53 = .ok (.iload_n 1, 1) := by decide +kernel
theorem d_Hub_clear_54 : decode prog_4_method_2_code 54 = .ok (.iconst 0, 1) := by decide +kernel
theorem d_Hub_clear_55 : decode prog_4_method_2_code 55 = .ok (.iastore, 1) := by decide +kernel
theorem d_Hub_clear_56 : decode prog_4_method_2_code 56 = .ok (.iinc 1 1, 3) := by decide +kernel
theorem d_Hub_clear_59 : decode prog_4_method_2_code 59 = .ok (.goto (-15), 3) := by decide +kernel
theorem d_Hub_clear_62 : decode prog_4_method_2_code 62 = .ok (.iconst 0, 1) := by decide +kernel
theorem d_Hub_clear_63 : decode prog_4_method_2_code 63 = .ok (.istore_n 1, 1) := by decide +kernel
theorem d_Hub_clear_64 : decode prog_4_method_2_code 64 = .ok (.iload_n 1, 1) := by decide +kernel
theorem d_Hub_clear_65 : decode prog_4_method_2_code 65 = .ok (.bipush 8, 2) := by decide +kernel
theorem d_Hub_clear_67 : decode prog_4_method_2_code 67 = .ok (.if_icmp .ge 24, 3) := by decide +kernel
theorem d_Hub_clear_70 : decode prog_4_method_2_code 70 = .ok (.aload_n 0, 1) := by decide +kernel
theorem d_Hub_clear_71 : decode prog_4_method_2_code 71 = .ok (.iload_n 1, 1) := by decide +kernel
theorem d_Hub_clear_72 : decode prog_4_method_2_code 72 = .ok (.invokevirtual 66, 3) := by decide +kernel
theorem d_Hub_clear_75 : decode prog_4_method_2_code 75 = .ok (.astore_n 2, 1) := by decide +kernel
theorem d_Hub_clear_76 : decode prog_4_method_2_code 76 = .ok (.aload_n 2, 1) := by decide +kernel
theorem d_Hub_clear_77 : decode prog_4_method_2_code 77 = .ok (.ifnull 8, 3) := by decide +kernel
theorem d_Hub_clear_80 : decode prog_4_method_2_code 80 = .ok (.aload_n 2, 1) := by decide +kernel
theorem d_Hub_clear_81 : decode prog_4_method_2_code 81 = .ok (.iconst 0, 1) := by decide +kernel
theorem d_Hub_clear_82 : decode prog_4_method_2_code 82 = .ok (.putfield 70, 3) := by decide +kernel
theorem d_Hub_clear_85 : decode prog_4_method_2_code 85 = .ok (.iinc 1 1, 3) := by decide +kernel
theorem d_Hub_clear_88 : decode prog_4_method_2_code 88 = .ok (.goto (-24), 3) := by decide +kernel
theorem d_Hub_clear_91 : decode prog_4_method_2_code 91 = .ok (.return_, 1) := by decide +kernel
theorem fw_2_46 : FW "SensorHub$Hub" 46 2 0 .int := ⟨"SensorHub$Hub", T_2, 11, rfl, by decide, rfl, gw_I 286 (by decide +kernel) rfl, rfl, by decide +kernel⟩
theorem fw_2_50 : FW "SensorHub$Hub" 50 2 1 .int := ⟨"SensorHub$Hub", T_2, 11, rfl, by decide, rfl, gw_I 288 (by decide +kernel) rfl, rfl, by decide +kernel⟩
theorem fw_2_53 : FW "SensorHub$Hub" 53 2 2 .int := ⟨"SensorHub$Hub", T_2, 11, rfl, by decide, rfl, gw_I 290 (by decide +kernel) rfl, rfl, by decide +kernel⟩
theorem fw_2_56 : FW "SensorHub$Hub" 56 2 3 .int := ⟨"SensorHub$Hub", T_2, 11, rfl, by decide, rfl, gw_I 292 (by decide +kernel) rfl, rfl, by decide +kernel⟩
theorem fw_2_59 : FW "SensorHub$Hub" 59 2 4 .int := ⟨"SensorHub$Hub", T_2, 11, rfl, by decide, rfl, gw_I 294 (by decide +kernel) rfl, rfl, by decide +kernel⟩
theorem fs_2_30 : FS "SensorHub$Hub" 30 2 9 := ⟨"SensorHub$Hub", T_2, 11, rfl, by decide, rfl, gw_I 302 (by decide +kernel) rfl⟩
theorem fw_2_62 : FW "SensorHub$Hub" 62 3 0 .int := ⟨"SensorHub$Outages", T_3, 4, rfl, by decide, rfl, gw_I 110 (by decide +kernel) rfl, rfl, by decide +kernel⟩
theorem fs_2_37 : FS "SensorHub$Hub" 37 2 10 := ⟨"SensorHub$Hub", T_2, 11, rfl, by decide, rfl, gw_I 305 (by decide +kernel) rfl⟩
theorem fw_2_65 : FW "SensorHub$Hub" 65 5 0 .int := ⟨"SensorHub$Store", T_5, 2, rfl, by decide, rfl, gw_I 132 (by decide +kernel) rfl, rfl, by decide +kernel⟩
theorem fs_2_9 : FS "SensorHub$Hub" 9 2 6 := ⟨"SensorHub$Hub", T_2, 11, rfl, by decide, rfl, gw_I 299 (by decide +kernel) rfl⟩
theorem cv_2_66 : CSV "SensorHub$Hub" 66 y_Hub_clientRoom prog_4_method_5_code 2 (some (.object "SensorHub$Client")) 1 := ⟨gw_I 279 (by decide +kernel) rfl, gw_I 281 (by decide +kernel) rfl, gw_I 0 (by decide +kernel) rfl, gw_I 71 (by decide +kernel) rfl, gw_I 282 (by decide +kernel) rfl, ⟨by decide +kernel, by decide +kernel⟩, by decide +kernel⟩
theorem fw_2_70 : FW "SensorHub$Hub" 70 0 0 .boolean := ⟨"SensorHub$Client", T_0, 11, rfl, by decide, rfl, gw_I 227 (by decide +kernel) rfl, rfl, by decide +kernel⟩
def L_Hub_clear_44 (r0 : Nat) (k : Mem → Option (Unit × Mem)) : Nat → Int32 → Mem → Option (Unit × Mem)
  | 0, _, _ => none
  | n + 1, x1, σ =>
    if (4 : Int32) ≤ x1 then
      k σ
    else
      if ib x1 4 then
        lt (wr σ (r0 + 1) x1.toNatClampNeg (0 : Int32)) fun σ8 =>
        L_Hub_clear_44 r0 k n (x1 + 1) σ8
      else none
def L_Hub_clear_64 (r0 : Nat) (k : Mem → Option (Unit × Mem)) : Nat → Int32 → Mem → Option (Unit × Mem)
  | 0, _, _ => none
  | n + 1, x1, σ =>
    if (8 : Int32) ≤ x1 then
      k σ
    else
      bd (f_Hub_clientRoom r0 x1 σ) fun r10 σ11 =>
      oe r10 (
        L_Hub_clear_64 r0 k n (x1 + 1) σ11
      ) (fun o12 =>
        lt (wr σ11 o12 0 (0 : Int32)) fun σ13 =>
        L_Hub_clear_64 r0 k n (x1 + 1) σ13
      )
def f_Hub_clear (q : Nat) (σ : Mem) : Option (Unit × Mem) :=
  lt (wr σ q 0 (0 : Int32)) fun σ1 =>
  lt (wr σ1 q 1 (0 : Int32)) fun σ2 =>
  lt (wr σ2 q 2 (0 : Int32)) fun σ3 =>
  lt (wr σ3 q 3 (10 : Int32)) fun σ4 =>
  lt (wr σ4 q 4 (0 : Int32)) fun σ5 =>
  lt (wr σ5 (q + 4) 0 (0 : Int32)) fun σ6 =>
  lt (wr σ6 (q + 8) 0 (0 : Int32)) fun σ7 =>
  L_Hub_clear_44 q (fun σ9 =>
    L_Hub_clear_64 q (fun σ14 =>
      some ((), σ14)) FU (0 : Int32) σ9) FU (0 : Int32) σ7
set_option maxRecDepth 100000 in
set_option maxHeartbeats 4000000 in
theorem l_L_Hub_clear_44 {X : CX} {p : Program} {l : Launch} {e : Env} {s : State} {m : MethodId} {args : Array Value} {below : List Frame} {meth : Method} {c : Code} (F : FR p s m args c prog_4_method_2_code 3 "SensorHub$Hub" X) (hlk : meth.locks = false) (hr : meth.sig.returnType = none) (r0 : Nat) (hr0 : HubOK X r0) (k : Mem → Option (Unit × Mem)) (hk : ∀  (σ : Mem), G X p l e (rmD 2) s m args below meth c 3 0 0 (QI X below args s vU) 62 [(0, .ref (xa X r0))] [] σ (k σ)) : ∀ (n : Nat) (x1 : Int32) (σ : Mem), G X p l e (rmD 2) s m args below meth c 3 0 0 (QI X below args s vU) 44 [(0, .ref (xa X r0)), (1, .int x1)] [] σ (L_Hub_clear_44 r0 k n x1 σ) := by
  intro n
  induction n with
  | zero => intros; exact g_no
  | succ n ih =>
    intro x1 σ
    unfold L_Hub_clear_44
    refine g_iload_n F d_Hub_clear_44 1 rfl ?_
    refine g_iconst F (v := 4) d_Hub_clear_45 (by decide) ?_
    refine g_icmp_ge F (tgt := 62) d_Hub_clear_46 (by decide) (fun h1 => ?_) (fun h2 => ?_)
    · exact g_sub [0] rfl (hk  _)
    refine g_aload_n F d_Hub_clear_49 0 rfl ?_
    refine g_getR F fs_2_9 hr0.1 rfl d_Hub_clear_50 ?_
    refine g_iload_n F d_Hub_clear_53 1 rfl ?_
    refine g_iconst F (v := 0) d_Hub_clear_54 (by decide) ?_
    refine g_iast F (n := 4) hr0.2.1 d_Hub_clear_55 ?_
    refine g_ltM (fun σ8 _ => ?_)
    refine g_iinc F (v := 1) (ls' := [(1, .int (x1 + 1)), (0, .ref (xa X r0))]) d_Hub_clear_56 1 rfl (by decide) (by decide) rfl ?_
    refine g_goto F (tgt := 44) d_Hub_clear_59 (by decide) ?_
    exact g_sub [1, 0] rfl (ih _ _)
set_option maxRecDepth 100000 in
set_option maxHeartbeats 4000000 in
theorem l_L_Hub_clear_64 {X : CX} {p : Program} {l : Launch} {e : Env} {s : State} {m : MethodId} {args : Array Value} {below : List Frame} {meth : Method} {c : Code} (F : FR p s m args c prog_4_method_2_code 3 "SensorHub$Hub" X) (hlk : meth.locks = false) (hr : meth.sig.returnType = none) (r0 : Nat) (hr0 : HubOK X r0) (k : Mem → Option (Unit × Mem)) (hk : ∀  (σ : Mem), G X p l e (rmD 2) s m args below meth c 3 0 0 (QI X below args s vU) 91 [] [] σ (k σ)) : ∀ (n : Nat) (x1 : Int32) (σ : Mem), G X p l e (rmD 2) s m args below meth c 3 0 0 (QI X below args s vU) 64 [(0, .ref (xa X r0)), (1, .int x1)] [] σ (L_Hub_clear_64 r0 k n x1 σ) := by
  intro n
  induction n with
  | zero => intros; exact g_no
  | succ n ih =>
    intro x1 σ
    unfold L_Hub_clear_64
    refine g_iload_n F d_Hub_clear_64 1 rfl ?_
    refine g_bipush F (v := 8) d_Hub_clear_65 (by decide) ?_
    refine g_icmp_ge F (tgt := 91) d_Hub_clear_67 (by decide) (fun h3 => ?_) (fun h4 => ?_)
    · exact g_sub [] rfl (hk  _)
    refine g_aload_n F d_Hub_clear_70 0 rfl ?_
    refine g_iload_n F d_Hub_clear_71 1 rfl ?_
    refine g_callV F (dp := 1) (ci := 2) (As := [.int x1]) (c_Hub_clientRoom l _ _ hr0 _) cv_2_66 hr0.1 rfl rfl rfl (Nat.le_of_ble_eq_true rfl) ⟨Nat.le_of_ble_eq_true rfl, Nat.le_of_ble_eq_true rfl⟩ ⟨Nat.zero_le _, Nat.zero_le _⟩ d_Hub_clear_72 (fun r10 σ11 h5 => ?_)
    refine g_oe (fun h6 => ?_) (fun o12 h7 => ?_)
    · refine g_astore_nN F (ls' := [(2, .null), (0, .ref (xa X r0)), (1, .int x1)]) d_Hub_clear_75 (by decide) rfl ?_
      refine g_aload_nN F d_Hub_clear_76 0 rfl ?_
      refine g_ifnullN F (tgt := 85) d_Hub_clear_77 (by decide) ?_
      refine g_iinc F (v := 1) (ls' := [(1, .int (x1 + 1)), (2, .null), (0, .ref (xa X r0))]) d_Hub_clear_85 2 rfl (by decide) (by decide) rfl ?_
      refine g_goto F (tgt := 64) d_Hub_clear_88 (by decide) ?_
      exact g_sub [2, 0] rfl (ih _ _)
    have h8 : ClientOK X o12 := ok_Hub_clientRoom hr0 (h7 ▸ h5)
    refine g_astore_n F (ls' := [(2, .ref (xa X o12)), (0, .ref (xa X r0)), (1, .int x1)]) d_Hub_clear_75 (by decide) rfl ?_
    refine g_aload_n F d_Hub_clear_76 0 rfl ?_
    refine g_ifnull F d_Hub_clear_77 ?_
    refine g_aload_n F d_Hub_clear_80 0 rfl ?_
    refine g_iconst F (v := 0) d_Hub_clear_81 (by decide) ?_
    refine g_pt (q := (0 : Int32) &&& 1 = (0 : Int32)) (by decide) (g_putZ F fw_2_70 h8.1 rfl d_Hub_clear_82 ?_)
    refine g_ltM (fun σ13 _ => ?_)
    refine g_iinc F (v := 1) (ls' := [(1, .int (x1 + 1)), (2, .ref (xa X o12)), (0, .ref (xa X r0))]) d_Hub_clear_85 2 rfl (by decide) (by decide) rfl ?_
    refine g_goto F (tgt := 64) d_Hub_clear_88 (by decide) ?_
    exact g_sub [2, 0] rfl (ih _ _)
set_option maxRecDepth 100000 in
set_option maxHeartbeats 4000000 in
theorem c_Hub_clear {X : CX} (l : Launch) (q : Nat) (hq : HubOK X q) (σ : Mem) : CT X l y_Hub_clear prog_4_method_2_code 3 none 2 vU [.ref (xa X q)] σ (f_Hub_clear q σ) := by
  refine CT_of (by decide +kernel) (Nat.le_of_ble_eq_true rfl) ?_
  intro p e s m args below meth c F hlk hr
  have F : FR p s m args c prog_4_method_2_code 3 "SensorHub$Hub" X := F
  show G X p l e (rmD 2) s m args below meth c 3 0 0 (QI X below args s vU) 0 [(0, .ref (xa X q))] [] σ _
  unfold f_Hub_clear
  refine g_aload_n F d_Hub_clear_0 0 rfl ?_
  refine g_iconst F (v := 0) d_Hub_clear_1 (by decide) ?_
  refine g_putI F fw_2_46 hq.1 rfl d_Hub_clear_2 ?_
  refine g_ltM (fun σ1 _ => ?_)
  refine g_aload_n F d_Hub_clear_5 0 rfl ?_
  refine g_iconst F (v := 0) d_Hub_clear_6 (by decide) ?_
  refine g_putI F fw_2_50 hq.1 rfl d_Hub_clear_7 ?_
  refine g_ltM (fun σ2 _ => ?_)
  refine g_aload_n F d_Hub_clear_10 0 rfl ?_
  refine g_iconst F (v := 0) d_Hub_clear_11 (by decide) ?_
  refine g_putI F fw_2_53 hq.1 rfl d_Hub_clear_12 ?_
  refine g_ltM (fun σ3 _ => ?_)
  refine g_aload_n F d_Hub_clear_15 0 rfl ?_
  refine g_bipush F (v := 10) d_Hub_clear_16 (by decide) ?_
  refine g_putI F fw_2_56 hq.1 rfl d_Hub_clear_18 ?_
  refine g_ltM (fun σ4 _ => ?_)
  refine g_aload_n F d_Hub_clear_21 0 rfl ?_
  refine g_iconst F (v := 0) d_Hub_clear_22 (by decide) ?_
  refine g_putI F fw_2_59 hq.1 rfl d_Hub_clear_23 ?_
  refine g_ltM (fun σ5 _ => ?_)
  refine g_aload_n F d_Hub_clear_26 0 rfl ?_
  refine g_getR F fs_2_30 hq.1 rfl d_Hub_clear_27 ?_
  refine g_iconst F (v := 0) d_Hub_clear_30 (by decide) ?_
  refine g_putI F fw_2_62 hq.2.2.2.2.1.1 rfl d_Hub_clear_31 ?_
  refine g_ltM (fun σ6 _ => ?_)
  refine g_aload_n F d_Hub_clear_34 0 rfl ?_
  refine g_getR F fs_2_37 hq.1 rfl d_Hub_clear_35 ?_
  refine g_iconst F (v := 0) d_Hub_clear_38 (by decide) ?_
  refine g_putI F fw_2_65 hq.2.2.2.2.2.1.1 rfl d_Hub_clear_39 ?_
  refine g_ltM (fun σ7 _ => ?_)
  refine g_iconst F (v := 0) d_Hub_clear_42 (by decide) ?_
  refine g_istore_n F (ls' := [(1, .int (0 : Int32)), (0, .ref (xa X q))]) d_Hub_clear_43 (by decide) rfl ?_
  refine g_sub [1, 0] rfl (l_L_Hub_clear_44 F hlk hr _ hq _ (fun σ9 => ?_) FU _ _)
  refine g_iconst F (v := 0) d_Hub_clear_62 (by decide) ?_
  refine g_istore_n F (ls' := [(1, .int (0 : Int32)), (0, .ref (xa X q))]) d_Hub_clear_63 (by decide) rfl ?_
  refine g_sub [1, 0] rfl (l_L_Hub_clear_64 F hlk hr _ hq _ (fun σ14 => ?_) FU _ _)
  exact g_vret F hlk hr d_Hub_clear_91
def y_Hub_sensorRoom : MethodName := ⟨"SensorHub$Hub", "sensorRoom", "(I)LSensorHub$Sensor;"⟩
theorem d_Hub_sensorRoom_0 : decode prog_4_method_4_code 0 = .ok (.iload_n 1, 1) := by decide +kernel
theorem d_Hub_sensorRoom_1 : decode prog_4_method_4_code 1 = .ok (.iconst 0, 1) := by decide +kernel
theorem d_Hub_sensorRoom_2 : decode prog_4_method_4_code 2 = .ok (.bipush 7, 2) := by decide +kernel
theorem d_Hub_sensorRoom_4 : decode prog_4_method_4_code 4 = .ok (.invokestatic 97, 3) := by decide +kernel
theorem d_Hub_sensorRoom_7 : decode prog_4_method_4_code 7 = .ok (.ifCond .eq 12, 3) := by decide +kernel
theorem d_Hub_sensorRoom_10 : decode prog_4_method_4_code 10 = .ok (.aload_n 0, 1) := by decide +kernel
theorem d_Hub_sensorRoom_11 : decode prog_4_method_4_code 11 = .ok (.getfield 17, 3) := by decide +kernel
theorem d_Hub_sensorRoom_14 : decode prog_4_method_4_code 14 = .ok (.iload_n 1, 1) := by decide +kernel
theorem d_Hub_sensorRoom_15 : decode prog_4_method_4_code 15 = .ok (.aaload, 1) := by decide +kernel
theorem d_Hub_sensorRoom_16 : decode prog_4_method_4_code 16 = .ok (.goto 4, 3) := by decide +kernel
theorem d_Hub_sensorRoom_19 : decode prog_4_method_4_code 19 = .ok (.aconst_null, 1) := by decide +kernel
theorem d_Hub_sensorRoom_20 : decode prog_4_method_4_code 20 = .ok (.areturn, 1) := by decide +kernel
theorem fs_2_17 : FS "SensorHub$Hub" 17 2 7 := ⟨"SensorHub$Hub", T_2, 11, rfl, by decide, rfl, gw_I 300 (by decide +kernel) rfl⟩
def f_Hub_sensorRoom (q : Nat) (p1 : Int32) (σ : Mem) : Option ((Option Nat) × Mem) :=
  bd (f_X_isWithin p1 (0 : Int32) (7 : Int32) σ) fun r1 σ2 =>
  if r1 = 0 then
    some (none, σ2)
  else
    if ib p1 8 then
      some (some (q + 2 + (8 + 2 * p1.toNatClampNeg)), σ2)
    else none
set_option maxRecDepth 100000 in
set_option maxHeartbeats 4000000 in
theorem c_Hub_sensorRoom {X : CX} (l : Launch) (q : Nat) (p1 : Int32) (hq : HubOK X q) (σ : Mem) : CT X l y_Hub_sensorRoom prog_4_method_4_code 2 (some (.object "SensorHub$Sensor")) 1 (vQ X) [.ref (xa X q), .int p1] σ (f_Hub_sensorRoom q p1 σ) := by
  refine CT_of (by decide +kernel) (Nat.le_of_ble_eq_true rfl) ?_
  intro p e s m args below meth c F hlk hr
  have F : FR p s m args c prog_4_method_4_code 2 "SensorHub$Hub" X := F
  show G X p l e (rmD 1) s m args below meth c 2 0 0 (QI X below args s (vQ X)) 0 [(0, .ref (xa X q)), (1, .int p1)] [] σ _
  unfold f_Hub_sensorRoom
  refine g_iload_n F d_Hub_sensorRoom_0 1 rfl ?_
  refine g_iconst F (v := 0) d_Hub_sensorRoom_1 (by decide) ?_
  refine g_bipush F (v := 7) d_Hub_sensorRoom_2 (by decide) ?_
  refine g_callSN F (dp := 0) (As := [.int p1, .int (0 : Int32), .int (7 : Int32)]) (c_X_isWithin l _ _ _ _) cs_2_97 rfl rfl (Nat.le_of_ble_eq_true rfl) ⟨Nat.le_of_ble_eq_true rfl, Nat.le_of_ble_eq_true rfl⟩ ⟨Nat.zero_le _, Nat.zero_le _⟩ d_Hub_sensorRoom_4 (fun r1 σ2 h1 => ?_)
  refine g_if_eq F (tgt := 19) d_Hub_sensorRoom_7 (by decide) (fun h2 => ?_) (fun h3 => ?_)
  · refine g_null F d_Hub_sensorRoom_19 ?_
    exact g_aretN F hlk hr d_Hub_sensorRoom_20
  refine g_aload_n F d_Hub_sensorRoom_10 0 rfl ?_
  refine g_getR F fs_2_17 hq.1 rfl d_Hub_sensorRoom_11 ?_
  refine g_iload_n F d_Hub_sensorRoom_14 1 rfl ?_
  refine g_aald F 21 2 8 8 2 "SensorHub$Sensor" hq.2.2.1 (Or.inl ⟨rfl, rfl, rfl, rfl, rfl⟩) rfl d_Hub_sensorRoom_15 (fun h4 => ?_)
  refine g_goto F (tgt := 20) d_Hub_sensorRoom_16 (by decide) ?_
  exact g_aret F hlk hr d_Hub_sensorRoom_20
theorem at_Hub_sensorRoom {q : Nat} {x : Int32} {σ σ' : Mem} {v : Nat} (h : f_Hub_sensorRoom q x σ = some (some v, σ')) : ∃ j, j < 8 ∧ v = q + 2 + (8 + 2 * j) := by
  unfold f_Hub_sensorRoom at h
  simp only [bd, lt, f_X_isWithin] at h
  repeat' split at h
  all_goals first
    | (cases h; done)
    | (rename_i hib; simp only [Option.some.injEq, Prod.mk.injEq] at h; obtain ⟨rfl, -⟩ := h; exact ⟨_, ib_lt (by first | assumption | (rename_i q1; exact q1) | exact hib), rfl⟩)
    | (simp only [Option.some.injEq, Prod.mk.injEq] at h; obtain ⟨rfl, -⟩ := h; exact ⟨_, ib_lt (by assumption), rfl⟩)
    | (simp at h; done)
theorem ok_Hub_sensorRoom {X : CX} {q : Nat} {x : Int32} {σ σ' : Mem} {v : Nat} (hq : HubOK X q) (h : f_Hub_sensorRoom q x σ = some (some v, σ')) : SensorOK X v := by
  obtain ⟨j, hj, rfl⟩ := at_Hub_sensorRoom h
  exact hq.2.2.2.2.2.2.1 j hj
def y_Hub_copyFrom : MethodName := ⟨"SensorHub$Hub", "copyFrom", "(LSensorHub$Hub;)V"⟩
theorem d_Hub_copyFrom_0 : decode prog_4_method_3_code 0 = .ok (.aload_n 0, 1) := by decide +kernel
theorem d_Hub_copyFrom_1 : decode prog_4_method_3_code 1 = .ok (.aload_n 1, 1) := by decide +kernel
theorem d_Hub_copyFrom_2 : decode prog_4_method_3_code 2 = .ok (.getfield 46, 3) := by decide +kernel
theorem d_Hub_copyFrom_5 : decode prog_4_method_3_code 5 = .ok (.putfield 46, 3) := by decide +kernel
theorem d_Hub_copyFrom_8 : decode prog_4_method_3_code 8 = .ok (.aload_n 0, 1) := by decide +kernel
theorem d_Hub_copyFrom_9 : decode prog_4_method_3_code 9 = .ok (.aload_n 1, 1) := by decide +kernel
theorem d_Hub_copyFrom_10 : decode prog_4_method_3_code 10 = .ok (.getfield 50, 3) := by decide +kernel
theorem d_Hub_copyFrom_13 : decode prog_4_method_3_code 13 = .ok (.putfield 50, 3) := by decide +kernel
theorem d_Hub_copyFrom_16 : decode prog_4_method_3_code 16 = .ok (.aload_n 0, 1) := by decide +kernel
theorem d_Hub_copyFrom_17 : decode prog_4_method_3_code 17 = .ok (.aload_n 1, 1) := by decide +kernel
theorem d_Hub_copyFrom_18 : decode prog_4_method_3_code 18 = .ok (.getfield 53, 3) := by decide +kernel
theorem d_Hub_copyFrom_21 : decode prog_4_method_3_code 21 = .ok (.putfield 53, 3) := by decide +kernel
theorem d_Hub_copyFrom_24 : decode prog_4_method_3_code 24 = .ok (.aload_n 0, 1) := by decide +kernel
theorem d_Hub_copyFrom_25 : decode prog_4_method_3_code 25 = .ok (.aload_n 1, 1) := by decide +kernel
theorem d_Hub_copyFrom_26 : decode prog_4_method_3_code 26 = .ok (.getfield 56, 3) := by decide +kernel
theorem d_Hub_copyFrom_29 : decode prog_4_method_3_code 29 = .ok (.putfield 56, 3) := by decide +kernel
theorem d_Hub_copyFrom_32 : decode prog_4_method_3_code 32 = .ok (.aload_n 0, 1) := by decide +kernel
theorem d_Hub_copyFrom_33 : decode prog_4_method_3_code 33 = .ok (.aload_n 1, 1) := by decide +kernel
theorem d_Hub_copyFrom_34 : decode prog_4_method_3_code 34 = .ok (.getfield 59, 3) := by decide +kernel
theorem d_Hub_copyFrom_37 : decode prog_4_method_3_code 37 = .ok (.putfield 59, 3) := by decide +kernel
theorem d_Hub_copyFrom_40 : decode prog_4_method_3_code 40 = .ok (.aload_n 1, 1) := by decide +kernel
theorem d_Hub_copyFrom_41 : decode prog_4_method_3_code 41 = .ok (.getfield 9, 3) := by decide +kernel
theorem d_Hub_copyFrom_44 : decode prog_4_method_3_code 44 = .ok (.iconst 0, 1) := by decide +kernel
theorem d_Hub_copyFrom_45 : decode prog_4_method_3_code 45 = .ok (.aload_n 0, 1) := by decide +kernel
theorem d_Hub_copyFrom_46 : decode prog_4_method_3_code 46 = .ok (.getfield 9, 3) := by decide +kernel
theorem d_Hub_copyFrom_49 : decode prog_4_method_3_code 49 = .ok (.iconst 0, 1) := by decide +kernel
theorem d_Hub_copyFrom_50 : decode prog_4_method_3_code 50 = .ok (.iconst 4, 1) := by decide +kernel
theorem d_Hub_copyFrom_51 : decode prog_4_method_3_code 51 = .ok (.invokestatic 74, 3) := by decide +kernel
theorem d_Hub_copyFrom_54 : decode prog_4_method_3_code 54 = .ok (.aload_n 0, 1) := by decide +kernel
theorem d_Hub_copyFrom_55 : decode prog_4_method_3_code 55 = .ok (.getfield 30, 3) := by decide +kernel
theorem d_Hub_copyFrom_58 : decode prog_4_method_3_code 58 = .ok (.aload_n 1, 1) := by decide +kernel
theorem d_Hub_copyFrom_59 : decode prog_4_method_3_code 59 = .ok (.getfield 30, 3) := by decide +kernel
theorem d_Hub_copyFrom_62 : decode prog_4_method_3_code 62 = .ok (.invokevirtual 80, 3) := by decide +kernel
theorem d_Hub_copyFrom_65 : decode prog_4_method_3_code 65 = .ok (.aload_n 0, 1) := by decide +kernel
theorem d_Hub_copyFrom_66 : decode prog_4_method_3_code 66 = .ok (.getfield 37, 3) := by decide +kernel
theorem d_Hub_copyFrom_69 : decode prog_4_method_3_code 69 = .ok (.aload_n 1, 1) := by decide +kernel
theorem d_Hub_copyFrom_70 : decode prog_4_method_3_code 70 = .ok (.getfield 37, 3) := by decide +kernel
theorem d_Hub_copyFrom_73 : decode prog_4_method_3_code 73 = .ok (.invokevirtual 84, 3) := by decide +kernel
theorem d_Hub_copyFrom_76 : decode prog_4_method_3_code 76 = .ok (.iconst 0, 1) := by decide +kernel
theorem d_Hub_copyFrom_77 : decode prog_4_method_3_code 77 = .ok (.istore_n 2, 1) := by decide +kernel
theorem d_Hub_copyFrom_78 : decode prog_4_method_3_code 78 = .ok (.iload_n 2, 1) := by decide +kernel
theorem d_Hub_copyFrom_79 : decode prog_4_method_3_code 79 = .ok (.bipush 8, 2) := by decide +kernel
theorem d_Hub_copyFrom_81 : decode prog_4_method_3_code 81 = .ok (.if_icmp .ge 37, 3) := by decide +kernel
theorem d_Hub_copyFrom_84 : decode prog_4_method_3_code 84 = .ok (.aload_n 0, 1) := by decide +kernel
theorem d_Hub_copyFrom_85 : decode prog_4_method_3_code 85 = .ok (.iload_n 2, 1) := by decide +kernel
theorem d_Hub_copyFrom_86 : decode prog_4_method_3_code 86 = .ok (.invokevirtual 87, 3) := by decide +kernel
theorem d_Hub_copyFrom_89 : decode prog_4_method_3_code 89 = .ok (.astore_n 3, 1) := by decide +kernel
theorem d_Hub_copyFrom_90 : decode prog_4_method_3_code 90 = .ok (.aload_n 1, 1) := by decide +kernel
theorem d_Hub_copyFrom_91 : decode prog_4_method_3_code 91 = .ok (.iload_n 2, 1) := by decide +kernel
theorem d_Hub_copyFrom_92 : decode prog_4_method_3_code 92 = .ok (.invokevirtual 87, 3) := by decide +kernel
theorem d_Hub_copyFrom_95 : decode prog_4_method_3_code 95 = .ok (.astore 4, 2) := by decide +kernel
theorem d_Hub_copyFrom_97 : decode prog_4_method_3_code 97 = .ok (.aload_n 3, 1) := by decide +kernel
theorem d_Hub_copyFrom_98 : decode prog_4_method_3_code 98 = .ok (.ifnull 14, 3) := by decide +kernel
theorem d_Hub_copyFrom_101 : decode prog_4_method_3_code 101 = .ok (.aload 4, 2) := by decide +kernel
theorem d_Hub_copyFrom_103 : decode prog_4_method_3_code 103 = .ok (.ifnull 9, 3) := by decide +kernel
theorem d_Hub_copyFrom_106 : decode prog_4_method_3_code 106 = .ok (.aload_n 3, 1) := by decide +kernel
theorem d_Hub_copyFrom_107 : decode prog_4_method_3_code 107 = .ok (.aload 4, 2) := by decide +kernel
theorem d_Hub_copyFrom_109 : decode prog_4_method_3_code 109 = .ok (.invokevirtual 91, 3) := by decide +kernel
theorem d_Hub_copyFrom_112 : decode prog_4_method_3_code 112 = .ok (.iinc 2 1, 3) := by decide +kernel
theorem d_Hub_copyFrom_115 : decode prog_4_method_3_code 115 = .ok (.goto (-37), 3) := by decide +kernel
theorem d_Hub_copyFrom_118 : decode prog_4_method_3_code 118 = .ok (.iconst 0, 1) := by decide +kernel
theorem d_Hub_copyFrom_119 : decode prog_4_method_3_code 119 = .ok (.istore_n 2, 1) := by decide +kernel
theorem d_Hub_copyFrom_120 : decode prog_4_method_3_code 120 = .ok (.iload_n 2, 1) := by decide +kernel
theorem d_Hub_copyFrom_121 : decode prog_4_method_3_code 121 = .ok (.bipush 8, 2) := by decide +kernel
theorem d_Hub_copyFrom_123 : decode prog_4_method_3_code 123 = .ok (.if_icmp .ge 37, 3) := by decide +kernel
theorem d_Hub_copyFrom_126 : decode prog_4_method_3_code 126 = .ok (.aload_n 0, 1) := by decide +kernel
theorem d_Hub_copyFrom_127 : decode prog_4_method_3_code 127 = .ok (.iload_n 2, 1) := by decide +kernel
theorem d_Hub_copyFrom_128 : decode prog_4_method_3_code 128 = .ok (.invokevirtual 66, 3) := by decide +kernel
theorem d_Hub_copyFrom_131 : decode prog_4_method_3_code 131 = .ok (.astore_n 3, 1) := by decide +kernel
theorem d_Hub_copyFrom_132 : decode prog_4_method_3_code 132 = .ok (.aload_n 1, 1) := by decide +kernel
theorem d_Hub_copyFrom_133 : decode prog_4_method_3_code 133 = .ok (.iload_n 2, 1) := by decide +kernel
theorem d_Hub_copyFrom_134 : decode prog_4_method_3_code 134 = .ok (.invokevirtual 66, 3) := by decide +kernel
theorem d_Hub_copyFrom_137 : decode prog_4_method_3_code 137 = .ok (.astore 4, 2) := by decide +kernel
theorem d_Hub_copyFrom_139 : decode prog_4_method_3_code 139 = .ok (.aload_n 3, 1) := by decide +kernel
theorem d_Hub_copyFrom_140 : decode prog_4_method_3_code 140 = .ok (.ifnull 14, 3) := by decide +kernel
theorem d_Hub_copyFrom_143 : decode prog_4_method_3_code 143 = .ok (.aload 4, 2) := by decide +kernel
theorem d_Hub_copyFrom_145 : decode prog_4_method_3_code 145 = .ok (.ifnull 9, 3) := by decide +kernel
theorem d_Hub_copyFrom_148 : decode prog_4_method_3_code 148 = .ok (.aload_n 3, 1) := by decide +kernel
theorem d_Hub_copyFrom_149 : decode prog_4_method_3_code 149 = .ok (.aload 4, 2) := by decide +kernel
theorem d_Hub_copyFrom_151 : decode prog_4_method_3_code 151 = .ok (.invokevirtual 94, 3) := by decide +kernel
theorem d_Hub_copyFrom_154 : decode prog_4_method_3_code 154 = .ok (.iinc 2 1, 3) := by decide +kernel
theorem d_Hub_copyFrom_157 : decode prog_4_method_3_code 157 = .ok (.goto (-37), 3) := by decide +kernel
theorem d_Hub_copyFrom_160 : decode prog_4_method_3_code 160 = .ok (.return_, 1) := by decide +kernel
theorem fs_2_46 : FS "SensorHub$Hub" 46 2 0 := ⟨"SensorHub$Hub", T_2, 11, rfl, by decide, rfl, gw_I 286 (by decide +kernel) rfl⟩
theorem fs_2_50 : FS "SensorHub$Hub" 50 2 1 := ⟨"SensorHub$Hub", T_2, 11, rfl, by decide, rfl, gw_I 288 (by decide +kernel) rfl⟩
theorem fs_2_53 : FS "SensorHub$Hub" 53 2 2 := ⟨"SensorHub$Hub", T_2, 11, rfl, by decide, rfl, gw_I 290 (by decide +kernel) rfl⟩
theorem fs_2_56 : FS "SensorHub$Hub" 56 2 3 := ⟨"SensorHub$Hub", T_2, 11, rfl, by decide, rfl, gw_I 292 (by decide +kernel) rfl⟩
theorem fs_2_59 : FS "SensorHub$Hub" 59 2 4 := ⟨"SensorHub$Hub", T_2, 11, rfl, by decide, rfl, gw_I 294 (by decide +kernel) rfl⟩
theorem cp_2_74 : CPY "SensorHub$Hub" 74 := ⟨gw_I 415 (by decide +kernel) rfl, gw_I 417 (by decide +kernel) rfl, gw_I 416 (by decide +kernel) rfl, gw_I 80 (by decide +kernel) rfl⟩
theorem cv_2_80 : CSV "SensorHub$Hub" 80 y_Out_copyFrom prog_5_method_5_code 2 none 1 := ⟨gw_I 418 (by decide +kernel) rfl, gw_I 419 (by decide +kernel) rfl, gw_I 420 (by decide +kernel) rfl, gw_I 72 (by decide +kernel) rfl, gw_I 421 (by decide +kernel) rfl, ⟨by decide +kernel, by decide +kernel⟩, by decide +kernel⟩
theorem cv_2_84 : CSV "SensorHub$Hub" 84 y_Sto_copyFrom prog_7_method_5_code 2 none 1 := ⟨gw_I 423 (by decide +kernel) rfl, gw_I 424 (by decide +kernel) rfl, gw_I 425 (by decide +kernel) rfl, gw_I 73 (by decide +kernel) rfl, gw_I 426 (by decide +kernel) rfl, ⟨by decide +kernel, by decide +kernel⟩, by decide +kernel⟩
theorem cv_2_87 : CSV "SensorHub$Hub" 87 y_Hub_sensorRoom prog_4_method_4_code 2 (some (.object "SensorHub$Sensor")) 1 := ⟨gw_I 428 (by decide +kernel) rfl, gw_I 430 (by decide +kernel) rfl, gw_I 1 (by decide +kernel) rfl, gw_I 71 (by decide +kernel) rfl, gw_I 431 (by decide +kernel) rfl, ⟨by decide +kernel, by decide +kernel⟩, by decide +kernel⟩
theorem cv_2_91 : CSV "SensorHub$Hub" 91 y_Sen_copyFrom prog_6_method_12_code 2 none 1 := ⟨gw_I 432 (by decide +kernel) rfl, gw_I 433 (by decide +kernel) rfl, gw_I 434 (by decide +kernel) rfl, gw_I 74 (by decide +kernel) rfl, gw_I 435 (by decide +kernel) rfl, ⟨by decide +kernel, by decide +kernel⟩, by decide +kernel⟩
theorem cv_2_94 : CSV "SensorHub$Hub" 94 y_Cli_copyFrom prog_2_method_6_code 2 none 1 := ⟨gw_I 437 (by decide +kernel) rfl, gw_I 438 (by decide +kernel) rfl, gw_I 439 (by decide +kernel) rfl, gw_I 75 (by decide +kernel) rfl, gw_I 440 (by decide +kernel) rfl, ⟨by decide +kernel, by decide +kernel⟩, by decide +kernel⟩
def L_Hub_copyFrom_78 (r0 : Nat) (r1 : Nat) (k : Mem → Option (Unit × Mem)) : Nat → Int32 → Mem → Option (Unit × Mem)
  | 0, _, _ => none
  | n + 1, x2, σ =>
    if (8 : Int32) ≤ x2 then
      k σ
    else
      bd (f_Hub_sensorRoom r0 x2 σ) fun r11 σ12 =>
      oe r11 (
        bd (f_Hub_sensorRoom r1 x2 σ12) fun r14 σ15 =>
        oe r14 (
          L_Hub_copyFrom_78 r0 r1 k n (x2 + 1) σ15
        ) (fun o16 =>
          L_Hub_copyFrom_78 r0 r1 k n (x2 + 1) σ15
        )
      ) (fun o13 =>
        bd (f_Hub_sensorRoom r1 x2 σ12) fun r17 σ18 =>
        oe r17 (
          L_Hub_copyFrom_78 r0 r1 k n (x2 + 1) σ18
        ) (fun o19 =>
          bd (f_Sen_copyFrom o13 o19 σ18) fun _ σ21 =>
          L_Hub_copyFrom_78 r0 r1 k n (x2 + 1) σ21
        )
      )
def L_Hub_copyFrom_120 (r0 : Nat) (r1 : Nat) (k : Mem → Option (Unit × Mem)) : Nat → Int32 → Mem → Option (Unit × Mem)
  | 0, _, _ => none
  | n + 1, x2, σ =>
    if (8 : Int32) ≤ x2 then
      k σ
    else
      bd (f_Hub_clientRoom r0 x2 σ) fun r23 σ24 =>
      oe r23 (
        bd (f_Hub_clientRoom r1 x2 σ24) fun r26 σ27 =>
        oe r26 (
          L_Hub_copyFrom_120 r0 r1 k n (x2 + 1) σ27
        ) (fun o28 =>
          L_Hub_copyFrom_120 r0 r1 k n (x2 + 1) σ27
        )
      ) (fun o25 =>
        bd (f_Hub_clientRoom r1 x2 σ24) fun r29 σ30 =>
        oe r29 (
          L_Hub_copyFrom_120 r0 r1 k n (x2 + 1) σ30
        ) (fun o31 =>
          bd (f_Cli_copyFrom o25 o31 σ30) fun _ σ33 =>
          L_Hub_copyFrom_120 r0 r1 k n (x2 + 1) σ33
        )
      )
def f_Hub_copyFrom (q : Nat) (q1 : Nat) (σ : Mem) : Option (Unit × Mem) :=
  lt (wr σ q 0 (σ q1 0)) fun σ1 =>
  lt (wr σ1 q 1 (σ1 q1 1)) fun σ2 =>
  lt (wr σ2 q 2 (σ2 q1 2)) fun σ3 =>
  lt (wr σ3 q 3 (σ3 q1 3)) fun σ4 =>
  lt (wr σ4 q 4 (σ4 q1 4)) fun σ5 =>
  lt (cpy σ5 (q1 + 1) (q + 1) 4) fun σ6 =>
  bd (f_Out_copyFrom (q + 4) (q1 + 4) σ6) fun _ σ8 =>
  bd (f_Sto_copyFrom (q + 8) (q1 + 8) σ8) fun _ σ10 =>
  L_Hub_copyFrom_78 q q1 (fun σ22 =>
    L_Hub_copyFrom_120 q q1 (fun σ34 =>
      some ((), σ34)) FU (0 : Int32) σ22) FU (0 : Int32) σ10
set_option maxRecDepth 100000 in
set_option maxHeartbeats 4000000 in
theorem l_L_Hub_copyFrom_78 {X : CX} {p : Program} {l : Launch} {e : Env} {s : State} {m : MethodId} {args : Array Value} {below : List Frame} {meth : Method} {c : Code} (F : FR p s m args c prog_4_method_3_code 5 "SensorHub$Hub" X) (hlk : meth.locks = false) (hr : meth.sig.returnType = none) (r0 : Nat) (r1 : Nat) (hr0 : HubOK X r0) (hr1 : HubOK X r1) (k : Mem → Option (Unit × Mem)) (hk : ∀  (σ : Mem), G X p l e (rmD 2) s m args below meth c 5 0 0 (QI X below args s vU) 118 [(0, .ref (xa X r0)), (1, .ref (xa X r1))] [] σ (k σ)) : ∀ (n : Nat) (x2 : Int32) (σ : Mem), G X p l e (rmD 2) s m args below meth c 5 0 0 (QI X below args s vU) 78 [(0, .ref (xa X r0)), (1, .ref (xa X r1)), (2, .int x2)] [] σ (L_Hub_copyFrom_78 r0 r1 k n x2 σ) := by
  intro n
  induction n with
  | zero => intros; exact g_no
  | succ n ih =>
    intro x2 σ
    unfold L_Hub_copyFrom_78
    refine g_iload_n F d_Hub_copyFrom_78 2 rfl ?_
    refine g_bipush F (v := 8) d_Hub_copyFrom_79 (by decide) ?_
    refine g_icmp_ge F (tgt := 118) d_Hub_copyFrom_81 (by decide) (fun h3 => ?_) (fun h4 => ?_)
    · exact g_sub [0, 1] rfl (hk  _)
    refine g_aload_n F d_Hub_copyFrom_84 0 rfl ?_
    refine g_iload_n F d_Hub_copyFrom_85 2 rfl ?_
    refine g_callV F (dp := 1) (ci := 2) (As := [.int x2]) (c_Hub_sensorRoom l _ _ hr0 _) cv_2_87 hr0.1 rfl rfl rfl (Nat.le_of_ble_eq_true rfl) ⟨Nat.le_of_ble_eq_true rfl, Nat.le_of_ble_eq_true rfl⟩ ⟨Nat.zero_le _, Nat.zero_le _⟩ d_Hub_copyFrom_86 (fun r11 σ12 h5 => ?_)
    refine g_oe (fun h6 => ?_) (fun o13 h7 => ?_)
    · refine g_astore_nN F (ls' := [(3, .null), (0, .ref (xa X r0)), (1, .ref (xa X r1)), (2, .int x2)]) d_Hub_copyFrom_89 (by decide) rfl ?_
      refine g_aload_n F d_Hub_copyFrom_90 2 rfl ?_
      refine g_iload_n F d_Hub_copyFrom_91 3 rfl ?_
      refine g_callV F (dp := 1) (ci := 2) (As := [.int x2]) (c_Hub_sensorRoom l _ _ hr1 _) cv_2_87 hr1.1 rfl rfl rfl (Nat.le_of_ble_eq_true rfl) ⟨Nat.le_of_ble_eq_true rfl, Nat.le_of_ble_eq_true rfl⟩ ⟨Nat.zero_le _, Nat.zero_le _⟩ d_Hub_copyFrom_92 (fun r14 σ15 h9 => ?_)
      refine g_oe (fun h10 => ?_) (fun o16 h11 => ?_)
      · refine g_astoreN F (ls' := [(4, .null), (3, .null), (0, .ref (xa X r0)), (1, .ref (xa X r1)), (2, .int x2)]) d_Hub_copyFrom_95 (by decide) rfl ?_
        refine g_aload_nN F d_Hub_copyFrom_97 1 rfl ?_
        refine g_ifnullN F (tgt := 112) d_Hub_copyFrom_98 (by decide) ?_
        refine g_iinc F (v := 1) (ls' := [(2, .int (x2 + 1)), (4, .null), (3, .null), (0, .ref (xa X r0)), (1, .ref (xa X r1))]) d_Hub_copyFrom_112 4 rfl (by decide) (by decide) rfl ?_
        refine g_goto F (tgt := 78) d_Hub_copyFrom_115 (by decide) ?_
        exact g_sub [3, 4, 0] rfl (ih _ _)
      have h12 : SensorOK X o16 := ok_Hub_sensorRoom hr1 (h11 ▸ h9)
      refine g_astore F (ls' := [(4, .ref (xa X o16)), (3, .null), (0, .ref (xa X r0)), (1, .ref (xa X r1)), (2, .int x2)]) d_Hub_copyFrom_95 (by decide) rfl ?_
      refine g_aload_nN F d_Hub_copyFrom_97 1 rfl ?_
      refine g_ifnullN F (tgt := 112) d_Hub_copyFrom_98 (by decide) ?_
      refine g_iinc F (v := 1) (ls' := [(2, .int (x2 + 1)), (4, .ref (xa X o16)), (3, .null), (0, .ref (xa X r0)), (1, .ref (xa X r1))]) d_Hub_copyFrom_112 4 rfl (by decide) (by decide) rfl ?_
      refine g_goto F (tgt := 78) d_Hub_copyFrom_115 (by decide) ?_
      exact g_sub [3, 4, 0] rfl (ih _ _)
    have h8 : SensorOK X o13 := ok_Hub_sensorRoom hr0 (h7 ▸ h5)
    refine g_astore_n F (ls' := [(3, .ref (xa X o13)), (0, .ref (xa X r0)), (1, .ref (xa X r1)), (2, .int x2)]) d_Hub_copyFrom_89 (by decide) rfl ?_
    refine g_aload_n F d_Hub_copyFrom_90 2 rfl ?_
    refine g_iload_n F d_Hub_copyFrom_91 3 rfl ?_
    refine g_callV F (dp := 1) (ci := 2) (As := [.int x2]) (c_Hub_sensorRoom l _ _ hr1 _) cv_2_87 hr1.1 rfl rfl rfl (Nat.le_of_ble_eq_true rfl) ⟨Nat.le_of_ble_eq_true rfl, Nat.le_of_ble_eq_true rfl⟩ ⟨Nat.zero_le _, Nat.zero_le _⟩ d_Hub_copyFrom_92 (fun r17 σ18 h13 => ?_)
    refine g_oe (fun h14 => ?_) (fun o19 h15 => ?_)
    · refine g_astoreN F (ls' := [(4, .null), (3, .ref (xa X o13)), (0, .ref (xa X r0)), (1, .ref (xa X r1)), (2, .int x2)]) d_Hub_copyFrom_95 (by decide) rfl ?_
      refine g_aload_n F d_Hub_copyFrom_97 1 rfl ?_
      refine g_ifnull F d_Hub_copyFrom_98 ?_
      refine g_aloadN F d_Hub_copyFrom_101 0 rfl ?_
      refine g_ifnullN F (tgt := 112) d_Hub_copyFrom_103 (by decide) ?_
      refine g_iinc F (v := 1) (ls' := [(2, .int (x2 + 1)), (4, .null), (3, .ref (xa X o13)), (0, .ref (xa X r0)), (1, .ref (xa X r1))]) d_Hub_copyFrom_112 4 rfl (by decide) (by decide) rfl ?_
      refine g_goto F (tgt := 78) d_Hub_copyFrom_115 (by decide) ?_
      exact g_sub [3, 4, 0] rfl (ih _ _)
    have h16 : SensorOK X o19 := ok_Hub_sensorRoom hr1 (h15 ▸ h13)
    refine g_astore F (ls' := [(4, .ref (xa X o19)), (3, .ref (xa X o13)), (0, .ref (xa X r0)), (1, .ref (xa X r1)), (2, .int x2)]) d_Hub_copyFrom_95 (by decide) rfl ?_
    refine g_aload_n F d_Hub_copyFrom_97 1 rfl ?_
    refine g_ifnull F d_Hub_copyFrom_98 ?_
    refine g_aload F d_Hub_copyFrom_101 0 rfl ?_
    refine g_ifnull F d_Hub_copyFrom_103 ?_
    refine g_aload_n F d_Hub_copyFrom_106 1 rfl ?_
    refine g_aload F d_Hub_copyFrom_107 0 rfl ?_
    refine g_callV F (dp := 1) (ci := 4) (As := [.ref (xa X o19)]) (c_Sen_copyFrom l _ _ h8 h16 _) cv_2_91 h8.1 rfl rfl rfl (Nat.le_of_ble_eq_true rfl) ⟨Nat.le_of_ble_eq_true rfl, Nat.le_of_ble_eq_true rfl⟩ ⟨Nat.zero_le _, Nat.zero_le _⟩ d_Hub_copyFrom_109 (fun _ σ21 h17 => ?_)
    refine g_iinc F (v := 1) (ls' := [(2, .int (x2 + 1)), (4, .ref (xa X o19)), (3, .ref (xa X o13)), (0, .ref (xa X r0)), (1, .ref (xa X r1))]) d_Hub_copyFrom_112 4 rfl (by decide) (by decide) rfl ?_
    refine g_goto F (tgt := 78) d_Hub_copyFrom_115 (by decide) ?_
    exact g_sub [3, 4, 0] rfl (ih _ _)
set_option maxRecDepth 100000 in
set_option maxHeartbeats 4000000 in
theorem l_L_Hub_copyFrom_120 {X : CX} {p : Program} {l : Launch} {e : Env} {s : State} {m : MethodId} {args : Array Value} {below : List Frame} {meth : Method} {c : Code} (F : FR p s m args c prog_4_method_3_code 5 "SensorHub$Hub" X) (hlk : meth.locks = false) (hr : meth.sig.returnType = none) (r0 : Nat) (r1 : Nat) (hr0 : HubOK X r0) (hr1 : HubOK X r1) (k : Mem → Option (Unit × Mem)) (hk : ∀  (σ : Mem), G X p l e (rmD 2) s m args below meth c 5 0 0 (QI X below args s vU) 160 [] [] σ (k σ)) : ∀ (n : Nat) (x2 : Int32) (σ : Mem), G X p l e (rmD 2) s m args below meth c 5 0 0 (QI X below args s vU) 120 [(0, .ref (xa X r0)), (1, .ref (xa X r1)), (2, .int x2)] [] σ (L_Hub_copyFrom_120 r0 r1 k n x2 σ) := by
  intro n
  induction n with
  | zero => intros; exact g_no
  | succ n ih =>
    intro x2 σ
    unfold L_Hub_copyFrom_120
    refine g_iload_n F d_Hub_copyFrom_120 2 rfl ?_
    refine g_bipush F (v := 8) d_Hub_copyFrom_121 (by decide) ?_
    refine g_icmp_ge F (tgt := 160) d_Hub_copyFrom_123 (by decide) (fun h18 => ?_) (fun h19 => ?_)
    · exact g_sub [] rfl (hk  _)
    refine g_aload_n F d_Hub_copyFrom_126 0 rfl ?_
    refine g_iload_n F d_Hub_copyFrom_127 2 rfl ?_
    refine g_callV F (dp := 1) (ci := 2) (As := [.int x2]) (c_Hub_clientRoom l _ _ hr0 _) cv_2_66 hr0.1 rfl rfl rfl (Nat.le_of_ble_eq_true rfl) ⟨Nat.le_of_ble_eq_true rfl, Nat.le_of_ble_eq_true rfl⟩ ⟨Nat.zero_le _, Nat.zero_le _⟩ d_Hub_copyFrom_128 (fun r23 σ24 h20 => ?_)
    refine g_oe (fun h21 => ?_) (fun o25 h22 => ?_)
    · refine g_astore_nN F (ls' := [(3, .null), (0, .ref (xa X r0)), (1, .ref (xa X r1)), (2, .int x2)]) d_Hub_copyFrom_131 (by decide) rfl ?_
      refine g_aload_n F d_Hub_copyFrom_132 2 rfl ?_
      refine g_iload_n F d_Hub_copyFrom_133 3 rfl ?_
      refine g_callV F (dp := 1) (ci := 2) (As := [.int x2]) (c_Hub_clientRoom l _ _ hr1 _) cv_2_66 hr1.1 rfl rfl rfl (Nat.le_of_ble_eq_true rfl) ⟨Nat.le_of_ble_eq_true rfl, Nat.le_of_ble_eq_true rfl⟩ ⟨Nat.zero_le _, Nat.zero_le _⟩ d_Hub_copyFrom_134 (fun r26 σ27 h24 => ?_)
      refine g_oe (fun h25 => ?_) (fun o28 h26 => ?_)
      · refine g_astoreN F (ls' := [(4, .null), (3, .null), (0, .ref (xa X r0)), (1, .ref (xa X r1)), (2, .int x2)]) d_Hub_copyFrom_137 (by decide) rfl ?_
        refine g_aload_nN F d_Hub_copyFrom_139 1 rfl ?_
        refine g_ifnullN F (tgt := 154) d_Hub_copyFrom_140 (by decide) ?_
        refine g_iinc F (v := 1) (ls' := [(2, .int (x2 + 1)), (4, .null), (3, .null), (0, .ref (xa X r0)), (1, .ref (xa X r1))]) d_Hub_copyFrom_154 4 rfl (by decide) (by decide) rfl ?_
        refine g_goto F (tgt := 120) d_Hub_copyFrom_157 (by decide) ?_
        exact g_sub [3, 4, 0] rfl (ih _ _)
      have h27 : ClientOK X o28 := ok_Hub_clientRoom hr1 (h26 ▸ h24)
      refine g_astore F (ls' := [(4, .ref (xa X o28)), (3, .null), (0, .ref (xa X r0)), (1, .ref (xa X r1)), (2, .int x2)]) d_Hub_copyFrom_137 (by decide) rfl ?_
      refine g_aload_nN F d_Hub_copyFrom_139 1 rfl ?_
      refine g_ifnullN F (tgt := 154) d_Hub_copyFrom_140 (by decide) ?_
      refine g_iinc F (v := 1) (ls' := [(2, .int (x2 + 1)), (4, .ref (xa X o28)), (3, .null), (0, .ref (xa X r0)), (1, .ref (xa X r1))]) d_Hub_copyFrom_154 4 rfl (by decide) (by decide) rfl ?_
      refine g_goto F (tgt := 120) d_Hub_copyFrom_157 (by decide) ?_
      exact g_sub [3, 4, 0] rfl (ih _ _)
    have h23 : ClientOK X o25 := ok_Hub_clientRoom hr0 (h22 ▸ h20)
    refine g_astore_n F (ls' := [(3, .ref (xa X o25)), (0, .ref (xa X r0)), (1, .ref (xa X r1)), (2, .int x2)]) d_Hub_copyFrom_131 (by decide) rfl ?_
    refine g_aload_n F d_Hub_copyFrom_132 2 rfl ?_
    refine g_iload_n F d_Hub_copyFrom_133 3 rfl ?_
    refine g_callV F (dp := 1) (ci := 2) (As := [.int x2]) (c_Hub_clientRoom l _ _ hr1 _) cv_2_66 hr1.1 rfl rfl rfl (Nat.le_of_ble_eq_true rfl) ⟨Nat.le_of_ble_eq_true rfl, Nat.le_of_ble_eq_true rfl⟩ ⟨Nat.zero_le _, Nat.zero_le _⟩ d_Hub_copyFrom_134 (fun r29 σ30 h28 => ?_)
    refine g_oe (fun h29 => ?_) (fun o31 h30 => ?_)
    · refine g_astoreN F (ls' := [(4, .null), (3, .ref (xa X o25)), (0, .ref (xa X r0)), (1, .ref (xa X r1)), (2, .int x2)]) d_Hub_copyFrom_137 (by decide) rfl ?_
      refine g_aload_n F d_Hub_copyFrom_139 1 rfl ?_
      refine g_ifnull F d_Hub_copyFrom_140 ?_
      refine g_aloadN F d_Hub_copyFrom_143 0 rfl ?_
      refine g_ifnullN F (tgt := 154) d_Hub_copyFrom_145 (by decide) ?_
      refine g_iinc F (v := 1) (ls' := [(2, .int (x2 + 1)), (4, .null), (3, .ref (xa X o25)), (0, .ref (xa X r0)), (1, .ref (xa X r1))]) d_Hub_copyFrom_154 4 rfl (by decide) (by decide) rfl ?_
      refine g_goto F (tgt := 120) d_Hub_copyFrom_157 (by decide) ?_
      exact g_sub [3, 4, 0] rfl (ih _ _)
    have h31 : ClientOK X o31 := ok_Hub_clientRoom hr1 (h30 ▸ h28)
    refine g_astore F (ls' := [(4, .ref (xa X o31)), (3, .ref (xa X o25)), (0, .ref (xa X r0)), (1, .ref (xa X r1)), (2, .int x2)]) d_Hub_copyFrom_137 (by decide) rfl ?_
    refine g_aload_n F d_Hub_copyFrom_139 1 rfl ?_
    refine g_ifnull F d_Hub_copyFrom_140 ?_
    refine g_aload F d_Hub_copyFrom_143 0 rfl ?_
    refine g_ifnull F d_Hub_copyFrom_145 ?_
    refine g_aload_n F d_Hub_copyFrom_148 1 rfl ?_
    refine g_aload F d_Hub_copyFrom_149 0 rfl ?_
    refine g_callV F (dp := 1) (ci := 0) (As := [.ref (xa X o31)]) (c_Cli_copyFrom l _ _ h23 h31 _) cv_2_94 h23.1 rfl rfl rfl (Nat.le_of_ble_eq_true rfl) ⟨Nat.le_of_ble_eq_true rfl, Nat.le_of_ble_eq_true rfl⟩ ⟨Nat.zero_le _, Nat.zero_le _⟩ d_Hub_copyFrom_151 (fun _ σ33 h32 => ?_)
    refine g_iinc F (v := 1) (ls' := [(2, .int (x2 + 1)), (4, .ref (xa X o31)), (3, .ref (xa X o25)), (0, .ref (xa X r0)), (1, .ref (xa X r1))]) d_Hub_copyFrom_154 4 rfl (by decide) (by decide) rfl ?_
    refine g_goto F (tgt := 120) d_Hub_copyFrom_157 (by decide) ?_
    exact g_sub [3, 4, 0] rfl (ih _ _)
set_option maxRecDepth 100000 in
set_option maxHeartbeats 4000000 in
theorem c_Hub_copyFrom {X : CX} (l : Launch) (q : Nat) (q1 : Nat) (hq : HubOK X q) (hq1 : HubOK X q1) (σ : Mem) : CT X l y_Hub_copyFrom prog_4_method_3_code 5 none 2 vU [.ref (xa X q), .ref (xa X q1)] σ (f_Hub_copyFrom q q1 σ) := by
  refine CT_of (by decide +kernel) (Nat.le_of_ble_eq_true rfl) ?_
  intro p e s m args below meth c F hlk hr
  have F : FR p s m args c prog_4_method_3_code 5 "SensorHub$Hub" X := F
  show G X p l e (rmD 2) s m args below meth c 5 0 0 (QI X below args s vU) 0 [(0, .ref (xa X q)), (1, .ref (xa X q1))] [] σ _
  unfold f_Hub_copyFrom
  refine g_aload_n F d_Hub_copyFrom_0 0 rfl ?_
  refine g_aload_n F d_Hub_copyFrom_1 1 rfl ?_
  refine g_getI F fs_2_46 hq1.1 rfl d_Hub_copyFrom_2 ?_
  refine g_putI F fw_2_46 hq.1 rfl d_Hub_copyFrom_5 ?_
  refine g_ltM (fun σ1 _ => ?_)
  refine g_aload_n F d_Hub_copyFrom_8 0 rfl ?_
  refine g_aload_n F d_Hub_copyFrom_9 1 rfl ?_
  refine g_getI F fs_2_50 hq1.1 rfl d_Hub_copyFrom_10 ?_
  refine g_putI F fw_2_50 hq.1 rfl d_Hub_copyFrom_13 ?_
  refine g_ltM (fun σ2 _ => ?_)
  refine g_aload_n F d_Hub_copyFrom_16 0 rfl ?_
  refine g_aload_n F d_Hub_copyFrom_17 1 rfl ?_
  refine g_getI F fs_2_53 hq1.1 rfl d_Hub_copyFrom_18 ?_
  refine g_putI F fw_2_53 hq.1 rfl d_Hub_copyFrom_21 ?_
  refine g_ltM (fun σ3 _ => ?_)
  refine g_aload_n F d_Hub_copyFrom_24 0 rfl ?_
  refine g_aload_n F d_Hub_copyFrom_25 1 rfl ?_
  refine g_getI F fs_2_56 hq1.1 rfl d_Hub_copyFrom_26 ?_
  refine g_putI F fw_2_56 hq.1 rfl d_Hub_copyFrom_29 ?_
  refine g_ltM (fun σ4 _ => ?_)
  refine g_aload_n F d_Hub_copyFrom_32 0 rfl ?_
  refine g_aload_n F d_Hub_copyFrom_33 1 rfl ?_
  refine g_getI F fs_2_59 hq1.1 rfl d_Hub_copyFrom_34 ?_
  refine g_putI F fw_2_59 hq.1 rfl d_Hub_copyFrom_37 ?_
  refine g_ltM (fun σ5 _ => ?_)
  refine g_aload_n F d_Hub_copyFrom_40 1 rfl ?_
  refine g_getR F fs_2_9 hq1.1 rfl d_Hub_copyFrom_41 ?_
  refine g_iconst F (v := 0) d_Hub_copyFrom_44 (by decide) ?_
  refine g_aload_n F d_Hub_copyFrom_45 0 rfl ?_
  refine g_getR F fs_2_9 hq.1 rfl d_Hub_copyFrom_46 ?_
  refine g_iconst F (v := 0) d_Hub_copyFrom_49 (by decide) ?_
  refine g_iconst F (v := 4) d_Hub_copyFrom_50 (by decide) ?_
  refine g_copy F (n := 4) cp_2_74 hq1.2.1 hq.2.1 (by decide) ⟨Nat.le_of_ble_eq_true rfl, by decide⟩ d_Hub_copyFrom_51 ?_
  refine g_ltM (fun σ6 _ => ?_)
  refine g_aload_n F d_Hub_copyFrom_54 0 rfl ?_
  refine g_getR F fs_2_30 hq.1 rfl d_Hub_copyFrom_55 ?_
  refine g_aload_n F d_Hub_copyFrom_58 1 rfl ?_
  refine g_getR F fs_2_30 hq1.1 rfl d_Hub_copyFrom_59 ?_
  refine g_callV F (dp := 1) (ci := 3) (As := [.ref (xa X (q1 + 4))]) (c_Out_copyFrom l _ _ hq.2.2.2.2.1 hq1.2.2.2.2.1 _) cv_2_80 hq.2.2.2.2.1.1 rfl rfl rfl (Nat.le_of_ble_eq_true rfl) ⟨Nat.le_of_ble_eq_true rfl, Nat.le_of_ble_eq_true rfl⟩ ⟨Nat.zero_le _, Nat.zero_le _⟩ d_Hub_copyFrom_62 (fun _ σ8 h1 => ?_)
  refine g_aload_n F d_Hub_copyFrom_65 0 rfl ?_
  refine g_getR F fs_2_37 hq.1 rfl d_Hub_copyFrom_66 ?_
  refine g_aload_n F d_Hub_copyFrom_69 1 rfl ?_
  refine g_getR F fs_2_37 hq1.1 rfl d_Hub_copyFrom_70 ?_
  refine g_callV F (dp := 1) (ci := 5) (As := [.ref (xa X (q1 + 8))]) (c_Sto_copyFrom l _ _ hq.2.2.2.2.2.1 hq1.2.2.2.2.2.1 _) cv_2_84 hq.2.2.2.2.2.1.1 rfl rfl rfl (Nat.le_of_ble_eq_true rfl) ⟨Nat.le_of_ble_eq_true rfl, Nat.le_of_ble_eq_true rfl⟩ ⟨Nat.zero_le _, Nat.zero_le _⟩ d_Hub_copyFrom_73 (fun _ σ10 h2 => ?_)
  refine g_iconst F (v := 0) d_Hub_copyFrom_76 (by decide) ?_
  refine g_istore_n F (ls' := [(2, .int (0 : Int32)), (0, .ref (xa X q)), (1, .ref (xa X q1))]) d_Hub_copyFrom_77 (by decide) rfl ?_
  refine g_sub [1, 2, 0] rfl (l_L_Hub_copyFrom_78 F hlk hr _ _ hq hq1 _ (fun σ22 => ?_) FU _ _)
  refine g_iconst F (v := 0) d_Hub_copyFrom_118 (by decide) ?_
  refine g_istore_n F (ls' := [(2, .int (0 : Int32)), (0, .ref (xa X q)), (1, .ref (xa X q1))]) d_Hub_copyFrom_119 (by decide) rfl ?_
  refine g_sub [1, 2, 0] rfl (l_L_Hub_copyFrom_120 F hlk hr _ _ hq hq1 _ (fun σ34 => ?_) FU _ _)
  exact g_vret F hlk hr d_Hub_copyFrom_160
def y_Hub_sensorAt : MethodName := ⟨"SensorHub$Hub", "sensorAt", "(I)LSensorHub$Sensor;"⟩
theorem d_Hub_sensorAt_0 : decode prog_4_method_6_code 0 = .ok (.iload_n 1, 1) := by decide +kernel
theorem d_Hub_sensorAt_1 : decode prog_4_method_6_code 1 = .ok (.ifCond .lt 26, 3) := by decide +kernel
theorem d_Hub_sensorAt_4 : decode prog_4_method_6_code 4 = .ok (.iload_n 1, 1) := by decide +kernel
theorem d_Hub_sensorAt_5 : decode prog_4_method_6_code 5 = .ok (.aload_n 0, 1) := by decide +kernel
theorem d_Hub_sensorAt_6 : decode prog_4_method_6_code 6 = .ok (.getfield 59, 3) := by decide +kernel
theorem d_Hub_sensorAt_9 : decode prog_4_method_6_code 9 = .ok (.if_icmp .ge 18, 3) := by decide +kernel
theorem d_Hub_sensorAt_12 : decode prog_4_method_6_code 12 = .ok (.iload_n 1, 1) := by decide +kernel
theorem d_Hub_sensorAt_13 : decode prog_4_method_6_code 13 = .ok (.bipush 8, 2) := by decide +kernel
theorem d_Hub_sensorAt_15 : decode prog_4_method_6_code 15 = .ok (.if_icmp .ge 12, 3) := by decide +kernel
theorem d_Hub_sensorAt_18 : decode prog_4_method_6_code 18 = .ok (.aload_n 0, 1) := by decide +kernel
theorem d_Hub_sensorAt_19 : decode prog_4_method_6_code 19 = .ok (.getfield 17, 3) := by decide +kernel
theorem d_Hub_sensorAt_22 : decode prog_4_method_6_code 22 = .ok (.iload_n 1, 1) := by decide +kernel
theorem d_Hub_sensorAt_23 : decode prog_4_method_6_code 23 = .ok (.aaload, 1) := by decide +kernel
theorem d_Hub_sensorAt_24 : decode prog_4_method_6_code 24 = .ok (.goto 4, 3) := by decide +kernel
theorem d_Hub_sensorAt_27 : decode prog_4_method_6_code 27 = .ok (.aconst_null, 1) := by decide +kernel
theorem d_Hub_sensorAt_28 : decode prog_4_method_6_code 28 = .ok (.areturn, 1) := by decide +kernel
def f_Hub_sensorAt (q : Nat) (p1 : Int32) (σ : Mem) : Option ((Option Nat) × Mem) :=
  if p1 < 0 then
    some (none, σ)
  else
    if (σ q 4) ≤ p1 then
      some (none, σ)
    else
      if (8 : Int32) ≤ p1 then
        some (none, σ)
      else
        if ib p1 8 then
          some (some (q + 2 + (8 + 2 * p1.toNatClampNeg)), σ)
        else none
set_option maxRecDepth 100000 in
set_option maxHeartbeats 4000000 in
theorem c_Hub_sensorAt {X : CX} (l : Launch) (q : Nat) (p1 : Int32) (hq : HubOK X q) (σ : Mem) : CT X l y_Hub_sensorAt prog_4_method_6_code 2 (some (.object "SensorHub$Sensor")) 0 (vQ X) [.ref (xa X q), .int p1] σ (f_Hub_sensorAt q p1 σ) := by
  refine CT_of (by decide +kernel) (Nat.le_of_ble_eq_true rfl) ?_
  intro p e s m args below meth c F hlk hr
  have F : FR p s m args c prog_4_method_6_code 2 "SensorHub$Hub" X := F
  show G X p l e (rmD 0) s m args below meth c 2 0 0 (QI X below args s (vQ X)) 0 [(0, .ref (xa X q)), (1, .int p1)] [] σ _
  unfold f_Hub_sensorAt
  refine g_iload_n F d_Hub_sensorAt_0 1 rfl ?_
  refine g_if_lt F (tgt := 27) d_Hub_sensorAt_1 (by decide) (fun h1 => ?_) (fun h2 => ?_)
  · refine g_null F d_Hub_sensorAt_27 ?_
    exact g_aretN F hlk hr d_Hub_sensorAt_28
  refine g_iload_n F d_Hub_sensorAt_4 1 rfl ?_
  refine g_aload_n F d_Hub_sensorAt_5 0 rfl ?_
  refine g_getI F fs_2_59 hq.1 rfl d_Hub_sensorAt_6 ?_
  refine g_icmp_ge F (tgt := 27) d_Hub_sensorAt_9 (by decide) (fun h3 => ?_) (fun h4 => ?_)
  · refine g_null F d_Hub_sensorAt_27 ?_
    exact g_aretN F hlk hr d_Hub_sensorAt_28
  refine g_iload_n F d_Hub_sensorAt_12 1 rfl ?_
  refine g_bipush F (v := 8) d_Hub_sensorAt_13 (by decide) ?_
  refine g_icmp_ge F (tgt := 27) d_Hub_sensorAt_15 (by decide) (fun h5 => ?_) (fun h6 => ?_)
  · refine g_null F d_Hub_sensorAt_27 ?_
    exact g_aretN F hlk hr d_Hub_sensorAt_28
  refine g_aload_n F d_Hub_sensorAt_18 0 rfl ?_
  refine g_getR F fs_2_17 hq.1 rfl d_Hub_sensorAt_19 ?_
  refine g_iload_n F d_Hub_sensorAt_22 1 rfl ?_
  refine g_aald F 21 2 8 8 2 "SensorHub$Sensor" hq.2.2.1 (Or.inl ⟨rfl, rfl, rfl, rfl, rfl⟩) rfl d_Hub_sensorAt_23 (fun h7 => ?_)
  refine g_goto F (tgt := 28) d_Hub_sensorAt_24 (by decide) ?_
  exact g_aret F hlk hr d_Hub_sensorAt_28
theorem at_Hub_sensorAt {q : Nat} {x : Int32} {σ σ' : Mem} {v : Nat} (h : f_Hub_sensorAt q x σ = some (some v, σ')) : ∃ j, j < 8 ∧ v = q + 2 + (8 + 2 * j) := by
  unfold f_Hub_sensorAt at h
  simp only [bd, lt, f_X_isWithin] at h
  repeat' split at h
  all_goals first
    | (cases h; done)
    | (rename_i hib; simp only [Option.some.injEq, Prod.mk.injEq] at h; obtain ⟨rfl, -⟩ := h; exact ⟨_, ib_lt (by first | assumption | (rename_i q1; exact q1) | exact hib), rfl⟩)
    | (simp only [Option.some.injEq, Prod.mk.injEq] at h; obtain ⟨rfl, -⟩ := h; exact ⟨_, ib_lt (by assumption), rfl⟩)
    | (simp at h; done)
theorem ok_Hub_sensorAt {X : CX} {q : Nat} {x : Int32} {σ σ' : Mem} {v : Nat} (hq : HubOK X q) (h : f_Hub_sensorAt q x σ = some (some v, σ')) : SensorOK X v := by
  obtain ⟨j, hj, rfl⟩ := at_Hub_sensorAt h
  exact hq.2.2.2.2.2.2.1 j hj
def y_Hub_clientAt : MethodName := ⟨"SensorHub$Hub", "clientAt", "(I)LSensorHub$Client;"⟩
theorem d_Hub_clientAt_0 : decode prog_4_method_7_code 0 = .ok (.iload_n 1, 1) := by decide +kernel
theorem d_Hub_clientAt_1 : decode prog_4_method_7_code 1 = .ok (.ifCond .lt 18, 3) := by decide +kernel
theorem d_Hub_clientAt_4 : decode prog_4_method_7_code 4 = .ok (.iload_n 1, 1) := by decide +kernel
theorem d_Hub_clientAt_5 : decode prog_4_method_7_code 5 = .ok (.bipush 8, 2) := by decide +kernel
theorem d_Hub_clientAt_7 : decode prog_4_method_7_code 7 = .ok (.if_icmp .ge 12, 3) := by decide +kernel
theorem d_Hub_clientAt_10 : decode prog_4_method_7_code 10 = .ok (.aload_n 0, 1) := by decide +kernel
theorem d_Hub_clientAt_11 : decode prog_4_method_7_code 11 = .ok (.getfield 23, 3) := by decide +kernel
theorem d_Hub_clientAt_14 : decode prog_4_method_7_code 14 = .ok (.iload_n 1, 1) := by decide +kernel
theorem d_Hub_clientAt_15 : decode prog_4_method_7_code 15 = .ok (.aaload, 1) := by decide +kernel
theorem d_Hub_clientAt_16 : decode prog_4_method_7_code 16 = .ok (.goto 4, 3) := by decide +kernel
theorem d_Hub_clientAt_19 : decode prog_4_method_7_code 19 = .ok (.aconst_null, 1) := by decide +kernel
theorem d_Hub_clientAt_20 : decode prog_4_method_7_code 20 = .ok (.astore_n 2, 1) := by decide +kernel
theorem d_Hub_clientAt_21 : decode prog_4_method_7_code 21 = .ok (.aload_n 2, 1) := by decide +kernel
theorem d_Hub_clientAt_22 : decode prog_4_method_7_code 22 = .ok (.ifnull 14, 3) := by decide +kernel
theorem d_Hub_clientAt_25 : decode prog_4_method_7_code 25 = .ok (.aload_n 2, 1) := by decide +kernel
theorem d_Hub_clientAt_26 : decode prog_4_method_7_code 26 = .ok (.getfield 70, 3) := by decide +kernel
theorem d_Hub_clientAt_29 : decode prog_4_method_7_code 29 = .ok (.ifCond .eq 7, 3) := by decide +kernel
theorem d_Hub_clientAt_32 : decode prog_4_method_7_code 32 = .ok (.aload_n 2, 1) := by decide +kernel
theorem d_Hub_clientAt_33 : decode prog_4_method_7_code 33 = .ok (.goto 4, 3) := by decide +kernel
theorem d_Hub_clientAt_36 : decode prog_4_method_7_code 36 = .ok (.aconst_null, 1) := by decide +kernel
theorem d_Hub_clientAt_37 : decode prog_4_method_7_code 37 = .ok (.areturn, 1) := by decide +kernel
theorem fs_2_70 : FS "SensorHub$Hub" 70 0 0 := ⟨"SensorHub$Client", T_0, 11, rfl, by decide, rfl, gw_I 227 (by decide +kernel) rfl⟩
def f_Hub_clientAt (q : Nat) (p1 : Int32) (σ : Mem) : Option ((Option Nat) × Mem) :=
  if p1 < 0 then
    some (none, σ)
  else
    if (8 : Int32) ≤ p1 then
      some (none, σ)
    else
      if ib p1 8 then
        if (σ (q + 3 + (23 + 2 * p1.toNatClampNeg)) 0) = 0 then some (none, σ) else some (some (q + 3 + (23 + 2 * p1.toNatClampNeg)), σ)
      else none
set_option maxRecDepth 100000 in
set_option maxHeartbeats 4000000 in
theorem c_Hub_clientAt {X : CX} (l : Launch) (q : Nat) (p1 : Int32) (hq : HubOK X q) (σ : Mem) : CT X l y_Hub_clientAt prog_4_method_7_code 3 (some (.object "SensorHub$Client")) 0 (vQ X) [.ref (xa X q), .int p1] σ (f_Hub_clientAt q p1 σ) := by
  refine CT_of (by decide +kernel) (Nat.le_of_ble_eq_true rfl) ?_
  intro p e s m args below meth c F hlk hr
  have F : FR p s m args c prog_4_method_7_code 3 "SensorHub$Hub" X := F
  show G X p l e (rmD 0) s m args below meth c 3 0 0 (QI X below args s (vQ X)) 0 [(0, .ref (xa X q)), (1, .int p1)] [] σ _
  unfold f_Hub_clientAt
  refine g_iload_n F d_Hub_clientAt_0 1 rfl ?_
  refine g_if_lt F (tgt := 19) d_Hub_clientAt_1 (by decide) (fun h1 => ?_) (fun h2 => ?_)
  · refine g_null F d_Hub_clientAt_19 ?_
    refine g_astore_nN F (ls' := [(2, .null), (0, .ref (xa X q)), (1, .int p1)]) d_Hub_clientAt_20 (by decide) rfl ?_
    refine g_aload_nN F d_Hub_clientAt_21 0 rfl ?_
    refine g_ifnullN F (tgt := 36) d_Hub_clientAt_22 (by decide) ?_
    refine g_null F d_Hub_clientAt_36 ?_
    exact g_aretN F hlk hr d_Hub_clientAt_37
  refine g_iload_n F d_Hub_clientAt_4 1 rfl ?_
  refine g_bipush F (v := 8) d_Hub_clientAt_5 (by decide) ?_
  refine g_icmp_ge F (tgt := 19) d_Hub_clientAt_7 (by decide) (fun h3 => ?_) (fun h4 => ?_)
  · refine g_null F d_Hub_clientAt_19 ?_
    refine g_astore_nN F (ls' := [(2, .null), (0, .ref (xa X q)), (1, .int p1)]) d_Hub_clientAt_20 (by decide) rfl ?_
    refine g_aload_nN F d_Hub_clientAt_21 0 rfl ?_
    refine g_ifnullN F (tgt := 36) d_Hub_clientAt_22 (by decide) ?_
    refine g_null F d_Hub_clientAt_36 ?_
    exact g_aretN F hlk hr d_Hub_clientAt_37
  refine g_aload_n F d_Hub_clientAt_10 0 rfl ?_
  refine g_getR F fs_2_23 hq.1 rfl d_Hub_clientAt_11 ?_
  refine g_iload_n F d_Hub_clientAt_14 1 rfl ?_
  refine g_aald F 22 3 8 23 2 "SensorHub$Client" hq.2.2.2.1 (Or.inr (Or.inl ⟨rfl, rfl, rfl, rfl, rfl⟩)) rfl d_Hub_clientAt_15 (fun h5 => ?_)
  refine g_goto F (tgt := 20) d_Hub_clientAt_16 (by decide) ?_
  refine g_astore_n F (ls' := [(2, .ref (xa X (q + 3 + (23 + 2 * p1.toNatClampNeg)))), (0, .ref (xa X q)), (1, .int p1)]) d_Hub_clientAt_20 (by decide) rfl ?_
  refine g_aload_n F d_Hub_clientAt_21 0 rfl ?_
  refine g_ifnull F d_Hub_clientAt_22 ?_
  refine g_aload_n F d_Hub_clientAt_25 0 rfl ?_
  refine g_getI F fs_2_70 (hq.2.2.2.2.2.2.2 _ h5).1 rfl d_Hub_clientAt_26 ?_
  refine g_if_eq F (tgt := 36) d_Hub_clientAt_29 (by decide) (fun h6 => ?_) (fun h7 => ?_)
  · refine g_null F d_Hub_clientAt_36 ?_
    exact g_aretN F hlk hr d_Hub_clientAt_37
  refine g_aload_n F d_Hub_clientAt_32 0 rfl ?_
  refine g_goto F (tgt := 37) d_Hub_clientAt_33 (by decide) ?_
  exact g_aret F hlk hr d_Hub_clientAt_37
theorem at_Hub_clientAt {q : Nat} {x : Int32} {σ σ' : Mem} {v : Nat} (h : f_Hub_clientAt q x σ = some (some v, σ')) : ∃ j, j < 8 ∧ v = q + 3 + (23 + 2 * j) := by
  unfold f_Hub_clientAt at h
  simp only [bd, lt, f_X_isWithin] at h
  repeat' split at h
  all_goals first
    | (cases h; done)
    | (rename_i hib; simp only [Option.some.injEq, Prod.mk.injEq] at h; obtain ⟨rfl, -⟩ := h; exact ⟨_, ib_lt (by first | assumption | (rename_i q1; exact q1) | exact hib), rfl⟩)
    | (simp only [Option.some.injEq, Prod.mk.injEq] at h; obtain ⟨rfl, -⟩ := h; exact ⟨_, ib_lt (by assumption), rfl⟩)
    | (simp at h; done)
theorem ok_Hub_clientAt {X : CX} {q : Nat} {x : Int32} {σ σ' : Mem} {v : Nat} (hq : HubOK X q) (h : f_Hub_clientAt q x σ = some (some v, σ')) : ClientOK X v := by
  obtain ⟨j, hj, rfl⟩ := at_Hub_clientAt h
  exact hq.2.2.2.2.2.2.2 j hj
def y_Hub_hasAllSensors : MethodName := ⟨"SensorHub$Hub", "hasAllSensors", "()Z"⟩
theorem d_Hub_hasAllSensors_0 : decode prog_4_method_8_code 0 = .ok (.aload_n 0, 1) := by decide +kernel
theorem d_Hub_hasAllSensors_1 : decode prog_4_method_8_code 1 = .ok (.getfield 59, 3) := by decide +kernel
theorem d_Hub_hasAllSensors_4 : decode prog_4_method_8_code 4 = .ok (.bipush 8, 2) := by decide +kernel
theorem d_Hub_hasAllSensors_6 : decode prog_4_method_8_code 6 = .ok (.if_icmp .lt 7, 3) := by decide +kernel
theorem d_Hub_hasAllSensors_9 : decode prog_4_method_8_code 9 = .ok (.iconst 1, 1) := by decide +kernel
theorem d_Hub_hasAllSensors_10 : decode prog_4_method_8_code 10 = .ok (.goto 4, 3) := by decide +kernel
theorem d_Hub_hasAllSensors_13 : decode prog_4_method_8_code 13 = .ok (.iconst 0, 1) := by decide +kernel
theorem d_Hub_hasAllSensors_14 : decode prog_4_method_8_code 14 = .ok (.ireturn, 1) := by decide +kernel
def f_Hub_hasAllSensors (q : Nat) (σ : Mem) : Option (Int32 × Mem) :=
  if (σ q 4) < (8 : Int32) then some ((0 : Int32), σ) else some ((1 : Int32), σ)
set_option maxRecDepth 100000 in
set_option maxHeartbeats 4000000 in
theorem c_Hub_hasAllSensors {X : CX} (l : Launch) (q : Nat) (hq : HubOK X q) (σ : Mem) : CT X l y_Hub_hasAllSensors prog_4_method_8_code 1 (some .boolean) 0 vI [.ref (xa X q)] σ (f_Hub_hasAllSensors q σ) := by
  refine CT_of (by decide +kernel) (Nat.le_of_ble_eq_true rfl) ?_
  intro p e s m args below meth c F hlk hr
  have F : FR p s m args c prog_4_method_8_code 1 "SensorHub$Hub" X := F
  show G X p l e (rmD 0) s m args below meth c 1 0 0 (QI X below args s vI) 0 [(0, .ref (xa X q))] [] σ _
  unfold f_Hub_hasAllSensors
  refine g_aload_n F d_Hub_hasAllSensors_0 0 rfl ?_
  refine g_getI F fs_2_59 hq.1 rfl d_Hub_hasAllSensors_1 ?_
  refine g_bipush F (v := 8) d_Hub_hasAllSensors_4 (by decide) ?_
  refine g_icmp_lt F (tgt := 13) d_Hub_hasAllSensors_6 (by decide) (fun h1 => ?_) (fun h2 => ?_)
  · refine g_iconst F (v := 0) d_Hub_hasAllSensors_13 (by decide) ?_
    exact g_zretC F hlk hr (by decide) d_Hub_hasAllSensors_14
  refine g_iconst F (v := 1) d_Hub_hasAllSensors_9 (by decide) ?_
  refine g_goto F (tgt := 14) d_Hub_hasAllSensors_10 (by decide) ?_
  exact g_zretC F hlk hr (by decide) d_Hub_hasAllSensors_14
def y_Hub_isPhysical : MethodName := ⟨"SensorHub$Hub", "isPhysical", "(I)Z"⟩
theorem d_Hub_isPhysical_0 : decode prog_4_method_9_code 0 = .ok (.aload_n 0, 1) := by decide +kernel
theorem d_Hub_isPhysical_1 : decode prog_4_method_9_code 1 = .ok (.iload_n 1, 1) := by decide +kernel
theorem d_Hub_isPhysical_2 : decode prog_4_method_9_code 2 = .ok (.invokevirtual 101, 3) := by decide +kernel
theorem d_Hub_isPhysical_5 : decode prog_4_method_9_code 5 = .ok (.astore_n 2, 1) := by decide +kernel
theorem d_Hub_isPhysical_6 : decode prog_4_method_9_code 6 = .ok (.aload_n 2, 1) := by decide +kernel
theorem d_Hub_isPhysical_7 : decode prog_4_method_9_code 7 = .ok (.ifnull 15, 3) := by decide +kernel
theorem d_Hub_isPhysical_10 : decode prog_4_method_9_code 10 = .ok (.aload_n 2, 1) := by decide +kernel
theorem d_Hub_isPhysical_11 : decode prog_4_method_9_code 11 = .ok (.getfield 104, 3) := by decide +kernel
theorem d_Hub_isPhysical_14 : decode prog_4_method_9_code 14 = .ok (.iconst 4, 1) := by decide +kernel
theorem d_Hub_isPhysical_15 : decode prog_4_method_9_code 15 = .ok (.if_icmp .ne 7, 3) := by decide +kernel
theorem d_Hub_isPhysical_18 : decode prog_4_method_9_code 18 = .ok (.iconst 1, 1) := by decide +kernel
theorem d_Hub_isPhysical_19 : decode prog_4_method_9_code 19 = .ok (.goto 4, 3) := by decide +kernel
theorem d_Hub_isPhysical_22 : decode prog_4_method_9_code 22 = .ok (.iconst 0, 1) := by decide +kernel
theorem d_Hub_isPhysical_23 : decode prog_4_method_9_code 23 = .ok (.ireturn, 1) := by decide +kernel
theorem cv_2_101 : CSV "SensorHub$Hub" 101 y_Hub_sensorAt prog_4_method_6_code 2 (some (.object "SensorHub$Sensor")) 1 := ⟨gw_I 471 (by decide +kernel) rfl, gw_I 464 (by decide +kernel) rfl, gw_I 465 (by decide +kernel) rfl, gw_I 71 (by decide +kernel) rfl, gw_I 466 (by decide +kernel) rfl, ⟨by decide +kernel, by decide +kernel⟩, by decide +kernel⟩
theorem fs_2_104 : FS "SensorHub$Hub" 104 4 0 := ⟨"SensorHub$Sensor", T_4, 18, rfl, by decide, rfl, gw_I 146 (by decide +kernel) rfl⟩
def f_Hub_isPhysical (q : Nat) (p1 : Int32) (σ : Mem) : Option (Int32 × Mem) :=
  bd (f_Hub_sensorAt q p1 σ) fun r1 σ2 =>
  oe r1 (
    some ((0 : Int32), σ2)
  ) (fun o3 =>
    if (σ2 o3 0) = (4 : Int32) then some ((1 : Int32), σ2) else some ((0 : Int32), σ2)
  )
set_option maxRecDepth 100000 in
set_option maxHeartbeats 4000000 in
theorem c_Hub_isPhysical {X : CX} (l : Launch) (q : Nat) (p1 : Int32) (hq : HubOK X q) (σ : Mem) : CT X l y_Hub_isPhysical prog_4_method_9_code 3 (some .boolean) 1 vI [.ref (xa X q), .int p1] σ (f_Hub_isPhysical q p1 σ) := by
  refine CT_of (by decide +kernel) (Nat.le_of_ble_eq_true rfl) ?_
  intro p e s m args below meth c F hlk hr
  have F : FR p s m args c prog_4_method_9_code 3 "SensorHub$Hub" X := F
  show G X p l e (rmD 1) s m args below meth c 3 0 0 (QI X below args s vI) 0 [(0, .ref (xa X q)), (1, .int p1)] [] σ _
  unfold f_Hub_isPhysical
  refine g_aload_n F d_Hub_isPhysical_0 0 rfl ?_
  refine g_iload_n F d_Hub_isPhysical_1 1 rfl ?_
  refine g_callV F (dp := 0) (ci := 2) (As := [.int p1]) (c_Hub_sensorAt l _ _ hq _) cv_2_101 hq.1 rfl rfl rfl (Nat.le_of_ble_eq_true rfl) ⟨Nat.le_of_ble_eq_true rfl, Nat.le_of_ble_eq_true rfl⟩ ⟨Nat.zero_le _, Nat.zero_le _⟩ d_Hub_isPhysical_2 (fun r1 σ2 h1 => ?_)
  refine g_oe (fun h2 => ?_) (fun o3 h3 => ?_)
  · refine g_astore_nN F (ls' := [(2, .null), (0, .ref (xa X q)), (1, .int p1)]) d_Hub_isPhysical_5 (by decide) rfl ?_
    refine g_aload_nN F d_Hub_isPhysical_6 0 rfl ?_
    refine g_ifnullN F (tgt := 22) d_Hub_isPhysical_7 (by decide) ?_
    refine g_iconst F (v := 0) d_Hub_isPhysical_22 (by decide) ?_
    exact g_zretC F hlk hr (by decide) d_Hub_isPhysical_23
  have h4 : SensorOK X o3 := ok_Hub_sensorAt hq (h3 ▸ h1)
  refine g_astore_n F (ls' := [(2, .ref (xa X o3)), (0, .ref (xa X q)), (1, .int p1)]) d_Hub_isPhysical_5 (by decide) rfl ?_
  refine g_aload_n F d_Hub_isPhysical_6 0 rfl ?_
  refine g_ifnull F d_Hub_isPhysical_7 ?_
  refine g_aload_n F d_Hub_isPhysical_10 0 rfl ?_
  refine g_getI F fs_2_104 h4.1 rfl d_Hub_isPhysical_11 ?_
  refine g_iconst F (v := 4) d_Hub_isPhysical_14 (by decide) ?_
  refine g_icmp_ne F (tgt := 22) d_Hub_isPhysical_15 (by decide) (fun h5 => ?_) (fun h6 => ?_)
  · refine g_iconst F (v := 1) d_Hub_isPhysical_18 (by decide) ?_
    refine g_goto F (tgt := 23) d_Hub_isPhysical_19 (by decide) ?_
    exact g_zretC F hlk hr (by decide) d_Hub_isPhysical_23
  refine g_iconst F (v := 0) d_Hub_isPhysical_22 (by decide) ?_
  exact g_zretC F hlk hr (by decide) d_Hub_isPhysical_23
def y_Hub_isSecond : MethodName := ⟨"SensorHub$Hub", "isSecond", "(II)Z"⟩
theorem d_Hub_isSecond_0 : decode prog_4_method_10_code 0 = .ok (.iload_n 1, 1) := by decide +kernel
theorem d_Hub_isSecond_1 : decode prog_4_method_10_code 1 = .ok (.iconst 3, 1) := by decide +kernel
theorem d_Hub_isSecond_2 : decode prog_4_method_10_code 2 = .ok (.if_icmp .ne 13, 3) := by decide +kernel
theorem d_Hub_isSecond_5 : decode prog_4_method_10_code 5 = .ok (.iload_n 2, 1) := by decide +kernel
theorem d_Hub_isSecond_6 : decode prog_4_method_10_code 6 = .ok (.iconst 1, 1) := by decide +kernel
theorem d_Hub_isSecond_7 : decode prog_4_method_10_code 7 = .ok (.bipush 8, 2) := by decide +kernel
theorem d_Hub_isSecond_9 : decode prog_4_method_10_code 9 = .ok (.invokestatic 97, 3) := by decide +kernel
theorem d_Hub_isSecond_12 : decode prog_4_method_10_code 12 = .ok (.goto 16, 3) := by decide +kernel
theorem d_Hub_isSecond_15 : decode prog_4_method_10_code 15 = .ok (.aload_n 0, 1) := by decide +kernel
theorem d_Hub_isSecond_16 : decode prog_4_method_10_code 16 = .ok (.iload_n 2, 1) := by decide +kernel
theorem d_Hub_isSecond_17 : decode prog_4_method_10_code 17 = .ok (.invokevirtual 101, 3) := by decide +kernel
theorem d_Hub_isSecond_20 : decode prog_4_method_10_code 20 = .ok (.ifnull 7, 3) := by decide +kernel
theorem d_Hub_isSecond_23 : decode prog_4_method_10_code 23 = .ok (.iconst 1, 1) := by decide +kernel
theorem d_Hub_isSecond_24 : decode prog_4_method_10_code 24 = .ok (.goto 4, 3) := by decide +kernel
theorem d_Hub_isSecond_27 : decode prog_4_method_10_code 27 = .ok (.iconst 0, 1) := by decide +kernel
theorem d_Hub_isSecond_28 : decode prog_4_method_10_code 28 = .ok (.ireturn, 1) := by decide +kernel
def f_Hub_isSecond (q : Nat) (p1 : Int32) (p2 : Int32) (σ : Mem) : Option (Int32 × Mem) :=
  if p1 = (3 : Int32) then
    bd (f_X_isWithin p2 (1 : Int32) (8 : Int32) σ) fun r1 σ2 =>
    if r1 &&& 1 = r1 then some (r1, σ2) else none
  else
    bd (f_Hub_sensorAt q p2 σ) fun r3 σ4 =>
    oe r3 (
      some ((0 : Int32), σ4)
    ) (fun o5 =>
      some ((1 : Int32), σ4)
    )
set_option maxRecDepth 100000 in
set_option maxHeartbeats 4000000 in
theorem c_Hub_isSecond {X : CX} (l : Launch) (q : Nat) (p1 : Int32) (p2 : Int32) (hq : HubOK X q) (σ : Mem) : CT X l y_Hub_isSecond prog_4_method_10_code 3 (some .boolean) 1 vI [.ref (xa X q), .int p1, .int p2] σ (f_Hub_isSecond q p1 p2 σ) := by
  refine CT_of (by decide +kernel) (Nat.le_of_ble_eq_true rfl) ?_
  intro p e s m args below meth c F hlk hr
  have F : FR p s m args c prog_4_method_10_code 3 "SensorHub$Hub" X := F
  show G X p l e (rmD 1) s m args below meth c 3 0 0 (QI X below args s vI) 0 [(0, .ref (xa X q)), (1, .int p1), (2, .int p2)] [] σ _
  unfold f_Hub_isSecond
  refine g_iload_n F d_Hub_isSecond_0 1 rfl ?_
  refine g_iconst F (v := 3) d_Hub_isSecond_1 (by decide) ?_
  refine g_icmp_ne F (tgt := 15) d_Hub_isSecond_2 (by decide) (fun h1 => ?_) (fun h2 => ?_)
  · refine g_iload_n F d_Hub_isSecond_5 2 rfl ?_
    refine g_iconst F (v := 1) d_Hub_isSecond_6 (by decide) ?_
    refine g_bipush F (v := 8) d_Hub_isSecond_7 (by decide) ?_
    refine g_callSN F (dp := 0) (As := [.int p2, .int (1 : Int32), .int (8 : Int32)]) (c_X_isWithin l _ _ _ _) cs_2_97 rfl rfl (Nat.le_of_ble_eq_true rfl) ⟨Nat.le_of_ble_eq_true rfl, Nat.le_of_ble_eq_true rfl⟩ ⟨Nat.zero_le _, Nat.zero_le _⟩ d_Hub_isSecond_9 (fun r1 σ2 h3 => ?_)
    refine g_goto F (tgt := 28) d_Hub_isSecond_12 (by decide) ?_
    exact g_zret F hlk hr d_Hub_isSecond_28
  refine g_aload_n F d_Hub_isSecond_15 0 rfl ?_
  refine g_iload_n F d_Hub_isSecond_16 2 rfl ?_
  refine g_callV F (dp := 0) (ci := 2) (As := [.int p2]) (c_Hub_sensorAt l _ _ hq _) cv_2_101 hq.1 rfl rfl rfl (Nat.le_of_ble_eq_true rfl) ⟨Nat.le_of_ble_eq_true rfl, Nat.le_of_ble_eq_true rfl⟩ ⟨Nat.zero_le _, Nat.zero_le _⟩ d_Hub_isSecond_17 (fun r3 σ4 h4 => ?_)
  refine g_oe (fun h5 => ?_) (fun o5 h6 => ?_)
  · refine g_ifnullN F (tgt := 27) d_Hub_isSecond_20 (by decide) ?_
    refine g_iconst F (v := 0) d_Hub_isSecond_27 (by decide) ?_
    exact g_zretC F hlk hr (by decide) d_Hub_isSecond_28
  have h7 : SensorOK X o5 := ok_Hub_sensorAt hq (h6 ▸ h4)
  refine g_ifnull F d_Hub_isSecond_20 ?_
  refine g_iconst F (v := 1) d_Hub_isSecond_23 (by decide) ?_
  refine g_goto F (tgt := 28) d_Hub_isSecond_24 (by decide) ?_
  exact g_zretC F hlk hr (by decide) d_Hub_isSecond_28
def y_Hub_addPhysical : MethodName := ⟨"SensorHub$Hub", "addPhysical", "(IIIIII)I"⟩
theorem d_Hub_addPhysical_0 : decode prog_4_method_11_code 0 = .ok (.aload_n 0, 1) := by decide +kernel
theorem d_Hub_addPhysical_1 : decode prog_4_method_11_code 1 = .ok (.getfield 59, 3) := by decide +kernel
theorem d_Hub_addPhysical_4 : decode prog_4_method_11_code 4 = .ok (.istore 7, 2) := by decide +kernel
theorem d_Hub_addPhysical_6 : decode prog_4_method_11_code 6 = .ok (.aload_n 0, 1) := by decide +kernel
theorem d_Hub_addPhysical_7 : decode prog_4_method_11_code 7 = .ok (.iload 7, 2) := by decide +kernel
theorem d_Hub_addPhysical_9 : decode prog_4_method_11_code 9 = .ok (.invokevirtual 87, 3) := by decide +kernel
theorem d_Hub_addPhysical_12 : decode prog_4_method_11_code 12 = .ok (.astore 8, 2) := by decide +kernel
theorem d_Hub_addPhysical_14 : decode prog_4_method_11_code 14 = .ok (.aload 8, 2) := by decide +kernel
theorem d_Hub_addPhysical_16 : decode prog_4_method_11_code 16 = .ok (.ifnull 39, 3) := by decide +kernel
theorem d_Hub_addPhysical_19 : decode prog_4_method_11_code 19 = .ok (.aload 8, 2) := by decide +kernel
theorem d_Hub_addPhysical_21 : decode prog_4_method_11_code 21 = .ok (.iload_n 1, 1) := by decide +kernel
theorem d_Hub_addPhysical_22 : decode prog_4_method_11_code 22 = .ok (.iload_n 2, 1) := by decide +kernel
theorem d_Hub_addPhysical_23 : decode prog_4_method_11_code 23 = .ok (.iload_n 3, 1) := by decide +kernel
theorem d_Hub_addPhysical_24 : decode prog_4_method_11_code 24 = .ok (.iload 4, 2) := by decide +kernel
theorem d_Hub_addPhysical_26 : decode prog_4_method_11_code 26 = .ok (.iload 5, 2) := by decide +kernel
theorem d_Hub_addPhysical_28 : decode prog_4_method_11_code 28 = .ok (.iload 6, 2) := by decide +kernel
theorem d_Hub_addPhysical_30 : decode prog_4_method_11_code 30 = .ok (.invokevirtual 107, 3) := by decide +kernel
theorem d_Hub_addPhysical_33 : decode prog_4_method_11_code 33 = .ok (.aload 8, 2) := by decide +kernel
theorem d_Hub_addPhysical_35 : decode prog_4_method_11_code 35 = .ok (.iload 7, 2) := by decide +kernel
theorem d_Hub_addPhysical_37 : decode prog_4_method_11_code 37 = .ok (.putfield 111, 3) := by decide +kernel
theorem d_Hub_addPhysical_40 : decode prog_4_method_11_code 40 = .ok (.aload 8, 2) := by decide +kernel
theorem d_Hub_addPhysical_42 : decode prog_4_method_11_code 42 = .ok (.invokevirtual 114, 3) := by decide +kernel
theorem d_Hub_addPhysical_45 : decode prog_4_method_11_code 45 = .ok (.aload_n 0, 1) := by decide +kernel
theorem d_Hub_addPhysical_46 : decode prog_4_method_11_code 46 = .ok (.dup, 1) := by decide +kernel
theorem d_Hub_addPhysical_47 : decode prog_4_method_11_code 47 = .ok (.getfield 59, 3) := by decide +kernel
theorem d_Hub_addPhysical_50 : decode prog_4_method_11_code 50 = .ok (.iconst 1, 1) := by decide +kernel
theorem d_Hub_addPhysical_51 : decode prog_4_method_11_code 51 = .ok (.iadd, 1) := by decide +kernel
theorem d_Hub_addPhysical_52 : decode prog_4_method_11_code 52 = .ok (.putfield 59, 3) := by decide +kernel
theorem d_Hub_addPhysical_55 : decode prog_4_method_11_code 55 = .ok (.iload 7, 2) := by decide +kernel
theorem d_Hub_addPhysical_57 : decode prog_4_method_11_code 57 = .ok (.ireturn, 1) := by decide +kernel
theorem cv_2_107 : CSV "SensorHub$Hub" 107 y_Sen_becomePhysical prog_6_method_2_code 7 none 6 := ⟨gw_I 447 (by decide +kernel) rfl, gw_I 448 (by decide +kernel) rfl, gw_I 449 (by decide +kernel) rfl, gw_I 74 (by decide +kernel) rfl, gw_I 450 (by decide +kernel) rfl, ⟨by decide +kernel, by decide +kernel⟩, by decide +kernel⟩
theorem fw_2_111 : FW "SensorHub$Hub" 111 4 9 .int := ⟨"SensorHub$Sensor", T_4, 18, rfl, by decide, rfl, gw_I 162 (by decide +kernel) rfl, rfl, by decide +kernel⟩
theorem cv_2_114 : CSV "SensorHub$Hub" 114 y_Sen_becomeIdle prog_6_method_4_code 1 none 0 := ⟨gw_I 451 (by decide +kernel) rfl, gw_I 452 (by decide +kernel) rfl, gw_I 453 (by decide +kernel) rfl, gw_I 74 (by decide +kernel) rfl, gw_I 454 (by decide +kernel) rfl, ⟨by decide +kernel, by decide +kernel⟩, by decide +kernel⟩
def f_Hub_addPhysical (q : Nat) (p1 : Int32) (p2 : Int32) (p3 : Int32) (p4 : Int32) (p5 : Int32) (p6 : Int32) (σ : Mem) : Option (Int32 × Mem) :=
  lt (σ q 4) fun v1 =>
  bd (f_Hub_sensorRoom q v1 σ) fun r2 σ3 =>
  oe r2 (
    some (v1, σ3)
  ) (fun o4 =>
    bd (f_Sen_becomePhysical o4 p1 p2 p3 p4 p5 p6 σ3) fun _ σ6 =>
    lt (wr σ6 o4 9 v1) fun σ7 =>
    bd (f_Sen_becomeIdle o4 σ7) fun _ σ9 =>
    lt (wr σ9 q 4 ((σ9 q 4) + (1 : Int32))) fun σ10 =>
    some (v1, σ10)
  )
set_option maxRecDepth 100000 in
set_option maxHeartbeats 4000000 in
theorem c_Hub_addPhysical {X : CX} (l : Launch) (q : Nat) (p1 : Int32) (p2 : Int32) (p3 : Int32) (p4 : Int32) (p5 : Int32) (p6 : Int32) (hq : HubOK X q) (σ : Mem) : CT X l y_Hub_addPhysical prog_4_method_11_code 9 (some .int) 2 vI [.ref (xa X q), .int p1, .int p2, .int p3, .int p4, .int p5, .int p6] σ (f_Hub_addPhysical q p1 p2 p3 p4 p5 p6 σ) := by
  refine CT_of (by decide +kernel) (Nat.le_of_ble_eq_true rfl) ?_
  intro p e s m args below meth c F hlk hr
  have F : FR p s m args c prog_4_method_11_code 9 "SensorHub$Hub" X := F
  show G X p l e (rmD 2) s m args below meth c 9 0 0 (QI X below args s vI) 0 [(0, .ref (xa X q)), (1, .int p1), (2, .int p2), (3, .int p3), (4, .int p4), (5, .int p5), (6, .int p6)] [] σ _
  unfold f_Hub_addPhysical
  refine g_aload_n F d_Hub_addPhysical_0 0 rfl ?_
  refine g_getI F fs_2_59 hq.1 rfl d_Hub_addPhysical_1 ?_
  refine g_ltI (fun v1 _ => ?_)
  refine g_istore F (ls' := [(7, .int v1), (0, .ref (xa X q)), (1, .int p1), (2, .int p2), (3, .int p3), (4, .int p4), (5, .int p5), (6, .int p6)]) d_Hub_addPhysical_4 (by decide) rfl ?_
  refine g_aload_n F d_Hub_addPhysical_6 1 rfl ?_
  refine g_iload F d_Hub_addPhysical_7 0 rfl ?_
  refine g_callV F (dp := 1) (ci := 2) (As := [.int v1]) (c_Hub_sensorRoom l _ _ hq _) cv_2_87 hq.1 rfl rfl rfl (Nat.le_of_ble_eq_true rfl) ⟨Nat.le_of_ble_eq_true rfl, Nat.le_of_ble_eq_true rfl⟩ ⟨Nat.zero_le _, Nat.zero_le _⟩ d_Hub_addPhysical_9 (fun r2 σ3 h1 => ?_)
  refine g_oe (fun h2 => ?_) (fun o4 h3 => ?_)
  · refine g_astoreN F (ls' := [(8, .null), (7, .int v1), (0, .ref (xa X q)), (1, .int p1), (2, .int p2), (3, .int p3), (4, .int p4), (5, .int p5), (6, .int p6)]) d_Hub_addPhysical_12 (by decide) rfl ?_
    refine g_aloadN F d_Hub_addPhysical_14 0 rfl ?_
    refine g_ifnullN F (tgt := 55) d_Hub_addPhysical_16 (by decide) ?_
    refine g_iload F d_Hub_addPhysical_55 1 rfl ?_
    exact g_iret F hlk hr d_Hub_addPhysical_57
  have h4 : SensorOK X o4 := ok_Hub_sensorRoom hq (h3 ▸ h1)
  refine g_astore F (ls' := [(8, .ref (xa X o4)), (7, .int v1), (0, .ref (xa X q)), (1, .int p1), (2, .int p2), (3, .int p3), (4, .int p4), (5, .int p5), (6, .int p6)]) d_Hub_addPhysical_12 (by decide) rfl ?_
  refine g_aload F d_Hub_addPhysical_14 0 rfl ?_
  refine g_ifnull F d_Hub_addPhysical_16 ?_
  refine g_aload F d_Hub_addPhysical_19 0 rfl ?_
  refine g_iload_n F d_Hub_addPhysical_21 3 rfl ?_
  refine g_iload_n F d_Hub_addPhysical_22 4 rfl ?_
  refine g_iload_n F d_Hub_addPhysical_23 5 rfl ?_
  refine g_iload F d_Hub_addPhysical_24 6 rfl ?_
  refine g_iload F d_Hub_addPhysical_26 7 rfl ?_
  refine g_iload F d_Hub_addPhysical_28 8 rfl ?_
  refine g_callV F (dp := 0) (ci := 4) (As := [.int p1, .int p2, .int p3, .int p4, .int p5, .int p6]) (c_Sen_becomePhysical l _ _ _ _ _ _ _ h4 _) cv_2_107 h4.1 rfl rfl rfl (Nat.le_of_ble_eq_true rfl) ⟨Nat.le_of_ble_eq_true rfl, Nat.le_of_ble_eq_true rfl⟩ ⟨Nat.zero_le _, Nat.zero_le _⟩ d_Hub_addPhysical_30 (fun _ σ6 h5 => ?_)
  refine g_aload F d_Hub_addPhysical_33 0 rfl ?_
  refine g_iload F d_Hub_addPhysical_35 1 rfl ?_
  refine g_putI F fw_2_111 h4.1 rfl d_Hub_addPhysical_37 ?_
  refine g_ltM (fun σ7 _ => ?_)
  refine g_aload F d_Hub_addPhysical_40 0 rfl ?_
  refine g_callV F (dp := 1) (ci := 4) (As := []) (c_Sen_becomeIdle l _ h4 _) cv_2_114 h4.1 rfl rfl rfl (Nat.le_of_ble_eq_true rfl) ⟨Nat.le_of_ble_eq_true rfl, Nat.le_of_ble_eq_true rfl⟩ ⟨Nat.zero_le _, Nat.zero_le _⟩ d_Hub_addPhysical_42 (fun _ σ9 h6 => ?_)
  refine g_aload_n F d_Hub_addPhysical_45 2 rfl ?_
  refine g_dup F d_Hub_addPhysical_46 rfl ?_
  refine g_getI F fs_2_59 hq.1 rfl d_Hub_addPhysical_47 ?_
  refine g_iconst F (v := 1) d_Hub_addPhysical_50 (by decide) ?_
  refine g_iadd F d_Hub_addPhysical_51 ?_
  refine g_putI F fw_2_59 hq.1 rfl d_Hub_addPhysical_52 ?_
  refine g_ltM (fun σ10 _ => ?_)
  refine g_iload F d_Hub_addPhysical_55 1 rfl ?_
  exact g_iret F hlk hr d_Hub_addPhysical_57
def y_Hub_addComputed : MethodName := ⟨"SensorHub$Hub", "addComputed", "(III)I"⟩
theorem d_Hub_addComputed_0 : decode prog_4_method_12_code 0 = .ok (.aload_n 0, 1) := by decide +kernel
theorem d_Hub_addComputed_1 : decode prog_4_method_12_code 1 = .ok (.getfield 59, 3) := by decide +kernel
theorem d_Hub_addComputed_4 : decode prog_4_method_12_code 4 = .ok (.istore 4, 2) := by decide +kernel
theorem d_Hub_addComputed_6 : decode prog_4_method_12_code 6 = .ok (.aload_n 0, 1) := by decide +kernel
theorem d_Hub_addComputed_7 : decode prog_4_method_12_code 7 = .ok (.iload 4, 2) := by decide +kernel
theorem d_Hub_addComputed_9 : decode prog_4_method_12_code 9 = .ok (.invokevirtual 87, 3) := by decide +kernel
theorem d_Hub_addComputed_12 : decode prog_4_method_12_code 12 = .ok (.astore 5, 2) := by decide +kernel
theorem d_Hub_addComputed_14 : decode prog_4_method_12_code 14 = .ok (.aload_n 0, 1) := by decide +kernel
theorem d_Hub_addComputed_15 : decode prog_4_method_12_code 15 = .ok (.iload_n 2, 1) := by decide +kernel
theorem d_Hub_addComputed_16 : decode prog_4_method_12_code 16 = .ok (.invokevirtual 101, 3) := by decide +kernel
theorem d_Hub_addComputed_19 : decode prog_4_method_12_code 19 = .ok (.astore 6, 2) := by decide +kernel
theorem d_Hub_addComputed_21 : decode prog_4_method_12_code 21 = .ok (.iload_n 1, 1) := by decide +kernel
theorem d_Hub_addComputed_22 : decode prog_4_method_12_code 22 = .ok (.iconst 3, 1) := by decide +kernel
theorem d_Hub_addComputed_23 : decode prog_4_method_12_code 23 = .ok (.if_icmp .ne 8, 3) := by decide +kernel
theorem d_Hub_addComputed_26 : decode prog_4_method_12_code 26 = .ok (.aload 6, 2) := by decide +kernel
theorem d_Hub_addComputed_28 : decode prog_4_method_12_code 28 = .ok (.goto 8, 3) := by decide +kernel
theorem d_Hub_addComputed_31 : decode prog_4_method_12_code 31 = .ok (.aload_n 0, 1) := by decide +kernel
theorem d_Hub_addComputed_32 : decode prog_4_method_12_code 32 = .ok (.iload_n 3, 1) := by decide +kernel
theorem d_Hub_addComputed_33 : decode prog_4_method_12_code 33 = .ok (.invokevirtual 101, 3) := by decide +kernel
theorem d_Hub_addComputed_36 : decode prog_4_method_12_code 36 = .ok (.astore 7, 2) := by decide +kernel
theorem d_Hub_addComputed_38 : decode prog_4_method_12_code 38 = .ok (.aload 5, 2) := by decide +kernel
theorem d_Hub_addComputed_40 : decode prog_4_method_12_code 40 = .ok (.ifnull 64, 3) := by decide +kernel
theorem d_Hub_addComputed_43 : decode prog_4_method_12_code 43 = .ok (.aload 6, 2) := by decide +kernel
theorem d_Hub_addComputed_45 : decode prog_4_method_12_code 45 = .ok (.ifnull 59, 3) := by decide +kernel
theorem d_Hub_addComputed_48 : decode prog_4_method_12_code 48 = .ok (.aload 7, 2) := by decide +kernel
theorem d_Hub_addComputed_50 : decode prog_4_method_12_code 50 = .ok (.ifnull 54, 3) := by decide +kernel
theorem d_Hub_addComputed_53 : decode prog_4_method_12_code 53 = .ok (.aload 5, 2) := by decide +kernel
theorem d_Hub_addComputed_55 : decode prog_4_method_12_code 55 = .ok (.iload_n 1, 1) := by decide +kernel
theorem d_Hub_addComputed_56 : decode prog_4_method_12_code 56 = .ok (.iload_n 2, 1) := by decide +kernel
theorem d_Hub_addComputed_57 : decode prog_4_method_12_code 57 = .ok (.iload_n 3, 1) := by decide +kernel
theorem d_Hub_addComputed_58 : decode prog_4_method_12_code 58 = .ok (.invokevirtual 117, 3) := by decide +kernel
theorem d_Hub_addComputed_61 : decode prog_4_method_12_code 61 = .ok (.aload 5, 2) := by decide +kernel
theorem d_Hub_addComputed_63 : decode prog_4_method_12_code 63 = .ok (.aload 6, 2) := by decide +kernel
theorem d_Hub_addComputed_65 : decode prog_4_method_12_code 65 = .ok (.getfield 121, 3) := by decide +kernel
theorem d_Hub_addComputed_68 : decode prog_4_method_12_code 68 = .ok (.aload 7, 2) := by decide +kernel
theorem d_Hub_addComputed_70 : decode prog_4_method_12_code 70 = .ok (.getfield 121, 3) := by decide +kernel
theorem d_Hub_addComputed_73 : decode prog_4_method_12_code 73 = .ok (.invokestatic 124, 3) := by decide +kernel
theorem d_Hub_addComputed_76 : decode prog_4_method_12_code 76 = .ok (.putfield 121, 3) := by decide +kernel
theorem d_Hub_addComputed_79 : decode prog_4_method_12_code 79 = .ok (.aload 5, 2) := by decide +kernel
theorem d_Hub_addComputed_81 : decode prog_4_method_12_code 81 = .ok (.aload 6, 2) := by decide +kernel
theorem d_Hub_addComputed_83 : decode prog_4_method_12_code 83 = .ok (.getfield 111, 3) := by decide +kernel
theorem d_Hub_addComputed_86 : decode prog_4_method_12_code 86 = .ok (.putfield 111, 3) := by decide +kernel
theorem d_Hub_addComputed_89 : decode prog_4_method_12_code 89 = .ok (.aload 5, 2) := by decide +kernel
theorem d_Hub_addComputed_91 : decode prog_4_method_12_code 91 = .ok (.invokevirtual 114, 3) := by decide +kernel
theorem d_Hub_addComputed_94 : decode prog_4_method_12_code 94 = .ok (.aload_n 0, 1) := by decide +kernel
theorem d_Hub_addComputed_95 : decode prog_4_method_12_code 95 = .ok (.dup, 1) := by decide +kernel
theorem d_Hub_addComputed_96 : decode prog_4_method_12_code 96 = .ok (.getfield 59, 3) := by decide +kernel
theorem d_Hub_addComputed_99 : decode prog_4_method_12_code 99 = .ok (.iconst 1, 1) := by decide +kernel
theorem d_Hub_addComputed_100 : decode prog_4_method_12_code 100 = .ok (.iadd, 1) := by decide +kernel
theorem d_Hub_addComputed_101 : decode prog_4_method_12_code 101 = .ok (.putfield 59, 3) := by decide +kernel
theorem d_Hub_addComputed_104 : decode prog_4_method_12_code 104 = .ok (.iload 4, 2) := by decide +kernel
theorem d_Hub_addComputed_106 : decode prog_4_method_12_code 106 = .ok (.ireturn, 1) := by decide +kernel
theorem cv_2_117 : CSV "SensorHub$Hub" 117 y_Sen_becomeComputed prog_6_method_3_code 4 none 3 := ⟨gw_I 476 (by decide +kernel) rfl, gw_I 477 (by decide +kernel) rfl, gw_I 478 (by decide +kernel) rfl, gw_I 74 (by decide +kernel) rfl, gw_I 479 (by decide +kernel) rfl, ⟨by decide +kernel, by decide +kernel⟩, by decide +kernel⟩
theorem fs_2_121 : FS "SensorHub$Hub" 121 4 1 := ⟨"SensorHub$Sensor", T_4, 18, rfl, by decide, rfl, gw_I 150 (by decide +kernel) rfl⟩
theorem cs_2_124 : CSS "SensorHub$Hub" 124 y_Mat_max prog_11_method_65_code 2 (some .int) 2 := ⟨gw_I 480 (by decide +kernel) rfl, gw_I 481 (by decide +kernel) rfl, gw_I 79 (by decide +kernel) rfl, gw_I 482 (by decide +kernel) rfl, ⟨by decide +kernel, by decide +kernel⟩, by decide +kernel⟩
theorem fw_2_121 : FW "SensorHub$Hub" 121 4 1 .int := ⟨"SensorHub$Sensor", T_4, 18, rfl, by decide, rfl, gw_I 150 (by decide +kernel) rfl, rfl, by decide +kernel⟩
theorem fs_2_111 : FS "SensorHub$Hub" 111 4 9 := ⟨"SensorHub$Sensor", T_4, 18, rfl, by decide, rfl, gw_I 162 (by decide +kernel) rfl⟩
def f_Hub_addComputed (q : Nat) (p1 : Int32) (p2 : Int32) (p3 : Int32) (σ : Mem) : Option (Int32 × Mem) :=
  lt (σ q 4) fun v1 =>
  bd (f_Hub_sensorRoom q v1 σ) fun r2 σ3 =>
  oe r2 (
    bd (f_Hub_sensorAt q p2 σ3) fun r5 σ6 =>
    oe r5 (
      if p1 = (3 : Int32) then
        some (v1, σ6)
      else
        bd (f_Hub_sensorAt q p3 σ6) fun r8 σ9 =>
        oe r8 (
          some (v1, σ9)
        ) (fun o10 =>
          some (v1, σ9)
        )
    ) (fun o7 =>
      if p1 = (3 : Int32) then
        some (v1, σ6)
      else
        bd (f_Hub_sensorAt q p3 σ6) fun r11 σ12 =>
        oe r11 (
          some (v1, σ12)
        ) (fun o13 =>
          some (v1, σ12)
        )
    )
  ) (fun o4 =>
    bd (f_Hub_sensorAt q p2 σ3) fun r14 σ15 =>
    oe r14 (
      if p1 = (3 : Int32) then
        some (v1, σ15)
      else
        bd (f_Hub_sensorAt q p3 σ15) fun r17 σ18 =>
        oe r17 (
          some (v1, σ18)
        ) (fun o19 =>
          some (v1, σ18)
        )
    ) (fun o16 =>
      if p1 = (3 : Int32) then
        bd (f_Sen_becomeComputed o4 p1 p2 p3 σ15) fun _ σ21 =>
        bd (f_Mat_max (σ21 o16 1) (σ21 o16 1) σ21) fun r22 σ23 =>
        lt (wr σ23 o4 1 r22) fun σ24 =>
        lt (wr σ24 o4 9 (σ24 o16 9)) fun σ25 =>
        bd (f_Sen_becomeIdle o4 σ25) fun _ σ27 =>
        lt (wr σ27 q 4 ((σ27 q 4) + (1 : Int32))) fun σ28 =>
        some (v1, σ28)
      else
        bd (f_Hub_sensorAt q p3 σ15) fun r29 σ30 =>
        oe r29 (
          some (v1, σ30)
        ) (fun o31 =>
          bd (f_Sen_becomeComputed o4 p1 p2 p3 σ30) fun _ σ33 =>
          bd (f_Mat_max (σ33 o16 1) (σ33 o31 1) σ33) fun r34 σ35 =>
          lt (wr σ35 o4 1 r34) fun σ36 =>
          lt (wr σ36 o4 9 (σ36 o16 9)) fun σ37 =>
          bd (f_Sen_becomeIdle o4 σ37) fun _ σ39 =>
          lt (wr σ39 q 4 ((σ39 q 4) + (1 : Int32))) fun σ40 =>
          some (v1, σ40)
        )
    )
  )
set_option maxRecDepth 100000 in
set_option maxHeartbeats 4000000 in
theorem c_Hub_addComputed {X : CX} (l : Launch) (q : Nat) (p1 : Int32) (p2 : Int32) (p3 : Int32) (hq : HubOK X q) (σ : Mem) : CT X l y_Hub_addComputed prog_4_method_12_code 8 (some .int) 2 vI [.ref (xa X q), .int p1, .int p2, .int p3] σ (f_Hub_addComputed q p1 p2 p3 σ) := by
  refine CT_of (by decide +kernel) (Nat.le_of_ble_eq_true rfl) ?_
  intro p e s m args below meth c F hlk hr
  have F : FR p s m args c prog_4_method_12_code 8 "SensorHub$Hub" X := F
  show G X p l e (rmD 2) s m args below meth c 8 0 0 (QI X below args s vI) 0 [(0, .ref (xa X q)), (1, .int p1), (2, .int p2), (3, .int p3)] [] σ _
  unfold f_Hub_addComputed
  refine g_aload_n F d_Hub_addComputed_0 0 rfl ?_
  refine g_getI F fs_2_59 hq.1 rfl d_Hub_addComputed_1 ?_
  refine g_ltI (fun v1 _ => ?_)
  refine g_istore F (ls' := [(4, .int v1), (0, .ref (xa X q)), (1, .int p1), (2, .int p2), (3, .int p3)]) d_Hub_addComputed_4 (by decide) rfl ?_
  refine g_aload_n F d_Hub_addComputed_6 1 rfl ?_
  refine g_iload F d_Hub_addComputed_7 0 rfl ?_
  refine g_callV F (dp := 1) (ci := 2) (As := [.int v1]) (c_Hub_sensorRoom l _ _ hq _) cv_2_87 hq.1 rfl rfl rfl (Nat.le_of_ble_eq_true rfl) ⟨Nat.le_of_ble_eq_true rfl, Nat.le_of_ble_eq_true rfl⟩ ⟨Nat.zero_le _, Nat.zero_le _⟩ d_Hub_addComputed_9 (fun r2 σ3 h1 => ?_)
  refine g_oe (fun h2 => ?_) (fun o4 h3 => ?_)
  · refine g_astoreN F (ls' := [(5, .null), (4, .int v1), (0, .ref (xa X q)), (1, .int p1), (2, .int p2), (3, .int p3)]) d_Hub_addComputed_12 (by decide) rfl ?_
    refine g_aload_n F d_Hub_addComputed_14 2 rfl ?_
    refine g_iload_n F d_Hub_addComputed_15 4 rfl ?_
    refine g_callV F (dp := 0) (ci := 2) (As := [.int p2]) (c_Hub_sensorAt l _ _ hq _) cv_2_101 hq.1 rfl rfl rfl (Nat.le_of_ble_eq_true rfl) ⟨Nat.le_of_ble_eq_true rfl, Nat.le_of_ble_eq_true rfl⟩ ⟨Nat.zero_le _, Nat.zero_le _⟩ d_Hub_addComputed_16 (fun r5 σ6 h5 => ?_)
    refine g_oe (fun h6 => ?_) (fun o7 h7 => ?_)
    · refine g_astoreN F (ls' := [(6, .null), (5, .null), (4, .int v1), (0, .ref (xa X q)), (1, .int p1), (2, .int p2), (3, .int p3)]) d_Hub_addComputed_19 (by decide) rfl ?_
      refine g_iload_n F d_Hub_addComputed_21 4 rfl ?_
      refine g_iconst F (v := 3) d_Hub_addComputed_22 (by decide) ?_
      refine g_icmp_ne F (tgt := 31) d_Hub_addComputed_23 (by decide) (fun h9 => ?_) (fun h10 => ?_)
      · refine g_aloadN F d_Hub_addComputed_26 0 rfl ?_
        refine g_goto F (tgt := 36) d_Hub_addComputed_28 (by decide) ?_
        refine g_astoreN F (ls' := [(7, .null), (6, .null), (5, .null), (4, .int v1), (0, .ref (xa X q)), (1, .int p1), (2, .int p2), (3, .int p3)]) d_Hub_addComputed_36 (by decide) rfl ?_
        refine g_aloadN F d_Hub_addComputed_38 2 rfl ?_
        refine g_ifnullN F (tgt := 104) d_Hub_addComputed_40 (by decide) ?_
        refine g_iload F d_Hub_addComputed_104 3 rfl ?_
        exact g_iret F hlk hr d_Hub_addComputed_106
      refine g_aload_n F d_Hub_addComputed_31 3 rfl ?_
      refine g_iload_n F d_Hub_addComputed_32 6 rfl ?_
      refine g_callV F (dp := 0) (ci := 2) (As := [.int p3]) (c_Hub_sensorAt l _ _ hq _) cv_2_101 hq.1 rfl rfl rfl (Nat.le_of_ble_eq_true rfl) ⟨Nat.le_of_ble_eq_true rfl, Nat.le_of_ble_eq_true rfl⟩ ⟨Nat.zero_le _, Nat.zero_le _⟩ d_Hub_addComputed_33 (fun r8 σ9 h11 => ?_)
      refine g_oe (fun h12 => ?_) (fun o10 h13 => ?_)
      · refine g_astoreN F (ls' := [(7, .null), (6, .null), (5, .null), (4, .int v1), (0, .ref (xa X q)), (1, .int p1), (2, .int p2), (3, .int p3)]) d_Hub_addComputed_36 (by decide) rfl ?_
        refine g_aloadN F d_Hub_addComputed_38 2 rfl ?_
        refine g_ifnullN F (tgt := 104) d_Hub_addComputed_40 (by decide) ?_
        refine g_iload F d_Hub_addComputed_104 3 rfl ?_
        exact g_iret F hlk hr d_Hub_addComputed_106
      have h14 : SensorOK X o10 := ok_Hub_sensorAt hq (h13 ▸ h11)
      refine g_astore F (ls' := [(7, .ref (xa X o10)), (6, .null), (5, .null), (4, .int v1), (0, .ref (xa X q)), (1, .int p1), (2, .int p2), (3, .int p3)]) d_Hub_addComputed_36 (by decide) rfl ?_
      refine g_aloadN F d_Hub_addComputed_38 2 rfl ?_
      refine g_ifnullN F (tgt := 104) d_Hub_addComputed_40 (by decide) ?_
      refine g_iload F d_Hub_addComputed_104 3 rfl ?_
      exact g_iret F hlk hr d_Hub_addComputed_106
    have h8 : SensorOK X o7 := ok_Hub_sensorAt hq (h7 ▸ h5)
    refine g_astore F (ls' := [(6, .ref (xa X o7)), (5, .null), (4, .int v1), (0, .ref (xa X q)), (1, .int p1), (2, .int p2), (3, .int p3)]) d_Hub_addComputed_19 (by decide) rfl ?_
    refine g_iload_n F d_Hub_addComputed_21 4 rfl ?_
    refine g_iconst F (v := 3) d_Hub_addComputed_22 (by decide) ?_
    refine g_icmp_ne F (tgt := 31) d_Hub_addComputed_23 (by decide) (fun h15 => ?_) (fun h16 => ?_)
    · refine g_aload F d_Hub_addComputed_26 0 rfl ?_
      refine g_goto F (tgt := 36) d_Hub_addComputed_28 (by decide) ?_
      refine g_astore F (ls' := [(7, .ref (xa X o7)), (6, .ref (xa X o7)), (5, .null), (4, .int v1), (0, .ref (xa X q)), (1, .int p1), (2, .int p2), (3, .int p3)]) d_Hub_addComputed_36 (by decide) rfl ?_
      refine g_aloadN F d_Hub_addComputed_38 2 rfl ?_
      refine g_ifnullN F (tgt := 104) d_Hub_addComputed_40 (by decide) ?_
      refine g_iload F d_Hub_addComputed_104 3 rfl ?_
      exact g_iret F hlk hr d_Hub_addComputed_106
    refine g_aload_n F d_Hub_addComputed_31 3 rfl ?_
    refine g_iload_n F d_Hub_addComputed_32 6 rfl ?_
    refine g_callV F (dp := 0) (ci := 2) (As := [.int p3]) (c_Hub_sensorAt l _ _ hq _) cv_2_101 hq.1 rfl rfl rfl (Nat.le_of_ble_eq_true rfl) ⟨Nat.le_of_ble_eq_true rfl, Nat.le_of_ble_eq_true rfl⟩ ⟨Nat.zero_le _, Nat.zero_le _⟩ d_Hub_addComputed_33 (fun r11 σ12 h17 => ?_)
    refine g_oe (fun h18 => ?_) (fun o13 h19 => ?_)
    · refine g_astoreN F (ls' := [(7, .null), (6, .ref (xa X o7)), (5, .null), (4, .int v1), (0, .ref (xa X q)), (1, .int p1), (2, .int p2), (3, .int p3)]) d_Hub_addComputed_36 (by decide) rfl ?_
      refine g_aloadN F d_Hub_addComputed_38 2 rfl ?_
      refine g_ifnullN F (tgt := 104) d_Hub_addComputed_40 (by decide) ?_
      refine g_iload F d_Hub_addComputed_104 3 rfl ?_
      exact g_iret F hlk hr d_Hub_addComputed_106
    have h20 : SensorOK X o13 := ok_Hub_sensorAt hq (h19 ▸ h17)
    refine g_astore F (ls' := [(7, .ref (xa X o13)), (6, .ref (xa X o7)), (5, .null), (4, .int v1), (0, .ref (xa X q)), (1, .int p1), (2, .int p2), (3, .int p3)]) d_Hub_addComputed_36 (by decide) rfl ?_
    refine g_aloadN F d_Hub_addComputed_38 2 rfl ?_
    refine g_ifnullN F (tgt := 104) d_Hub_addComputed_40 (by decide) ?_
    refine g_iload F d_Hub_addComputed_104 3 rfl ?_
    exact g_iret F hlk hr d_Hub_addComputed_106
  have h4 : SensorOK X o4 := ok_Hub_sensorRoom hq (h3 ▸ h1)
  refine g_astore F (ls' := [(5, .ref (xa X o4)), (4, .int v1), (0, .ref (xa X q)), (1, .int p1), (2, .int p2), (3, .int p3)]) d_Hub_addComputed_12 (by decide) rfl ?_
  refine g_aload_n F d_Hub_addComputed_14 2 rfl ?_
  refine g_iload_n F d_Hub_addComputed_15 4 rfl ?_
  refine g_callV F (dp := 0) (ci := 2) (As := [.int p2]) (c_Hub_sensorAt l _ _ hq _) cv_2_101 hq.1 rfl rfl rfl (Nat.le_of_ble_eq_true rfl) ⟨Nat.le_of_ble_eq_true rfl, Nat.le_of_ble_eq_true rfl⟩ ⟨Nat.zero_le _, Nat.zero_le _⟩ d_Hub_addComputed_16 (fun r14 σ15 h21 => ?_)
  refine g_oe (fun h22 => ?_) (fun o16 h23 => ?_)
  · refine g_astoreN F (ls' := [(6, .null), (5, .ref (xa X o4)), (4, .int v1), (0, .ref (xa X q)), (1, .int p1), (2, .int p2), (3, .int p3)]) d_Hub_addComputed_19 (by decide) rfl ?_
    refine g_iload_n F d_Hub_addComputed_21 4 rfl ?_
    refine g_iconst F (v := 3) d_Hub_addComputed_22 (by decide) ?_
    refine g_icmp_ne F (tgt := 31) d_Hub_addComputed_23 (by decide) (fun h25 => ?_) (fun h26 => ?_)
    · refine g_aloadN F d_Hub_addComputed_26 0 rfl ?_
      refine g_goto F (tgt := 36) d_Hub_addComputed_28 (by decide) ?_
      refine g_astoreN F (ls' := [(7, .null), (6, .null), (5, .ref (xa X o4)), (4, .int v1), (0, .ref (xa X q)), (1, .int p1), (2, .int p2), (3, .int p3)]) d_Hub_addComputed_36 (by decide) rfl ?_
      refine g_aload F d_Hub_addComputed_38 2 rfl ?_
      refine g_ifnull F d_Hub_addComputed_40 ?_
      refine g_aloadN F d_Hub_addComputed_43 1 rfl ?_
      refine g_ifnullN F (tgt := 104) d_Hub_addComputed_45 (by decide) ?_
      refine g_iload F d_Hub_addComputed_104 3 rfl ?_
      exact g_iret F hlk hr d_Hub_addComputed_106
    refine g_aload_n F d_Hub_addComputed_31 3 rfl ?_
    refine g_iload_n F d_Hub_addComputed_32 6 rfl ?_
    refine g_callV F (dp := 0) (ci := 2) (As := [.int p3]) (c_Hub_sensorAt l _ _ hq _) cv_2_101 hq.1 rfl rfl rfl (Nat.le_of_ble_eq_true rfl) ⟨Nat.le_of_ble_eq_true rfl, Nat.le_of_ble_eq_true rfl⟩ ⟨Nat.zero_le _, Nat.zero_le _⟩ d_Hub_addComputed_33 (fun r17 σ18 h27 => ?_)
    refine g_oe (fun h28 => ?_) (fun o19 h29 => ?_)
    · refine g_astoreN F (ls' := [(7, .null), (6, .null), (5, .ref (xa X o4)), (4, .int v1), (0, .ref (xa X q)), (1, .int p1), (2, .int p2), (3, .int p3)]) d_Hub_addComputed_36 (by decide) rfl ?_
      refine g_aload F d_Hub_addComputed_38 2 rfl ?_
      refine g_ifnull F d_Hub_addComputed_40 ?_
      refine g_aloadN F d_Hub_addComputed_43 1 rfl ?_
      refine g_ifnullN F (tgt := 104) d_Hub_addComputed_45 (by decide) ?_
      refine g_iload F d_Hub_addComputed_104 3 rfl ?_
      exact g_iret F hlk hr d_Hub_addComputed_106
    have h30 : SensorOK X o19 := ok_Hub_sensorAt hq (h29 ▸ h27)
    refine g_astore F (ls' := [(7, .ref (xa X o19)), (6, .null), (5, .ref (xa X o4)), (4, .int v1), (0, .ref (xa X q)), (1, .int p1), (2, .int p2), (3, .int p3)]) d_Hub_addComputed_36 (by decide) rfl ?_
    refine g_aload F d_Hub_addComputed_38 2 rfl ?_
    refine g_ifnull F d_Hub_addComputed_40 ?_
    refine g_aloadN F d_Hub_addComputed_43 1 rfl ?_
    refine g_ifnullN F (tgt := 104) d_Hub_addComputed_45 (by decide) ?_
    refine g_iload F d_Hub_addComputed_104 3 rfl ?_
    exact g_iret F hlk hr d_Hub_addComputed_106
  have h24 : SensorOK X o16 := ok_Hub_sensorAt hq (h23 ▸ h21)
  refine g_astore F (ls' := [(6, .ref (xa X o16)), (5, .ref (xa X o4)), (4, .int v1), (0, .ref (xa X q)), (1, .int p1), (2, .int p2), (3, .int p3)]) d_Hub_addComputed_19 (by decide) rfl ?_
  refine g_iload_n F d_Hub_addComputed_21 4 rfl ?_
  refine g_iconst F (v := 3) d_Hub_addComputed_22 (by decide) ?_
  refine g_icmp_ne F (tgt := 31) d_Hub_addComputed_23 (by decide) (fun h31 => ?_) (fun h32 => ?_)
  · refine g_aload F d_Hub_addComputed_26 0 rfl ?_
    refine g_goto F (tgt := 36) d_Hub_addComputed_28 (by decide) ?_
    refine g_astore F (ls' := [(7, .ref (xa X o16)), (6, .ref (xa X o16)), (5, .ref (xa X o4)), (4, .int v1), (0, .ref (xa X q)), (1, .int p1), (2, .int p2), (3, .int p3)]) d_Hub_addComputed_36 (by decide) rfl ?_
    refine g_aload F d_Hub_addComputed_38 2 rfl ?_
    refine g_ifnull F d_Hub_addComputed_40 ?_
    refine g_aload F d_Hub_addComputed_43 1 rfl ?_
    refine g_ifnull F d_Hub_addComputed_45 ?_
    refine g_aload F d_Hub_addComputed_48 0 rfl ?_
    refine g_ifnull F d_Hub_addComputed_50 ?_
    refine g_aload F d_Hub_addComputed_53 2 rfl ?_
    refine g_iload_n F d_Hub_addComputed_55 5 rfl ?_
    refine g_iload_n F d_Hub_addComputed_56 6 rfl ?_
    refine g_iload_n F d_Hub_addComputed_57 7 rfl ?_
    refine g_callV F (dp := 0) (ci := 4) (As := [.int p1, .int p2, .int p3]) (c_Sen_becomeComputed l _ _ _ _ h4 _) cv_2_117 h4.1 rfl rfl rfl (Nat.le_of_ble_eq_true rfl) ⟨Nat.le_of_ble_eq_true rfl, Nat.le_of_ble_eq_true rfl⟩ ⟨Nat.zero_le _, Nat.zero_le _⟩ d_Hub_addComputed_58 (fun _ σ21 h33 => ?_)
    refine g_aload F d_Hub_addComputed_61 2 rfl ?_
    refine g_aload F d_Hub_addComputed_63 1 rfl ?_
    refine g_getI F fs_2_121 h24.1 rfl d_Hub_addComputed_65 ?_
    refine g_aload F d_Hub_addComputed_68 0 rfl ?_
    refine g_getI F fs_2_121 h24.1 rfl d_Hub_addComputed_70 ?_
    refine g_callS F (dp := 0) (As := [.int (σ21 o16 1), .int (σ21 o16 1)]) (c_Mat_max l _ _ _) cs_2_124 rfl rfl (Nat.le_of_ble_eq_true rfl) ⟨Nat.le_of_ble_eq_true rfl, Nat.le_of_ble_eq_true rfl⟩ ⟨Nat.zero_le _, Nat.zero_le _⟩ d_Hub_addComputed_73 (fun r22 σ23 h34 => ?_)
    refine g_putI F fw_2_121 h4.1 rfl d_Hub_addComputed_76 ?_
    refine g_ltM (fun σ24 _ => ?_)
    refine g_aload F d_Hub_addComputed_79 2 rfl ?_
    refine g_aload F d_Hub_addComputed_81 1 rfl ?_
    refine g_getI F fs_2_111 h24.1 rfl d_Hub_addComputed_83 ?_
    refine g_putI F fw_2_111 h4.1 rfl d_Hub_addComputed_86 ?_
    refine g_ltM (fun σ25 _ => ?_)
    refine g_aload F d_Hub_addComputed_89 2 rfl ?_
    refine g_callV F (dp := 1) (ci := 4) (As := []) (c_Sen_becomeIdle l _ h4 _) cv_2_114 h4.1 rfl rfl rfl (Nat.le_of_ble_eq_true rfl) ⟨Nat.le_of_ble_eq_true rfl, Nat.le_of_ble_eq_true rfl⟩ ⟨Nat.zero_le _, Nat.zero_le _⟩ d_Hub_addComputed_91 (fun _ σ27 h35 => ?_)
    refine g_aload_n F d_Hub_addComputed_94 4 rfl ?_
    refine g_dup F d_Hub_addComputed_95 rfl ?_
    refine g_getI F fs_2_59 hq.1 rfl d_Hub_addComputed_96 ?_
    refine g_iconst F (v := 1) d_Hub_addComputed_99 (by decide) ?_
    refine g_iadd F d_Hub_addComputed_100 ?_
    refine g_putI F fw_2_59 hq.1 rfl d_Hub_addComputed_101 ?_
    refine g_ltM (fun σ28 _ => ?_)
    refine g_iload F d_Hub_addComputed_104 3 rfl ?_
    exact g_iret F hlk hr d_Hub_addComputed_106
  refine g_aload_n F d_Hub_addComputed_31 3 rfl ?_
  refine g_iload_n F d_Hub_addComputed_32 6 rfl ?_
  refine g_callV F (dp := 0) (ci := 2) (As := [.int p3]) (c_Hub_sensorAt l _ _ hq _) cv_2_101 hq.1 rfl rfl rfl (Nat.le_of_ble_eq_true rfl) ⟨Nat.le_of_ble_eq_true rfl, Nat.le_of_ble_eq_true rfl⟩ ⟨Nat.zero_le _, Nat.zero_le _⟩ d_Hub_addComputed_33 (fun r29 σ30 h36 => ?_)
  refine g_oe (fun h37 => ?_) (fun o31 h38 => ?_)
  · refine g_astoreN F (ls' := [(7, .null), (6, .ref (xa X o16)), (5, .ref (xa X o4)), (4, .int v1), (0, .ref (xa X q)), (1, .int p1), (2, .int p2), (3, .int p3)]) d_Hub_addComputed_36 (by decide) rfl ?_
    refine g_aload F d_Hub_addComputed_38 2 rfl ?_
    refine g_ifnull F d_Hub_addComputed_40 ?_
    refine g_aload F d_Hub_addComputed_43 1 rfl ?_
    refine g_ifnull F d_Hub_addComputed_45 ?_
    refine g_aloadN F d_Hub_addComputed_48 0 rfl ?_
    refine g_ifnullN F (tgt := 104) d_Hub_addComputed_50 (by decide) ?_
    refine g_iload F d_Hub_addComputed_104 3 rfl ?_
    exact g_iret F hlk hr d_Hub_addComputed_106
  have h39 : SensorOK X o31 := ok_Hub_sensorAt hq (h38 ▸ h36)
  refine g_astore F (ls' := [(7, .ref (xa X o31)), (6, .ref (xa X o16)), (5, .ref (xa X o4)), (4, .int v1), (0, .ref (xa X q)), (1, .int p1), (2, .int p2), (3, .int p3)]) d_Hub_addComputed_36 (by decide) rfl ?_
  refine g_aload F d_Hub_addComputed_38 2 rfl ?_
  refine g_ifnull F d_Hub_addComputed_40 ?_
  refine g_aload F d_Hub_addComputed_43 1 rfl ?_
  refine g_ifnull F d_Hub_addComputed_45 ?_
  refine g_aload F d_Hub_addComputed_48 0 rfl ?_
  refine g_ifnull F d_Hub_addComputed_50 ?_
  refine g_aload F d_Hub_addComputed_53 2 rfl ?_
  refine g_iload_n F d_Hub_addComputed_55 5 rfl ?_
  refine g_iload_n F d_Hub_addComputed_56 6 rfl ?_
  refine g_iload_n F d_Hub_addComputed_57 7 rfl ?_
  refine g_callV F (dp := 0) (ci := 4) (As := [.int p1, .int p2, .int p3]) (c_Sen_becomeComputed l _ _ _ _ h4 _) cv_2_117 h4.1 rfl rfl rfl (Nat.le_of_ble_eq_true rfl) ⟨Nat.le_of_ble_eq_true rfl, Nat.le_of_ble_eq_true rfl⟩ ⟨Nat.zero_le _, Nat.zero_le _⟩ d_Hub_addComputed_58 (fun _ σ33 h40 => ?_)
  refine g_aload F d_Hub_addComputed_61 2 rfl ?_
  refine g_aload F d_Hub_addComputed_63 1 rfl ?_
  refine g_getI F fs_2_121 h24.1 rfl d_Hub_addComputed_65 ?_
  refine g_aload F d_Hub_addComputed_68 0 rfl ?_
  refine g_getI F fs_2_121 h39.1 rfl d_Hub_addComputed_70 ?_
  refine g_callS F (dp := 0) (As := [.int (σ33 o16 1), .int (σ33 o31 1)]) (c_Mat_max l _ _ _) cs_2_124 rfl rfl (Nat.le_of_ble_eq_true rfl) ⟨Nat.le_of_ble_eq_true rfl, Nat.le_of_ble_eq_true rfl⟩ ⟨Nat.zero_le _, Nat.zero_le _⟩ d_Hub_addComputed_73 (fun r34 σ35 h41 => ?_)
  refine g_putI F fw_2_121 h4.1 rfl d_Hub_addComputed_76 ?_
  refine g_ltM (fun σ36 _ => ?_)
  refine g_aload F d_Hub_addComputed_79 2 rfl ?_
  refine g_aload F d_Hub_addComputed_81 1 rfl ?_
  refine g_getI F fs_2_111 h24.1 rfl d_Hub_addComputed_83 ?_
  refine g_putI F fw_2_111 h4.1 rfl d_Hub_addComputed_86 ?_
  refine g_ltM (fun σ37 _ => ?_)
  refine g_aload F d_Hub_addComputed_89 2 rfl ?_
  refine g_callV F (dp := 1) (ci := 4) (As := []) (c_Sen_becomeIdle l _ h4 _) cv_2_114 h4.1 rfl rfl rfl (Nat.le_of_ble_eq_true rfl) ⟨Nat.le_of_ble_eq_true rfl, Nat.le_of_ble_eq_true rfl⟩ ⟨Nat.zero_le _, Nat.zero_le _⟩ d_Hub_addComputed_91 (fun _ σ39 h42 => ?_)
  refine g_aload_n F d_Hub_addComputed_94 4 rfl ?_
  refine g_dup F d_Hub_addComputed_95 rfl ?_
  refine g_getI F fs_2_59 hq.1 rfl d_Hub_addComputed_96 ?_
  refine g_iconst F (v := 1) d_Hub_addComputed_99 (by decide) ?_
  refine g_iadd F d_Hub_addComputed_100 ?_
  refine g_putI F fw_2_59 hq.1 rfl d_Hub_addComputed_101 ?_
  refine g_ltM (fun σ40 _ => ?_)
  refine g_iload F d_Hub_addComputed_104 3 rfl ?_
  exact g_iret F hlk hr d_Hub_addComputed_106
def y_Hub_clientCount : MethodName := ⟨"SensorHub$Hub", "clientCount", "()I"⟩
theorem d_Hub_clientCount_0 : decode prog_4_method_13_code 0 = .ok (.iconst 0, 1) := by decide +kernel
theorem d_Hub_clientCount_1 : decode prog_4_method_13_code 1 = .ok (.istore_n 1, 1) := by decide +kernel
theorem d_Hub_clientCount_2 : decode prog_4_method_13_code 2 = .ok (.iconst 0, 1) := by decide +kernel
theorem d_Hub_clientCount_3 : decode prog_4_method_13_code 3 = .ok (.istore_n 2, 1) := by decide +kernel
theorem d_Hub_clientCount_4 : decode prog_4_method_13_code 4 = .ok (.iload_n 2, 1) := by decide +kernel
theorem d_Hub_clientCount_5 : decode prog_4_method_13_code 5 = .ok (.bipush 8, 2) := by decide +kernel
theorem d_Hub_clientCount_7 : decode prog_4_method_13_code 7 = .ok (.if_icmp .ge 20, 3) := by decide +kernel
theorem d_Hub_clientCount_10 : decode prog_4_method_13_code 10 = .ok (.aload_n 0, 1) := by decide +kernel
theorem d_Hub_clientCount_11 : decode prog_4_method_13_code 11 = .ok (.iload_n 2, 1) := by decide +kernel
theorem d_Hub_clientCount_12 : decode prog_4_method_13_code 12 = .ok (.invokevirtual 130, 3) := by decide +kernel
theorem d_Hub_clientCount_15 : decode prog_4_method_13_code 15 = .ok (.ifnull 6, 3) := by decide +kernel
theorem d_Hub_clientCount_18 : decode prog_4_method_13_code 18 = .ok (.iinc 1 1, 3) := by decide +kernel
theorem d_Hub_clientCount_21 : decode prog_4_method_13_code 21 = .ok (.iinc 2 1, 3) := by decide +kernel
theorem d_Hub_clientCount_24 : decode prog_4_method_13_code 24 = .ok (.goto (-20), 3) := by decide +kernel
theorem d_Hub_clientCount_27 : decode prog_4_method_13_code 27 = .ok (.iload_n 1, 1) := by decide +kernel
theorem d_Hub_clientCount_28 : decode prog_4_method_13_code 28 = .ok (.ireturn, 1) := by decide +kernel
theorem cv_2_130 : CSV "SensorHub$Hub" 130 y_Hub_clientAt prog_4_method_7_code 3 (some (.object "SensorHub$Client")) 1 := ⟨gw_I 508 (by decide +kernel) rfl, gw_I 509 (by decide +kernel) rfl, gw_I 510 (by decide +kernel) rfl, gw_I 71 (by decide +kernel) rfl, gw_I 511 (by decide +kernel) rfl, ⟨by decide +kernel, by decide +kernel⟩, by decide +kernel⟩
def L_Hub_clientCount_4 (r0 : Nat) (k : Int32 → Mem → Option (Int32 × Mem)) : Nat → Int32 → Int32 → Mem → Option (Int32 × Mem)
  | 0, _, _, _ => none
  | n + 1, x1, x2, σ =>
    if (8 : Int32) ≤ x2 then
      k x1 σ
    else
      bd (f_Hub_clientAt r0 x2 σ) fun r1 σ2 =>
      oe r1 (
        L_Hub_clientCount_4 r0 k n x1 (x2 + 1) σ2
      ) (fun o3 =>
        L_Hub_clientCount_4 r0 k n (x1 + 1) (x2 + 1) σ2
      )
def f_Hub_clientCount (q : Nat) (σ : Mem) : Option (Int32 × Mem) :=
  L_Hub_clientCount_4 q (fun z4 σ5 =>
    some (z4, σ5)) FU (0 : Int32) (0 : Int32) σ
set_option maxRecDepth 100000 in
set_option maxHeartbeats 4000000 in
theorem l_L_Hub_clientCount_4 {X : CX} {p : Program} {l : Launch} {e : Env} {s : State} {m : MethodId} {args : Array Value} {below : List Frame} {meth : Method} {c : Code} (F : FR p s m args c prog_4_method_13_code 3 "SensorHub$Hub" X) (hlk : meth.locks = false) (hr : meth.sig.returnType = some .int) (r0 : Nat) (hr0 : HubOK X r0) (k : Int32 → Mem → Option (Int32 × Mem)) (hk : ∀ (x1 : Int32) (σ : Mem), G X p l e (rmD 1) s m args below meth c 3 0 0 (QI X below args s vI) 27 [(1, .int x1)] [] σ (k x1 σ)) : ∀ (n : Nat) (x1 : Int32) (x2 : Int32) (σ : Mem), G X p l e (rmD 1) s m args below meth c 3 0 0 (QI X below args s vI) 4 [(0, .ref (xa X r0)), (1, .int x1), (2, .int x2)] [] σ (L_Hub_clientCount_4 r0 k n x1 x2 σ) := by
  intro n
  induction n with
  | zero => intros; exact g_no
  | succ n ih =>
    intro x1 x2 σ
    unfold L_Hub_clientCount_4
    refine g_iload_n F d_Hub_clientCount_4 2 rfl ?_
    refine g_bipush F (v := 8) d_Hub_clientCount_5 (by decide) ?_
    refine g_icmp_ge F (tgt := 27) d_Hub_clientCount_7 (by decide) (fun h1 => ?_) (fun h2 => ?_)
    · exact g_sub [1] rfl (hk _ _)
    refine g_aload_n F d_Hub_clientCount_10 0 rfl ?_
    refine g_iload_n F d_Hub_clientCount_11 2 rfl ?_
    refine g_callV F (dp := 0) (ci := 2) (As := [.int x2]) (c_Hub_clientAt l _ _ hr0 _) cv_2_130 hr0.1 rfl rfl rfl (Nat.le_of_ble_eq_true rfl) ⟨Nat.le_of_ble_eq_true rfl, Nat.le_of_ble_eq_true rfl⟩ ⟨Nat.zero_le _, Nat.zero_le _⟩ d_Hub_clientCount_12 (fun r1 σ2 h3 => ?_)
    refine g_oe (fun h4 => ?_) (fun o3 h5 => ?_)
    · refine g_ifnullN F (tgt := 21) d_Hub_clientCount_15 (by decide) ?_
      refine g_iinc F (v := 1) (ls' := [(2, .int (x2 + 1)), (0, .ref (xa X r0)), (1, .int x1)]) d_Hub_clientCount_21 2 rfl (by decide) (by decide) rfl ?_
      refine g_goto F (tgt := 4) d_Hub_clientCount_24 (by decide) ?_
      exact g_sub [1, 2, 0] rfl (ih _ _ _)
    have h6 : ClientOK X o3 := ok_Hub_clientAt hr0 (h5 ▸ h3)
    refine g_ifnull F d_Hub_clientCount_15 ?_
    refine g_iinc F (v := 1) (ls' := [(1, .int (x1 + 1)), (0, .ref (xa X r0)), (2, .int x2)]) d_Hub_clientCount_18 1 rfl (by decide) (by decide) rfl ?_
    refine g_iinc F (v := 1) (ls' := [(2, .int (x2 + 1)), (1, .int (x1 + 1)), (0, .ref (xa X r0))]) d_Hub_clientCount_21 2 rfl (by decide) (by decide) rfl ?_
    refine g_goto F (tgt := 4) d_Hub_clientCount_24 (by decide) ?_
    exact g_sub [2, 1, 0] rfl (ih _ _ _)
set_option maxRecDepth 100000 in
set_option maxHeartbeats 4000000 in
theorem c_Hub_clientCount {X : CX} (l : Launch) (q : Nat) (hq : HubOK X q) (σ : Mem) : CT X l y_Hub_clientCount prog_4_method_13_code 3 (some .int) 1 vI [.ref (xa X q)] σ (f_Hub_clientCount q σ) := by
  refine CT_of (by decide +kernel) (Nat.le_of_ble_eq_true rfl) ?_
  intro p e s m args below meth c F hlk hr
  have F : FR p s m args c prog_4_method_13_code 3 "SensorHub$Hub" X := F
  show G X p l e (rmD 1) s m args below meth c 3 0 0 (QI X below args s vI) 0 [(0, .ref (xa X q))] [] σ _
  unfold f_Hub_clientCount
  refine g_iconst F (v := 0) d_Hub_clientCount_0 (by decide) ?_
  refine g_istore_n F (ls' := [(1, .int (0 : Int32)), (0, .ref (xa X q))]) d_Hub_clientCount_1 (by decide) rfl ?_
  refine g_iconst F (v := 0) d_Hub_clientCount_2 (by decide) ?_
  refine g_istore_n F (ls' := [(2, .int (0 : Int32)), (1, .int (0 : Int32)), (0, .ref (xa X q))]) d_Hub_clientCount_3 (by decide) rfl ?_
  refine g_sub [2, 1, 0] rfl (l_L_Hub_clientCount_4 F hlk hr _ hq _ (fun z4 σ5 => ?_) FU _ _ _)
  refine g_iload_n F d_Hub_clientCount_27 0 rfl ?_
  exact g_iret F hlk hr d_Hub_clientCount_28
def y_Hub_freeClientNumber : MethodName := ⟨"SensorHub$Hub", "freeClientNumber", "()I"⟩
theorem d_Hub_freeClientNumber_0 : decode prog_4_method_14_code 0 = .ok (.iconst 0, 1) := by decide +kernel
theorem d_Hub_freeClientNumber_1 : decode prog_4_method_14_code 1 = .ok (.istore_n 1, 1) := by decide +kernel
theorem d_Hub_freeClientNumber_2 : decode prog_4_method_14_code 2 = .ok (.iload_n 1, 1) := by decide +kernel
theorem d_Hub_freeClientNumber_3 : decode prog_4_method_14_code 3 = .ok (.bipush 8, 2) := by decide +kernel
theorem d_Hub_freeClientNumber_5 : decode prog_4_method_14_code 5 = .ok (.if_icmp .ge 19, 3) := by decide +kernel
theorem d_Hub_freeClientNumber_8 : decode prog_4_method_14_code 8 = .ok (.aload_n 0, 1) := by decide +kernel
theorem d_Hub_freeClientNumber_9 : decode prog_4_method_14_code 9 = .ok (.iload_n 1, 1) := by decide +kernel
theorem d_Hub_freeClientNumber_10 : decode prog_4_method_14_code 10 = .ok (.invokevirtual 130, 3) := by decide +kernel
theorem d_Hub_freeClientNumber_13 : decode prog_4_method_14_code 13 = .ok (.ifnonnull 5, 3) := by decide +kernel
theorem d_Hub_freeClientNumber_16 : decode prog_4_method_14_code 16 = .ok (.iload_n 1, 1) := by decide +kernel
theorem d_Hub_freeClientNumber_17 : decode prog_4_method_14_code 17 = .ok (.ireturn, 1) := by decide +kernel
theorem d_Hub_freeClientNumber_18 : decode prog_4_method_14_code 18 = .ok (.iinc 1 1, 3) := by decide +kernel
theorem d_Hub_freeClientNumber_21 : decode prog_4_method_14_code 21 = .ok (.goto (-19), 3) := by decide +kernel
theorem d_Hub_freeClientNumber_24 : decode prog_4_method_14_code 24 = .ok (.bipush (-9), 2) := by decide +kernel
theorem d_Hub_freeClientNumber_26 : decode prog_4_method_14_code 26 = .ok (.ireturn, 1) := by decide +kernel
def L_Hub_freeClientNumber_2 (r0 : Nat) (k : Mem → Option (Int32 × Mem)) : Nat → Int32 → Mem → Option (Int32 × Mem)
  | 0, _, _ => none
  | n + 1, x1, σ =>
    if (8 : Int32) ≤ x1 then
      k σ
    else
      bd (f_Hub_clientAt r0 x1 σ) fun r1 σ2 =>
      oe r1 (
        some (x1, σ2)
      ) (fun o3 =>
        L_Hub_freeClientNumber_2 r0 k n (x1 + 1) σ2
      )
def f_Hub_freeClientNumber (q : Nat) (σ : Mem) : Option (Int32 × Mem) :=
  L_Hub_freeClientNumber_2 q (fun σ4 =>
    some ((-9 : Int32), σ4)) FU (0 : Int32) σ
set_option maxRecDepth 100000 in
set_option maxHeartbeats 4000000 in
theorem l_L_Hub_freeClientNumber_2 {X : CX} {p : Program} {l : Launch} {e : Env} {s : State} {m : MethodId} {args : Array Value} {below : List Frame} {meth : Method} {c : Code} (F : FR p s m args c prog_4_method_14_code 2 "SensorHub$Hub" X) (hlk : meth.locks = false) (hr : meth.sig.returnType = some .int) (r0 : Nat) (hr0 : HubOK X r0) (k : Mem → Option (Int32 × Mem)) (hk : ∀  (σ : Mem), G X p l e (rmD 1) s m args below meth c 2 0 0 (QI X below args s vI) 24 [] [] σ (k σ)) : ∀ (n : Nat) (x1 : Int32) (σ : Mem), G X p l e (rmD 1) s m args below meth c 2 0 0 (QI X below args s vI) 2 [(0, .ref (xa X r0)), (1, .int x1)] [] σ (L_Hub_freeClientNumber_2 r0 k n x1 σ) := by
  intro n
  induction n with
  | zero => intros; exact g_no
  | succ n ih =>
    intro x1 σ
    unfold L_Hub_freeClientNumber_2
    refine g_iload_n F d_Hub_freeClientNumber_2 1 rfl ?_
    refine g_bipush F (v := 8) d_Hub_freeClientNumber_3 (by decide) ?_
    refine g_icmp_ge F (tgt := 24) d_Hub_freeClientNumber_5 (by decide) (fun h1 => ?_) (fun h2 => ?_)
    · exact g_sub [] rfl (hk  _)
    refine g_aload_n F d_Hub_freeClientNumber_8 0 rfl ?_
    refine g_iload_n F d_Hub_freeClientNumber_9 1 rfl ?_
    refine g_callV F (dp := 0) (ci := 2) (As := [.int x1]) (c_Hub_clientAt l _ _ hr0 _) cv_2_130 hr0.1 rfl rfl rfl (Nat.le_of_ble_eq_true rfl) ⟨Nat.le_of_ble_eq_true rfl, Nat.le_of_ble_eq_true rfl⟩ ⟨Nat.zero_le _, Nat.zero_le _⟩ d_Hub_freeClientNumber_10 (fun r1 σ2 h3 => ?_)
    refine g_oe (fun h4 => ?_) (fun o3 h5 => ?_)
    · refine g_ifnonnullN F d_Hub_freeClientNumber_13 ?_
      refine g_iload_n F d_Hub_freeClientNumber_16 1 rfl ?_
      exact g_iret F hlk hr d_Hub_freeClientNumber_17
    have h6 : ClientOK X o3 := ok_Hub_clientAt hr0 (h5 ▸ h3)
    refine g_ifnonnull F (tgt := 18) d_Hub_freeClientNumber_13 (by decide) ?_
    refine g_iinc F (v := 1) (ls' := [(1, .int (x1 + 1)), (0, .ref (xa X r0))]) d_Hub_freeClientNumber_18 1 rfl (by decide) (by decide) rfl ?_
    refine g_goto F (tgt := 2) d_Hub_freeClientNumber_21 (by decide) ?_
    exact g_sub [1, 0] rfl (ih _ _)
set_option maxRecDepth 100000 in
set_option maxHeartbeats 4000000 in
theorem c_Hub_freeClientNumber {X : CX} (l : Launch) (q : Nat) (hq : HubOK X q) (σ : Mem) : CT X l y_Hub_freeClientNumber prog_4_method_14_code 2 (some .int) 1 vI [.ref (xa X q)] σ (f_Hub_freeClientNumber q σ) := by
  refine CT_of (by decide +kernel) (Nat.le_of_ble_eq_true rfl) ?_
  intro p e s m args below meth c F hlk hr
  have F : FR p s m args c prog_4_method_14_code 2 "SensorHub$Hub" X := F
  show G X p l e (rmD 1) s m args below meth c 2 0 0 (QI X below args s vI) 0 [(0, .ref (xa X q))] [] σ _
  unfold f_Hub_freeClientNumber
  refine g_iconst F (v := 0) d_Hub_freeClientNumber_0 (by decide) ?_
  refine g_istore_n F (ls' := [(1, .int (0 : Int32)), (0, .ref (xa X q))]) d_Hub_freeClientNumber_1 (by decide) rfl ?_
  refine g_sub [1, 0] rfl (l_L_Hub_freeClientNumber_2 F hlk hr _ hq _ (fun σ4 => ?_) FU _ _)
  refine g_bipush F (v := (-9)) d_Hub_freeClientNumber_24 (by decide) ?_
  exact g_iret F hlk hr d_Hub_freeClientNumber_26
def y_Hub_demandAtMost : MethodName := ⟨"SensorHub$Hub", "demandAtMost", "(II)V"⟩
theorem d_Hub_demandAtMost_0 : decode prog_4_method_19_code 0 = .ok (.aload_n 0, 1) := by decide +kernel
theorem d_Hub_demandAtMost_1 : decode prog_4_method_19_code 1 = .ok (.iload_n 1, 1) := by decide +kernel
theorem d_Hub_demandAtMost_2 : decode prog_4_method_19_code 2 = .ok (.invokevirtual 101, 3) := by decide +kernel
theorem d_Hub_demandAtMost_5 : decode prog_4_method_19_code 5 = .ok (.astore_n 3, 1) := by decide +kernel
theorem d_Hub_demandAtMost_6 : decode prog_4_method_19_code 6 = .ok (.aload_n 3, 1) := by decide +kernel
theorem d_Hub_demandAtMost_7 : decode prog_4_method_19_code 7 = .ok (.ifnull 8, 3) := by decide +kernel
theorem d_Hub_demandAtMost_10 : decode prog_4_method_19_code 10 = .ok (.aload_n 3, 1) := by decide +kernel
theorem d_Hub_demandAtMost_11 : decode prog_4_method_19_code 11 = .ok (.iload_n 2, 1) := by decide +kernel
theorem d_Hub_demandAtMost_12 : decode prog_4_method_19_code 12 = .ok (.invokevirtual 175, 3) := by decide +kernel
theorem d_Hub_demandAtMost_15 : decode prog_4_method_19_code 15 = .ok (.return_, 1) := by decide +kernel
theorem cv_2_175 : CSV "SensorHub$Hub" 175 y_Sen_demandAtMost prog_6_method_6_code 2 none 1 := ⟨gw_I 547 (by decide +kernel) rfl, gw_I 548 (by decide +kernel) rfl, gw_I 549 (by decide +kernel) rfl, gw_I 74 (by decide +kernel) rfl, gw_I 550 (by decide +kernel) rfl, ⟨by decide +kernel, by decide +kernel⟩, by decide +kernel⟩
def f_Hub_demandAtMost (q : Nat) (p1 : Int32) (p2 : Int32) (σ : Mem) : Option (Unit × Mem) :=
  bd (f_Hub_sensorAt q p1 σ) fun r1 σ2 =>
  oe r1 (
    some ((), σ2)
  ) (fun o3 =>
    bd (f_Sen_demandAtMost o3 p2 σ2) fun _ σ5 =>
    some ((), σ5)
  )
set_option maxRecDepth 100000 in
set_option maxHeartbeats 4000000 in
theorem c_Hub_demandAtMost {X : CX} (l : Launch) (q : Nat) (p1 : Int32) (p2 : Int32) (hq : HubOK X q) (σ : Mem) : CT X l y_Hub_demandAtMost prog_4_method_19_code 4 none 1 vU [.ref (xa X q), .int p1, .int p2] σ (f_Hub_demandAtMost q p1 p2 σ) := by
  refine CT_of (by decide +kernel) (Nat.le_of_ble_eq_true rfl) ?_
  intro p e s m args below meth c F hlk hr
  have F : FR p s m args c prog_4_method_19_code 4 "SensorHub$Hub" X := F
  show G X p l e (rmD 1) s m args below meth c 4 0 0 (QI X below args s vU) 0 [(0, .ref (xa X q)), (1, .int p1), (2, .int p2)] [] σ _
  unfold f_Hub_demandAtMost
  refine g_aload_n F d_Hub_demandAtMost_0 0 rfl ?_
  refine g_iload_n F d_Hub_demandAtMost_1 1 rfl ?_
  refine g_callV F (dp := 0) (ci := 2) (As := [.int p1]) (c_Hub_sensorAt l _ _ hq _) cv_2_101 hq.1 rfl rfl rfl (Nat.le_of_ble_eq_true rfl) ⟨Nat.le_of_ble_eq_true rfl, Nat.le_of_ble_eq_true rfl⟩ ⟨Nat.zero_le _, Nat.zero_le _⟩ d_Hub_demandAtMost_2 (fun r1 σ2 h1 => ?_)
  refine g_oe (fun h2 => ?_) (fun o3 h3 => ?_)
  · refine g_astore_nN F (ls' := [(3, .null), (0, .ref (xa X q)), (1, .int p1), (2, .int p2)]) d_Hub_demandAtMost_5 (by decide) rfl ?_
    refine g_aload_nN F d_Hub_demandAtMost_6 0 rfl ?_
    refine g_ifnullN F (tgt := 15) d_Hub_demandAtMost_7 (by decide) ?_
    exact g_vret F hlk hr d_Hub_demandAtMost_15
  have h4 : SensorOK X o3 := ok_Hub_sensorAt hq (h3 ▸ h1)
  refine g_astore_n F (ls' := [(3, .ref (xa X o3)), (0, .ref (xa X q)), (1, .int p1), (2, .int p2)]) d_Hub_demandAtMost_5 (by decide) rfl ?_
  refine g_aload_n F d_Hub_demandAtMost_6 0 rfl ?_
  refine g_ifnull F d_Hub_demandAtMost_7 ?_
  refine g_aload_n F d_Hub_demandAtMost_10 0 rfl ?_
  refine g_iload_n F d_Hub_demandAtMost_11 3 rfl ?_
  refine g_callV F (dp := 0) (ci := 4) (As := [.int p2]) (c_Sen_demandAtMost l _ _ h4 _) cv_2_175 h4.1 rfl rfl rfl (Nat.le_of_ble_eq_true rfl) ⟨Nat.le_of_ble_eq_true rfl, Nat.le_of_ble_eq_true rfl⟩ ⟨Nat.zero_le _, Nat.zero_le _⟩ d_Hub_demandAtMost_12 (fun _ σ5 h5 => ?_)
  exact g_vret F hlk hr d_Hub_demandAtMost_15
def y_Hub_setDemands : MethodName := ⟨"SensorHub$Hub", "setDemands", "()V"⟩
theorem d_Hub_setDemands_0 : decode prog_4_method_18_code 0 = .ok (.iconst 0, 1) := by decide +kernel
theorem d_Hub_setDemands_1 : decode prog_4_method_18_code 1 = .ok (.istore_n 1, 1) := by decide +kernel
theorem d_Hub_setDemands_2 : decode prog_4_method_18_code 2 = .ok (.iload_n 1, 1) := by decide +kernel
theorem d_Hub_setDemands_3 : decode prog_4_method_18_code 3 = .ok (.bipush 8, 2) := by decide +kernel
theorem d_Hub_setDemands_5 : decode prog_4_method_18_code 5 = .ok (.if_icmp .ge 25, 3) := by decide +kernel
theorem d_Hub_setDemands_8 : decode prog_4_method_18_code 8 = .ok (.aload_n 0, 1) := by decide +kernel
theorem d_Hub_setDemands_9 : decode prog_4_method_18_code 9 = .ok (.iload_n 1, 1) := by decide +kernel
theorem d_Hub_setDemands_10 : decode prog_4_method_18_code 10 = .ok (.invokevirtual 101, 3) := by decide +kernel
theorem d_Hub_setDemands_13 : decode prog_4_method_18_code 13 = .ok (.astore_n 2, 1) := by decide +kernel
theorem d_Hub_setDemands_14 : decode prog_4_method_18_code 14 = .ok (.aload_n 2, 1) := by decide +kernel
theorem d_Hub_setDemands_15 : decode prog_4_method_18_code 15 = .ok (.ifnull 9, 3) := by decide +kernel
theorem d_Hub_setDemands_18 : decode prog_4_method_18_code 18 = .ok (.aload_n 2, 1) := by decide +kernel
theorem d_Hub_setDemands_19 : decode prog_4_method_18_code 19 = .ok (.bipush (-9), 2) := by decide +kernel
theorem d_Hub_setDemands_21 : decode prog_4_method_18_code 21 = .ok (.putfield 162, 3) := by decide +kernel
theorem d_Hub_setDemands_24 : decode prog_4_method_18_code 24 = .ok (.iinc 1 1, 3) := by decide +kernel
theorem d_Hub_setDemands_27 : decode prog_4_method_18_code 27 = .ok (.goto (-25), 3) := by decide +kernel
theorem d_Hub_setDemands_30 : decode prog_4_method_18_code 30 = .ok (.iconst 0, 1) := by decide +kernel
theorem d_Hub_setDemands_31 : decode prog_4_method_18_code 31 = .ok (.istore_n 1, 1) := by decide +kernel
theorem d_Hub_setDemands_32 : decode prog_4_method_18_code 32 = .ok (.iload_n 1, 1) := by decide +kernel
theorem d_Hub_setDemands_33 : decode prog_4_method_18_code 33 = .ok (.bipush 8, 2) := by decide +kernel
theorem d_Hub_setDemands_35 : decode prog_4_method_18_code 35 = .ok (.if_icmp .ge 31, 3) := by decide +kernel
theorem d_Hub_setDemands_38 : decode prog_4_method_18_code 38 = .ok (.aload_n 0, 1) := by decide +kernel
theorem d_Hub_setDemands_39 : decode prog_4_method_18_code 39 = .ok (.iload_n 1, 1) := by decide +kernel
theorem d_Hub_setDemands_40 : decode prog_4_method_18_code 40 = .ok (.invokevirtual 130, 3) := by decide +kernel
theorem d_Hub_setDemands_43 : decode prog_4_method_18_code 43 = .ok (.astore_n 2, 1) := by decide +kernel
theorem d_Hub_setDemands_44 : decode prog_4_method_18_code 44 = .ok (.aload_n 2, 1) := by decide +kernel
theorem d_Hub_setDemands_45 : decode prog_4_method_18_code 45 = .ok (.ifnull 15, 3) := by decide +kernel
theorem d_Hub_setDemands_48 : decode prog_4_method_18_code 48 = .ok (.aload_n 0, 1) := by decide +kernel
theorem d_Hub_setDemands_49 : decode prog_4_method_18_code 49 = .ok (.aload_n 2, 1) := by decide +kernel
theorem d_Hub_setDemands_50 : decode prog_4_method_18_code 50 = .ok (.getfield 149, 3) := by decide +kernel
theorem d_Hub_setDemands_53 : decode prog_4_method_18_code 53 = .ok (.aload_n 2, 1) := by decide +kernel
theorem d_Hub_setDemands_54 : decode prog_4_method_18_code 54 = .ok (.getfield 152, 3) := by decide +kernel
theorem d_Hub_setDemands_57 : decode prog_4_method_18_code 57 = .ok (.invokevirtual 165, 3) := by decide +kernel
theorem d_Hub_setDemands_60 : decode prog_4_method_18_code 60 = .ok (.iinc 1 1, 3) := by decide +kernel
theorem d_Hub_setDemands_63 : decode prog_4_method_18_code 63 = .ok (.goto (-31), 3) := by decide +kernel
theorem d_Hub_setDemands_66 : decode prog_4_method_18_code 66 = .ok (.bipush 7, 2) := by decide +kernel
theorem d_Hub_setDemands_68 : decode prog_4_method_18_code 68 = .ok (.istore_n 1, 1) := by decide +kernel
theorem d_Hub_setDemands_69 : decode prog_4_method_18_code 69 = .ok (.iload_n 1, 1) := by decide +kernel
theorem d_Hub_setDemands_70 : decode prog_4_method_18_code 70 = .ok (.ifCond .lt 68, 3) := by decide +kernel
theorem d_Hub_setDemands_73 : decode prog_4_method_18_code 73 = .ok (.aload_n 0, 1) := by decide +kernel
theorem d_Hub_setDemands_74 : decode prog_4_method_18_code 74 = .ok (.iload_n 1, 1) := by decide +kernel
theorem d_Hub_setDemands_75 : decode prog_4_method_18_code 75 = .ok (.invokevirtual 101, 3) := by decide +kernel
theorem d_Hub_setDemands_78 : decode prog_4_method_18_code 78 = .ok (.astore_n 2, 1) := by decide +kernel
theorem d_Hub_setDemands_79 : decode prog_4_method_18_code 79 = .ok (.aload_n 2, 1) := by decide +kernel
theorem d_Hub_setDemands_80 : decode prog_4_method_18_code 80 = .ok (.ifnull 52, 3) := by decide +kernel
theorem d_Hub_setDemands_83 : decode prog_4_method_18_code 83 = .ok (.aload_n 2, 1) := by decide +kernel
theorem d_Hub_setDemands_84 : decode prog_4_method_18_code 84 = .ok (.getfield 104, 3) := by decide +kernel
theorem d_Hub_setDemands_87 : decode prog_4_method_18_code 87 = .ok (.iconst 4, 1) := by decide +kernel
theorem d_Hub_setDemands_88 : decode prog_4_method_18_code 88 = .ok (.if_icmp .eq 44, 3) := by decide +kernel
theorem d_Hub_setDemands_91 : decode prog_4_method_18_code 91 = .ok (.aload_n 2, 1) := by decide +kernel
theorem d_Hub_setDemands_92 : decode prog_4_method_18_code 92 = .ok (.getfield 162, 3) := by decide +kernel
theorem d_Hub_setDemands_95 : decode prog_4_method_18_code 95 = .ok (.bipush (-9), 2) := by decide +kernel
theorem d_Hub_setDemands_97 : decode prog_4_method_18_code 97 = .ok (.if_icmp .eq 35, 3) := by decide +kernel
theorem d_Hub_setDemands_100 : decode prog_4_method_18_code 100 = .ok (.aload_n 0, 1) := by decide +kernel
theorem d_Hub_setDemands_101 : decode prog_4_method_18_code 101 = .ok (.aload_n 2, 1) := by decide +kernel
theorem d_Hub_setDemands_102 : decode prog_4_method_18_code 102 = .ok (.getfield 169, 3) := by decide +kernel
theorem d_Hub_setDemands_105 : decode prog_4_method_18_code 105 = .ok (.aload_n 2, 1) := by decide +kernel
theorem d_Hub_setDemands_106 : decode prog_4_method_18_code 106 = .ok (.getfield 162, 3) := by decide +kernel
theorem d_Hub_setDemands_109 : decode prog_4_method_18_code 109 = .ok (.invokevirtual 165, 3) := by decide +kernel
theorem d_Hub_setDemands_112 : decode prog_4_method_18_code 112 = .ok (.aload_n 2, 1) := by decide +kernel
theorem d_Hub_setDemands_113 : decode prog_4_method_18_code 113 = .ok (.getfield 104, 3) := by decide +kernel
theorem d_Hub_setDemands_116 : decode prog_4_method_18_code 116 = .ok (.iconst 3, 1) := by decide +kernel
theorem d_Hub_setDemands_117 : decode prog_4_method_18_code 117 = .ok (.if_icmp .eq 15, 3) := by decide +kernel
theorem d_Hub_setDemands_120 : decode prog_4_method_18_code 120 = .ok (.aload_n 0, 1) := by decide +kernel
theorem d_Hub_setDemands_121 : decode prog_4_method_18_code 121 = .ok (.aload_n 2, 1) := by decide +kernel
theorem d_Hub_setDemands_122 : decode prog_4_method_18_code 122 = .ok (.getfield 172, 3) := by decide +kernel
theorem d_Hub_setDemands_125 : decode prog_4_method_18_code 125 = .ok (.aload_n 2, 1) := by decide +kernel
theorem d_Hub_setDemands_126 : decode prog_4_method_18_code 126 = .ok (.getfield 162, 3) := by decide +kernel
theorem d_Hub_setDemands_129 : decode prog_4_method_18_code 129 = .ok (.invokevirtual 165, 3) := by decide +kernel
theorem d_Hub_setDemands_132 : decode prog_4_method_18_code 132 = .ok (.iinc 1 (-1), 3) := by decide +kernel
theorem d_Hub_setDemands_135 : decode prog_4_method_18_code 135 = .ok (.goto (-66), 3) := by decide +kernel
theorem d_Hub_setDemands_138 : decode prog_4_method_18_code 138 = .ok (.return_, 1) := by decide +kernel
theorem fw_2_162 : FW "SensorHub$Hub" 162 4 10 .int := ⟨"SensorHub$Sensor", T_4, 18, rfl, by decide, rfl, gw_I 167 (by decide +kernel) rfl, rfl, by decide +kernel⟩
theorem fs_2_149 : FS "SensorHub$Hub" 149 0 1 := ⟨"SensorHub$Client", T_0, 11, rfl, by decide, rfl, gw_I 229 (by decide +kernel) rfl⟩
theorem fs_2_152 : FS "SensorHub$Hub" 152 0 2 := ⟨"SensorHub$Client", T_0, 11, rfl, by decide, rfl, gw_I 232 (by decide +kernel) rfl⟩
theorem cv_2_165 : CSV "SensorHub$Hub" 165 y_Hub_demandAtMost prog_4_method_19_code 4 none 2 := ⟨gw_I 543 (by decide +kernel) rfl, gw_I 545 (by decide +kernel) rfl, gw_I 4 (by decide +kernel) rfl, gw_I 71 (by decide +kernel) rfl, gw_I 546 (by decide +kernel) rfl, ⟨by decide +kernel, by decide +kernel⟩, by decide +kernel⟩
theorem fs_2_162 : FS "SensorHub$Hub" 162 4 10 := ⟨"SensorHub$Sensor", T_4, 18, rfl, by decide, rfl, gw_I 167 (by decide +kernel) rfl⟩
theorem fs_2_169 : FS "SensorHub$Hub" 169 4 7 := ⟨"SensorHub$Sensor", T_4, 18, rfl, by decide, rfl, gw_I 159 (by decide +kernel) rfl⟩
theorem fs_2_172 : FS "SensorHub$Hub" 172 4 8 := ⟨"SensorHub$Sensor", T_4, 18, rfl, by decide, rfl, gw_I 161 (by decide +kernel) rfl⟩
def L_Hub_setDemands_2 (r0 : Nat) (k : Mem → Option (Unit × Mem)) : Nat → Int32 → Mem → Option (Unit × Mem)
  | 0, _, _ => none
  | n + 1, x1, σ =>
    if (8 : Int32) ≤ x1 then
      k σ
    else
      bd (f_Hub_sensorAt r0 x1 σ) fun r1 σ2 =>
      oe r1 (
        L_Hub_setDemands_2 r0 k n (x1 + 1) σ2
      ) (fun o3 =>
        lt (wr σ2 o3 10 (-9 : Int32)) fun σ4 =>
        L_Hub_setDemands_2 r0 k n (x1 + 1) σ4
      )
def L_Hub_setDemands_32 (r0 : Nat) (k : Mem → Option (Unit × Mem)) : Nat → Int32 → Mem → Option (Unit × Mem)
  | 0, _, _ => none
  | n + 1, x1, σ =>
    if (8 : Int32) ≤ x1 then
      k σ
    else
      bd (f_Hub_clientAt r0 x1 σ) fun r6 σ7 =>
      oe r6 (
        L_Hub_setDemands_32 r0 k n (x1 + 1) σ7
      ) (fun o8 =>
        bd (f_Hub_demandAtMost r0 (σ7 o8 1) (σ7 o8 2) σ7) fun _ σ10 =>
        L_Hub_setDemands_32 r0 k n (x1 + 1) σ10
      )
def L_Hub_setDemands_69 (r0 : Nat) (k : Mem → Option (Unit × Mem)) : Nat → Int32 → Mem → Option (Unit × Mem)
  | 0, _, _ => none
  | n + 1, x1, σ =>
    if x1 < 0 then
      k σ
    else
      bd (f_Hub_sensorAt r0 x1 σ) fun r12 σ13 =>
      oe r12 (
        L_Hub_setDemands_69 r0 k n (x1 + (-1)) σ13
      ) (fun o14 =>
        if (σ13 o14 0) = (4 : Int32) then
          L_Hub_setDemands_69 r0 k n (x1 + (-1)) σ13
        else
          if (σ13 o14 10) = (-9 : Int32) then
            L_Hub_setDemands_69 r0 k n (x1 + (-1)) σ13
          else
            bd (f_Hub_demandAtMost r0 (σ13 o14 7) (σ13 o14 10) σ13) fun _ σ16 =>
            if (σ16 o14 0) = (3 : Int32) then
              L_Hub_setDemands_69 r0 k n (x1 + (-1)) σ16
            else
              bd (f_Hub_demandAtMost r0 (σ16 o14 8) (σ16 o14 10) σ16) fun _ σ18 =>
              L_Hub_setDemands_69 r0 k n (x1 + (-1)) σ18
      )
def f_Hub_setDemands (q : Nat) (σ : Mem) : Option (Unit × Mem) :=
  L_Hub_setDemands_2 q (fun σ5 =>
    L_Hub_setDemands_32 q (fun σ11 =>
      L_Hub_setDemands_69 q (fun σ19 =>
        some ((), σ19)) FU (7 : Int32) σ11) FU (0 : Int32) σ5) FU (0 : Int32) σ
set_option maxRecDepth 100000 in
set_option maxHeartbeats 4000000 in
theorem l_L_Hub_setDemands_2 {X : CX} {p : Program} {l : Launch} {e : Env} {s : State} {m : MethodId} {args : Array Value} {below : List Frame} {meth : Method} {c : Code} (F : FR p s m args c prog_4_method_18_code 3 "SensorHub$Hub" X) (hlk : meth.locks = false) (hr : meth.sig.returnType = none) (r0 : Nat) (hr0 : HubOK X r0) (k : Mem → Option (Unit × Mem)) (hk : ∀  (σ : Mem), G X p l e (rmD 2) s m args below meth c 3 0 0 (QI X below args s vU) 30 [(0, .ref (xa X r0))] [] σ (k σ)) : ∀ (n : Nat) (x1 : Int32) (σ : Mem), G X p l e (rmD 2) s m args below meth c 3 0 0 (QI X below args s vU) 2 [(0, .ref (xa X r0)), (1, .int x1)] [] σ (L_Hub_setDemands_2 r0 k n x1 σ) := by
  intro n
  induction n with
  | zero => intros; exact g_no
  | succ n ih =>
    intro x1 σ
    unfold L_Hub_setDemands_2
    refine g_iload_n F d_Hub_setDemands_2 1 rfl ?_
    refine g_bipush F (v := 8) d_Hub_setDemands_3 (by decide) ?_
    refine g_icmp_ge F (tgt := 30) d_Hub_setDemands_5 (by decide) (fun h1 => ?_) (fun h2 => ?_)
    · exact g_sub [0] rfl (hk  _)
    refine g_aload_n F d_Hub_setDemands_8 0 rfl ?_
    refine g_iload_n F d_Hub_setDemands_9 1 rfl ?_
    refine g_callV F (dp := 0) (ci := 2) (As := [.int x1]) (c_Hub_sensorAt l _ _ hr0 _) cv_2_101 hr0.1 rfl rfl rfl (Nat.le_of_ble_eq_true rfl) ⟨Nat.le_of_ble_eq_true rfl, Nat.le_of_ble_eq_true rfl⟩ ⟨Nat.zero_le _, Nat.zero_le _⟩ d_Hub_setDemands_10 (fun r1 σ2 h3 => ?_)
    refine g_oe (fun h4 => ?_) (fun o3 h5 => ?_)
    · refine g_astore_nN F (ls' := [(2, .null), (0, .ref (xa X r0)), (1, .int x1)]) d_Hub_setDemands_13 (by decide) rfl ?_
      refine g_aload_nN F d_Hub_setDemands_14 0 rfl ?_
      refine g_ifnullN F (tgt := 24) d_Hub_setDemands_15 (by decide) ?_
      refine g_iinc F (v := 1) (ls' := [(1, .int (x1 + 1)), (2, .null), (0, .ref (xa X r0))]) d_Hub_setDemands_24 2 rfl (by decide) (by decide) rfl ?_
      refine g_goto F (tgt := 2) d_Hub_setDemands_27 (by decide) ?_
      exact g_sub [2, 0] rfl (ih _ _)
    have h6 : SensorOK X o3 := ok_Hub_sensorAt hr0 (h5 ▸ h3)
    refine g_astore_n F (ls' := [(2, .ref (xa X o3)), (0, .ref (xa X r0)), (1, .int x1)]) d_Hub_setDemands_13 (by decide) rfl ?_
    refine g_aload_n F d_Hub_setDemands_14 0 rfl ?_
    refine g_ifnull F d_Hub_setDemands_15 ?_
    refine g_aload_n F d_Hub_setDemands_18 0 rfl ?_
    refine g_bipush F (v := (-9)) d_Hub_setDemands_19 (by decide) ?_
    refine g_putI F fw_2_162 h6.1 rfl d_Hub_setDemands_21 ?_
    refine g_ltM (fun σ4 _ => ?_)
    refine g_iinc F (v := 1) (ls' := [(1, .int (x1 + 1)), (2, .ref (xa X o3)), (0, .ref (xa X r0))]) d_Hub_setDemands_24 2 rfl (by decide) (by decide) rfl ?_
    refine g_goto F (tgt := 2) d_Hub_setDemands_27 (by decide) ?_
    exact g_sub [2, 0] rfl (ih _ _)
set_option maxRecDepth 100000 in
set_option maxHeartbeats 4000000 in
theorem l_L_Hub_setDemands_32 {X : CX} {p : Program} {l : Launch} {e : Env} {s : State} {m : MethodId} {args : Array Value} {below : List Frame} {meth : Method} {c : Code} (F : FR p s m args c prog_4_method_18_code 3 "SensorHub$Hub" X) (hlk : meth.locks = false) (hr : meth.sig.returnType = none) (r0 : Nat) (hr0 : HubOK X r0) (k : Mem → Option (Unit × Mem)) (hk : ∀  (σ : Mem), G X p l e (rmD 2) s m args below meth c 3 0 0 (QI X below args s vU) 66 [(0, .ref (xa X r0))] [] σ (k σ)) : ∀ (n : Nat) (x1 : Int32) (σ : Mem), G X p l e (rmD 2) s m args below meth c 3 0 0 (QI X below args s vU) 32 [(0, .ref (xa X r0)), (1, .int x1)] [] σ (L_Hub_setDemands_32 r0 k n x1 σ) := by
  intro n
  induction n with
  | zero => intros; exact g_no
  | succ n ih =>
    intro x1 σ
    unfold L_Hub_setDemands_32
    refine g_iload_n F d_Hub_setDemands_32 1 rfl ?_
    refine g_bipush F (v := 8) d_Hub_setDemands_33 (by decide) ?_
    refine g_icmp_ge F (tgt := 66) d_Hub_setDemands_35 (by decide) (fun h7 => ?_) (fun h8 => ?_)
    · exact g_sub [0] rfl (hk  _)
    refine g_aload_n F d_Hub_setDemands_38 0 rfl ?_
    refine g_iload_n F d_Hub_setDemands_39 1 rfl ?_
    refine g_callV F (dp := 0) (ci := 2) (As := [.int x1]) (c_Hub_clientAt l _ _ hr0 _) cv_2_130 hr0.1 rfl rfl rfl (Nat.le_of_ble_eq_true rfl) ⟨Nat.le_of_ble_eq_true rfl, Nat.le_of_ble_eq_true rfl⟩ ⟨Nat.zero_le _, Nat.zero_le _⟩ d_Hub_setDemands_40 (fun r6 σ7 h9 => ?_)
    refine g_oe (fun h10 => ?_) (fun o8 h11 => ?_)
    · refine g_astore_nN F (ls' := [(2, .null), (0, .ref (xa X r0)), (1, .int x1)]) d_Hub_setDemands_43 (by decide) rfl ?_
      refine g_aload_nN F d_Hub_setDemands_44 0 rfl ?_
      refine g_ifnullN F (tgt := 60) d_Hub_setDemands_45 (by decide) ?_
      refine g_iinc F (v := 1) (ls' := [(1, .int (x1 + 1)), (2, .null), (0, .ref (xa X r0))]) d_Hub_setDemands_60 2 rfl (by decide) (by decide) rfl ?_
      refine g_goto F (tgt := 32) d_Hub_setDemands_63 (by decide) ?_
      exact g_sub [2, 0] rfl (ih _ _)
    have h12 : ClientOK X o8 := ok_Hub_clientAt hr0 (h11 ▸ h9)
    refine g_astore_n F (ls' := [(2, .ref (xa X o8)), (0, .ref (xa X r0)), (1, .int x1)]) d_Hub_setDemands_43 (by decide) rfl ?_
    refine g_aload_n F d_Hub_setDemands_44 0 rfl ?_
    refine g_ifnull F d_Hub_setDemands_45 ?_
    refine g_aload_n F d_Hub_setDemands_48 1 rfl ?_
    refine g_aload_n F d_Hub_setDemands_49 0 rfl ?_
    refine g_getI F fs_2_149 h12.1 rfl d_Hub_setDemands_50 ?_
    refine g_aload_n F d_Hub_setDemands_53 0 rfl ?_
    refine g_getI F fs_2_152 h12.1 rfl d_Hub_setDemands_54 ?_
    refine g_callV F (dp := 1) (ci := 2) (As := [.int (σ7 o8 1), .int (σ7 o8 2)]) (c_Hub_demandAtMost l _ _ _ hr0 _) cv_2_165 hr0.1 rfl rfl rfl (Nat.le_of_ble_eq_true rfl) ⟨Nat.le_of_ble_eq_true rfl, Nat.le_of_ble_eq_true rfl⟩ ⟨Nat.zero_le _, Nat.zero_le _⟩ d_Hub_setDemands_57 (fun _ σ10 h13 => ?_)
    refine g_iinc F (v := 1) (ls' := [(1, .int (x1 + 1)), (2, .ref (xa X o8)), (0, .ref (xa X r0))]) d_Hub_setDemands_60 2 rfl (by decide) (by decide) rfl ?_
    refine g_goto F (tgt := 32) d_Hub_setDemands_63 (by decide) ?_
    exact g_sub [2, 0] rfl (ih _ _)
set_option maxRecDepth 100000 in
set_option maxHeartbeats 4000000 in
theorem l_L_Hub_setDemands_69 {X : CX} {p : Program} {l : Launch} {e : Env} {s : State} {m : MethodId} {args : Array Value} {below : List Frame} {meth : Method} {c : Code} (F : FR p s m args c prog_4_method_18_code 3 "SensorHub$Hub" X) (hlk : meth.locks = false) (hr : meth.sig.returnType = none) (r0 : Nat) (hr0 : HubOK X r0) (k : Mem → Option (Unit × Mem)) (hk : ∀  (σ : Mem), G X p l e (rmD 2) s m args below meth c 3 0 0 (QI X below args s vU) 138 [] [] σ (k σ)) : ∀ (n : Nat) (x1 : Int32) (σ : Mem), G X p l e (rmD 2) s m args below meth c 3 0 0 (QI X below args s vU) 69 [(0, .ref (xa X r0)), (1, .int x1)] [] σ (L_Hub_setDemands_69 r0 k n x1 σ) := by
  intro n
  induction n with
  | zero => intros; exact g_no
  | succ n ih =>
    intro x1 σ
    unfold L_Hub_setDemands_69
    refine g_iload_n F d_Hub_setDemands_69 1 rfl ?_
    refine g_if_lt F (tgt := 138) d_Hub_setDemands_70 (by decide) (fun h14 => ?_) (fun h15 => ?_)
    · exact g_sub [] rfl (hk  _)
    refine g_aload_n F d_Hub_setDemands_73 0 rfl ?_
    refine g_iload_n F d_Hub_setDemands_74 1 rfl ?_
    refine g_callV F (dp := 0) (ci := 2) (As := [.int x1]) (c_Hub_sensorAt l _ _ hr0 _) cv_2_101 hr0.1 rfl rfl rfl (Nat.le_of_ble_eq_true rfl) ⟨Nat.le_of_ble_eq_true rfl, Nat.le_of_ble_eq_true rfl⟩ ⟨Nat.zero_le _, Nat.zero_le _⟩ d_Hub_setDemands_75 (fun r12 σ13 h16 => ?_)
    refine g_oe (fun h17 => ?_) (fun o14 h18 => ?_)
    · refine g_astore_nN F (ls' := [(2, .null), (0, .ref (xa X r0)), (1, .int x1)]) d_Hub_setDemands_78 (by decide) rfl ?_
      refine g_aload_nN F d_Hub_setDemands_79 0 rfl ?_
      refine g_ifnullN F (tgt := 132) d_Hub_setDemands_80 (by decide) ?_
      refine g_iinc F (v := (-1)) (ls' := [(1, .int (x1 + (-1))), (2, .null), (0, .ref (xa X r0))]) d_Hub_setDemands_132 2 rfl (by decide) (by decide) rfl ?_
      refine g_goto F (tgt := 69) d_Hub_setDemands_135 (by decide) ?_
      exact g_sub [2, 0] rfl (ih _ _)
    have h19 : SensorOK X o14 := ok_Hub_sensorAt hr0 (h18 ▸ h16)
    refine g_astore_n F (ls' := [(2, .ref (xa X o14)), (0, .ref (xa X r0)), (1, .int x1)]) d_Hub_setDemands_78 (by decide) rfl ?_
    refine g_aload_n F d_Hub_setDemands_79 0 rfl ?_
    refine g_ifnull F d_Hub_setDemands_80 ?_
    refine g_aload_n F d_Hub_setDemands_83 0 rfl ?_
    refine g_getI F fs_2_104 h19.1 rfl d_Hub_setDemands_84 ?_
    refine g_iconst F (v := 4) d_Hub_setDemands_87 (by decide) ?_
    refine g_icmp_eq F (tgt := 132) d_Hub_setDemands_88 (by decide) (fun h20 => ?_) (fun h21 => ?_)
    · refine g_iinc F (v := (-1)) (ls' := [(1, .int (x1 + (-1))), (2, .ref (xa X o14)), (0, .ref (xa X r0))]) d_Hub_setDemands_132 2 rfl (by decide) (by decide) rfl ?_
      refine g_goto F (tgt := 69) d_Hub_setDemands_135 (by decide) ?_
      exact g_sub [2, 0] rfl (ih _ _)
    refine g_aload_n F d_Hub_setDemands_91 0 rfl ?_
    refine g_getI F fs_2_162 h19.1 rfl d_Hub_setDemands_92 ?_
    refine g_bipush F (v := (-9)) d_Hub_setDemands_95 (by decide) ?_
    refine g_icmp_eq F (tgt := 132) d_Hub_setDemands_97 (by decide) (fun h22 => ?_) (fun h23 => ?_)
    · refine g_iinc F (v := (-1)) (ls' := [(1, .int (x1 + (-1))), (2, .ref (xa X o14)), (0, .ref (xa X r0))]) d_Hub_setDemands_132 2 rfl (by decide) (by decide) rfl ?_
      refine g_goto F (tgt := 69) d_Hub_setDemands_135 (by decide) ?_
      exact g_sub [2, 0] rfl (ih _ _)
    refine g_aload_n F d_Hub_setDemands_100 1 rfl ?_
    refine g_aload_n F d_Hub_setDemands_101 0 rfl ?_
    refine g_getI F fs_2_169 h19.1 rfl d_Hub_setDemands_102 ?_
    refine g_aload_n F d_Hub_setDemands_105 0 rfl ?_
    refine g_getI F fs_2_162 h19.1 rfl d_Hub_setDemands_106 ?_
    refine g_callV F (dp := 1) (ci := 2) (As := [.int (σ13 o14 7), .int (σ13 o14 10)]) (c_Hub_demandAtMost l _ _ _ hr0 _) cv_2_165 hr0.1 rfl rfl rfl (Nat.le_of_ble_eq_true rfl) ⟨Nat.le_of_ble_eq_true rfl, Nat.le_of_ble_eq_true rfl⟩ ⟨Nat.zero_le _, Nat.zero_le _⟩ d_Hub_setDemands_109 (fun _ σ16 h24 => ?_)
    refine g_aload_n F d_Hub_setDemands_112 0 rfl ?_
    refine g_getI F fs_2_104 h19.1 rfl d_Hub_setDemands_113 ?_
    refine g_iconst F (v := 3) d_Hub_setDemands_116 (by decide) ?_
    refine g_icmp_eq F (tgt := 132) d_Hub_setDemands_117 (by decide) (fun h25 => ?_) (fun h26 => ?_)
    · refine g_iinc F (v := (-1)) (ls' := [(1, .int (x1 + (-1))), (2, .ref (xa X o14)), (0, .ref (xa X r0))]) d_Hub_setDemands_132 2 rfl (by decide) (by decide) rfl ?_
      refine g_goto F (tgt := 69) d_Hub_setDemands_135 (by decide) ?_
      exact g_sub [2, 0] rfl (ih _ _)
    refine g_aload_n F d_Hub_setDemands_120 1 rfl ?_
    refine g_aload_n F d_Hub_setDemands_121 0 rfl ?_
    refine g_getI F fs_2_172 h19.1 rfl d_Hub_setDemands_122 ?_
    refine g_aload_n F d_Hub_setDemands_125 0 rfl ?_
    refine g_getI F fs_2_162 h19.1 rfl d_Hub_setDemands_126 ?_
    refine g_callV F (dp := 1) (ci := 2) (As := [.int (σ16 o14 8), .int (σ16 o14 10)]) (c_Hub_demandAtMost l _ _ _ hr0 _) cv_2_165 hr0.1 rfl rfl rfl (Nat.le_of_ble_eq_true rfl) ⟨Nat.le_of_ble_eq_true rfl, Nat.le_of_ble_eq_true rfl⟩ ⟨Nat.zero_le _, Nat.zero_le _⟩ d_Hub_setDemands_129 (fun _ σ18 h27 => ?_)
    refine g_iinc F (v := (-1)) (ls' := [(1, .int (x1 + (-1))), (2, .ref (xa X o14)), (0, .ref (xa X r0))]) d_Hub_setDemands_132 2 rfl (by decide) (by decide) rfl ?_
    refine g_goto F (tgt := 69) d_Hub_setDemands_135 (by decide) ?_
    exact g_sub [2, 0] rfl (ih _ _)
set_option maxRecDepth 100000 in
set_option maxHeartbeats 4000000 in
theorem c_Hub_setDemands {X : CX} (l : Launch) (q : Nat) (hq : HubOK X q) (σ : Mem) : CT X l y_Hub_setDemands prog_4_method_18_code 3 none 2 vU [.ref (xa X q)] σ (f_Hub_setDemands q σ) := by
  refine CT_of (by decide +kernel) (Nat.le_of_ble_eq_true rfl) ?_
  intro p e s m args below meth c F hlk hr
  have F : FR p s m args c prog_4_method_18_code 3 "SensorHub$Hub" X := F
  show G X p l e (rmD 2) s m args below meth c 3 0 0 (QI X below args s vU) 0 [(0, .ref (xa X q))] [] σ _
  unfold f_Hub_setDemands
  refine g_iconst F (v := 0) d_Hub_setDemands_0 (by decide) ?_
  refine g_istore_n F (ls' := [(1, .int (0 : Int32)), (0, .ref (xa X q))]) d_Hub_setDemands_1 (by decide) rfl ?_
  refine g_sub [1, 0] rfl (l_L_Hub_setDemands_2 F hlk hr _ hq _ (fun σ5 => ?_) FU _ _)
  refine g_iconst F (v := 0) d_Hub_setDemands_30 (by decide) ?_
  refine g_istore_n F (ls' := [(1, .int (0 : Int32)), (0, .ref (xa X q))]) d_Hub_setDemands_31 (by decide) rfl ?_
  refine g_sub [1, 0] rfl (l_L_Hub_setDemands_32 F hlk hr _ hq _ (fun σ11 => ?_) FU _ _)
  refine g_bipush F (v := 7) d_Hub_setDemands_66 (by decide) ?_
  refine g_istore_n F (ls' := [(1, .int (7 : Int32)), (0, .ref (xa X q))]) d_Hub_setDemands_68 (by decide) rfl ?_
  refine g_sub [1, 0] rfl (l_L_Hub_setDemands_69 F hlk hr _ hq _ (fun σ19 => ?_) FU _ _)
  exact g_vret F hlk hr d_Hub_setDemands_138
def y_Hub_periodFor : MethodName := ⟨"SensorHub$Hub", "periodFor", "(LSensorHub$Sensor;)I"⟩
theorem d_Hub_periodFor_0 : decode prog_4_method_21_code 0 = .ok (.aload_n 1, 1) := by decide +kernel
theorem d_Hub_periodFor_1 : decode prog_4_method_21_code 1 = .ok (.getfield 162, 3) := by decide +kernel
theorem d_Hub_periodFor_4 : decode prog_4_method_21_code 4 = .ok (.bipush (-9), 2) := by decide +kernel
theorem d_Hub_periodFor_6 : decode prog_4_method_21_code 6 = .ok (.if_icmp .ne 6, 3) := by decide +kernel
theorem d_Hub_periodFor_9 : decode prog_4_method_21_code 9 = .ok (.bipush (-9), 2) := by decide +kernel
theorem d_Hub_periodFor_11 : decode prog_4_method_21_code 11 = .ok (.ireturn, 1) := by decide +kernel
theorem d_Hub_periodFor_12 : decode prog_4_method_21_code 12 = .ok (.aload_n 1, 1) := by decide +kernel
theorem d_Hub_periodFor_13 : decode prog_4_method_21_code 13 = .ok (.getfield 104, 3) := by decide +kernel
theorem d_Hub_periodFor_16 : decode prog_4_method_21_code 16 = .ok (.iconst 4, 1) := by decide +kernel
theorem d_Hub_periodFor_17 : decode prog_4_method_21_code 17 = .ok (.if_icmp .ne 8, 3) := by decide +kernel
theorem d_Hub_periodFor_20 : decode prog_4_method_21_code 20 = .ok (.aload_n 1, 1) := by decide +kernel
theorem d_Hub_periodFor_21 : decode prog_4_method_21_code 21 = .ok (.invokevirtual 182, 3) := by decide +kernel
theorem d_Hub_periodFor_24 : decode prog_4_method_21_code 24 = .ok (.ireturn, 1) := by decide +kernel
theorem d_Hub_periodFor_25 : decode prog_4_method_21_code 25 = .ok (.aload_n 0, 1) := by decide +kernel
theorem d_Hub_periodFor_26 : decode prog_4_method_21_code 26 = .ok (.aload_n 1, 1) := by decide +kernel
theorem d_Hub_periodFor_27 : decode prog_4_method_21_code 27 = .ok (.getfield 111, 3) := by decide +kernel
theorem d_Hub_periodFor_30 : decode prog_4_method_21_code 30 = .ok (.invokevirtual 101, 3) := by decide +kernel
theorem d_Hub_periodFor_33 : decode prog_4_method_21_code 33 = .ok (.astore_n 2, 1) := by decide +kernel
theorem d_Hub_periodFor_34 : decode prog_4_method_21_code 34 = .ok (.aload_n 2, 1) := by decide +kernel
theorem d_Hub_periodFor_35 : decode prog_4_method_21_code 35 = .ok (.ifnonnull 8, 3) := by decide +kernel
theorem d_Hub_periodFor_38 : decode prog_4_method_21_code 38 = .ok (.bipush (-9), 2) := by decide +kernel
theorem d_Hub_periodFor_40 : decode prog_4_method_21_code 40 = .ok (.goto 7, 3) := by decide +kernel
theorem d_Hub_periodFor_43 : decode prog_4_method_21_code 43 = .ok (.aload_n 2, 1) := by decide +kernel
theorem d_Hub_periodFor_44 : decode prog_4_method_21_code 44 = .ok (.getfield 155, 3) := by decide +kernel
theorem d_Hub_periodFor_47 : decode prog_4_method_21_code 47 = .ok (.ireturn, 1) := by decide +kernel
theorem cv_2_182 : CSV "SensorHub$Hub" 182 y_Sen_greatestSupported prog_6_method_7_code 3 (some .int) 0 := ⟨gw_I 559 (by decide +kernel) rfl, gw_I 560 (by decide +kernel) rfl, gw_I 561 (by decide +kernel) rfl, gw_I 74 (by decide +kernel) rfl, gw_I 562 (by decide +kernel) rfl, ⟨by decide +kernel, by decide +kernel⟩, by decide +kernel⟩
theorem fs_2_155 : FS "SensorHub$Hub" 155 4 11 := ⟨"SensorHub$Sensor", T_4, 18, rfl, by decide, rfl, gw_I 170 (by decide +kernel) rfl⟩
def f_Hub_periodFor (q : Nat) (q1 : Nat) (σ : Mem) : Option (Int32 × Mem) :=
  if (σ q1 10) = (-9 : Int32) then
    some ((-9 : Int32), σ)
  else
    if (σ q1 0) = (4 : Int32) then
      bd (f_Sen_greatestSupported q1 σ) fun r1 σ2 =>
      some (r1, σ2)
    else
      bd (f_Hub_sensorAt q (σ q1 9) σ) fun r3 σ4 =>
      oe r3 (
        some ((-9 : Int32), σ4)
      ) (fun o5 =>
        some (σ4 o5 11, σ4)
      )
set_option maxRecDepth 100000 in
set_option maxHeartbeats 4000000 in
theorem c_Hub_periodFor {X : CX} (l : Launch) (q : Nat) (q1 : Nat) (hq : HubOK X q) (hq1 : SensorOK X q1) (σ : Mem) : CT X l y_Hub_periodFor prog_4_method_21_code 3 (some .int) 1 vI [.ref (xa X q), .ref (xa X q1)] σ (f_Hub_periodFor q q1 σ) := by
  refine CT_of (by decide +kernel) (Nat.le_of_ble_eq_true rfl) ?_
  intro p e s m args below meth c F hlk hr
  have F : FR p s m args c prog_4_method_21_code 3 "SensorHub$Hub" X := F
  show G X p l e (rmD 1) s m args below meth c 3 0 0 (QI X below args s vI) 0 [(0, .ref (xa X q)), (1, .ref (xa X q1))] [] σ _
  unfold f_Hub_periodFor
  refine g_aload_n F d_Hub_periodFor_0 1 rfl ?_
  refine g_getI F fs_2_162 hq1.1 rfl d_Hub_periodFor_1 ?_
  refine g_bipush F (v := (-9)) d_Hub_periodFor_4 (by decide) ?_
  refine g_icmp_ne F (tgt := 12) d_Hub_periodFor_6 (by decide) (fun h1 => ?_) (fun h2 => ?_)
  · refine g_bipush F (v := (-9)) d_Hub_periodFor_9 (by decide) ?_
    exact g_iret F hlk hr d_Hub_periodFor_11
  refine g_aload_n F d_Hub_periodFor_12 1 rfl ?_
  refine g_getI F fs_2_104 hq1.1 rfl d_Hub_periodFor_13 ?_
  refine g_iconst F (v := 4) d_Hub_periodFor_16 (by decide) ?_
  refine g_icmp_ne F (tgt := 25) d_Hub_periodFor_17 (by decide) (fun h3 => ?_) (fun h4 => ?_)
  · refine g_aload_n F d_Hub_periodFor_20 1 rfl ?_
    refine g_callV F (dp := 0) (ci := 4) (As := []) (c_Sen_greatestSupported l _ hq1 _) cv_2_182 hq1.1 rfl rfl rfl (Nat.le_of_ble_eq_true rfl) ⟨Nat.le_of_ble_eq_true rfl, Nat.le_of_ble_eq_true rfl⟩ ⟨Nat.zero_le _, Nat.zero_le _⟩ d_Hub_periodFor_21 (fun r1 σ2 h5 => ?_)
    exact g_iret F hlk hr d_Hub_periodFor_24
  refine g_aload_n F d_Hub_periodFor_25 0 rfl ?_
  refine g_aload_n F d_Hub_periodFor_26 1 rfl ?_
  refine g_getI F fs_2_111 hq1.1 rfl d_Hub_periodFor_27 ?_
  refine g_callV F (dp := 0) (ci := 2) (As := [.int (σ q1 9)]) (c_Hub_sensorAt l _ _ hq _) cv_2_101 hq.1 rfl rfl rfl (Nat.le_of_ble_eq_true rfl) ⟨Nat.le_of_ble_eq_true rfl, Nat.le_of_ble_eq_true rfl⟩ ⟨Nat.zero_le _, Nat.zero_le _⟩ d_Hub_periodFor_30 (fun r3 σ4 h6 => ?_)
  refine g_oe (fun h7 => ?_) (fun o5 h8 => ?_)
  · refine g_astore_nN F (ls' := [(2, .null), (0, .ref (xa X q)), (1, .ref (xa X q1))]) d_Hub_periodFor_33 (by decide) rfl ?_
    refine g_aload_nN F d_Hub_periodFor_34 0 rfl ?_
    refine g_ifnonnullN F d_Hub_periodFor_35 ?_
    refine g_bipush F (v := (-9)) d_Hub_periodFor_38 (by decide) ?_
    refine g_goto F (tgt := 47) d_Hub_periodFor_40 (by decide) ?_
    exact g_iret F hlk hr d_Hub_periodFor_47
  have h9 : SensorOK X o5 := ok_Hub_sensorAt hq (h8 ▸ h6)
  refine g_astore_n F (ls' := [(2, .ref (xa X o5)), (0, .ref (xa X q)), (1, .ref (xa X q1))]) d_Hub_periodFor_33 (by decide) rfl ?_
  refine g_aload_n F d_Hub_periodFor_34 0 rfl ?_
  refine g_ifnonnull F (tgt := 43) d_Hub_periodFor_35 (by decide) ?_
  refine g_aload_n F d_Hub_periodFor_43 0 rfl ?_
  refine g_getI F fs_2_155 h9.1 rfl d_Hub_periodFor_44 ?_
  exact g_iret F hlk hr d_Hub_periodFor_47
def y_Hub_setPeriods : MethodName := ⟨"SensorHub$Hub", "setPeriods", "()Z"⟩
theorem d_Hub_setPeriods_0 : decode prog_4_method_20_code 0 = .ok (.iconst 0, 1) := by decide +kernel
theorem d_Hub_setPeriods_1 : decode prog_4_method_20_code 1 = .ok (.istore_n 1, 1) := by decide +kernel
theorem d_Hub_setPeriods_2 : decode prog_4_method_20_code 2 = .ok (.iconst 0, 1) := by decide +kernel
theorem d_Hub_setPeriods_3 : decode prog_4_method_20_code 3 = .ok (.istore_n 2, 1) := by decide +kernel
theorem d_Hub_setPeriods_4 : decode prog_4_method_20_code 4 = .ok (.iload_n 2, 1) := by decide +kernel
theorem d_Hub_setPeriods_5 : decode prog_4_method_20_code 5 = .ok (.bipush 8, 2) := by decide +kernel
theorem d_Hub_setPeriods_7 : decode prog_4_method_20_code 7 = .ok (.if_icmp .ge 53, 3) := by decide +kernel
theorem d_Hub_setPeriods_10 : decode prog_4_method_20_code 10 = .ok (.aload_n 0, 1) := by decide +kernel
theorem d_Hub_setPeriods_11 : decode prog_4_method_20_code 11 = .ok (.iload_n 2, 1) := by decide +kernel
theorem d_Hub_setPeriods_12 : decode prog_4_method_20_code 12 = .ok (.invokevirtual 101, 3) := by decide +kernel
theorem d_Hub_setPeriods_15 : decode prog_4_method_20_code 15 = .ok (.astore_n 3, 1) := by decide +kernel
theorem d_Hub_setPeriods_16 : decode prog_4_method_20_code 16 = .ok (.aload_n 3, 1) := by decide +kernel
theorem d_Hub_setPeriods_17 : decode prog_4_method_20_code 17 = .ok (.ifnull 37, 3) := by decide +kernel
theorem d_Hub_setPeriods_20 : decode prog_4_method_20_code 20 = .ok (.aload_n 3, 1) := by decide +kernel
theorem d_Hub_setPeriods_21 : decode prog_4_method_20_code 21 = .ok (.getfield 155, 3) := by decide +kernel
theorem d_Hub_setPeriods_24 : decode prog_4_method_20_code 24 = .ok (.istore 4, 2) := by decide +kernel
theorem d_Hub_setPeriods_26 : decode prog_4_method_20_code 26 = .ok (.aload_n 3, 1) := by decide +kernel
theorem d_Hub_setPeriods_27 : decode prog_4_method_20_code 27 = .ok (.aload_n 0, 1) := by decide +kernel
theorem d_Hub_setPeriods_28 : decode prog_4_method_20_code 28 = .ok (.aload_n 3, 1) := by decide +kernel
theorem d_Hub_setPeriods_29 : decode prog_4_method_20_code 29 = .ok (.invokevirtual 178, 3) := by decide +kernel
theorem d_Hub_setPeriods_32 : decode prog_4_method_20_code 32 = .ok (.putfield 155, 3) := by decide +kernel
theorem d_Hub_setPeriods_35 : decode prog_4_method_20_code 35 = .ok (.aload_n 3, 1) := by decide +kernel
theorem d_Hub_setPeriods_36 : decode prog_4_method_20_code 36 = .ok (.getfield 104, 3) := by decide +kernel
theorem d_Hub_setPeriods_39 : decode prog_4_method_20_code 39 = .ok (.iconst 4, 1) := by decide +kernel
theorem d_Hub_setPeriods_40 : decode prog_4_method_20_code 40 = .ok (.if_icmp .ne 14, 3) := by decide +kernel
theorem d_Hub_setPeriods_43 : decode prog_4_method_20_code 43 = .ok (.aload_n 3, 1) := by decide +kernel
theorem d_Hub_setPeriods_44 : decode prog_4_method_20_code 44 = .ok (.getfield 155, 3) := by decide +kernel
theorem d_Hub_setPeriods_47 : decode prog_4_method_20_code 47 = .ok (.iload 4, 2) := by decide +kernel
theorem d_Hub_setPeriods_49 : decode prog_4_method_20_code 49 = .ok (.if_icmp .eq 5, 3) := by decide +kernel
theorem d_Hub_setPeriods_52 : decode prog_4_method_20_code 52 = .ok (.iconst 1, 1) := by decide +kernel
theorem d_Hub_setPeriods_53 : decode prog_4_method_20_code 53 = .ok (.istore_n 1, 1) := by decide +kernel
theorem d_Hub_setPeriods_54 : decode prog_4_method_20_code 54 = .ok (.iinc 2 1, 3) := by decide +kernel
theorem d_Hub_setPeriods_57 : decode prog_4_method_20_code 57 = .ok (.goto (-53), 3) := by decide +kernel
theorem d_Hub_setPeriods_60 : decode prog_4_method_20_code 60 = .ok (.iload_n 1, 1) := by decide +kernel
theorem d_Hub_setPeriods_61 : decode prog_4_method_20_code 61 = .ok (.ireturn, 1) := by decide +kernel
theorem cv_2_178 : CSV "SensorHub$Hub" 178 y_Hub_periodFor prog_4_method_21_code 3 (some .int) 1 := ⟨gw_I 555 (by decide +kernel) rfl, gw_I 557 (by decide +kernel) rfl, gw_I 6 (by decide +kernel) rfl, gw_I 71 (by decide +kernel) rfl, gw_I 558 (by decide +kernel) rfl, ⟨by decide +kernel, by decide +kernel⟩, by decide +kernel⟩
theorem fw_2_155 : FW "SensorHub$Hub" 155 4 11 .int := ⟨"SensorHub$Sensor", T_4, 18, rfl, by decide, rfl, gw_I 170 (by decide +kernel) rfl, rfl, by decide +kernel⟩
def L_Hub_setPeriods_4 (r0 : Nat) (k : Int32 → Mem → Option (Int32 × Mem)) : Nat → Int32 → Int32 → Mem → Option (Int32 × Mem)
  | 0, _, _, _ => none
  | n + 1, x1, x2, σ =>
    if (8 : Int32) ≤ x2 then
      k x1 σ
    else
      bd (f_Hub_sensorAt r0 x2 σ) fun r1 σ2 =>
      oe r1 (
        L_Hub_setPeriods_4 r0 k n x1 (x2 + 1) σ2
      ) (fun o3 =>
        lt (σ2 o3 11) fun v4 =>
        bd (f_Hub_periodFor r0 o3 σ2) fun r5 σ6 =>
        lt (wr σ6 o3 11 r5) fun σ7 =>
        if (σ7 o3 0) = (4 : Int32) then if (σ7 o3 11) = v4 then L_Hub_setPeriods_4 r0 k n x1 (x2 + 1) σ7 else L_Hub_setPeriods_4 r0 k n (1 : Int32) (x2 + 1) σ7 else L_Hub_setPeriods_4 r0 k n x1 (x2 + 1) σ7
      )
def f_Hub_setPeriods (q : Nat) (σ : Mem) : Option (Int32 × Mem) :=
  L_Hub_setPeriods_4 q (fun z8 σ9 =>
    if z8 &&& 1 = z8 then some (z8, σ9) else none) FU (0 : Int32) (0 : Int32) σ
set_option maxRecDepth 100000 in
set_option maxHeartbeats 4000000 in
theorem l_L_Hub_setPeriods_4 {X : CX} {p : Program} {l : Launch} {e : Env} {s : State} {m : MethodId} {args : Array Value} {below : List Frame} {meth : Method} {c : Code} (F : FR p s m args c prog_4_method_20_code 5 "SensorHub$Hub" X) (hlk : meth.locks = false) (hr : meth.sig.returnType = some .boolean) (r0 : Nat) (hr0 : HubOK X r0) (k : Int32 → Mem → Option (Int32 × Mem)) (hk : ∀ (x1 : Int32) (σ : Mem), G X p l e (rmD 2) s m args below meth c 5 0 0 (QI X below args s vI) 60 [(1, .int x1)] [] σ (k x1 σ)) : ∀ (n : Nat) (x1 : Int32) (x2 : Int32) (σ : Mem), G X p l e (rmD 2) s m args below meth c 5 0 0 (QI X below args s vI) 4 [(0, .ref (xa X r0)), (1, .int x1), (2, .int x2)] [] σ (L_Hub_setPeriods_4 r0 k n x1 x2 σ) := by
  intro n
  induction n with
  | zero => intros; exact g_no
  | succ n ih =>
    intro x1 x2 σ
    unfold L_Hub_setPeriods_4
    refine g_iload_n F d_Hub_setPeriods_4 2 rfl ?_
    refine g_bipush F (v := 8) d_Hub_setPeriods_5 (by decide) ?_
    refine g_icmp_ge F (tgt := 60) d_Hub_setPeriods_7 (by decide) (fun h1 => ?_) (fun h2 => ?_)
    · exact g_sub [1] rfl (hk _ _)
    refine g_aload_n F d_Hub_setPeriods_10 0 rfl ?_
    refine g_iload_n F d_Hub_setPeriods_11 2 rfl ?_
    refine g_callV F (dp := 0) (ci := 2) (As := [.int x2]) (c_Hub_sensorAt l _ _ hr0 _) cv_2_101 hr0.1 rfl rfl rfl (Nat.le_of_ble_eq_true rfl) ⟨Nat.le_of_ble_eq_true rfl, Nat.le_of_ble_eq_true rfl⟩ ⟨Nat.zero_le _, Nat.zero_le _⟩ d_Hub_setPeriods_12 (fun r1 σ2 h3 => ?_)
    refine g_oe (fun h4 => ?_) (fun o3 h5 => ?_)
    · refine g_astore_nN F (ls' := [(3, .null), (0, .ref (xa X r0)), (1, .int x1), (2, .int x2)]) d_Hub_setPeriods_15 (by decide) rfl ?_
      refine g_aload_nN F d_Hub_setPeriods_16 0 rfl ?_
      refine g_ifnullN F (tgt := 54) d_Hub_setPeriods_17 (by decide) ?_
      refine g_iinc F (v := 1) (ls' := [(2, .int (x2 + 1)), (3, .null), (0, .ref (xa X r0)), (1, .int x1)]) d_Hub_setPeriods_54 3 rfl (by decide) (by decide) rfl ?_
      refine g_goto F (tgt := 4) d_Hub_setPeriods_57 (by decide) ?_
      exact g_sub [2, 3, 0] rfl (ih _ _ _)
    have h6 : SensorOK X o3 := ok_Hub_sensorAt hr0 (h5 ▸ h3)
    refine g_astore_n F (ls' := [(3, .ref (xa X o3)), (0, .ref (xa X r0)), (1, .int x1), (2, .int x2)]) d_Hub_setPeriods_15 (by decide) rfl ?_
    refine g_aload_n F d_Hub_setPeriods_16 0 rfl ?_
    refine g_ifnull F d_Hub_setPeriods_17 ?_
    refine g_aload_n F d_Hub_setPeriods_20 0 rfl ?_
    refine g_getI F fs_2_155 h6.1 rfl d_Hub_setPeriods_21 ?_
    refine g_ltI (fun v4 _ => ?_)
    refine g_istore F (ls' := [(4, .int v4), (3, .ref (xa X o3)), (0, .ref (xa X r0)), (1, .int x1), (2, .int x2)]) d_Hub_setPeriods_24 (by decide) rfl ?_
    refine g_aload_n F d_Hub_setPeriods_26 1 rfl ?_
    refine g_aload_n F d_Hub_setPeriods_27 2 rfl ?_
    refine g_aload_n F d_Hub_setPeriods_28 1 rfl ?_
    refine g_callV F (dp := 1) (ci := 2) (As := [.ref (xa X o3)]) (c_Hub_periodFor l _ _ hr0 h6 _) cv_2_178 hr0.1 rfl rfl rfl (Nat.le_of_ble_eq_true rfl) ⟨Nat.le_of_ble_eq_true rfl, Nat.le_of_ble_eq_true rfl⟩ ⟨Nat.zero_le _, Nat.zero_le _⟩ d_Hub_setPeriods_29 (fun r5 σ6 h7 => ?_)
    refine g_putI F fw_2_155 h6.1 rfl d_Hub_setPeriods_32 ?_
    refine g_ltM (fun σ7 _ => ?_)
    refine g_aload_n F d_Hub_setPeriods_35 1 rfl ?_
    refine g_getI F fs_2_104 h6.1 rfl d_Hub_setPeriods_36 ?_
    refine g_iconst F (v := 4) d_Hub_setPeriods_39 (by decide) ?_
    refine g_icmp_ne F (tgt := 54) d_Hub_setPeriods_40 (by decide) (fun h8 => ?_) (fun h9 => ?_)
    · refine g_aload_n F d_Hub_setPeriods_43 1 rfl ?_
      refine g_getI F fs_2_155 h6.1 rfl d_Hub_setPeriods_44 ?_
      refine g_iload F d_Hub_setPeriods_47 0 rfl ?_
      refine g_icmp_eq F (tgt := 54) d_Hub_setPeriods_49 (by decide) (fun h10 => ?_) (fun h11 => ?_)
      · refine g_iinc F (v := 1) (ls' := [(2, .int (x2 + 1)), (4, .int v4), (3, .ref (xa X o3)), (0, .ref (xa X r0)), (1, .int x1)]) d_Hub_setPeriods_54 4 rfl (by decide) (by decide) rfl ?_
        refine g_goto F (tgt := 4) d_Hub_setPeriods_57 (by decide) ?_
        exact g_sub [3, 4, 0] rfl (ih _ _ _)
      refine g_iconst F (v := 1) d_Hub_setPeriods_52 (by decide) ?_
      refine g_istore_n F (ls' := [(1, .int (1 : Int32)), (4, .int v4), (3, .ref (xa X o3)), (0, .ref (xa X r0)), (2, .int x2)]) d_Hub_setPeriods_53 (by decide) rfl ?_
      refine g_iinc F (v := 1) (ls' := [(2, .int (x2 + 1)), (1, .int (1 : Int32)), (4, .int v4), (3, .ref (xa X o3)), (0, .ref (xa X r0))]) d_Hub_setPeriods_54 4 rfl (by decide) (by decide) rfl ?_
      refine g_goto F (tgt := 4) d_Hub_setPeriods_57 (by decide) ?_
      exact g_sub [4, 1, 0] rfl (ih _ _ _)
    refine g_iinc F (v := 1) (ls' := [(2, .int (x2 + 1)), (4, .int v4), (3, .ref (xa X o3)), (0, .ref (xa X r0)), (1, .int x1)]) d_Hub_setPeriods_54 4 rfl (by decide) (by decide) rfl ?_
    refine g_goto F (tgt := 4) d_Hub_setPeriods_57 (by decide) ?_
    exact g_sub [3, 4, 0] rfl (ih _ _ _)
set_option maxRecDepth 100000 in
set_option maxHeartbeats 4000000 in
theorem c_Hub_setPeriods {X : CX} (l : Launch) (q : Nat) (hq : HubOK X q) (σ : Mem) : CT X l y_Hub_setPeriods prog_4_method_20_code 5 (some .boolean) 2 vI [.ref (xa X q)] σ (f_Hub_setPeriods q σ) := by
  refine CT_of (by decide +kernel) (Nat.le_of_ble_eq_true rfl) ?_
  intro p e s m args below meth c F hlk hr
  have F : FR p s m args c prog_4_method_20_code 5 "SensorHub$Hub" X := F
  show G X p l e (rmD 2) s m args below meth c 5 0 0 (QI X below args s vI) 0 [(0, .ref (xa X q))] [] σ _
  unfold f_Hub_setPeriods
  refine g_iconst F (v := 0) d_Hub_setPeriods_0 (by decide) ?_
  refine g_istore_n F (ls' := [(1, .int (0 : Int32)), (0, .ref (xa X q))]) d_Hub_setPeriods_1 (by decide) rfl ?_
  refine g_iconst F (v := 0) d_Hub_setPeriods_2 (by decide) ?_
  refine g_istore_n F (ls' := [(2, .int (0 : Int32)), (1, .int (0 : Int32)), (0, .ref (xa X q))]) d_Hub_setPeriods_3 (by decide) rfl ?_
  refine g_sub [2, 1, 0] rfl (l_L_Hub_setPeriods_4 F hlk hr _ hq _ (fun z8 σ9 => ?_) FU _ _ _)
  refine g_iload_n F d_Hub_setPeriods_60 0 rfl ?_
  exact g_zret F hlk hr d_Hub_setPeriods_61
def y_Hub_restartAll : MethodName := ⟨"SensorHub$Hub", "restartAll", "()V"⟩
theorem d_Hub_restartAll_0 : decode prog_4_method_22_code 0 = .ok (.aload_n 0, 1) := by decide +kernel
theorem d_Hub_restartAll_1 : decode prog_4_method_22_code 1 = .ok (.aload_n 0, 1) := by decide +kernel
theorem d_Hub_restartAll_2 : decode prog_4_method_22_code 2 = .ok (.getfield 46, 3) := by decide +kernel
theorem d_Hub_restartAll_5 : decode prog_4_method_22_code 5 = .ok (.putfield 50, 3) := by decide +kernel
theorem d_Hub_restartAll_8 : decode prog_4_method_22_code 8 = .ok (.iconst 0, 1) := by decide +kernel
theorem d_Hub_restartAll_9 : decode prog_4_method_22_code 9 = .ok (.istore_n 1, 1) := by decide +kernel
theorem d_Hub_restartAll_10 : decode prog_4_method_22_code 10 = .ok (.iload_n 1, 1) := by decide +kernel
theorem d_Hub_restartAll_11 : decode prog_4_method_22_code 11 = .ok (.bipush 8, 2) := by decide +kernel
theorem d_Hub_restartAll_13 : decode prog_4_method_22_code 13 = .ok (.if_icmp .ge 23, 3) := by decide +kernel
theorem d_Hub_restartAll_16 : decode prog_4_method_22_code 16 = .ok (.aload_n 0, 1) := by decide +kernel
theorem d_Hub_restartAll_17 : decode prog_4_method_22_code 17 = .ok (.iload_n 1, 1) := by decide +kernel
theorem d_Hub_restartAll_18 : decode prog_4_method_22_code 18 = .ok (.invokevirtual 101, 3) := by decide +kernel
theorem d_Hub_restartAll_21 : decode prog_4_method_22_code 21 = .ok (.astore_n 2, 1) := by decide +kernel
theorem d_Hub_restartAll_22 : decode prog_4_method_22_code 22 = .ok (.aload_n 2, 1) := by decide +kernel
theorem d_Hub_restartAll_23 : decode prog_4_method_22_code 23 = .ok (.ifnull 7, 3) := by decide +kernel
theorem d_Hub_restartAll_26 : decode prog_4_method_22_code 26 = .ok (.aload_n 2, 1) := by decide +kernel
theorem d_Hub_restartAll_27 : decode prog_4_method_22_code 27 = .ok (.invokevirtual 186, 3) := by decide +kernel
theorem d_Hub_restartAll_30 : decode prog_4_method_22_code 30 = .ok (.iinc 1 1, 3) := by decide +kernel
theorem d_Hub_restartAll_33 : decode prog_4_method_22_code 33 = .ok (.goto (-23), 3) := by decide +kernel
theorem d_Hub_restartAll_36 : decode prog_4_method_22_code 36 = .ok (.iconst 0, 1) := by decide +kernel
theorem d_Hub_restartAll_37 : decode prog_4_method_22_code 37 = .ok (.istore_n 1, 1) := by decide +kernel
theorem d_Hub_restartAll_38 : decode prog_4_method_22_code 38 = .ok (.iload_n 1, 1) := by decide +kernel
theorem d_Hub_restartAll_39 : decode prog_4_method_22_code 39 = .ok (.bipush 8, 2) := by decide +kernel
theorem d_Hub_restartAll_41 : decode prog_4_method_22_code 41 = .ok (.if_icmp .ge 24, 3) := by decide +kernel
theorem d_Hub_restartAll_44 : decode prog_4_method_22_code 44 = .ok (.aload_n 0, 1) := by decide +kernel
theorem d_Hub_restartAll_45 : decode prog_4_method_22_code 45 = .ok (.iload_n 1, 1) := by decide +kernel
theorem d_Hub_restartAll_46 : decode prog_4_method_22_code 46 = .ok (.invokevirtual 130, 3) := by decide +kernel
theorem d_Hub_restartAll_49 : decode prog_4_method_22_code 49 = .ok (.astore_n 2, 1) := by decide +kernel
theorem d_Hub_restartAll_50 : decode prog_4_method_22_code 50 = .ok (.aload_n 2, 1) := by decide +kernel
theorem d_Hub_restartAll_51 : decode prog_4_method_22_code 51 = .ok (.ifnull 8, 3) := by decide +kernel
theorem d_Hub_restartAll_54 : decode prog_4_method_22_code 54 = .ok (.aload_n 2, 1) := by decide +kernel
theorem d_Hub_restartAll_55 : decode prog_4_method_22_code 55 = .ok (.iconst 0, 1) := by decide +kernel
theorem d_Hub_restartAll_56 : decode prog_4_method_22_code 56 = .ok (.putfield 189, 3) := by decide +kernel
theorem d_Hub_restartAll_59 : decode prog_4_method_22_code 59 = .ok (.iinc 1 1, 3) := by decide +kernel
theorem d_Hub_restartAll_62 : decode prog_4_method_22_code 62 = .ok (.goto (-24), 3) := by decide +kernel
theorem d_Hub_restartAll_65 : decode prog_4_method_22_code 65 = .ok (.return_, 1) := by decide +kernel
theorem cv_2_186 : CSV "SensorHub$Hub" 186 y_Sen_forget prog_6_method_5_code 1 none 0 := ⟨gw_I 567 (by decide +kernel) rfl, gw_I 456 (by decide +kernel) rfl, gw_I 457 (by decide +kernel) rfl, gw_I 74 (by decide +kernel) rfl, gw_I 458 (by decide +kernel) rfl, ⟨by decide +kernel, by decide +kernel⟩, by decide +kernel⟩
theorem fw_2_189 : FW "SensorHub$Hub" 189 0 5 .int := ⟨"SensorHub$Client", T_0, 11, rfl, by decide, rfl, gw_I 241 (by decide +kernel) rfl, rfl, by decide +kernel⟩
def L_Hub_restartAll_10 (r0 : Nat) (k : Mem → Option (Unit × Mem)) : Nat → Int32 → Mem → Option (Unit × Mem)
  | 0, _, _ => none
  | n + 1, x1, σ =>
    if (8 : Int32) ≤ x1 then
      k σ
    else
      bd (f_Hub_sensorAt r0 x1 σ) fun r2 σ3 =>
      oe r2 (
        L_Hub_restartAll_10 r0 k n (x1 + 1) σ3
      ) (fun o4 =>
        bd (f_Sen_forget o4 σ3) fun _ σ6 =>
        L_Hub_restartAll_10 r0 k n (x1 + 1) σ6
      )
def L_Hub_restartAll_38 (r0 : Nat) (k : Mem → Option (Unit × Mem)) : Nat → Int32 → Mem → Option (Unit × Mem)
  | 0, _, _ => none
  | n + 1, x1, σ =>
    if (8 : Int32) ≤ x1 then
      k σ
    else
      bd (f_Hub_clientAt r0 x1 σ) fun r8 σ9 =>
      oe r8 (
        L_Hub_restartAll_38 r0 k n (x1 + 1) σ9
      ) (fun o10 =>
        lt (wr σ9 o10 5 (0 : Int32)) fun σ11 =>
        L_Hub_restartAll_38 r0 k n (x1 + 1) σ11
      )
def f_Hub_restartAll (q : Nat) (σ : Mem) : Option (Unit × Mem) :=
  lt (wr σ q 1 (σ q 0)) fun σ1 =>
  L_Hub_restartAll_10 q (fun σ7 =>
    L_Hub_restartAll_38 q (fun σ12 =>
      some ((), σ12)) FU (0 : Int32) σ7) FU (0 : Int32) σ1
set_option maxRecDepth 100000 in
set_option maxHeartbeats 4000000 in
theorem l_L_Hub_restartAll_10 {X : CX} {p : Program} {l : Launch} {e : Env} {s : State} {m : MethodId} {args : Array Value} {below : List Frame} {meth : Method} {c : Code} (F : FR p s m args c prog_4_method_22_code 3 "SensorHub$Hub" X) (hlk : meth.locks = false) (hr : meth.sig.returnType = none) (r0 : Nat) (hr0 : HubOK X r0) (k : Mem → Option (Unit × Mem)) (hk : ∀  (σ : Mem), G X p l e (rmD 1) s m args below meth c 3 0 0 (QI X below args s vU) 36 [(0, .ref (xa X r0))] [] σ (k σ)) : ∀ (n : Nat) (x1 : Int32) (σ : Mem), G X p l e (rmD 1) s m args below meth c 3 0 0 (QI X below args s vU) 10 [(0, .ref (xa X r0)), (1, .int x1)] [] σ (L_Hub_restartAll_10 r0 k n x1 σ) := by
  intro n
  induction n with
  | zero => intros; exact g_no
  | succ n ih =>
    intro x1 σ
    unfold L_Hub_restartAll_10
    refine g_iload_n F d_Hub_restartAll_10 1 rfl ?_
    refine g_bipush F (v := 8) d_Hub_restartAll_11 (by decide) ?_
    refine g_icmp_ge F (tgt := 36) d_Hub_restartAll_13 (by decide) (fun h1 => ?_) (fun h2 => ?_)
    · exact g_sub [0] rfl (hk  _)
    refine g_aload_n F d_Hub_restartAll_16 0 rfl ?_
    refine g_iload_n F d_Hub_restartAll_17 1 rfl ?_
    refine g_callV F (dp := 0) (ci := 2) (As := [.int x1]) (c_Hub_sensorAt l _ _ hr0 _) cv_2_101 hr0.1 rfl rfl rfl (Nat.le_of_ble_eq_true rfl) ⟨Nat.le_of_ble_eq_true rfl, Nat.le_of_ble_eq_true rfl⟩ ⟨Nat.zero_le _, Nat.zero_le _⟩ d_Hub_restartAll_18 (fun r2 σ3 h3 => ?_)
    refine g_oe (fun h4 => ?_) (fun o4 h5 => ?_)
    · refine g_astore_nN F (ls' := [(2, .null), (0, .ref (xa X r0)), (1, .int x1)]) d_Hub_restartAll_21 (by decide) rfl ?_
      refine g_aload_nN F d_Hub_restartAll_22 0 rfl ?_
      refine g_ifnullN F (tgt := 30) d_Hub_restartAll_23 (by decide) ?_
      refine g_iinc F (v := 1) (ls' := [(1, .int (x1 + 1)), (2, .null), (0, .ref (xa X r0))]) d_Hub_restartAll_30 2 rfl (by decide) (by decide) rfl ?_
      refine g_goto F (tgt := 10) d_Hub_restartAll_33 (by decide) ?_
      exact g_sub [2, 0] rfl (ih _ _)
    have h6 : SensorOK X o4 := ok_Hub_sensorAt hr0 (h5 ▸ h3)
    refine g_astore_n F (ls' := [(2, .ref (xa X o4)), (0, .ref (xa X r0)), (1, .int x1)]) d_Hub_restartAll_21 (by decide) rfl ?_
    refine g_aload_n F d_Hub_restartAll_22 0 rfl ?_
    refine g_ifnull F d_Hub_restartAll_23 ?_
    refine g_aload_n F d_Hub_restartAll_26 0 rfl ?_
    refine g_callV F (dp := 0) (ci := 4) (As := []) (c_Sen_forget l _ h6 _) cv_2_186 h6.1 rfl rfl rfl (Nat.le_of_ble_eq_true rfl) ⟨Nat.le_of_ble_eq_true rfl, Nat.le_of_ble_eq_true rfl⟩ ⟨Nat.zero_le _, Nat.zero_le _⟩ d_Hub_restartAll_27 (fun _ σ6 h7 => ?_)
    refine g_iinc F (v := 1) (ls' := [(1, .int (x1 + 1)), (2, .ref (xa X o4)), (0, .ref (xa X r0))]) d_Hub_restartAll_30 2 rfl (by decide) (by decide) rfl ?_
    refine g_goto F (tgt := 10) d_Hub_restartAll_33 (by decide) ?_
    exact g_sub [2, 0] rfl (ih _ _)
set_option maxRecDepth 100000 in
set_option maxHeartbeats 4000000 in
theorem l_L_Hub_restartAll_38 {X : CX} {p : Program} {l : Launch} {e : Env} {s : State} {m : MethodId} {args : Array Value} {below : List Frame} {meth : Method} {c : Code} (F : FR p s m args c prog_4_method_22_code 3 "SensorHub$Hub" X) (hlk : meth.locks = false) (hr : meth.sig.returnType = none) (r0 : Nat) (hr0 : HubOK X r0) (k : Mem → Option (Unit × Mem)) (hk : ∀  (σ : Mem), G X p l e (rmD 1) s m args below meth c 3 0 0 (QI X below args s vU) 65 [] [] σ (k σ)) : ∀ (n : Nat) (x1 : Int32) (σ : Mem), G X p l e (rmD 1) s m args below meth c 3 0 0 (QI X below args s vU) 38 [(0, .ref (xa X r0)), (1, .int x1)] [] σ (L_Hub_restartAll_38 r0 k n x1 σ) := by
  intro n
  induction n with
  | zero => intros; exact g_no
  | succ n ih =>
    intro x1 σ
    unfold L_Hub_restartAll_38
    refine g_iload_n F d_Hub_restartAll_38 1 rfl ?_
    refine g_bipush F (v := 8) d_Hub_restartAll_39 (by decide) ?_
    refine g_icmp_ge F (tgt := 65) d_Hub_restartAll_41 (by decide) (fun h8 => ?_) (fun h9 => ?_)
    · exact g_sub [] rfl (hk  _)
    refine g_aload_n F d_Hub_restartAll_44 0 rfl ?_
    refine g_iload_n F d_Hub_restartAll_45 1 rfl ?_
    refine g_callV F (dp := 0) (ci := 2) (As := [.int x1]) (c_Hub_clientAt l _ _ hr0 _) cv_2_130 hr0.1 rfl rfl rfl (Nat.le_of_ble_eq_true rfl) ⟨Nat.le_of_ble_eq_true rfl, Nat.le_of_ble_eq_true rfl⟩ ⟨Nat.zero_le _, Nat.zero_le _⟩ d_Hub_restartAll_46 (fun r8 σ9 h10 => ?_)
    refine g_oe (fun h11 => ?_) (fun o10 h12 => ?_)
    · refine g_astore_nN F (ls' := [(2, .null), (0, .ref (xa X r0)), (1, .int x1)]) d_Hub_restartAll_49 (by decide) rfl ?_
      refine g_aload_nN F d_Hub_restartAll_50 0 rfl ?_
      refine g_ifnullN F (tgt := 59) d_Hub_restartAll_51 (by decide) ?_
      refine g_iinc F (v := 1) (ls' := [(1, .int (x1 + 1)), (2, .null), (0, .ref (xa X r0))]) d_Hub_restartAll_59 2 rfl (by decide) (by decide) rfl ?_
      refine g_goto F (tgt := 38) d_Hub_restartAll_62 (by decide) ?_
      exact g_sub [2, 0] rfl (ih _ _)
    have h13 : ClientOK X o10 := ok_Hub_clientAt hr0 (h12 ▸ h10)
    refine g_astore_n F (ls' := [(2, .ref (xa X o10)), (0, .ref (xa X r0)), (1, .int x1)]) d_Hub_restartAll_49 (by decide) rfl ?_
    refine g_aload_n F d_Hub_restartAll_50 0 rfl ?_
    refine g_ifnull F d_Hub_restartAll_51 ?_
    refine g_aload_n F d_Hub_restartAll_54 0 rfl ?_
    refine g_iconst F (v := 0) d_Hub_restartAll_55 (by decide) ?_
    refine g_putI F fw_2_189 h13.1 rfl d_Hub_restartAll_56 ?_
    refine g_ltM (fun σ11 _ => ?_)
    refine g_iinc F (v := 1) (ls' := [(1, .int (x1 + 1)), (2, .ref (xa X o10)), (0, .ref (xa X r0))]) d_Hub_restartAll_59 2 rfl (by decide) (by decide) rfl ?_
    refine g_goto F (tgt := 38) d_Hub_restartAll_62 (by decide) ?_
    exact g_sub [2, 0] rfl (ih _ _)
set_option maxRecDepth 100000 in
set_option maxHeartbeats 4000000 in
theorem c_Hub_restartAll {X : CX} (l : Launch) (q : Nat) (hq : HubOK X q) (σ : Mem) : CT X l y_Hub_restartAll prog_4_method_22_code 3 none 1 vU [.ref (xa X q)] σ (f_Hub_restartAll q σ) := by
  refine CT_of (by decide +kernel) (Nat.le_of_ble_eq_true rfl) ?_
  intro p e s m args below meth c F hlk hr
  have F : FR p s m args c prog_4_method_22_code 3 "SensorHub$Hub" X := F
  show G X p l e (rmD 1) s m args below meth c 3 0 0 (QI X below args s vU) 0 [(0, .ref (xa X q))] [] σ _
  unfold f_Hub_restartAll
  refine g_aload_n F d_Hub_restartAll_0 0 rfl ?_
  refine g_aload_n F d_Hub_restartAll_1 0 rfl ?_
  refine g_getI F fs_2_46 hq.1 rfl d_Hub_restartAll_2 ?_
  refine g_putI F fw_2_50 hq.1 rfl d_Hub_restartAll_5 ?_
  refine g_ltM (fun σ1 _ => ?_)
  refine g_iconst F (v := 0) d_Hub_restartAll_8 (by decide) ?_
  refine g_istore_n F (ls' := [(1, .int (0 : Int32)), (0, .ref (xa X q))]) d_Hub_restartAll_9 (by decide) rfl ?_
  refine g_sub [1, 0] rfl (l_L_Hub_restartAll_10 F hlk hr _ hq _ (fun σ7 => ?_) FU _ _)
  refine g_iconst F (v := 0) d_Hub_restartAll_36 (by decide) ?_
  refine g_istore_n F (ls' := [(1, .int (0 : Int32)), (0, .ref (xa X q))]) d_Hub_restartAll_37 (by decide) rfl ?_
  refine g_sub [1, 0] rfl (l_L_Hub_restartAll_38 F hlk hr _ hq _ (fun σ12 => ?_) FU _ _)
  exact g_vret F hlk hr d_Hub_restartAll_65
def y_Hub_settlePeriods : MethodName := ⟨"SensorHub$Hub", "settlePeriods", "()V"⟩
theorem d_Hub_settlePeriods_0 : decode prog_4_method_17_code 0 = .ok (.aload_n 0, 1) := by decide +kernel
theorem d_Hub_settlePeriods_1 : decode prog_4_method_17_code 1 = .ok (.invokevirtual 139, 3) := by decide +kernel
theorem d_Hub_settlePeriods_4 : decode prog_4_method_17_code 4 = .ok (.aload_n 0, 1) := by decide +kernel
theorem d_Hub_settlePeriods_5 : decode prog_4_method_17_code 5 = .ok (.invokevirtual 142, 3) := by decide +kernel
theorem d_Hub_settlePeriods_8 : decode prog_4_method_17_code 8 = .ok (.ifCond .eq 7, 3) := by decide +kernel
theorem d_Hub_settlePeriods_11 : decode prog_4_method_17_code 11 = .ok (.aload_n 0, 1) := by decide +kernel
theorem d_Hub_settlePeriods_12 : decode prog_4_method_17_code 12 = .ok (.invokevirtual 146, 3) := by decide +kernel
theorem d_Hub_settlePeriods_15 : decode prog_4_method_17_code 15 = .ok (.iconst 0, 1) := by decide +kernel
theorem d_Hub_settlePeriods_16 : decode prog_4_method_17_code 16 = .ok (.istore_n 1, 1) := by decide +kernel
theorem d_Hub_settlePeriods_17 : decode prog_4_method_17_code 17 = .ok (.iload_n 1, 1) := by decide +kernel
theorem d_Hub_settlePeriods_18 : decode prog_4_method_17_code 18 = .ok (.bipush 8, 2) := by decide +kernel
theorem d_Hub_settlePeriods_20 : decode prog_4_method_17_code 20 = .ok (.if_icmp .ge 55, 3) := by decide +kernel
theorem d_Hub_settlePeriods_23 : decode prog_4_method_17_code 23 = .ok (.aload_n 0, 1) := by decide +kernel
theorem d_Hub_settlePeriods_24 : decode prog_4_method_17_code 24 = .ok (.iload_n 1, 1) := by decide +kernel
theorem d_Hub_settlePeriods_25 : decode prog_4_method_17_code 25 = .ok (.invokevirtual 130, 3) := by decide +kernel
theorem d_Hub_settlePeriods_28 : decode prog_4_method_17_code 28 = .ok (.astore_n 2, 1) := by decide +kernel
theorem d_Hub_settlePeriods_29 : decode prog_4_method_17_code 29 = .ok (.aload_n 2, 1) := by decide +kernel
theorem d_Hub_settlePeriods_30 : decode prog_4_method_17_code 30 = .ok (.ifnonnull 7, 3) := by decide +kernel
theorem d_Hub_settlePeriods_33 : decode prog_4_method_17_code 33 = .ok (.aconst_null, 1) := by decide +kernel
theorem d_Hub_settlePeriods_34 : decode prog_4_method_17_code 34 = .ok (.goto 11, 3) := by decide +kernel
theorem d_Hub_settlePeriods_37 : decode prog_4_method_17_code 37 = .ok (.aload_n 0, 1) := by decide +kernel
theorem d_Hub_settlePeriods_38 : decode prog_4_method_17_code 38 = .ok (.aload_n 2, 1) := by decide +kernel
theorem d_Hub_settlePeriods_39 : decode prog_4_method_17_code 39 = .ok (.getfield 149, 3) := by decide +kernel
theorem d_Hub_settlePeriods_42 : decode prog_4_method_17_code 42 = .ok (.invokevirtual 101, 3) := by decide +kernel
theorem d_Hub_settlePeriods_45 : decode prog_4_method_17_code 45 = .ok (.astore_n 3, 1) := by decide +kernel
theorem d_Hub_settlePeriods_46 : decode prog_4_method_17_code 46 = .ok (.aload_n 2, 1) := by decide +kernel
theorem d_Hub_settlePeriods_47 : decode prog_4_method_17_code 47 = .ok (.ifnull 22, 3) := by decide +kernel
theorem d_Hub_settlePeriods_50 : decode prog_4_method_17_code 50 = .ok (.aload_n 3, 1) := by decide +kernel
theorem d_Hub_settlePeriods_51 : decode prog_4_method_17_code 51 = .ok (.ifnull 18, 3) := by decide +kernel
theorem d_Hub_settlePeriods_54 : decode prog_4_method_17_code 54 = .ok (.aload_n 2, 1) := by decide +kernel
theorem d_Hub_settlePeriods_55 : decode prog_4_method_17_code 55 = .ok (.aload_n 2, 1) := by decide +kernel
theorem d_Hub_settlePeriods_56 : decode prog_4_method_17_code 56 = .ok (.getfield 152, 3) := by decide +kernel
theorem d_Hub_settlePeriods_59 : decode prog_4_method_17_code 59 = .ok (.aload_n 3, 1) := by decide +kernel
theorem d_Hub_settlePeriods_60 : decode prog_4_method_17_code 60 = .ok (.getfield 155, 3) := by decide +kernel
theorem d_Hub_settlePeriods_63 : decode prog_4_method_17_code 63 = .ok (.invokestatic 156, 3) := by decide +kernel
theorem d_Hub_settlePeriods_66 : decode prog_4_method_17_code 66 = .ok (.putfield 159, 3) := by decide +kernel
theorem d_Hub_settlePeriods_69 : decode prog_4_method_17_code 69 = .ok (.iinc 1 1, 3) := by decide +kernel
theorem d_Hub_settlePeriods_72 : decode prog_4_method_17_code 72 = .ok (.goto (-55), 3) := by decide +kernel
theorem d_Hub_settlePeriods_75 : decode prog_4_method_17_code 75 = .ok (.return_, 1) := by decide +kernel
theorem cv_2_139 : CSV "SensorHub$Hub" 139 y_Hub_setDemands prog_4_method_18_code 3 none 0 := ⟨gw_I 539 (by decide +kernel) rfl, gw_I 541 (by decide +kernel) rfl, gw_I 3 (by decide +kernel) rfl, gw_I 71 (by decide +kernel) rfl, gw_I 542 (by decide +kernel) rfl, ⟨by decide +kernel, by decide +kernel⟩, by decide +kernel⟩
theorem cv_2_142 : CSV "SensorHub$Hub" 142 y_Hub_setPeriods prog_4_method_20_code 5 (some .boolean) 0 := ⟨gw_I 551 (by decide +kernel) rfl, gw_I 553 (by decide +kernel) rfl, gw_I 5 (by decide +kernel) rfl, gw_I 71 (by decide +kernel) rfl, gw_I 554 (by decide +kernel) rfl, ⟨by decide +kernel, by decide +kernel⟩, by decide +kernel⟩
theorem cs_2_156 : CSN "SensorHub$Hub" 156 y_X_quotient "SensorHub" prog_1_method_26_code 2 (some .int) 2 := ⟨List.mem_of_getElem? (i := 8) rfl, gw_I 569 (by decide +kernel) rfl, gw_I 70 (by decide +kernel) rfl, gw_I 570 (by decide +kernel) rfl, ⟨by decide +kernel, by decide +kernel⟩, by decide +kernel⟩
theorem fw_2_159 : FW "SensorHub$Hub" 159 0 4 .int := ⟨"SensorHub$Client", T_0, 11, rfl, by decide, rfl, gw_I 238 (by decide +kernel) rfl, rfl, by decide +kernel⟩
theorem cv_2_146 : CSV "SensorHub$Hub" 146 y_Hub_restartAll prog_4_method_22_code 3 none 0 := ⟨gw_I 563 (by decide +kernel) rfl, gw_I 565 (by decide +kernel) rfl, gw_I 7 (by decide +kernel) rfl, gw_I 71 (by decide +kernel) rfl, gw_I 566 (by decide +kernel) rfl, ⟨by decide +kernel, by decide +kernel⟩, by decide +kernel⟩
def L_Hub_settlePeriods_17 (r0 : Nat) (k : Mem → Option (Unit × Mem)) : Nat → Int32 → Mem → Option (Unit × Mem)
  | 0, _, _ => none
  | n + 1, x1, σ =>
    if (8 : Int32) ≤ x1 then
      k σ
    else
      bd (f_Hub_clientAt r0 x1 σ) fun r5 σ6 =>
      oe r5 (
        L_Hub_settlePeriods_17 r0 k n (x1 + 1) σ6
      ) (fun o7 =>
        bd (f_Hub_sensorAt r0 (σ6 o7 1) σ6) fun r8 σ9 =>
        oe r8 (
          L_Hub_settlePeriods_17 r0 k n (x1 + 1) σ9
        ) (fun o10 =>
          bd (f_X_quotient (σ9 o7 2) (σ9 o10 11) σ9) fun r11 σ12 =>
          lt (wr σ12 o7 4 r11) fun σ13 =>
          L_Hub_settlePeriods_17 r0 k n (x1 + 1) σ13
        )
      )
def f_Hub_settlePeriods (q : Nat) (σ : Mem) : Option (Unit × Mem) :=
  bd (f_Hub_setDemands q σ) fun _ σ2 =>
  bd (f_Hub_setPeriods q σ2) fun r3 σ4 =>
  if r3 = 0 then
    L_Hub_settlePeriods_17 q (fun σ14 =>
      some ((), σ14)) FU (0 : Int32) σ4
  else
    bd (f_Hub_restartAll q σ4) fun _ σ16 =>
    L_Hub_settlePeriods_17 q (fun σ17 =>
      some ((), σ17)) FU (0 : Int32) σ16
set_option maxRecDepth 100000 in
set_option maxHeartbeats 4000000 in
theorem l_L_Hub_settlePeriods_17 {X : CX} {p : Program} {l : Launch} {e : Env} {s : State} {m : MethodId} {args : Array Value} {below : List Frame} {meth : Method} {c : Code} (F : FR p s m args c prog_4_method_17_code 4 "SensorHub$Hub" X) (hlk : meth.locks = false) (hr : meth.sig.returnType = none) (r0 : Nat) (hr0 : HubOK X r0) (k : Mem → Option (Unit × Mem)) (hk : ∀  (σ : Mem), G X p l e (rmD 3) s m args below meth c 4 0 0 (QI X below args s vU) 75 [] [] σ (k σ)) : ∀ (n : Nat) (x1 : Int32) (σ : Mem), G X p l e (rmD 3) s m args below meth c 4 0 0 (QI X below args s vU) 17 [(0, .ref (xa X r0)), (1, .int x1)] [] σ (L_Hub_settlePeriods_17 r0 k n x1 σ) := by
  intro n
  induction n with
  | zero => intros; exact g_no
  | succ n ih =>
    intro x1 σ
    unfold L_Hub_settlePeriods_17
    refine g_iload_n F d_Hub_settlePeriods_17 1 rfl ?_
    refine g_bipush F (v := 8) d_Hub_settlePeriods_18 (by decide) ?_
    refine g_icmp_ge F (tgt := 75) d_Hub_settlePeriods_20 (by decide) (fun h5 => ?_) (fun h6 => ?_)
    · exact g_sub [] rfl (hk  _)
    refine g_aload_n F d_Hub_settlePeriods_23 0 rfl ?_
    refine g_iload_n F d_Hub_settlePeriods_24 1 rfl ?_
    refine g_callV F (dp := 0) (ci := 2) (As := [.int x1]) (c_Hub_clientAt l _ _ hr0 _) cv_2_130 hr0.1 rfl rfl rfl (Nat.le_of_ble_eq_true rfl) ⟨Nat.le_of_ble_eq_true rfl, Nat.le_of_ble_eq_true rfl⟩ ⟨Nat.zero_le _, Nat.zero_le _⟩ d_Hub_settlePeriods_25 (fun r5 σ6 h7 => ?_)
    refine g_oe (fun h8 => ?_) (fun o7 h9 => ?_)
    · refine g_astore_nN F (ls' := [(2, .null), (0, .ref (xa X r0)), (1, .int x1)]) d_Hub_settlePeriods_28 (by decide) rfl ?_
      refine g_aload_nN F d_Hub_settlePeriods_29 0 rfl ?_
      refine g_ifnonnullN F d_Hub_settlePeriods_30 ?_
      refine g_null F d_Hub_settlePeriods_33 ?_
      refine g_goto F (tgt := 45) d_Hub_settlePeriods_34 (by decide) ?_
      refine g_astore_nN F (ls' := [(3, .null), (2, .null), (0, .ref (xa X r0)), (1, .int x1)]) d_Hub_settlePeriods_45 (by decide) rfl ?_
      refine g_aload_nN F d_Hub_settlePeriods_46 1 rfl ?_
      refine g_ifnullN F (tgt := 69) d_Hub_settlePeriods_47 (by decide) ?_
      refine g_iinc F (v := 1) (ls' := [(1, .int (x1 + 1)), (3, .null), (2, .null), (0, .ref (xa X r0))]) d_Hub_settlePeriods_69 3 rfl (by decide) (by decide) rfl ?_
      refine g_goto F (tgt := 17) d_Hub_settlePeriods_72 (by decide) ?_
      exact g_sub [3, 0] rfl (ih _ _)
    have h10 : ClientOK X o7 := ok_Hub_clientAt hr0 (h9 ▸ h7)
    refine g_astore_n F (ls' := [(2, .ref (xa X o7)), (0, .ref (xa X r0)), (1, .int x1)]) d_Hub_settlePeriods_28 (by decide) rfl ?_
    refine g_aload_n F d_Hub_settlePeriods_29 0 rfl ?_
    refine g_ifnonnull F (tgt := 37) d_Hub_settlePeriods_30 (by decide) ?_
    refine g_aload_n F d_Hub_settlePeriods_37 1 rfl ?_
    refine g_aload_n F d_Hub_settlePeriods_38 0 rfl ?_
    refine g_getI F fs_2_149 h10.1 rfl d_Hub_settlePeriods_39 ?_
    refine g_callV F (dp := 0) (ci := 2) (As := [.int (σ6 o7 1)]) (c_Hub_sensorAt l _ _ hr0 _) cv_2_101 hr0.1 rfl rfl rfl (Nat.le_of_ble_eq_true rfl) ⟨Nat.le_of_ble_eq_true rfl, Nat.le_of_ble_eq_true rfl⟩ ⟨Nat.zero_le _, Nat.zero_le _⟩ d_Hub_settlePeriods_42 (fun r8 σ9 h11 => ?_)
    refine g_oe (fun h12 => ?_) (fun o10 h13 => ?_)
    · refine g_astore_nN F (ls' := [(3, .null), (2, .ref (xa X o7)), (0, .ref (xa X r0)), (1, .int x1)]) d_Hub_settlePeriods_45 (by decide) rfl ?_
      refine g_aload_n F d_Hub_settlePeriods_46 1 rfl ?_
      refine g_ifnull F d_Hub_settlePeriods_47 ?_
      refine g_aload_nN F d_Hub_settlePeriods_50 0 rfl ?_
      refine g_ifnullN F (tgt := 69) d_Hub_settlePeriods_51 (by decide) ?_
      refine g_iinc F (v := 1) (ls' := [(1, .int (x1 + 1)), (3, .null), (2, .ref (xa X o7)), (0, .ref (xa X r0))]) d_Hub_settlePeriods_69 3 rfl (by decide) (by decide) rfl ?_
      refine g_goto F (tgt := 17) d_Hub_settlePeriods_72 (by decide) ?_
      exact g_sub [3, 0] rfl (ih _ _)
    have h14 : SensorOK X o10 := ok_Hub_sensorAt hr0 (h13 ▸ h11)
    refine g_astore_n F (ls' := [(3, .ref (xa X o10)), (2, .ref (xa X o7)), (0, .ref (xa X r0)), (1, .int x1)]) d_Hub_settlePeriods_45 (by decide) rfl ?_
    refine g_aload_n F d_Hub_settlePeriods_46 1 rfl ?_
    refine g_ifnull F d_Hub_settlePeriods_47 ?_
    refine g_aload_n F d_Hub_settlePeriods_50 0 rfl ?_
    refine g_ifnull F d_Hub_settlePeriods_51 ?_
    refine g_aload_n F d_Hub_settlePeriods_54 1 rfl ?_
    refine g_aload_n F d_Hub_settlePeriods_55 1 rfl ?_
    refine g_getI F fs_2_152 h10.1 rfl d_Hub_settlePeriods_56 ?_
    refine g_aload_n F d_Hub_settlePeriods_59 0 rfl ?_
    refine g_getI F fs_2_155 h14.1 rfl d_Hub_settlePeriods_60 ?_
    refine g_callSN F (dp := 1) (As := [.int (σ9 o7 2), .int (σ9 o10 11)]) (c_X_quotient l _ _ _) cs_2_156 rfl rfl (Nat.le_of_ble_eq_true rfl) ⟨Nat.le_of_ble_eq_true rfl, Nat.le_of_ble_eq_true rfl⟩ ⟨Nat.zero_le _, Nat.zero_le _⟩ d_Hub_settlePeriods_63 (fun r11 σ12 h15 => ?_)
    refine g_putI F fw_2_159 h10.1 rfl d_Hub_settlePeriods_66 ?_
    refine g_ltM (fun σ13 _ => ?_)
    refine g_iinc F (v := 1) (ls' := [(1, .int (x1 + 1)), (3, .ref (xa X o10)), (2, .ref (xa X o7)), (0, .ref (xa X r0))]) d_Hub_settlePeriods_69 3 rfl (by decide) (by decide) rfl ?_
    refine g_goto F (tgt := 17) d_Hub_settlePeriods_72 (by decide) ?_
    exact g_sub [3, 0] rfl (ih _ _)
set_option maxRecDepth 100000 in
set_option maxHeartbeats 4000000 in
theorem c_Hub_settlePeriods {X : CX} (l : Launch) (q : Nat) (hq : HubOK X q) (σ : Mem) : CT X l y_Hub_settlePeriods prog_4_method_17_code 4 none 3 vU [.ref (xa X q)] σ (f_Hub_settlePeriods q σ) := by
  refine CT_of (by decide +kernel) (Nat.le_of_ble_eq_true rfl) ?_
  intro p e s m args below meth c F hlk hr
  have F : FR p s m args c prog_4_method_17_code 4 "SensorHub$Hub" X := F
  show G X p l e (rmD 3) s m args below meth c 4 0 0 (QI X below args s vU) 0 [(0, .ref (xa X q))] [] σ _
  unfold f_Hub_settlePeriods
  refine g_aload_n F d_Hub_settlePeriods_0 0 rfl ?_
  refine g_callV F (dp := 2) (ci := 2) (As := []) (c_Hub_setDemands l _ hq _) cv_2_139 hq.1 rfl rfl rfl (Nat.le_of_ble_eq_true rfl) ⟨Nat.le_of_ble_eq_true rfl, Nat.le_of_ble_eq_true rfl⟩ ⟨Nat.zero_le _, Nat.zero_le _⟩ d_Hub_settlePeriods_1 (fun _ σ2 h1 => ?_)
  refine g_aload_n F d_Hub_settlePeriods_4 0 rfl ?_
  refine g_callV F (dp := 2) (ci := 2) (As := []) (c_Hub_setPeriods l _ hq _) cv_2_142 hq.1 rfl rfl rfl (Nat.le_of_ble_eq_true rfl) ⟨Nat.le_of_ble_eq_true rfl, Nat.le_of_ble_eq_true rfl⟩ ⟨Nat.zero_le _, Nat.zero_le _⟩ d_Hub_settlePeriods_5 (fun r3 σ4 h2 => ?_)
  refine g_if_eq F (tgt := 15) d_Hub_settlePeriods_8 (by decide) (fun h3 => ?_) (fun h4 => ?_)
  · refine g_iconst F (v := 0) d_Hub_settlePeriods_15 (by decide) ?_
    refine g_istore_n F (ls' := [(1, .int (0 : Int32)), (0, .ref (xa X q))]) d_Hub_settlePeriods_16 (by decide) rfl ?_
    refine g_sub [1, 0] rfl (l_L_Hub_settlePeriods_17 F hlk hr _ hq _ (fun σ14 => ?_) FU _ _)
    exact g_vret F hlk hr d_Hub_settlePeriods_75
  refine g_aload_n F d_Hub_settlePeriods_11 0 rfl ?_
  refine g_callV F (dp := 1) (ci := 2) (As := []) (c_Hub_restartAll l _ hq _) cv_2_146 hq.1 rfl rfl rfl (Nat.le_of_ble_eq_true rfl) ⟨Nat.le_of_ble_eq_true rfl, Nat.le_of_ble_eq_true rfl⟩ ⟨Nat.zero_le _, Nat.zero_le _⟩ d_Hub_settlePeriods_12 (fun _ σ16 h16 => ?_)
  refine g_iconst F (v := 0) d_Hub_settlePeriods_15 (by decide) ?_
  refine g_istore_n F (ls' := [(1, .int (0 : Int32)), (0, .ref (xa X q))]) d_Hub_settlePeriods_16 (by decide) rfl ?_
  refine g_sub [1, 0] rfl (l_L_Hub_settlePeriods_17 F hlk hr _ hq _ (fun σ17 => ?_) FU _ _)
  exact g_vret F hlk hr d_Hub_settlePeriods_75
def y_Hub_putClient : MethodName := ⟨"SensorHub$Hub", "putClient", "(IIII)V"⟩
theorem d_Hub_putClient_0 : decode prog_4_method_15_code 0 = .ok (.aload_n 0, 1) := by decide +kernel
theorem d_Hub_putClient_1 : decode prog_4_method_15_code 1 = .ok (.iload_n 1, 1) := by decide +kernel
theorem d_Hub_putClient_2 : decode prog_4_method_15_code 2 = .ok (.invokevirtual 66, 3) := by decide +kernel
theorem d_Hub_putClient_5 : decode prog_4_method_15_code 5 = .ok (.astore 5, 2) := by decide +kernel
theorem d_Hub_putClient_7 : decode prog_4_method_15_code 7 = .ok (.aload 5, 2) := by decide +kernel
theorem d_Hub_putClient_9 : decode prog_4_method_15_code 9 = .ok (.ifnull 16, 3) := by decide +kernel
theorem d_Hub_putClient_12 : decode prog_4_method_15_code 12 = .ok (.aload 5, 2) := by decide +kernel
theorem d_Hub_putClient_14 : decode prog_4_method_15_code 14 = .ok (.iload_n 2, 1) := by decide +kernel
theorem d_Hub_putClient_15 : decode prog_4_method_15_code 15 = .ok (.iload_n 3, 1) := by decide +kernel
theorem d_Hub_putClient_16 : decode prog_4_method_15_code 16 = .ok (.iload 4, 2) := by decide +kernel
theorem d_Hub_putClient_18 : decode prog_4_method_15_code 18 = .ok (.invokevirtual 133, 3) := by decide +kernel
theorem d_Hub_putClient_21 : decode prog_4_method_15_code 21 = .ok (.aload_n 0, 1) := by decide +kernel
theorem d_Hub_putClient_22 : decode prog_4_method_15_code 22 = .ok (.invokevirtual 136, 3) := by decide +kernel
theorem d_Hub_putClient_25 : decode prog_4_method_15_code 25 = .ok (.return_, 1) := by decide +kernel
theorem cv_2_133 : CSV "SensorHub$Hub" 133 y_Cli_begin prog_2_method_2_code 4 none 3 := ⟨gw_I 531 (by decide +kernel) rfl, gw_I 532 (by decide +kernel) rfl, gw_I 533 (by decide +kernel) rfl, gw_I 75 (by decide +kernel) rfl, gw_I 534 (by decide +kernel) rfl, ⟨by decide +kernel, by decide +kernel⟩, by decide +kernel⟩
theorem cv_2_136 : CSV "SensorHub$Hub" 136 y_Hub_settlePeriods prog_4_method_17_code 4 none 0 := ⟨gw_I 535 (by decide +kernel) rfl, gw_I 537 (by decide +kernel) rfl, gw_I 2 (by decide +kernel) rfl, gw_I 71 (by decide +kernel) rfl, gw_I 538 (by decide +kernel) rfl, ⟨by decide +kernel, by decide +kernel⟩, by decide +kernel⟩
def f_Hub_putClient (q : Nat) (p1 : Int32) (p2 : Int32) (p3 : Int32) (p4 : Int32) (σ : Mem) : Option (Unit × Mem) :=
  bd (f_Hub_clientRoom q p1 σ) fun r1 σ2 =>
  oe r1 (
    some ((), σ2)
  ) (fun o3 =>
    bd (f_Cli_begin o3 p2 p3 p4 σ2) fun _ σ5 =>
    bd (f_Hub_settlePeriods q σ5) fun _ σ7 =>
    some ((), σ7)
  )
set_option maxRecDepth 100000 in
set_option maxHeartbeats 4000000 in
theorem c_Hub_putClient {X : CX} (l : Launch) (q : Nat) (p1 : Int32) (p2 : Int32) (p3 : Int32) (p4 : Int32) (hq : HubOK X q) (σ : Mem) : CT X l y_Hub_putClient prog_4_method_15_code 6 none 4 vU [.ref (xa X q), .int p1, .int p2, .int p3, .int p4] σ (f_Hub_putClient q p1 p2 p3 p4 σ) := by
  refine CT_of (by decide +kernel) (Nat.le_of_ble_eq_true rfl) ?_
  intro p e s m args below meth c F hlk hr
  have F : FR p s m args c prog_4_method_15_code 6 "SensorHub$Hub" X := F
  show G X p l e (rmD 4) s m args below meth c 6 0 0 (QI X below args s vU) 0 [(0, .ref (xa X q)), (1, .int p1), (2, .int p2), (3, .int p3), (4, .int p4)] [] σ _
  unfold f_Hub_putClient
  refine g_aload_n F d_Hub_putClient_0 0 rfl ?_
  refine g_iload_n F d_Hub_putClient_1 1 rfl ?_
  refine g_callV F (dp := 1) (ci := 2) (As := [.int p1]) (c_Hub_clientRoom l _ _ hq _) cv_2_66 hq.1 rfl rfl rfl (Nat.le_of_ble_eq_true rfl) ⟨Nat.le_of_ble_eq_true rfl, Nat.le_of_ble_eq_true rfl⟩ ⟨Nat.zero_le _, Nat.zero_le _⟩ d_Hub_putClient_2 (fun r1 σ2 h1 => ?_)
  refine g_oe (fun h2 => ?_) (fun o3 h3 => ?_)
  · refine g_astoreN F (ls' := [(5, .null), (0, .ref (xa X q)), (1, .int p1), (2, .int p2), (3, .int p3), (4, .int p4)]) d_Hub_putClient_5 (by decide) rfl ?_
    refine g_aloadN F d_Hub_putClient_7 0 rfl ?_
    refine g_ifnullN F (tgt := 25) d_Hub_putClient_9 (by decide) ?_
    exact g_vret F hlk hr d_Hub_putClient_25
  have h4 : ClientOK X o3 := ok_Hub_clientRoom hq (h3 ▸ h1)
  refine g_astore F (ls' := [(5, .ref (xa X o3)), (0, .ref (xa X q)), (1, .int p1), (2, .int p2), (3, .int p3), (4, .int p4)]) d_Hub_putClient_5 (by decide) rfl ?_
  refine g_aload F d_Hub_putClient_7 0 rfl ?_
  refine g_ifnull F d_Hub_putClient_9 ?_
  refine g_aload F d_Hub_putClient_12 0 rfl ?_
  refine g_iload_n F d_Hub_putClient_14 3 rfl ?_
  refine g_iload_n F d_Hub_putClient_15 4 rfl ?_
  refine g_iload F d_Hub_putClient_16 5 rfl ?_
  refine g_callV F (dp := 0) (ci := 0) (As := [.int p2, .int p3, .int p4]) (c_Cli_begin l _ _ _ _ h4 _) cv_2_133 h4.1 rfl rfl rfl (Nat.le_of_ble_eq_true rfl) ⟨Nat.le_of_ble_eq_true rfl, Nat.le_of_ble_eq_true rfl⟩ ⟨Nat.zero_le _, Nat.zero_le _⟩ d_Hub_putClient_18 (fun _ σ5 h5 => ?_)
  refine g_aload_n F d_Hub_putClient_21 1 rfl ?_
  refine g_callV F (dp := 3) (ci := 2) (As := []) (c_Hub_settlePeriods l _ hq _) cv_2_136 hq.1 rfl rfl rfl (Nat.le_of_ble_eq_true rfl) ⟨Nat.le_of_ble_eq_true rfl, Nat.le_of_ble_eq_true rfl⟩ ⟨Nat.zero_le _, Nat.zero_le _⟩ d_Hub_putClient_22 (fun _ σ7 h6 => ?_)
  exact g_vret F hlk hr d_Hub_putClient_25
def y_Hub_removeClient : MethodName := ⟨"SensorHub$Hub", "removeClient", "(LSensorHub$Client;)V"⟩
theorem d_Hub_removeClient_0 : decode prog_4_method_16_code 0 = .ok (.aload_n 1, 1) := by decide +kernel
theorem d_Hub_removeClient_1 : decode prog_4_method_16_code 1 = .ok (.iconst 0, 1) := by decide +kernel
theorem d_Hub_removeClient_2 : decode prog_4_method_16_code 2 = .ok (.putfield 70, 3) := by decide +kernel
theorem d_Hub_removeClient_5 : decode prog_4_method_16_code 5 = .ok (.aload_n 0, 1) := by decide +kernel
theorem d_Hub_removeClient_6 : decode prog_4_method_16_code 6 = .ok (.invokevirtual 136, 3) := by decide +kernel
theorem d_Hub_removeClient_9 : decode prog_4_method_16_code 9 = .ok (.return_, 1) := by decide +kernel
def f_Hub_removeClient (q : Nat) (q1 : Nat) (σ : Mem) : Option (Unit × Mem) :=
  lt (wr σ q1 0 (0 : Int32)) fun σ1 =>
  bd (f_Hub_settlePeriods q σ1) fun _ σ3 =>
  some ((), σ3)
set_option maxRecDepth 100000 in
set_option maxHeartbeats 4000000 in
theorem c_Hub_removeClient {X : CX} (l : Launch) (q : Nat) (q1 : Nat) (hq : HubOK X q) (hq1 : ClientOK X q1) (σ : Mem) : CT X l y_Hub_removeClient prog_4_method_16_code 2 none 4 vU [.ref (xa X q), .ref (xa X q1)] σ (f_Hub_removeClient q q1 σ) := by
  refine CT_of (by decide +kernel) (Nat.le_of_ble_eq_true rfl) ?_
  intro p e s m args below meth c F hlk hr
  have F : FR p s m args c prog_4_method_16_code 2 "SensorHub$Hub" X := F
  show G X p l e (rmD 4) s m args below meth c 2 0 0 (QI X below args s vU) 0 [(0, .ref (xa X q)), (1, .ref (xa X q1))] [] σ _
  unfold f_Hub_removeClient
  refine g_aload_n F d_Hub_removeClient_0 1 rfl ?_
  refine g_iconst F (v := 0) d_Hub_removeClient_1 (by decide) ?_
  refine g_pt (q := (0 : Int32) &&& 1 = (0 : Int32)) (by decide) (g_putZ F fw_2_70 hq1.1 rfl d_Hub_removeClient_2 ?_)
  refine g_ltM (fun σ1 _ => ?_)
  refine g_aload_n F d_Hub_removeClient_5 0 rfl ?_
  refine g_callV F (dp := 3) (ci := 2) (As := []) (c_Hub_settlePeriods l _ hq _) cv_2_136 hq.1 rfl rfl rfl (Nat.le_of_ble_eq_true rfl) ⟨Nat.le_of_ble_eq_true rfl, Nat.le_of_ble_eq_true rfl⟩ ⟨Nat.zero_le _, Nat.zero_le _⟩ d_Hub_removeClient_6 (fun _ σ3 h1 => ?_)
  exact g_vret F hlk hr d_Hub_removeClient_9
end
section
def y_Hub_measure : MethodName := ⟨"SensorHub$Hub", "measure", "(ILSensorHub$Sensor;)V"⟩
theorem d_Hub_measure_0 : decode prog_4_method_26_code 0 = .ok (.aload_n 0, 1) := by decide +kernel
theorem d_Hub_measure_1 : decode prog_4_method_26_code 1 = .ok (.getfield 50, 3) := by decide +kernel
theorem d_Hub_measure_4 : decode prog_4_method_26_code 4 = .ok (.aload_n 2, 1) := by decide +kernel
theorem d_Hub_measure_5 : decode prog_4_method_26_code 5 = .ok (.getfield 224, 3) := by decide +kernel
theorem d_Hub_measure_8 : decode prog_4_method_26_code 8 = .ok (.iconst 1, 1) := by decide +kernel
theorem d_Hub_measure_9 : decode prog_4_method_26_code 9 = .ok (.iadd, 1) := by decide +kernel
theorem d_Hub_measure_10 : decode prog_4_method_26_code 10 = .ok (.aload_n 2, 1) := by decide +kernel
theorem d_Hub_measure_11 : decode prog_4_method_26_code 11 = .ok (.getfield 155, 3) := by decide +kernel
theorem d_Hub_measure_14 : decode prog_4_method_26_code 14 = .ok (.imul, 1) := by decide +kernel
theorem d_Hub_measure_15 : decode prog_4_method_26_code 15 = .ok (.iadd, 1) := by decide +kernel
theorem d_Hub_measure_16 : decode prog_4_method_26_code 16 = .ok (.istore_n 3, 1) := by decide +kernel
theorem d_Hub_measure_17 : decode prog_4_method_26_code 17 = .ok (.bipush 7, 2) := by decide +kernel
theorem d_Hub_measure_19 : decode prog_4_method_26_code 19 = .ok (.aload_n 2, 1) := by decide +kernel
theorem d_Hub_measure_20 : decode prog_4_method_26_code 20 = .ok (.getfield 224, 3) := by decide +kernel
theorem d_Hub_measure_23 : decode prog_4_method_26_code 23 = .ok (.imul, 1) := by decide +kernel
theorem d_Hub_measure_24 : decode prog_4_method_26_code 24 = .ok (.iload_n 1, 1) := by decide +kernel
theorem d_Hub_measure_25 : decode prog_4_method_26_code 25 = .ok (.iadd, 1) := by decide +kernel
theorem d_Hub_measure_26 : decode prog_4_method_26_code 26 = .ok (.aload_n 2, 1) := by decide +kernel
theorem d_Hub_measure_27 : decode prog_4_method_26_code 27 = .ok (.getfield 227, 3) := by decide +kernel
theorem d_Hub_measure_30 : decode prog_4_method_26_code 30 = .ok (.iconst 1, 1) := by decide +kernel
theorem d_Hub_measure_31 : decode prog_4_method_26_code 31 = .ok (.iadd, 1) := by decide +kernel
theorem d_Hub_measure_32 : decode prog_4_method_26_code 32 = .ok (.invokestatic 230, 3) := by decide +kernel
theorem d_Hub_measure_35 : decode prog_4_method_26_code 35 = .ok (.istore 4, 2) := by decide +kernel
theorem d_Hub_measure_37 : decode prog_4_method_26_code 37 = .ok (.iload_n 3, 1) := by decide +kernel
theorem d_Hub_measure_38 : decode prog_4_method_26_code 38 = .ok (.iload 4, 2) := by decide +kernel
theorem d_Hub_measure_40 : decode prog_4_method_26_code 40 = .ok (.iadd, 1) := by decide +kernel
theorem d_Hub_measure_41 : decode prog_4_method_26_code 41 = .ok (.aload_n 0, 1) := by decide +kernel
theorem d_Hub_measure_42 : decode prog_4_method_26_code 42 = .ok (.getfield 46, 3) := by decide +kernel
theorem d_Hub_measure_45 : decode prog_4_method_26_code 45 = .ok (.if_icmp .ne 54, 3) := by decide +kernel
theorem d_Hub_measure_48 : decode prog_4_method_26_code 48 = .ok (.aload_n 0, 1) := by decide +kernel
theorem d_Hub_measure_49 : decode prog_4_method_26_code 49 = .ok (.dup, 1) := by decide +kernel
theorem d_Hub_measure_50 : decode prog_4_method_26_code 50 = .ok (.getfield 53, 3) := by decide +kernel
theorem d_Hub_measure_53 : decode prog_4_method_26_code 53 = .ok (.aload_n 2, 1) := by decide +kernel
theorem d_Hub_measure_54 : decode prog_4_method_26_code 54 = .ok (.getfield 233, 3) := by decide +kernel
theorem d_Hub_measure_57 : decode prog_4_method_26_code 57 = .ok (.iadd, 1) := by decide +kernel
theorem d_Hub_measure_58 : decode prog_4_method_26_code 58 = .ok (.putfield 53, 3) := by decide +kernel
theorem d_Hub_measure_61 : decode prog_4_method_26_code 61 = .ok (.aload_n 0, 1) := by decide +kernel
theorem d_Hub_measure_62 : decode prog_4_method_26_code 62 = .ok (.getfield 30, 3) := by decide +kernel
theorem d_Hub_measure_65 : decode prog_4_method_26_code 65 = .ok (.iload_n 1, 1) := by decide +kernel
theorem d_Hub_measure_66 : decode prog_4_method_26_code 66 = .ok (.iload_n 3, 1) := by decide +kernel
theorem d_Hub_measure_67 : decode prog_4_method_26_code 67 = .ok (.invokevirtual 236, 3) := by decide +kernel
theorem d_Hub_measure_70 : decode prog_4_method_26_code 70 = .ok (.ifCond .eq 8, 3) := by decide +kernel
theorem d_Hub_measure_73 : decode prog_4_method_26_code 73 = .ok (.bipush (-8), 2) := by decide +kernel
theorem d_Hub_measure_75 : decode prog_4_method_26_code 75 = .ok (.goto 8, 3) := by decide +kernel
theorem d_Hub_measure_78 : decode prog_4_method_26_code 78 = .ok (.aload_n 2, 1) := by decide +kernel
theorem d_Hub_measure_79 : decode prog_4_method_26_code 79 = .ok (.iload_n 3, 1) := by decide +kernel
theorem d_Hub_measure_80 : decode prog_4_method_26_code 80 = .ok (.invokevirtual 240, 3) := by decide +kernel
theorem d_Hub_measure_83 : decode prog_4_method_26_code 83 = .ok (.istore 5, 2) := by decide +kernel
theorem d_Hub_measure_85 : decode prog_4_method_26_code 85 = .ok (.aload_n 2, 1) := by decide +kernel
theorem d_Hub_measure_86 : decode prog_4_method_26_code 86 = .ok (.aload_n 2, 1) := by decide +kernel
theorem d_Hub_measure_87 : decode prog_4_method_26_code 87 = .ok (.aload_n 0, 1) := by decide +kernel
theorem d_Hub_measure_88 : decode prog_4_method_26_code 88 = .ok (.getfield 46, 3) := by decide +kernel
theorem d_Hub_measure_91 : decode prog_4_method_26_code 91 = .ok (.invokevirtual 244, 3) := by decide +kernel
theorem d_Hub_measure_94 : decode prog_4_method_26_code 94 = .ok (.iload 5, 2) := by decide +kernel
theorem d_Hub_measure_96 : decode prog_4_method_26_code 96 = .ok (.invokevirtual 221, 3) := by decide +kernel
theorem d_Hub_measure_99 : decode prog_4_method_26_code 99 = .ok (.return_, 1) := by decide +kernel
theorem fs_2_224 : FS "SensorHub$Hub" 224 4 12 := ⟨"SensorHub$Sensor", T_4, 18, rfl, by decide, rfl, gw_I 173 (by decide +kernel) rfl⟩
theorem fs_2_227 : FS "SensorHub$Hub" 227 4 5 := ⟨"SensorHub$Sensor", T_4, 18, rfl, by decide, rfl, gw_I 155 (by decide +kernel) rfl⟩
theorem cs_2_230 : CSN "SensorHub$Hub" 230 y_X_remainder "SensorHub" prog_1_method_27_code 2 (some .int) 2 := ⟨List.mem_of_getElem? (i := 11) rfl, gw_I 748 (by decide +kernel) rfl, gw_I 70 (by decide +kernel) rfl, gw_I 749 (by decide +kernel) rfl, ⟨by decide +kernel, by decide +kernel⟩, by decide +kernel⟩
theorem fs_2_233 : FS "SensorHub$Hub" 233 4 6 := ⟨"SensorHub$Sensor", T_4, 18, rfl, by decide, rfl, gw_I 157 (by decide +kernel) rfl⟩
theorem cv_2_236 : CSV "SensorHub$Hub" 236 y_Out_cover prog_5_method_4_code 4 (some .boolean) 2 := ⟨gw_I 751 (by decide +kernel) rfl, gw_I 752 (by decide +kernel) rfl, gw_I 753 (by decide +kernel) rfl, gw_I 72 (by decide +kernel) rfl, gw_I 754 (by decide +kernel) rfl, ⟨by decide +kernel, by decide +kernel⟩, by decide +kernel⟩
theorem cv_2_240 : CSV "SensorHub$Hub" 240 y_Sen_valueAt prog_6_method_8_code 2 (some .int) 1 := ⟨gw_I 755 (by decide +kernel) rfl, gw_I 756 (by decide +kernel) rfl, gw_I 757 (by decide +kernel) rfl, gw_I 74 (by decide +kernel) rfl, gw_I 758 (by decide +kernel) rfl, ⟨by decide +kernel, by decide +kernel⟩, by decide +kernel⟩
theorem cv_2_244 : CSV "SensorHub$Hub" 244 y_Sen_smoothedStamp prog_6_method_9_code 3 (some .int) 1 := ⟨gw_I 760 (by decide +kernel) rfl, gw_I 761 (by decide +kernel) rfl, gw_I 762 (by decide +kernel) rfl, gw_I 74 (by decide +kernel) rfl, gw_I 763 (by decide +kernel) rfl, ⟨by decide +kernel, by decide +kernel⟩, by decide +kernel⟩
theorem cv_2_221 : CSV "SensorHub$Hub" 221 y_Sen_accept prog_6_method_10_code 3 none 2 := ⟨gw_I 765 (by decide +kernel) rfl, gw_I 766 (by decide +kernel) rfl, gw_I 767 (by decide +kernel) rfl, gw_I 74 (by decide +kernel) rfl, gw_I 768 (by decide +kernel) rfl, ⟨by decide +kernel, by decide +kernel⟩, by decide +kernel⟩
def f_Hub_measure (q : Nat) (p1 : Int32) (q2 : Nat) (σ : Mem) : Option (Unit × Mem) :=
  lt ((σ q 1) + (((σ q2 12) + (1 : Int32)) * (σ q2 11))) fun v1 =>
  bd (f_X_remainder (((7 : Int32) * (σ q2 12)) + p1) ((σ q2 5) + (1 : Int32)) σ) fun r2 σ3 =>
  if (v1 + r2) = (σ3 q 0) then
    lt (wr σ3 q 2 ((σ3 q 2) + (σ3 q2 6))) fun σ4 =>
    bd (f_Out_cover (q + 4) p1 v1 σ4) fun r5 σ6 =>
    if r5 = 0 then
      bd (f_Sen_valueAt q2 v1 σ6) fun r7 σ8 =>
      bd (f_Sen_smoothedStamp q2 (σ8 q 0) σ8) fun r9 σ10 =>
      bd (f_Sen_accept q2 r9 r7 σ10) fun _ σ12 =>
      some ((), σ12)
    else
      bd (f_Sen_smoothedStamp q2 (σ6 q 0) σ6) fun r13 σ14 =>
      bd (f_Sen_accept q2 r13 (-8 : Int32) σ14) fun _ σ16 =>
      some ((), σ16)
  else
    some ((), σ3)
set_option maxRecDepth 100000 in
set_option maxHeartbeats 4000000 in
theorem c_Hub_measure {X : CX} (l : Launch) (q : Nat) (p1 : Int32) (q2 : Nat) (hq : HubOK X q) (hq2 : SensorOK X q2) (σ : Mem) : CT X l y_Hub_measure prog_4_method_26_code 6 none 2 vU [.ref (xa X q), .int p1, .ref (xa X q2)] σ (f_Hub_measure q p1 q2 σ) := by
  refine CT_of (by decide +kernel) (Nat.le_of_ble_eq_true rfl) ?_
  intro p e s m args below meth c F hlk hr
  have F : FR p s m args c prog_4_method_26_code 6 "SensorHub$Hub" X := F
  show G X p l e (rmD 2) s m args below meth c 6 0 0 (QI X below args s vU) 0 [(0, .ref (xa X q)), (1, .int p1), (2, .ref (xa X q2))] [] σ _
  unfold f_Hub_measure
  refine g_aload_n F d_Hub_measure_0 0 rfl ?_
  refine g_getI F fs_2_50 hq.1 rfl d_Hub_measure_1 ?_
  refine g_aload_n F d_Hub_measure_4 2 rfl ?_
  refine g_getI F fs_2_224 hq2.1 rfl d_Hub_measure_5 ?_
  refine g_iconst F (v := 1) d_Hub_measure_8 (by decide) ?_
  refine g_iadd F d_Hub_measure_9 ?_
  refine g_aload_n F d_Hub_measure_10 2 rfl ?_
  refine g_getI F fs_2_155 hq2.1 rfl d_Hub_measure_11 ?_
  refine g_imul F d_Hub_measure_14 ?_
  refine g_iadd F d_Hub_measure_15 ?_
  refine g_ltI (fun v1 _ => ?_)
  refine g_istore_n F (ls' := [(3, .int v1), (0, .ref (xa X q)), (1, .int p1), (2, .ref (xa X q2))]) d_Hub_measure_16 (by decide) rfl ?_
  refine g_bipush F (v := 7) d_Hub_measure_17 (by decide) ?_
  refine g_aload_n F d_Hub_measure_19 3 rfl ?_
  refine g_getI F fs_2_224 hq2.1 rfl d_Hub_measure_20 ?_
  refine g_imul F d_Hub_measure_23 ?_
  refine g_iload_n F d_Hub_measure_24 2 rfl ?_
  refine g_iadd F d_Hub_measure_25 ?_
  refine g_aload_n F d_Hub_measure_26 3 rfl ?_
  refine g_getI F fs_2_227 hq2.1 rfl d_Hub_measure_27 ?_
  refine g_iconst F (v := 1) d_Hub_measure_30 (by decide) ?_
  refine g_iadd F d_Hub_measure_31 ?_
  refine g_callSN F (dp := 1) (As := [.int (((7 : Int32) * (σ q2 12)) + p1), .int ((σ q2 5) + (1 : Int32))]) (c_X_remainder l _ _ _) cs_2_230 rfl rfl (Nat.le_of_ble_eq_true rfl) ⟨Nat.le_of_ble_eq_true rfl, Nat.le_of_ble_eq_true rfl⟩ ⟨Nat.zero_le _, Nat.zero_le _⟩ d_Hub_measure_32 (fun r2 σ3 h1 => ?_)
  refine g_istore F (ls' := [(4, .int r2), (3, .int v1), (0, .ref (xa X q)), (1, .int p1), (2, .ref (xa X q2))]) d_Hub_measure_35 (by decide) rfl ?_
  refine g_iload_n F d_Hub_measure_37 1 rfl ?_
  refine g_iload F d_Hub_measure_38 0 rfl ?_
  refine g_iadd F d_Hub_measure_40 ?_
  refine g_aload_n F d_Hub_measure_41 2 rfl ?_
  refine g_getI F fs_2_46 hq.1 rfl d_Hub_measure_42 ?_
  refine g_icmp_ne F (tgt := 99) d_Hub_measure_45 (by decide) (fun h2 => ?_) (fun h3 => ?_)
  · refine g_aload_n F d_Hub_measure_48 2 rfl ?_
    refine g_dup F d_Hub_measure_49 rfl ?_
    refine g_getI F fs_2_53 hq.1 rfl d_Hub_measure_50 ?_
    refine g_aload_n F d_Hub_measure_53 4 rfl ?_
    refine g_getI F fs_2_233 hq2.1 rfl d_Hub_measure_54 ?_
    refine g_iadd F d_Hub_measure_57 ?_
    refine g_putI F fw_2_53 hq.1 rfl d_Hub_measure_58 ?_
    refine g_ltM (fun σ4 _ => ?_)
    refine g_aload_n F d_Hub_measure_61 2 rfl ?_
    refine g_getR F fs_2_30 hq.1 rfl d_Hub_measure_62 ?_
    refine g_iload_n F d_Hub_measure_65 3 rfl ?_
    refine g_iload_n F d_Hub_measure_66 1 rfl ?_
    refine g_callV F (dp := 1) (ci := 3) (As := [.int p1, .int v1]) (c_Out_cover l _ _ _ hq.2.2.2.2.1 _) cv_2_236 hq.2.2.2.2.1.1 rfl rfl rfl (Nat.le_of_ble_eq_true rfl) ⟨Nat.le_of_ble_eq_true rfl, Nat.le_of_ble_eq_true rfl⟩ ⟨Nat.zero_le _, Nat.zero_le _⟩ d_Hub_measure_67 (fun r5 σ6 h4 => ?_)
    refine g_if_eq F (tgt := 78) d_Hub_measure_70 (by decide) (fun h5 => ?_) (fun h6 => ?_)
    · refine g_aload_n F d_Hub_measure_78 4 rfl ?_
      refine g_iload_n F d_Hub_measure_79 1 rfl ?_
      refine g_callV F (dp := 1) (ci := 4) (As := [.int v1]) (c_Sen_valueAt l _ _ hq2 _) cv_2_240 hq2.1 rfl rfl rfl (Nat.le_of_ble_eq_true rfl) ⟨Nat.le_of_ble_eq_true rfl, Nat.le_of_ble_eq_true rfl⟩ ⟨Nat.zero_le _, Nat.zero_le _⟩ d_Hub_measure_80 (fun r7 σ8 h7 => ?_)
      refine g_istore F (ls' := [(5, .int r7), (4, .int r2), (3, .int v1), (0, .ref (xa X q)), (1, .int p1), (2, .ref (xa X q2))]) d_Hub_measure_83 (by decide) rfl ?_
      refine g_aload_n F d_Hub_measure_85 5 rfl ?_
      refine g_aload_n F d_Hub_measure_86 5 rfl ?_
      refine g_aload_n F d_Hub_measure_87 3 rfl ?_
      refine g_getI F fs_2_46 hq.1 rfl d_Hub_measure_88 ?_
      refine g_callV F (dp := 1) (ci := 4) (As := [.int (σ8 q 0)]) (c_Sen_smoothedStamp l _ _ hq2 _) cv_2_244 hq2.1 rfl rfl rfl (Nat.le_of_ble_eq_true rfl) ⟨Nat.le_of_ble_eq_true rfl, Nat.le_of_ble_eq_true rfl⟩ ⟨Nat.zero_le _, Nat.zero_le _⟩ d_Hub_measure_91 (fun r9 σ10 h8 => ?_)
      refine g_iload F d_Hub_measure_94 0 rfl ?_
      refine g_callV F (dp := 1) (ci := 4) (As := [.int r9, .int r7]) (c_Sen_accept l _ _ _ hq2 _) cv_2_221 hq2.1 rfl rfl rfl (Nat.le_of_ble_eq_true rfl) ⟨Nat.le_of_ble_eq_true rfl, Nat.le_of_ble_eq_true rfl⟩ ⟨Nat.zero_le _, Nat.zero_le _⟩ d_Hub_measure_96 (fun _ σ12 h9 => ?_)
      exact g_vret F hlk hr d_Hub_measure_99
    refine g_bipush F (v := (-8)) d_Hub_measure_73 (by decide) ?_
    refine g_goto F (tgt := 83) d_Hub_measure_75 (by decide) ?_
    refine g_istore F (ls' := [(5, .int (-8 : Int32)), (4, .int r2), (3, .int v1), (0, .ref (xa X q)), (1, .int p1), (2, .ref (xa X q2))]) d_Hub_measure_83 (by decide) rfl ?_
    refine g_aload_n F d_Hub_measure_85 5 rfl ?_
    refine g_aload_n F d_Hub_measure_86 5 rfl ?_
    refine g_aload_n F d_Hub_measure_87 3 rfl ?_
    refine g_getI F fs_2_46 hq.1 rfl d_Hub_measure_88 ?_
    refine g_callV F (dp := 1) (ci := 4) (As := [.int (σ6 q 0)]) (c_Sen_smoothedStamp l _ _ hq2 _) cv_2_244 hq2.1 rfl rfl rfl (Nat.le_of_ble_eq_true rfl) ⟨Nat.le_of_ble_eq_true rfl, Nat.le_of_ble_eq_true rfl⟩ ⟨Nat.zero_le _, Nat.zero_le _⟩ d_Hub_measure_91 (fun r13 σ14 h10 => ?_)
    refine g_iload F d_Hub_measure_94 0 rfl ?_
    refine g_callV F (dp := 1) (ci := 4) (As := [.int r13, .int (-8 : Int32)]) (c_Sen_accept l _ _ _ hq2 _) cv_2_221 hq2.1 rfl rfl rfl (Nat.le_of_ble_eq_true rfl) ⟨Nat.le_of_ble_eq_true rfl, Nat.le_of_ble_eq_true rfl⟩ ⟨Nat.zero_le _, Nat.zero_le _⟩ d_Hub_measure_96 (fun _ σ16 h11 => ?_)
    exact g_vret F hlk hr d_Hub_measure_99
  exact g_vret F hlk hr d_Hub_measure_99
def y_Hub_computedValue : MethodName := ⟨"SensorHub$Hub", "computedValue", "(LSensorHub$Sensor;LSensorHub$Sensor;)I"⟩
theorem d_Hub_computedValue_0 : decode prog_4_method_27_code 0 = .ok (.aload_n 2, 1) := by decide +kernel
theorem d_Hub_computedValue_1 : decode prog_4_method_27_code 1 = .ok (.getfield 247, 3) := by decide +kernel
theorem d_Hub_computedValue_4 : decode prog_4_method_27_code 4 = .ok (.bipush (-8), 2) := by decide +kernel
theorem d_Hub_computedValue_6 : decode prog_4_method_27_code 6 = .ok (.if_icmp .ne 6, 3) := by decide +kernel
theorem d_Hub_computedValue_9 : decode prog_4_method_27_code 9 = .ok (.bipush (-8), 2) := by decide +kernel
theorem d_Hub_computedValue_11 : decode prog_4_method_27_code 11 = .ok (.ireturn, 1) := by decide +kernel
theorem d_Hub_computedValue_12 : decode prog_4_method_27_code 12 = .ok (.aload_n 1, 1) := by decide +kernel
theorem d_Hub_computedValue_13 : decode prog_4_method_27_code 13 = .ok (.getfield 104, 3) := by decide +kernel
theorem d_Hub_computedValue_16 : decode prog_4_method_27_code 16 = .ok (.iconst 3, 1) := by decide +kernel
theorem d_Hub_computedValue_17 : decode prog_4_method_27_code 17 = .ok (.if_icmp .ne 12, 3) := by decide +kernel
theorem d_Hub_computedValue_20 : decode prog_4_method_27_code 20 = .ok (.aload_n 2, 1) := by decide +kernel
theorem d_Hub_computedValue_21 : decode prog_4_method_27_code 21 = .ok (.aload_n 1, 1) := by decide +kernel
theorem d_Hub_computedValue_22 : decode prog_4_method_27_code 22 = .ok (.getfield 172, 3) := by decide +kernel
theorem d_Hub_computedValue_25 : decode prog_4_method_27_code 25 = .ok (.invokevirtual 250, 3) := by decide +kernel
theorem d_Hub_computedValue_28 : decode prog_4_method_27_code 28 = .ok (.ireturn, 1) := by decide +kernel
theorem d_Hub_computedValue_29 : decode prog_4_method_27_code 29 = .ok (.aload_n 0, 1) := by decide +kernel
theorem d_Hub_computedValue_30 : decode prog_4_method_27_code 30 = .ok (.aload_n 1, 1) := by decide +kernel
theorem d_Hub_computedValue_31 : decode prog_4_method_27_code 31 = .ok (.getfield 172, 3) := by decide +kernel
theorem d_Hub_computedValue_34 : decode prog_4_method_27_code 34 = .ok (.invokevirtual 101, 3) := by decide +kernel
theorem d_Hub_computedValue_37 : decode prog_4_method_27_code 37 = .ok (.astore_n 3, 1) := by decide +kernel
theorem d_Hub_computedValue_38 : decode prog_4_method_27_code 38 = .ok (.aload_n 3, 1) := by decide +kernel
theorem d_Hub_computedValue_39 : decode prog_4_method_27_code 39 = .ok (.ifnull 19, 3) := by decide +kernel
theorem d_Hub_computedValue_42 : decode prog_4_method_27_code 42 = .ok (.aload_n 3, 1) := by decide +kernel
theorem d_Hub_computedValue_43 : decode prog_4_method_27_code 43 = .ok (.getfield 224, 3) := by decide +kernel
theorem d_Hub_computedValue_46 : decode prog_4_method_27_code 46 = .ok (.ifCond .eq 12, 3) := by decide +kernel
theorem d_Hub_computedValue_49 : decode prog_4_method_27_code 49 = .ok (.aload_n 3, 1) := by decide +kernel
theorem d_Hub_computedValue_50 : decode prog_4_method_27_code 50 = .ok (.getfield 247, 3) := by decide +kernel
theorem d_Hub_computedValue_53 : decode prog_4_method_27_code 53 = .ok (.bipush (-8), 2) := by decide +kernel
theorem d_Hub_computedValue_55 : decode prog_4_method_27_code 55 = .ok (.if_icmp .ne 6, 3) := by decide +kernel
theorem d_Hub_computedValue_58 : decode prog_4_method_27_code 58 = .ok (.bipush (-8), 2) := by decide +kernel
theorem d_Hub_computedValue_60 : decode prog_4_method_27_code 60 = .ok (.ireturn, 1) := by decide +kernel
theorem d_Hub_computedValue_61 : decode prog_4_method_27_code 61 = .ok (.aload_n 1, 1) := by decide +kernel
theorem d_Hub_computedValue_62 : decode prog_4_method_27_code 62 = .ok (.getfield 104, 3) := by decide +kernel
theorem d_Hub_computedValue_65 : decode prog_4_method_27_code 65 = .ok (.lookupswitch 59 #[(0, 27), (1, 43)], 27) := by decide +kernel
theorem d_Hub_computedValue_92 : decode prog_4_method_27_code 92 = .ok (.aload_n 2, 1) := by decide +kernel
theorem d_Hub_computedValue_93 : decode prog_4_method_27_code 93 = .ok (.getfield 247, 3) := by decide +kernel
theorem d_Hub_computedValue_96 : decode prog_4_method_27_code 96 = .ok (.aload_n 3, 1) := by decide +kernel
theorem d_Hub_computedValue_97 : decode prog_4_method_27_code 97 = .ok (.getfield 247, 3) := by decide +kernel
theorem d_Hub_computedValue_100 : decode prog_4_method_27_code 100 = .ok (.iadd, 1) := by decide +kernel
theorem d_Hub_computedValue_101 : decode prog_4_method_27_code 101 = .ok (.sipush 1000, 3) := by decide +kernel
theorem d_Hub_computedValue_104 : decode prog_4_method_27_code 104 = .ok (.invokestatic 253, 3) := by decide +kernel
theorem d_Hub_computedValue_107 : decode prog_4_method_27_code 107 = .ok (.ireturn, 1) := by decide +kernel
theorem d_Hub_computedValue_108 : decode prog_4_method_27_code 108 = .ok (.aload_n 2, 1) := by decide +kernel
theorem d_Hub_computedValue_109 : decode prog_4_method_27_code 109 = .ok (.getfield 247, 3) := by decide +kernel
theorem d_Hub_computedValue_112 : decode prog_4_method_27_code 112 = .ok (.aload_n 3, 1) := by decide +kernel
theorem d_Hub_computedValue_113 : decode prog_4_method_27_code 113 = .ok (.getfield 247, 3) := by decide +kernel
theorem d_Hub_computedValue_116 : decode prog_4_method_27_code 116 = .ok (.isub, 1) := by decide +kernel
theorem d_Hub_computedValue_117 : decode prog_4_method_27_code 117 = .ok (.sipush 1000, 3) := by decide +kernel
theorem d_Hub_computedValue_120 : decode prog_4_method_27_code 120 = .ok (.invokestatic 253, 3) := by decide +kernel
theorem d_Hub_computedValue_123 : decode prog_4_method_27_code 123 = .ok (.ireturn, 1) := by decide +kernel
theorem d_Hub_computedValue_124 : decode prog_4_method_27_code 124 = .ok (.aload_n 2, 1) := by decide +kernel
theorem d_Hub_computedValue_125 : decode prog_4_method_27_code 125 = .ok (.getfield 247, 3) := by decide +kernel
theorem d_Hub_computedValue_128 : decode prog_4_method_27_code 128 = .ok (.aload_n 3, 1) := by decide +kernel
theorem d_Hub_computedValue_129 : decode prog_4_method_27_code 129 = .ok (.getfield 247, 3) := by decide +kernel
theorem d_Hub_computedValue_132 : decode prog_4_method_27_code 132 = .ok (.invokestatic 124, 3) := by decide +kernel
theorem d_Hub_computedValue_135 : decode prog_4_method_27_code 135 = .ok (.ireturn, 1) := by decide +kernel
theorem fs_2_247 : FS "SensorHub$Hub" 247 4 15 := ⟨"SensorHub$Sensor", T_4, 18, rfl, by decide, rfl, gw_I 181 (by decide +kernel) rfl⟩
theorem cv_2_250 : CSV "SensorHub$Hub" 250 y_Sen_meanOfLatest prog_6_method_11_code 5 (some .int) 1 := ⟨gw_I 773 (by decide +kernel) rfl, gw_I 774 (by decide +kernel) rfl, gw_I 775 (by decide +kernel) rfl, gw_I 74 (by decide +kernel) rfl, gw_I 776 (by decide +kernel) rfl, ⟨by decide +kernel, by decide +kernel⟩, by decide +kernel⟩
theorem cs_2_253 : CSS "SensorHub$Hub" 253 y_Mat_floorMod prog_11_method_50_code 3 (some .int) 2 := ⟨gw_I 778 (by decide +kernel) rfl, gw_I 409 (by decide +kernel) rfl, gw_I 79 (by decide +kernel) rfl, gw_I 410 (by decide +kernel) rfl, ⟨by decide +kernel, by decide +kernel⟩, by decide +kernel⟩
def f_Hub_computedValue (q : Nat) (q1 : Nat) (q2 : Nat) (σ : Mem) : Option (Int32 × Mem) :=
  if (σ q2 15) = (-8 : Int32) then
    some ((-8 : Int32), σ)
  else
    if (σ q1 0) = (3 : Int32) then
      bd (f_Sen_meanOfLatest q2 (σ q1 8) σ) fun r1 σ2 =>
      some (r1, σ2)
    else
      bd (f_Hub_sensorAt q (σ q1 8) σ) fun r3 σ4 =>
      oe r3 (
        some ((-8 : Int32), σ4)
      ) (fun o5 =>
        if (σ4 o5 12) = 0 then
          some ((-8 : Int32), σ4)
        else
          if (σ4 o5 15) = (-8 : Int32) then
            some ((-8 : Int32), σ4)
          else
            if (σ4 q1 0) = 0 then
              bd (f_Mat_floorMod ((σ4 q2 15) + (σ4 o5 15)) (1000 : Int32) σ4) fun r6 σ7 =>
              some (r6, σ7)
            else
            if (σ4 q1 0) = 1 then
              bd (f_Mat_floorMod ((σ4 q2 15) - (σ4 o5 15)) (1000 : Int32) σ4) fun r8 σ9 =>
              some (r8, σ9)
            else
              bd (f_Mat_max (σ4 q2 15) (σ4 o5 15) σ4) fun r10 σ11 =>
              some (r10, σ11)
      )
set_option maxRecDepth 100000 in
set_option maxHeartbeats 4000000 in
theorem c_Hub_computedValue {X : CX} (l : Launch) (q : Nat) (q1 : Nat) (q2 : Nat) (hq : HubOK X q) (hq1 : SensorOK X q1) (hq2 : SensorOK X q2) (σ : Mem) : CT X l y_Hub_computedValue prog_4_method_27_code 4 (some .int) 2 vI [.ref (xa X q), .ref (xa X q1), .ref (xa X q2)] σ (f_Hub_computedValue q q1 q2 σ) := by
  refine CT_of (by decide +kernel) (Nat.le_of_ble_eq_true rfl) ?_
  intro p e s m args below meth c F hlk hr
  have F : FR p s m args c prog_4_method_27_code 4 "SensorHub$Hub" X := F
  show G X p l e (rmD 2) s m args below meth c 4 0 0 (QI X below args s vI) 0 [(0, .ref (xa X q)), (1, .ref (xa X q1)), (2, .ref (xa X q2))] [] σ _
  unfold f_Hub_computedValue
  refine g_aload_n F d_Hub_computedValue_0 2 rfl ?_
  refine g_getI F fs_2_247 hq2.1 rfl d_Hub_computedValue_1 ?_
  refine g_bipush F (v := (-8)) d_Hub_computedValue_4 (by decide) ?_
  refine g_icmp_ne F (tgt := 12) d_Hub_computedValue_6 (by decide) (fun h1 => ?_) (fun h2 => ?_)
  · refine g_bipush F (v := (-8)) d_Hub_computedValue_9 (by decide) ?_
    exact g_iret F hlk hr d_Hub_computedValue_11
  refine g_aload_n F d_Hub_computedValue_12 1 rfl ?_
  refine g_getI F fs_2_104 hq1.1 rfl d_Hub_computedValue_13 ?_
  refine g_iconst F (v := 3) d_Hub_computedValue_16 (by decide) ?_
  refine g_icmp_ne F (tgt := 29) d_Hub_computedValue_17 (by decide) (fun h3 => ?_) (fun h4 => ?_)
  · refine g_aload_n F d_Hub_computedValue_20 2 rfl ?_
    refine g_aload_n F d_Hub_computedValue_21 1 rfl ?_
    refine g_getI F fs_2_172 hq1.1 rfl d_Hub_computedValue_22 ?_
    refine g_callV F (dp := 1) (ci := 4) (As := [.int (σ q1 8)]) (c_Sen_meanOfLatest l _ _ hq2 _) cv_2_250 hq2.1 rfl rfl rfl (Nat.le_of_ble_eq_true rfl) ⟨Nat.le_of_ble_eq_true rfl, Nat.le_of_ble_eq_true rfl⟩ ⟨Nat.zero_le _, Nat.zero_le _⟩ d_Hub_computedValue_25 (fun r1 σ2 h5 => ?_)
    exact g_iret F hlk hr d_Hub_computedValue_28
  refine g_aload_n F d_Hub_computedValue_29 0 rfl ?_
  refine g_aload_n F d_Hub_computedValue_30 1 rfl ?_
  refine g_getI F fs_2_172 hq1.1 rfl d_Hub_computedValue_31 ?_
  refine g_callV F (dp := 0) (ci := 2) (As := [.int (σ q1 8)]) (c_Hub_sensorAt l _ _ hq _) cv_2_101 hq.1 rfl rfl rfl (Nat.le_of_ble_eq_true rfl) ⟨Nat.le_of_ble_eq_true rfl, Nat.le_of_ble_eq_true rfl⟩ ⟨Nat.zero_le _, Nat.zero_le _⟩ d_Hub_computedValue_34 (fun r3 σ4 h6 => ?_)
  refine g_oe (fun h7 => ?_) (fun o5 h8 => ?_)
  · refine g_astore_nN F (ls' := [(3, .null), (0, .ref (xa X q)), (1, .ref (xa X q1)), (2, .ref (xa X q2))]) d_Hub_computedValue_37 (by decide) rfl ?_
    refine g_aload_nN F d_Hub_computedValue_38 0 rfl ?_
    refine g_ifnullN F (tgt := 58) d_Hub_computedValue_39 (by decide) ?_
    refine g_bipush F (v := (-8)) d_Hub_computedValue_58 (by decide) ?_
    exact g_iret F hlk hr d_Hub_computedValue_60
  have h9 : SensorOK X o5 := ok_Hub_sensorAt hq (h8 ▸ h6)
  refine g_astore_n F (ls' := [(3, .ref (xa X o5)), (0, .ref (xa X q)), (1, .ref (xa X q1)), (2, .ref (xa X q2))]) d_Hub_computedValue_37 (by decide) rfl ?_
  refine g_aload_n F d_Hub_computedValue_38 0 rfl ?_
  refine g_ifnull F d_Hub_computedValue_39 ?_
  refine g_aload_n F d_Hub_computedValue_42 0 rfl ?_
  refine g_getI F fs_2_224 h9.1 rfl d_Hub_computedValue_43 ?_
  refine g_if_eq F (tgt := 58) d_Hub_computedValue_46 (by decide) (fun h10 => ?_) (fun h11 => ?_)
  · refine g_bipush F (v := (-8)) d_Hub_computedValue_58 (by decide) ?_
    exact g_iret F hlk hr d_Hub_computedValue_60
  refine g_aload_n F d_Hub_computedValue_49 0 rfl ?_
  refine g_getI F fs_2_247 h9.1 rfl d_Hub_computedValue_50 ?_
  refine g_bipush F (v := (-8)) d_Hub_computedValue_53 (by decide) ?_
  refine g_icmp_ne F (tgt := 61) d_Hub_computedValue_55 (by decide) (fun h12 => ?_) (fun h13 => ?_)
  · refine g_bipush F (v := (-8)) d_Hub_computedValue_58 (by decide) ?_
    exact g_iret F hlk hr d_Hub_computedValue_60
  refine g_aload_n F d_Hub_computedValue_61 2 rfl ?_
  refine g_getI F fs_2_104 hq1.1 rfl d_Hub_computedValue_62 ?_
  refine g_if (fun h14 => ?_) (fun h15 => ?_)
  · refine g_lks F (tgt := 92) d_Hub_computedValue_65 (by decide) (by rw [h14]; decide) (by decide) ?_
    refine g_aload_n F d_Hub_computedValue_92 3 rfl ?_
    refine g_getI F fs_2_247 hq2.1 rfl d_Hub_computedValue_93 ?_
    refine g_aload_n F d_Hub_computedValue_96 0 rfl ?_
    refine g_getI F fs_2_247 h9.1 rfl d_Hub_computedValue_97 ?_
    refine g_iadd F d_Hub_computedValue_100 ?_
    refine g_sipush F (v := 1000) d_Hub_computedValue_101 (by decide) ?_
    refine g_callS F (dp := 0) (As := [.int ((σ4 q2 15) + (σ4 o5 15)), .int (1000 : Int32)]) (c_Mat_floorMod l _ _ _) cs_2_253 rfl rfl (Nat.le_of_ble_eq_true rfl) ⟨Nat.le_of_ble_eq_true rfl, Nat.le_of_ble_eq_true rfl⟩ ⟨Nat.zero_le _, Nat.zero_le _⟩ d_Hub_computedValue_104 (fun r6 σ7 h16 => ?_)
    exact g_iret F hlk hr d_Hub_computedValue_107
  refine g_if (fun h17 => ?_) (fun h18 => ?_)
  · refine g_lks F (tgt := 108) d_Hub_computedValue_65 (by decide) (by rw [h17]; decide) (by decide) ?_
    refine g_aload_n F d_Hub_computedValue_108 3 rfl ?_
    refine g_getI F fs_2_247 hq2.1 rfl d_Hub_computedValue_109 ?_
    refine g_aload_n F d_Hub_computedValue_112 0 rfl ?_
    refine g_getI F fs_2_247 h9.1 rfl d_Hub_computedValue_113 ?_
    refine g_isub F d_Hub_computedValue_116 ?_
    refine g_sipush F (v := 1000) d_Hub_computedValue_117 (by decide) ?_
    refine g_callS F (dp := 0) (As := [.int ((σ4 q2 15) - (σ4 o5 15)), .int (1000 : Int32)]) (c_Mat_floorMod l _ _ _) cs_2_253 rfl rfl (Nat.le_of_ble_eq_true rfl) ⟨Nat.le_of_ble_eq_true rfl, Nat.le_of_ble_eq_true rfl⟩ ⟨Nat.zero_le _, Nat.zero_le _⟩ d_Hub_computedValue_120 (fun r8 σ9 h19 => ?_)
    exact g_iret F hlk hr d_Hub_computedValue_123
  refine g_lks F (tgt := 124) d_Hub_computedValue_65 (by decide) ((lv_osw h15 (by decide)).trans ((lv_osw h18 (by decide)).trans rfl)) (by decide) ?_
  refine g_aload_n F d_Hub_computedValue_124 3 rfl ?_
  refine g_getI F fs_2_247 hq2.1 rfl d_Hub_computedValue_125 ?_
  refine g_aload_n F d_Hub_computedValue_128 0 rfl ?_
  refine g_getI F fs_2_247 h9.1 rfl d_Hub_computedValue_129 ?_
  refine g_callS F (dp := 0) (As := [.int (σ4 q2 15), .int (σ4 o5 15)]) (c_Mat_max l _ _ _) cs_2_124 rfl rfl (Nat.le_of_ble_eq_true rfl) ⟨Nat.le_of_ble_eq_true rfl, Nat.le_of_ble_eq_true rfl⟩ ⟨Nat.zero_le _, Nat.zero_le _⟩ d_Hub_computedValue_132 (fun r10 σ11 h20 => ?_)
  exact g_iret F hlk hr d_Hub_computedValue_135
def y_Hub_receiveSample : MethodName := ⟨"SensorHub$Hub", "receiveSample", "(ILSensorHub$Sensor;)V"⟩
theorem d_Hub_receiveSample_0 : decode prog_4_method_25_code 0 = .ok (.aload_n 2, 1) := by decide +kernel
theorem d_Hub_receiveSample_1 : decode prog_4_method_25_code 1 = .ok (.getfield 104, 3) := by decide +kernel
theorem d_Hub_receiveSample_4 : decode prog_4_method_25_code 4 = .ok (.iconst 4, 1) := by decide +kernel
theorem d_Hub_receiveSample_5 : decode prog_4_method_25_code 5 = .ok (.if_icmp .ne 10, 3) := by decide +kernel
theorem d_Hub_receiveSample_8 : decode prog_4_method_25_code 8 = .ok (.aload_n 0, 1) := by decide +kernel
theorem d_Hub_receiveSample_9 : decode prog_4_method_25_code 9 = .ok (.iload_n 1, 1) := by decide +kernel
theorem d_Hub_receiveSample_10 : decode prog_4_method_25_code 10 = .ok (.aload_n 2, 1) := by decide +kernel
theorem d_Hub_receiveSample_11 : decode prog_4_method_25_code 11 = .ok (.invokevirtual 211, 3) := by decide +kernel
theorem d_Hub_receiveSample_14 : decode prog_4_method_25_code 14 = .ok (.return_, 1) := by decide +kernel
theorem d_Hub_receiveSample_15 : decode prog_4_method_25_code 15 = .ok (.aload_n 0, 1) := by decide +kernel
theorem d_Hub_receiveSample_16 : decode prog_4_method_25_code 16 = .ok (.aload_n 2, 1) := by decide +kernel
theorem d_Hub_receiveSample_17 : decode prog_4_method_25_code 17 = .ok (.getfield 169, 3) := by decide +kernel
theorem d_Hub_receiveSample_20 : decode prog_4_method_25_code 20 = .ok (.invokevirtual 101, 3) := by decide +kernel
theorem d_Hub_receiveSample_23 : decode prog_4_method_25_code 23 = .ok (.astore_n 3, 1) := by decide +kernel
theorem d_Hub_receiveSample_24 : decode prog_4_method_25_code 24 = .ok (.aload_n 3, 1) := by decide +kernel
theorem d_Hub_receiveSample_25 : decode prog_4_method_25_code 25 = .ok (.ifnull 24, 3) := by decide +kernel
theorem d_Hub_receiveSample_28 : decode prog_4_method_25_code 28 = .ok (.aload_n 3, 1) := by decide +kernel
theorem d_Hub_receiveSample_29 : decode prog_4_method_25_code 29 = .ok (.getfield 204, 3) := by decide +kernel
theorem d_Hub_receiveSample_32 : decode prog_4_method_25_code 32 = .ok (.ifCond .eq 17, 3) := by decide +kernel
theorem d_Hub_receiveSample_35 : decode prog_4_method_25_code 35 = .ok (.aload_n 2, 1) := by decide +kernel
theorem d_Hub_receiveSample_36 : decode prog_4_method_25_code 36 = .ok (.aload_n 3, 1) := by decide +kernel
theorem d_Hub_receiveSample_37 : decode prog_4_method_25_code 37 = .ok (.getfield 214, 3) := by decide +kernel
theorem d_Hub_receiveSample_40 : decode prog_4_method_25_code 40 = .ok (.aload_n 0, 1) := by decide +kernel
theorem d_Hub_receiveSample_41 : decode prog_4_method_25_code 41 = .ok (.aload_n 2, 1) := by decide +kernel
theorem d_Hub_receiveSample_42 : decode prog_4_method_25_code 42 = .ok (.aload_n 3, 1) := by decide +kernel
theorem d_Hub_receiveSample_43 : decode prog_4_method_25_code 43 = .ok (.invokevirtual 217, 3) := by decide +kernel
theorem d_Hub_receiveSample_46 : decode prog_4_method_25_code 46 = .ok (.invokevirtual 221, 3) := by decide +kernel
theorem d_Hub_receiveSample_49 : decode prog_4_method_25_code 49 = .ok (.return_, 1) := by decide +kernel
theorem cv_2_211 : CSV "SensorHub$Hub" 211 y_Hub_measure prog_4_method_26_code 6 none 2 := ⟨gw_I 743 (by decide +kernel) rfl, gw_I 745 (by decide +kernel) rfl, gw_I 19 (by decide +kernel) rfl, gw_I 71 (by decide +kernel) rfl, gw_I 746 (by decide +kernel) rfl, ⟨by decide +kernel, by decide +kernel⟩, by decide +kernel⟩
theorem fs_2_204 : FS "SensorHub$Hub" 204 4 13 := ⟨"SensorHub$Sensor", T_4, 18, rfl, by decide, rfl, gw_I 175 (by decide +kernel) rfl⟩
theorem fs_2_214 : FS "SensorHub$Hub" 214 4 14 := ⟨"SensorHub$Sensor", T_4, 18, rfl, by decide, rfl, gw_I 178 (by decide +kernel) rfl⟩
theorem cv_2_217 : CSV "SensorHub$Hub" 217 y_Hub_computedValue prog_4_method_27_code 4 (some .int) 2 := ⟨gw_I 769 (by decide +kernel) rfl, gw_I 771 (by decide +kernel) rfl, gw_I 20 (by decide +kernel) rfl, gw_I 71 (by decide +kernel) rfl, gw_I 772 (by decide +kernel) rfl, ⟨by decide +kernel, by decide +kernel⟩, by decide +kernel⟩
def f_Hub_receiveSample (q : Nat) (p1 : Int32) (q2 : Nat) (σ : Mem) : Option (Unit × Mem) :=
  if (σ q2 0) = (4 : Int32) then
    bd (f_Hub_measure q p1 q2 σ) fun _ σ2 =>
    some ((), σ2)
  else
    bd (f_Hub_sensorAt q (σ q2 7) σ) fun r3 σ4 =>
    oe r3 (
      some ((), σ4)
    ) (fun o5 =>
      if (σ4 o5 13) = 0 then
        some ((), σ4)
      else
        bd (f_Hub_computedValue q q2 o5 σ4) fun r6 σ7 =>
        bd (f_Sen_accept q2 (σ4 o5 14) r6 σ7) fun _ σ9 =>
        some ((), σ9)
    )
set_option maxRecDepth 100000 in
set_option maxHeartbeats 4000000 in
theorem c_Hub_receiveSample {X : CX} (l : Launch) (q : Nat) (p1 : Int32) (q2 : Nat) (hq : HubOK X q) (hq2 : SensorOK X q2) (σ : Mem) : CT X l y_Hub_receiveSample prog_4_method_25_code 4 none 3 vU [.ref (xa X q), .int p1, .ref (xa X q2)] σ (f_Hub_receiveSample q p1 q2 σ) := by
  refine CT_of (by decide +kernel) (Nat.le_of_ble_eq_true rfl) ?_
  intro p e s m args below meth c F hlk hr
  have F : FR p s m args c prog_4_method_25_code 4 "SensorHub$Hub" X := F
  show G X p l e (rmD 3) s m args below meth c 4 0 0 (QI X below args s vU) 0 [(0, .ref (xa X q)), (1, .int p1), (2, .ref (xa X q2))] [] σ _
  unfold f_Hub_receiveSample
  refine g_aload_n F d_Hub_receiveSample_0 2 rfl ?_
  refine g_getI F fs_2_104 hq2.1 rfl d_Hub_receiveSample_1 ?_
  refine g_iconst F (v := 4) d_Hub_receiveSample_4 (by decide) ?_
  refine g_icmp_ne F (tgt := 15) d_Hub_receiveSample_5 (by decide) (fun h1 => ?_) (fun h2 => ?_)
  · refine g_aload_n F d_Hub_receiveSample_8 0 rfl ?_
    refine g_iload_n F d_Hub_receiveSample_9 1 rfl ?_
    refine g_aload_n F d_Hub_receiveSample_10 2 rfl ?_
    refine g_callV F (dp := 2) (ci := 2) (As := [.int p1, .ref (xa X q2)]) (c_Hub_measure l _ _ _ hq hq2 _) cv_2_211 hq.1 rfl rfl rfl (Nat.le_of_ble_eq_true rfl) ⟨Nat.le_of_ble_eq_true rfl, Nat.le_of_ble_eq_true rfl⟩ ⟨Nat.zero_le _, Nat.zero_le _⟩ d_Hub_receiveSample_11 (fun _ σ2 h3 => ?_)
    exact g_vret F hlk hr d_Hub_receiveSample_14
  refine g_aload_n F d_Hub_receiveSample_15 0 rfl ?_
  refine g_aload_n F d_Hub_receiveSample_16 2 rfl ?_
  refine g_getI F fs_2_169 hq2.1 rfl d_Hub_receiveSample_17 ?_
  refine g_callV F (dp := 0) (ci := 2) (As := [.int (σ q2 7)]) (c_Hub_sensorAt l _ _ hq _) cv_2_101 hq.1 rfl rfl rfl (Nat.le_of_ble_eq_true rfl) ⟨Nat.le_of_ble_eq_true rfl, Nat.le_of_ble_eq_true rfl⟩ ⟨Nat.zero_le _, Nat.zero_le _⟩ d_Hub_receiveSample_20 (fun r3 σ4 h4 => ?_)
  refine g_oe (fun h5 => ?_) (fun o5 h6 => ?_)
  · refine g_astore_nN F (ls' := [(3, .null), (0, .ref (xa X q)), (1, .int p1), (2, .ref (xa X q2))]) d_Hub_receiveSample_23 (by decide) rfl ?_
    refine g_aload_nN F d_Hub_receiveSample_24 0 rfl ?_
    refine g_ifnullN F (tgt := 49) d_Hub_receiveSample_25 (by decide) ?_
    exact g_vret F hlk hr d_Hub_receiveSample_49
  have h7 : SensorOK X o5 := ok_Hub_sensorAt hq (h6 ▸ h4)
  refine g_astore_n F (ls' := [(3, .ref (xa X o5)), (0, .ref (xa X q)), (1, .int p1), (2, .ref (xa X q2))]) d_Hub_receiveSample_23 (by decide) rfl ?_
  refine g_aload_n F d_Hub_receiveSample_24 0 rfl ?_
  refine g_ifnull F d_Hub_receiveSample_25 ?_
  refine g_aload_n F d_Hub_receiveSample_28 0 rfl ?_
  refine g_getI F fs_2_204 h7.1 rfl d_Hub_receiveSample_29 ?_
  refine g_if_eq F (tgt := 49) d_Hub_receiveSample_32 (by decide) (fun h8 => ?_) (fun h9 => ?_)
  · exact g_vret F hlk hr d_Hub_receiveSample_49
  refine g_aload_n F d_Hub_receiveSample_35 3 rfl ?_
  refine g_aload_n F d_Hub_receiveSample_36 0 rfl ?_
  refine g_getI F fs_2_214 h7.1 rfl d_Hub_receiveSample_37 ?_
  refine g_aload_n F d_Hub_receiveSample_40 1 rfl ?_
  refine g_aload_n F d_Hub_receiveSample_41 3 rfl ?_
  refine g_aload_n F d_Hub_receiveSample_42 0 rfl ?_
  refine g_callV F (dp := 2) (ci := 2) (As := [.ref (xa X q2), .ref (xa X o5)]) (c_Hub_computedValue l _ _ _ hq hq2 h7 _) cv_2_217 hq.1 rfl rfl rfl (Nat.le_of_ble_eq_true rfl) ⟨Nat.le_of_ble_eq_true rfl, Nat.le_of_ble_eq_true rfl⟩ ⟨Nat.zero_le _, Nat.zero_le _⟩ d_Hub_receiveSample_43 (fun r6 σ7 h10 => ?_)
  refine g_callV F (dp := 1) (ci := 4) (As := [.int (σ4 o5 14), .int r6]) (c_Sen_accept l _ _ _ hq2 _) cv_2_221 hq2.1 rfl rfl rfl (Nat.le_of_ble_eq_true rfl) ⟨Nat.le_of_ble_eq_true rfl, Nat.le_of_ble_eq_true rfl⟩ ⟨Nat.zero_le _, Nat.zero_le _⟩ d_Hub_receiveSample_46 (fun _ σ9 h11 => ?_)
  exact g_vret F hlk hr d_Hub_receiveSample_49
def y_Hub_receiveSamples : MethodName := ⟨"SensorHub$Hub", "receiveSamples", "()V"⟩
theorem d_Hub_receiveSamples_0 : decode prog_4_method_24_code 0 = .ok (.iconst 0, 1) := by decide +kernel
theorem d_Hub_receiveSamples_1 : decode prog_4_method_24_code 1 = .ok (.istore_n 1, 1) := by decide +kernel
theorem d_Hub_receiveSamples_2 : decode prog_4_method_24_code 2 = .ok (.iload_n 1, 1) := by decide +kernel
theorem d_Hub_receiveSamples_3 : decode prog_4_method_24_code 3 = .ok (.bipush 8, 2) := by decide +kernel
theorem d_Hub_receiveSamples_5 : decode prog_4_method_24_code 5 = .ok (.if_icmp .ge 39, 3) := by decide +kernel
theorem d_Hub_receiveSamples_8 : decode prog_4_method_24_code 8 = .ok (.aload_n 0, 1) := by decide +kernel
theorem d_Hub_receiveSamples_9 : decode prog_4_method_24_code 9 = .ok (.iload_n 1, 1) := by decide +kernel
theorem d_Hub_receiveSamples_10 : decode prog_4_method_24_code 10 = .ok (.invokevirtual 101, 3) := by decide +kernel
theorem d_Hub_receiveSamples_13 : decode prog_4_method_24_code 13 = .ok (.astore_n 2, 1) := by decide +kernel
theorem d_Hub_receiveSamples_14 : decode prog_4_method_24_code 14 = .ok (.aload_n 2, 1) := by decide +kernel
theorem d_Hub_receiveSamples_15 : decode prog_4_method_24_code 15 = .ok (.ifnull 23, 3) := by decide +kernel
theorem d_Hub_receiveSamples_18 : decode prog_4_method_24_code 18 = .ok (.aload_n 2, 1) := by decide +kernel
theorem d_Hub_receiveSamples_19 : decode prog_4_method_24_code 19 = .ok (.iconst 0, 1) := by decide +kernel
theorem d_Hub_receiveSamples_20 : decode prog_4_method_24_code 20 = .ok (.putfield 204, 3) := by decide +kernel
theorem d_Hub_receiveSamples_23 : decode prog_4_method_24_code 23 = .ok (.aload_n 2, 1) := by decide +kernel
theorem d_Hub_receiveSamples_24 : decode prog_4_method_24_code 24 = .ok (.getfield 162, 3) := by decide +kernel
theorem d_Hub_receiveSamples_27 : decode prog_4_method_24_code 27 = .ok (.bipush (-9), 2) := by decide +kernel
theorem d_Hub_receiveSamples_29 : decode prog_4_method_24_code 29 = .ok (.if_icmp .eq 9, 3) := by decide +kernel
theorem d_Hub_receiveSamples_32 : decode prog_4_method_24_code 32 = .ok (.aload_n 0, 1) := by decide +kernel
theorem d_Hub_receiveSamples_33 : decode prog_4_method_24_code 33 = .ok (.iload_n 1, 1) := by decide +kernel
theorem d_Hub_receiveSamples_34 : decode prog_4_method_24_code 34 = .ok (.aload_n 2, 1) := by decide +kernel
theorem d_Hub_receiveSamples_35 : decode prog_4_method_24_code 35 = .ok (.invokevirtual 207, 3) := by decide +kernel
theorem d_Hub_receiveSamples_38 : decode prog_4_method_24_code 38 = .ok (.iinc 1 1, 3) := by decide +kernel
theorem d_Hub_receiveSamples_41 : decode prog_4_method_24_code 41 = .ok (.goto (-39), 3) := by decide +kernel
theorem d_Hub_receiveSamples_44 : decode prog_4_method_24_code 44 = .ok (.return_, 1) := by decide +kernel
theorem fw_2_204 : FW "SensorHub$Hub" 204 4 13 .boolean := ⟨"SensorHub$Sensor", T_4, 18, rfl, by decide, rfl, gw_I 175 (by decide +kernel) rfl, rfl, by decide +kernel⟩
theorem cv_2_207 : CSV "SensorHub$Hub" 207 y_Hub_receiveSample prog_4_method_25_code 4 none 2 := ⟨gw_I 739 (by decide +kernel) rfl, gw_I 741 (by decide +kernel) rfl, gw_I 18 (by decide +kernel) rfl, gw_I 71 (by decide +kernel) rfl, gw_I 742 (by decide +kernel) rfl, ⟨by decide +kernel, by decide +kernel⟩, by decide +kernel⟩
def L_Hub_receiveSamples_2 (r0 : Nat) (k : Mem → Option (Unit × Mem)) : Nat → Int32 → Mem → Option (Unit × Mem)
  | 0, _, _ => none
  | n + 1, x1, σ =>
    if (8 : Int32) ≤ x1 then
      k σ
    else
      bd (f_Hub_sensorAt r0 x1 σ) fun r1 σ2 =>
      oe r1 (
        L_Hub_receiveSamples_2 r0 k n (x1 + 1) σ2
      ) (fun o3 =>
        lt (wr σ2 o3 13 (0 : Int32)) fun σ4 =>
        if (σ4 o3 10) = (-9 : Int32) then
          L_Hub_receiveSamples_2 r0 k n (x1 + 1) σ4
        else
          bd (f_Hub_receiveSample r0 x1 o3 σ4) fun _ σ6 =>
          L_Hub_receiveSamples_2 r0 k n (x1 + 1) σ6
      )
def f_Hub_receiveSamples (q : Nat) (σ : Mem) : Option (Unit × Mem) :=
  L_Hub_receiveSamples_2 q (fun σ7 =>
    some ((), σ7)) FU (0 : Int32) σ
set_option maxRecDepth 100000 in
set_option maxHeartbeats 4000000 in
theorem l_L_Hub_receiveSamples_2 {X : CX} {p : Program} {l : Launch} {e : Env} {s : State} {m : MethodId} {args : Array Value} {below : List Frame} {meth : Method} {c : Code} (F : FR p s m args c prog_4_method_24_code 3 "SensorHub$Hub" X) (hlk : meth.locks = false) (hr : meth.sig.returnType = none) (r0 : Nat) (hr0 : HubOK X r0) (k : Mem → Option (Unit × Mem)) (hk : ∀  (σ : Mem), G X p l e (rmD 4) s m args below meth c 3 0 0 (QI X below args s vU) 44 [] [] σ (k σ)) : ∀ (n : Nat) (x1 : Int32) (σ : Mem), G X p l e (rmD 4) s m args below meth c 3 0 0 (QI X below args s vU) 2 [(0, .ref (xa X r0)), (1, .int x1)] [] σ (L_Hub_receiveSamples_2 r0 k n x1 σ) := by
  intro n
  induction n with
  | zero => intros; exact g_no
  | succ n ih =>
    intro x1 σ
    unfold L_Hub_receiveSamples_2
    refine g_iload_n F d_Hub_receiveSamples_2 1 rfl ?_
    refine g_bipush F (v := 8) d_Hub_receiveSamples_3 (by decide) ?_
    refine g_icmp_ge F (tgt := 44) d_Hub_receiveSamples_5 (by decide) (fun h1 => ?_) (fun h2 => ?_)
    · exact g_sub [] rfl (hk  _)
    refine g_aload_n F d_Hub_receiveSamples_8 0 rfl ?_
    refine g_iload_n F d_Hub_receiveSamples_9 1 rfl ?_
    refine g_callV F (dp := 0) (ci := 2) (As := [.int x1]) (c_Hub_sensorAt l _ _ hr0 _) cv_2_101 hr0.1 rfl rfl rfl (Nat.le_of_ble_eq_true rfl) ⟨Nat.le_of_ble_eq_true rfl, Nat.le_of_ble_eq_true rfl⟩ ⟨Nat.zero_le _, Nat.zero_le _⟩ d_Hub_receiveSamples_10 (fun r1 σ2 h3 => ?_)
    refine g_oe (fun h4 => ?_) (fun o3 h5 => ?_)
    · refine g_astore_nN F (ls' := [(2, .null), (0, .ref (xa X r0)), (1, .int x1)]) d_Hub_receiveSamples_13 (by decide) rfl ?_
      refine g_aload_nN F d_Hub_receiveSamples_14 0 rfl ?_
      refine g_ifnullN F (tgt := 38) d_Hub_receiveSamples_15 (by decide) ?_
      refine g_iinc F (v := 1) (ls' := [(1, .int (x1 + 1)), (2, .null), (0, .ref (xa X r0))]) d_Hub_receiveSamples_38 2 rfl (by decide) (by decide) rfl ?_
      refine g_goto F (tgt := 2) d_Hub_receiveSamples_41 (by decide) ?_
      exact g_sub [2, 0] rfl (ih _ _)
    have h6 : SensorOK X o3 := ok_Hub_sensorAt hr0 (h5 ▸ h3)
    refine g_astore_n F (ls' := [(2, .ref (xa X o3)), (0, .ref (xa X r0)), (1, .int x1)]) d_Hub_receiveSamples_13 (by decide) rfl ?_
    refine g_aload_n F d_Hub_receiveSamples_14 0 rfl ?_
    refine g_ifnull F d_Hub_receiveSamples_15 ?_
    refine g_aload_n F d_Hub_receiveSamples_18 0 rfl ?_
    refine g_iconst F (v := 0) d_Hub_receiveSamples_19 (by decide) ?_
    refine g_pt (q := (0 : Int32) &&& 1 = (0 : Int32)) (by decide) (g_putZ F fw_2_204 h6.1 rfl d_Hub_receiveSamples_20 ?_)
    refine g_ltM (fun σ4 _ => ?_)
    refine g_aload_n F d_Hub_receiveSamples_23 0 rfl ?_
    refine g_getI F fs_2_162 h6.1 rfl d_Hub_receiveSamples_24 ?_
    refine g_bipush F (v := (-9)) d_Hub_receiveSamples_27 (by decide) ?_
    refine g_icmp_eq F (tgt := 38) d_Hub_receiveSamples_29 (by decide) (fun h7 => ?_) (fun h8 => ?_)
    · refine g_iinc F (v := 1) (ls' := [(1, .int (x1 + 1)), (2, .ref (xa X o3)), (0, .ref (xa X r0))]) d_Hub_receiveSamples_38 2 rfl (by decide) (by decide) rfl ?_
      refine g_goto F (tgt := 2) d_Hub_receiveSamples_41 (by decide) ?_
      exact g_sub [2, 0] rfl (ih _ _)
    refine g_aload_n F d_Hub_receiveSamples_32 1 rfl ?_
    refine g_iload_n F d_Hub_receiveSamples_33 2 rfl ?_
    refine g_aload_n F d_Hub_receiveSamples_34 0 rfl ?_
    refine g_callV F (dp := 3) (ci := 2) (As := [.int x1, .ref (xa X o3)]) (c_Hub_receiveSample l _ _ _ hr0 h6 _) cv_2_207 hr0.1 rfl rfl rfl (Nat.le_of_ble_eq_true rfl) ⟨Nat.le_of_ble_eq_true rfl, Nat.le_of_ble_eq_true rfl⟩ ⟨Nat.zero_le _, Nat.zero_le _⟩ d_Hub_receiveSamples_35 (fun _ σ6 h9 => ?_)
    refine g_iinc F (v := 1) (ls' := [(1, .int (x1 + 1)), (2, .ref (xa X o3)), (0, .ref (xa X r0))]) d_Hub_receiveSamples_38 2 rfl (by decide) (by decide) rfl ?_
    refine g_goto F (tgt := 2) d_Hub_receiveSamples_41 (by decide) ?_
    exact g_sub [2, 0] rfl (ih _ _)
set_option maxRecDepth 100000 in
set_option maxHeartbeats 4000000 in
theorem c_Hub_receiveSamples {X : CX} (l : Launch) (q : Nat) (hq : HubOK X q) (σ : Mem) : CT X l y_Hub_receiveSamples prog_4_method_24_code 3 none 4 vU [.ref (xa X q)] σ (f_Hub_receiveSamples q σ) := by
  refine CT_of (by decide +kernel) (Nat.le_of_ble_eq_true rfl) ?_
  intro p e s m args below meth c F hlk hr
  have F : FR p s m args c prog_4_method_24_code 3 "SensorHub$Hub" X := F
  show G X p l e (rmD 4) s m args below meth c 3 0 0 (QI X below args s vU) 0 [(0, .ref (xa X q))] [] σ _
  unfold f_Hub_receiveSamples
  refine g_iconst F (v := 0) d_Hub_receiveSamples_0 (by decide) ?_
  refine g_istore_n F (ls' := [(1, .int (0 : Int32)), (0, .ref (xa X q))]) d_Hub_receiveSamples_1 (by decide) rfl ?_
  refine g_sub [1, 0] rfl (l_L_Hub_receiveSamples_2 F hlk hr _ hq _ (fun σ7 => ?_) FU _ _)
  exact g_vret F hlk hr d_Hub_receiveSamples_44
def y_Hub_wake : MethodName := ⟨"SensorHub$Hub", "wake", "(I)I"⟩
theorem d_Hub_wake_0 : decode prog_4_method_33_code 0 = .ok (.aload_n 0, 1) := by decide +kernel
theorem d_Hub_wake_1 : decode prog_4_method_33_code 1 = .ok (.getfield 37, 3) := by decide +kernel
theorem d_Hub_wake_4 : decode prog_4_method_33_code 4 = .ok (.getfield 65, 3) := by decide +kernel
theorem d_Hub_wake_7 : decode prog_4_method_33_code 7 = .ok (.istore_n 2, 1) := by decide +kernel
theorem d_Hub_wake_8 : decode prog_4_method_33_code 8 = .ok (.iload_n 2, 1) := by decide +kernel
theorem d_Hub_wake_9 : decode prog_4_method_33_code 9 = .ok (.ifCond .eq 12, 3) := by decide +kernel
theorem d_Hub_wake_12 : decode prog_4_method_33_code 12 = .ok (.iload_n 1, 1) := by decide +kernel
theorem d_Hub_wake_13 : decode prog_4_method_33_code 13 = .ok (.iconst 0, 1) := by decide +kernel
theorem d_Hub_wake_14 : decode prog_4_method_33_code 14 = .ok (.iconst 3, 1) := by decide +kernel
theorem d_Hub_wake_15 : decode prog_4_method_33_code 15 = .ok (.invokestatic 97, 3) := by decide +kernel
theorem d_Hub_wake_18 : decode prog_4_method_33_code 18 = .ok (.ifCond .ne 5, 3) := by decide +kernel
theorem d_Hub_wake_21 : decode prog_4_method_33_code 21 = .ok (.iconst 0, 1) := by decide +kernel
theorem d_Hub_wake_22 : decode prog_4_method_33_code 22 = .ok (.ireturn, 1) := by decide +kernel
theorem d_Hub_wake_23 : decode prog_4_method_33_code 23 = .ok (.iconst 0, 1) := by decide +kernel
theorem d_Hub_wake_24 : decode prog_4_method_33_code 24 = .ok (.istore_n 3, 1) := by decide +kernel
theorem d_Hub_wake_25 : decode prog_4_method_33_code 25 = .ok (.iload_n 3, 1) := by decide +kernel
theorem d_Hub_wake_26 : decode prog_4_method_33_code 26 = .ok (.iload_n 2, 1) := by decide +kernel
theorem d_Hub_wake_27 : decode prog_4_method_33_code 27 = .ok (.if_icmp .ge 56, 3) := by decide +kernel
theorem d_Hub_wake_30 : decode prog_4_method_33_code 30 = .ok (.aload_n 0, 1) := by decide +kernel
theorem d_Hub_wake_31 : decode prog_4_method_33_code 31 = .ok (.aload_n 0, 1) := by decide +kernel
theorem d_Hub_wake_32 : decode prog_4_method_33_code 32 = .ok (.getfield 37, 3) := by decide +kernel
theorem d_Hub_wake_35 : decode prog_4_method_33_code 35 = .ok (.iload_n 3, 1) := by decide +kernel
theorem d_Hub_wake_36 : decode prog_4_method_33_code 36 = .ok (.iconst 0, 1) := by decide +kernel
theorem d_Hub_wake_37 : decode prog_4_method_33_code 37 = .ok (.invokevirtual 271, 3) := by decide +kernel
theorem d_Hub_wake_40 : decode prog_4_method_33_code 40 = .ok (.invokevirtual 130, 3) := by decide +kernel
theorem d_Hub_wake_43 : decode prog_4_method_33_code 43 = .ok (.astore 4, 2) := by decide +kernel
theorem d_Hub_wake_45 : decode prog_4_method_33_code 45 = .ok (.aload 4, 2) := by decide +kernel
theorem d_Hub_wake_47 : decode prog_4_method_33_code 47 = .ok (.ifnull 30, 3) := by decide +kernel
theorem d_Hub_wake_50 : decode prog_4_method_33_code 50 = .ok (.aload 4, 2) := by decide +kernel
theorem d_Hub_wake_52 : decode prog_4_method_33_code 52 = .ok (.aload_n 0, 1) := by decide +kernel
theorem d_Hub_wake_53 : decode prog_4_method_33_code 53 = .ok (.getfield 37, 3) := by decide +kernel
theorem d_Hub_wake_56 : decode prog_4_method_33_code 56 = .ok (.iload_n 3, 1) := by decide +kernel
theorem d_Hub_wake_57 : decode prog_4_method_33_code 57 = .ok (.iconst 1, 1) := by decide +kernel
theorem d_Hub_wake_58 : decode prog_4_method_33_code 58 = .ok (.invokevirtual 271, 3) := by decide +kernel
theorem d_Hub_wake_61 : decode prog_4_method_33_code 61 = .ok (.aload_n 0, 1) := by decide +kernel
theorem d_Hub_wake_62 : decode prog_4_method_33_code 62 = .ok (.getfield 37, 3) := by decide +kernel
theorem d_Hub_wake_65 : decode prog_4_method_33_code 65 = .ok (.iload_n 3, 1) := by decide +kernel
theorem d_Hub_wake_66 : decode prog_4_method_33_code 66 = .ok (.iconst 2, 1) := by decide +kernel
theorem d_Hub_wake_67 : decode prog_4_method_33_code 67 = .ok (.invokevirtual 271, 3) := by decide +kernel
theorem d_Hub_wake_70 : decode prog_4_method_33_code 70 = .ok (.aload_n 0, 1) := by decide +kernel
theorem d_Hub_wake_71 : decode prog_4_method_33_code 71 = .ok (.getfield 46, 3) := by decide +kernel
theorem d_Hub_wake_74 : decode prog_4_method_33_code 74 = .ok (.invokevirtual 283, 3) := by decide +kernel
theorem d_Hub_wake_77 : decode prog_4_method_33_code 77 = .ok (.iinc 3 1, 3) := by decide +kernel
theorem d_Hub_wake_80 : decode prog_4_method_33_code 80 = .ok (.goto (-55), 3) := by decide +kernel
theorem d_Hub_wake_83 : decode prog_4_method_33_code 83 = .ok (.aload_n 0, 1) := by decide +kernel
theorem d_Hub_wake_84 : decode prog_4_method_33_code 84 = .ok (.getfield 37, 3) := by decide +kernel
theorem d_Hub_wake_87 : decode prog_4_method_33_code 87 = .ok (.iconst 0, 1) := by decide +kernel
theorem d_Hub_wake_88 : decode prog_4_method_33_code 88 = .ok (.putfield 65, 3) := by decide +kernel
theorem d_Hub_wake_91 : decode prog_4_method_33_code 91 = .ok (.aload_n 0, 1) := by decide +kernel
theorem d_Hub_wake_92 : decode prog_4_method_33_code 92 = .ok (.dup, 1) := by decide +kernel
theorem d_Hub_wake_93 : decode prog_4_method_33_code 93 = .ok (.getfield 53, 3) := by decide +kernel
theorem d_Hub_wake_96 : decode prog_4_method_33_code 96 = .ok (.bipush 20, 2) := by decide +kernel
theorem d_Hub_wake_98 : decode prog_4_method_33_code 98 = .ok (.iadd, 1) := by decide +kernel
theorem d_Hub_wake_99 : decode prog_4_method_33_code 99 = .ok (.putfield 53, 3) := by decide +kernel
theorem d_Hub_wake_102 : decode prog_4_method_33_code 102 = .ok (.aload_n 0, 1) := by decide +kernel
theorem d_Hub_wake_103 : decode prog_4_method_33_code 103 = .ok (.getfield 9, 3) := by decide +kernel
theorem d_Hub_wake_106 : decode prog_4_method_33_code 106 = .ok (.iload_n 1, 1) := by decide +kernel
theorem d_Hub_wake_107 : decode prog_4_method_33_code 107 = .ok (.dup2, 1) := by decide +kernel
theorem d_Hub_wake_108 : decode prog_4_method_33_code 108 = .ok (.iaload, 1) := by decide +kernel
theorem d_Hub_wake_109 : decode prog_4_method_33_code 109 = .ok (.iconst 1, 1) := by decide +kernel
theorem d_Hub_wake_110 : decode prog_4_method_33_code 110 = .ok (.iadd, 1) := by decide +kernel
theorem d_Hub_wake_111 : decode prog_4_method_33_code 111 = .ok (.iastore, 1) := by decide +kernel
theorem d_Hub_wake_112 : decode prog_4_method_33_code 112 = .ok (.iload_n 2, 1) := by decide +kernel
theorem d_Hub_wake_113 : decode prog_4_method_33_code 113 = .ok (.ireturn, 1) := by decide +kernel
theorem fs_2_65 : FS "SensorHub$Hub" 65 5 0 := ⟨"SensorHub$Store", T_5, 2, rfl, by decide, rfl, gw_I 132 (by decide +kernel) rfl⟩
theorem cv_2_271 : CSV "SensorHub$Hub" 271 y_Sto_part prog_7_method_3_code 3 (some .int) 2 := ⟨gw_I 516 (by decide +kernel) rfl, gw_I 517 (by decide +kernel) rfl, gw_I 518 (by decide +kernel) rfl, gw_I 73 (by decide +kernel) rfl, gw_I 519 (by decide +kernel) rfl, ⟨by decide +kernel, by decide +kernel⟩, by decide +kernel⟩
theorem cv_2_283 : CSV "SensorHub$Hub" 283 y_Cli_receive prog_2_method_4_code 5 none 3 := ⟨gw_I 521 (by decide +kernel) rfl, gw_I 522 (by decide +kernel) rfl, gw_I 523 (by decide +kernel) rfl, gw_I 75 (by decide +kernel) rfl, gw_I 524 (by decide +kernel) rfl, ⟨by decide +kernel, by decide +kernel⟩, by decide +kernel⟩
def L_Hub_wake_25 (r0 : Nat) (y1 : Int32) (y2 : Int32) (k : Mem → Option (Int32 × Mem)) : Nat → Int32 → Mem → Option (Int32 × Mem)
  | 0, _, _ => none
  | n + 1, x3, σ =>
    if y2 ≤ x3 then
      k σ
    else
      bd (f_Sto_part (r0 + 8) x3 (0 : Int32) σ) fun r4 σ5 =>
      bd (f_Hub_clientAt r0 r4 σ5) fun r6 σ7 =>
      oe r6 (
        L_Hub_wake_25 r0 y1 y2 k n (x3 + 1) σ7
      ) (fun o8 =>
        bd (f_Sto_part (r0 + 8) x3 (1 : Int32) σ7) fun r9 σ10 =>
        bd (f_Sto_part (r0 + 8) x3 (2 : Int32) σ10) fun r11 σ12 =>
        bd (f_Cli_receive o8 r9 r11 (σ12 r0 0) σ12) fun _ σ14 =>
        L_Hub_wake_25 r0 y1 y2 k n (x3 + 1) σ14
      )
def f_Hub_wake (q : Nat) (p1 : Int32) (σ : Mem) : Option (Int32 × Mem) :=
  lt (σ (q + 8) 0) fun v1 =>
  if v1 = 0 then
    some ((0 : Int32), σ)
  else
    bd (f_X_isWithin p1 (0 : Int32) (3 : Int32) σ) fun r2 σ3 =>
    if r2 = 0 then
      some ((0 : Int32), σ3)
    else
      L_Hub_wake_25 q p1 v1 (fun σ15 =>
        lt (wr σ15 (q + 8) 0 (0 : Int32)) fun σ16 =>
        lt (wr σ16 q 2 ((σ16 q 2) + (20 : Int32))) fun σ17 =>
        if ib p1 4 then
          if ib p1 4 then
            lt (wr σ17 (q + 1) p1.toNatClampNeg ((σ17 (q + 1) p1.toNatClampNeg) + (1 : Int32))) fun σ18 =>
            some (v1, σ18)
          else none
        else none) FU (0 : Int32) σ3
set_option maxRecDepth 100000 in
set_option maxHeartbeats 4000000 in
theorem l_L_Hub_wake_25 {X : CX} {p : Program} {l : Launch} {e : Env} {s : State} {m : MethodId} {args : Array Value} {below : List Frame} {meth : Method} {c : Code} (F : FR p s m args c prog_4_method_33_code 5 "SensorHub$Hub" X) (hlk : meth.locks = false) (hr : meth.sig.returnType = some .int) (r0 : Nat) (y1 : Int32) (y2 : Int32) (hr0 : HubOK X r0) (k : Mem → Option (Int32 × Mem)) (hk : ∀  (σ : Mem), G X p l e (rmD 2) s m args below meth c 5 0 0 (QI X below args s vI) 83 [(0, .ref (xa X r0)), (1, .int y1), (2, .int y2)] [] σ (k σ)) : ∀ (n : Nat) (x3 : Int32) (σ : Mem), G X p l e (rmD 2) s m args below meth c 5 0 0 (QI X below args s vI) 25 [(0, .ref (xa X r0)), (1, .int y1), (2, .int y2), (3, .int x3)] [] σ (L_Hub_wake_25 r0 y1 y2 k n x3 σ) := by
  intro n
  induction n with
  | zero => intros; exact g_no
  | succ n ih =>
    intro x3 σ
    unfold L_Hub_wake_25
    refine g_iload_n F d_Hub_wake_25 3 rfl ?_
    refine g_iload_n F d_Hub_wake_26 2 rfl ?_
    refine g_icmp_ge F (tgt := 83) d_Hub_wake_27 (by decide) (fun h6 => ?_) (fun h7 => ?_)
    · exact g_sub [0, 1, 2] rfl (hk  _)
    refine g_aload_n F d_Hub_wake_30 0 rfl ?_
    refine g_aload_n F d_Hub_wake_31 0 rfl ?_
    refine g_getR F fs_2_37 hr0.1 rfl d_Hub_wake_32 ?_
    refine g_iload_n F d_Hub_wake_35 3 rfl ?_
    refine g_iconst F (v := 0) d_Hub_wake_36 (by decide) ?_
    refine g_callV F (dp := 1) (ci := 5) (As := [.int x3, .int (0 : Int32)]) (c_Sto_part l _ _ _ hr0.2.2.2.2.2.1 _) cv_2_271 hr0.2.2.2.2.2.1.1 rfl rfl rfl (Nat.le_of_ble_eq_true rfl) ⟨Nat.le_of_ble_eq_true rfl, Nat.le_of_ble_eq_true rfl⟩ ⟨Nat.zero_le _, Nat.zero_le _⟩ d_Hub_wake_37 (fun r4 σ5 h8 => ?_)
    refine g_callV F (dp := 0) (ci := 2) (As := [.int r4]) (c_Hub_clientAt l _ _ hr0 _) cv_2_130 hr0.1 rfl rfl rfl (Nat.le_of_ble_eq_true rfl) ⟨Nat.le_of_ble_eq_true rfl, Nat.le_of_ble_eq_true rfl⟩ ⟨Nat.zero_le _, Nat.zero_le _⟩ d_Hub_wake_40 (fun r6 σ7 h9 => ?_)
    refine g_oe (fun h10 => ?_) (fun o8 h11 => ?_)
    · refine g_astoreN F (ls' := [(4, .null), (0, .ref (xa X r0)), (1, .int y1), (2, .int y2), (3, .int x3)]) d_Hub_wake_43 (by decide) rfl ?_
      refine g_aloadN F d_Hub_wake_45 0 rfl ?_
      refine g_ifnullN F (tgt := 77) d_Hub_wake_47 (by decide) ?_
      refine g_iinc F (v := 1) (ls' := [(3, .int (x3 + 1)), (4, .null), (0, .ref (xa X r0)), (1, .int y1), (2, .int y2)]) d_Hub_wake_77 4 rfl (by decide) (by decide) rfl ?_
      refine g_goto F (tgt := 25) d_Hub_wake_80 (by decide) ?_
      exact g_sub [2, 3, 4, 0] rfl (ih _ _)
    have h12 : ClientOK X o8 := ok_Hub_clientAt hr0 (h11 ▸ h9)
    refine g_astore F (ls' := [(4, .ref (xa X o8)), (0, .ref (xa X r0)), (1, .int y1), (2, .int y2), (3, .int x3)]) d_Hub_wake_43 (by decide) rfl ?_
    refine g_aload F d_Hub_wake_45 0 rfl ?_
    refine g_ifnull F d_Hub_wake_47 ?_
    refine g_aload F d_Hub_wake_50 0 rfl ?_
    refine g_aload_n F d_Hub_wake_52 1 rfl ?_
    refine g_getR F fs_2_37 hr0.1 rfl d_Hub_wake_53 ?_
    refine g_iload_n F d_Hub_wake_56 4 rfl ?_
    refine g_iconst F (v := 1) d_Hub_wake_57 (by decide) ?_
    refine g_callV F (dp := 1) (ci := 5) (As := [.int x3, .int (1 : Int32)]) (c_Sto_part l _ _ _ hr0.2.2.2.2.2.1 _) cv_2_271 hr0.2.2.2.2.2.1.1 rfl rfl rfl (Nat.le_of_ble_eq_true rfl) ⟨Nat.le_of_ble_eq_true rfl, Nat.le_of_ble_eq_true rfl⟩ ⟨Nat.zero_le _, Nat.zero_le _⟩ d_Hub_wake_58 (fun r9 σ10 h13 => ?_)
    refine g_aload_n F d_Hub_wake_61 1 rfl ?_
    refine g_getR F fs_2_37 hr0.1 rfl d_Hub_wake_62 ?_
    refine g_iload_n F d_Hub_wake_65 4 rfl ?_
    refine g_iconst F (v := 2) d_Hub_wake_66 (by decide) ?_
    refine g_callV F (dp := 1) (ci := 5) (As := [.int x3, .int (2 : Int32)]) (c_Sto_part l _ _ _ hr0.2.2.2.2.2.1 _) cv_2_271 hr0.2.2.2.2.2.1.1 rfl rfl rfl (Nat.le_of_ble_eq_true rfl) ⟨Nat.le_of_ble_eq_true rfl, Nat.le_of_ble_eq_true rfl⟩ ⟨Nat.zero_le _, Nat.zero_le _⟩ d_Hub_wake_67 (fun r11 σ12 h14 => ?_)
    refine g_aload_n F d_Hub_wake_70 1 rfl ?_
    refine g_getI F fs_2_46 hr0.1 rfl d_Hub_wake_71 ?_
    refine g_callV F (dp := 1) (ci := 0) (As := [.int r9, .int r11, .int (σ12 r0 0)]) (c_Cli_receive l _ _ _ _ h12 _) cv_2_283 h12.1 rfl rfl rfl (Nat.le_of_ble_eq_true rfl) ⟨Nat.le_of_ble_eq_true rfl, Nat.le_of_ble_eq_true rfl⟩ ⟨Nat.zero_le _, Nat.zero_le _⟩ d_Hub_wake_74 (fun _ σ14 h15 => ?_)
    refine g_iinc F (v := 1) (ls' := [(3, .int (x3 + 1)), (4, .ref (xa X o8)), (0, .ref (xa X r0)), (1, .int y1), (2, .int y2)]) d_Hub_wake_77 4 rfl (by decide) (by decide) rfl ?_
    refine g_goto F (tgt := 25) d_Hub_wake_80 (by decide) ?_
    exact g_sub [2, 3, 4, 0] rfl (ih _ _)
set_option maxRecDepth 100000 in
set_option maxHeartbeats 4000000 in
theorem c_Hub_wake {X : CX} (l : Launch) (q : Nat) (p1 : Int32) (hq : HubOK X q) (σ : Mem) : CT X l y_Hub_wake prog_4_method_33_code 5 (some .int) 2 vI [.ref (xa X q), .int p1] σ (f_Hub_wake q p1 σ) := by
  refine CT_of (by decide +kernel) (Nat.le_of_ble_eq_true rfl) ?_
  intro p e s m args below meth c F hlk hr
  have F : FR p s m args c prog_4_method_33_code 5 "SensorHub$Hub" X := F
  show G X p l e (rmD 2) s m args below meth c 5 0 0 (QI X below args s vI) 0 [(0, .ref (xa X q)), (1, .int p1)] [] σ _
  unfold f_Hub_wake
  refine g_aload_n F d_Hub_wake_0 0 rfl ?_
  refine g_getR F fs_2_37 hq.1 rfl d_Hub_wake_1 ?_
  refine g_getI F fs_2_65 hq.2.2.2.2.2.1.1 rfl d_Hub_wake_4 ?_
  refine g_ltI (fun v1 _ => ?_)
  refine g_istore_n F (ls' := [(2, .int v1), (0, .ref (xa X q)), (1, .int p1)]) d_Hub_wake_7 (by decide) rfl ?_
  refine g_iload_n F d_Hub_wake_8 0 rfl ?_
  refine g_if_eq F (tgt := 21) d_Hub_wake_9 (by decide) (fun h1 => ?_) (fun h2 => ?_)
  · refine g_iconst F (v := 0) d_Hub_wake_21 (by decide) ?_
    exact g_iret F hlk hr d_Hub_wake_22
  refine g_iload_n F d_Hub_wake_12 2 rfl ?_
  refine g_iconst F (v := 0) d_Hub_wake_13 (by decide) ?_
  refine g_iconst F (v := 3) d_Hub_wake_14 (by decide) ?_
  refine g_callSN F (dp := 0) (As := [.int p1, .int (0 : Int32), .int (3 : Int32)]) (c_X_isWithin l _ _ _ _) cs_2_97 rfl rfl (Nat.le_of_ble_eq_true rfl) ⟨Nat.le_of_ble_eq_true rfl, Nat.le_of_ble_eq_true rfl⟩ ⟨Nat.zero_le _, Nat.zero_le _⟩ d_Hub_wake_15 (fun r2 σ3 h3 => ?_)
  refine g_if_ne F (tgt := 23) d_Hub_wake_18 (by decide) (fun h4 => ?_) (fun h5 => ?_)
  · refine g_iconst F (v := 0) d_Hub_wake_21 (by decide) ?_
    exact g_iret F hlk hr d_Hub_wake_22
  refine g_iconst F (v := 0) d_Hub_wake_23 (by decide) ?_
  refine g_istore_n F (ls' := [(3, .int (0 : Int32)), (2, .int v1), (0, .ref (xa X q)), (1, .int p1)]) d_Hub_wake_24 (by decide) rfl ?_
  refine g_sub [2, 3, 1, 0] rfl (l_L_Hub_wake_25 F hlk hr _ _ _ hq _ (fun σ15 => ?_) FU _ _)
  refine g_aload_n F d_Hub_wake_83 0 rfl ?_
  refine g_getR F fs_2_37 hq.1 rfl d_Hub_wake_84 ?_
  refine g_iconst F (v := 0) d_Hub_wake_87 (by decide) ?_
  refine g_putI F fw_2_65 hq.2.2.2.2.2.1.1 rfl d_Hub_wake_88 ?_
  refine g_ltM (fun σ16 _ => ?_)
  refine g_aload_n F d_Hub_wake_91 0 rfl ?_
  refine g_dup F d_Hub_wake_92 rfl ?_
  refine g_getI F fs_2_53 hq.1 rfl d_Hub_wake_93 ?_
  refine g_bipush F (v := 20) d_Hub_wake_96 (by decide) ?_
  refine g_iadd F d_Hub_wake_98 ?_
  refine g_putI F fw_2_53 hq.1 rfl d_Hub_wake_99 ?_
  refine g_ltM (fun σ17 _ => ?_)
  refine g_aload_n F d_Hub_wake_102 0 rfl ?_
  refine g_getR F fs_2_9 hq.1 rfl d_Hub_wake_103 ?_
  refine g_iload_n F d_Hub_wake_106 1 rfl ?_
  refine g_dup2 F d_Hub_wake_107 rfl rfl ?_
  refine g_iald F (n := 4) hq.2.1 d_Hub_wake_108 ?_
  refine g_iconst F (v := 1) d_Hub_wake_109 (by decide) ?_
  refine g_iadd F d_Hub_wake_110 ?_
  refine g_iast F (n := 4) hq.2.1 d_Hub_wake_111 ?_
  refine g_ltM (fun σ18 _ => ?_)
  refine g_iload_n F d_Hub_wake_112 2 rfl ?_
  exact g_iret F hlk hr d_Hub_wake_113
def y_Hub_storeEntry : MethodName := ⟨"SensorHub$Hub", "storeEntry", "(ILSensorHub$Sensor;)V"⟩
theorem d_Hub_storeEntry_0 : decode prog_4_method_29_code 0 = .ok (.aload_n 0, 1) := by decide +kernel
theorem d_Hub_storeEntry_1 : decode prog_4_method_29_code 1 = .ok (.getfield 37, 3) := by decide +kernel
theorem d_Hub_storeEntry_4 : decode prog_4_method_29_code 4 = .ok (.getfield 65, 3) := by decide +kernel
theorem d_Hub_storeEntry_7 : decode prog_4_method_29_code 7 = .ok (.aload_n 0, 1) := by decide +kernel
theorem d_Hub_storeEntry_8 : decode prog_4_method_29_code 8 = .ok (.getfield 56, 3) := by decide +kernel
theorem d_Hub_storeEntry_11 : decode prog_4_method_29_code 11 = .ok (.if_icmp .lt 9, 3) := by decide +kernel
theorem d_Hub_storeEntry_14 : decode prog_4_method_29_code 14 = .ok (.aload_n 0, 1) := by decide +kernel
theorem d_Hub_storeEntry_15 : decode prog_4_method_29_code 15 = .ok (.iconst 1, 1) := by decide +kernel
theorem d_Hub_storeEntry_16 : decode prog_4_method_29_code 16 = .ok (.invokevirtual 262, 3) := by decide +kernel
theorem d_Hub_storeEntry_19 : decode prog_4_method_29_code 19 = .ok (.pop, 1) := by decide +kernel
theorem d_Hub_storeEntry_20 : decode prog_4_method_29_code 20 = .ok (.aload_n 0, 1) := by decide +kernel
theorem d_Hub_storeEntry_21 : decode prog_4_method_29_code 21 = .ok (.getfield 37, 3) := by decide +kernel
theorem d_Hub_storeEntry_24 : decode prog_4_method_29_code 24 = .ok (.iload_n 1, 1) := by decide +kernel
theorem d_Hub_storeEntry_25 : decode prog_4_method_29_code 25 = .ok (.aload_n 2, 1) := by decide +kernel
theorem d_Hub_storeEntry_26 : decode prog_4_method_29_code 26 = .ok (.getfield 214, 3) := by decide +kernel
theorem d_Hub_storeEntry_29 : decode prog_4_method_29_code 29 = .ok (.aload_n 2, 1) := by decide +kernel
theorem d_Hub_storeEntry_30 : decode prog_4_method_29_code 30 = .ok (.getfield 247, 3) := by decide +kernel
theorem d_Hub_storeEntry_33 : decode prog_4_method_29_code 33 = .ok (.invokevirtual 265, 3) := by decide +kernel
theorem d_Hub_storeEntry_36 : decode prog_4_method_29_code 36 = .ok (.aload_n 0, 1) := by decide +kernel
theorem d_Hub_storeEntry_37 : decode prog_4_method_29_code 37 = .ok (.aload_n 0, 1) := by decide +kernel
theorem d_Hub_storeEntry_38 : decode prog_4_method_29_code 38 = .ok (.getfield 192, 3) := by decide +kernel
theorem d_Hub_storeEntry_41 : decode prog_4_method_29_code 41 = .ok (.aload_n 0, 1) := by decide +kernel
theorem d_Hub_storeEntry_42 : decode prog_4_method_29_code 42 = .ok (.getfield 37, 3) := by decide +kernel
theorem d_Hub_storeEntry_45 : decode prog_4_method_29_code 45 = .ok (.getfield 65, 3) := by decide +kernel
theorem d_Hub_storeEntry_48 : decode prog_4_method_29_code 48 = .ok (.invokestatic 124, 3) := by decide +kernel
theorem d_Hub_storeEntry_51 : decode prog_4_method_29_code 51 = .ok (.putfield 192, 3) := by decide +kernel
theorem d_Hub_storeEntry_54 : decode prog_4_method_29_code 54 = .ok (.return_, 1) := by decide +kernel
theorem cv_2_265 : CSV "SensorHub$Hub" 265 y_Sto_add prog_7_method_2_code 4 none 3 := ⟨gw_I 793 (by decide +kernel) rfl, gw_I 794 (by decide +kernel) rfl, gw_I 795 (by decide +kernel) rfl, gw_I 73 (by decide +kernel) rfl, gw_I 796 (by decide +kernel) rfl, ⟨by decide +kernel, by decide +kernel⟩, by decide +kernel⟩
theorem fs_2_192 : FS "SensorHub$Hub" 192 2 5 := ⟨"SensorHub$Hub", T_2, 11, rfl, by decide, rfl, gw_I 298 (by decide +kernel) rfl⟩
theorem fw_2_192 : FW "SensorHub$Hub" 192 2 5 .int := ⟨"SensorHub$Hub", T_2, 11, rfl, by decide, rfl, gw_I 298 (by decide +kernel) rfl, rfl, by decide +kernel⟩
theorem cv_2_262 : CSV "SensorHub$Hub" 262 y_Hub_wake prog_4_method_33_code 5 (some .int) 1 := ⟨gw_I 792 (by decide +kernel) rfl, gw_I 513 (by decide +kernel) rfl, gw_I 514 (by decide +kernel) rfl, gw_I 71 (by decide +kernel) rfl, gw_I 515 (by decide +kernel) rfl, ⟨by decide +kernel, by decide +kernel⟩, by decide +kernel⟩
def f_Hub_storeEntry (q : Nat) (p1 : Int32) (q2 : Nat) (σ : Mem) : Option (Unit × Mem) :=
  if (σ (q + 8) 0) < (σ q 3) then
    bd (f_Sto_add (q + 8) p1 (σ q2 14) (σ q2 15) σ) fun _ σ2 =>
    bd (f_Mat_max (σ2 q 5) (σ2 (q + 8) 0) σ2) fun r3 σ4 =>
    lt (wr σ4 q 5 r3) fun σ5 =>
    some ((), σ5)
  else
    bd (f_Hub_wake q (1 : Int32) σ) fun r6 σ7 =>
    bd (f_Sto_add (q + 8) p1 (σ7 q2 14) (σ7 q2 15) σ7) fun _ σ9 =>
    bd (f_Mat_max (σ9 q 5) (σ9 (q + 8) 0) σ9) fun r10 σ11 =>
    lt (wr σ11 q 5 r10) fun σ12 =>
    some ((), σ12)
set_option maxRecDepth 100000 in
set_option maxHeartbeats 4000000 in
theorem c_Hub_storeEntry {X : CX} (l : Launch) (q : Nat) (p1 : Int32) (q2 : Nat) (hq : HubOK X q) (hq2 : SensorOK X q2) (σ : Mem) : CT X l y_Hub_storeEntry prog_4_method_29_code 3 none 3 vU [.ref (xa X q), .int p1, .ref (xa X q2)] σ (f_Hub_storeEntry q p1 q2 σ) := by
  refine CT_of (by decide +kernel) (Nat.le_of_ble_eq_true rfl) ?_
  intro p e s m args below meth c F hlk hr
  have F : FR p s m args c prog_4_method_29_code 3 "SensorHub$Hub" X := F
  show G X p l e (rmD 3) s m args below meth c 3 0 0 (QI X below args s vU) 0 [(0, .ref (xa X q)), (1, .int p1), (2, .ref (xa X q2))] [] σ _
  unfold f_Hub_storeEntry
  refine g_aload_n F d_Hub_storeEntry_0 0 rfl ?_
  refine g_getR F fs_2_37 hq.1 rfl d_Hub_storeEntry_1 ?_
  refine g_getI F fs_2_65 hq.2.2.2.2.2.1.1 rfl d_Hub_storeEntry_4 ?_
  refine g_aload_n F d_Hub_storeEntry_7 0 rfl ?_
  refine g_getI F fs_2_56 hq.1 rfl d_Hub_storeEntry_8 ?_
  refine g_icmp_lt F (tgt := 20) d_Hub_storeEntry_11 (by decide) (fun h1 => ?_) (fun h2 => ?_)
  · refine g_aload_n F d_Hub_storeEntry_20 0 rfl ?_
    refine g_getR F fs_2_37 hq.1 rfl d_Hub_storeEntry_21 ?_
    refine g_iload_n F d_Hub_storeEntry_24 1 rfl ?_
    refine g_aload_n F d_Hub_storeEntry_25 2 rfl ?_
    refine g_getI F fs_2_214 hq2.1 rfl d_Hub_storeEntry_26 ?_
    refine g_aload_n F d_Hub_storeEntry_29 2 rfl ?_
    refine g_getI F fs_2_247 hq2.1 rfl d_Hub_storeEntry_30 ?_
    refine g_callV F (dp := 1) (ci := 5) (As := [.int p1, .int (σ q2 14), .int (σ q2 15)]) (c_Sto_add l _ _ _ _ hq.2.2.2.2.2.1 _) cv_2_265 hq.2.2.2.2.2.1.1 rfl rfl rfl (Nat.le_of_ble_eq_true rfl) ⟨Nat.le_of_ble_eq_true rfl, Nat.le_of_ble_eq_true rfl⟩ ⟨Nat.zero_le _, Nat.zero_le _⟩ d_Hub_storeEntry_33 (fun _ σ2 h3 => ?_)
    refine g_aload_n F d_Hub_storeEntry_36 0 rfl ?_
    refine g_aload_n F d_Hub_storeEntry_37 0 rfl ?_
    refine g_getI F fs_2_192 hq.1 rfl d_Hub_storeEntry_38 ?_
    refine g_aload_n F d_Hub_storeEntry_41 0 rfl ?_
    refine g_getR F fs_2_37 hq.1 rfl d_Hub_storeEntry_42 ?_
    refine g_getI F fs_2_65 hq.2.2.2.2.2.1.1 rfl d_Hub_storeEntry_45 ?_
    refine g_callS F (dp := 0) (As := [.int (σ2 q 5), .int (σ2 (q + 8) 0)]) (c_Mat_max l _ _ _) cs_2_124 rfl rfl (Nat.le_of_ble_eq_true rfl) ⟨Nat.le_of_ble_eq_true rfl, Nat.le_of_ble_eq_true rfl⟩ ⟨Nat.zero_le _, Nat.zero_le _⟩ d_Hub_storeEntry_48 (fun r3 σ4 h4 => ?_)
    refine g_putI F fw_2_192 hq.1 rfl d_Hub_storeEntry_51 ?_
    refine g_ltM (fun σ5 _ => ?_)
    exact g_vret F hlk hr d_Hub_storeEntry_54
  refine g_aload_n F d_Hub_storeEntry_14 0 rfl ?_
  refine g_iconst F (v := 1) d_Hub_storeEntry_15 (by decide) ?_
  refine g_callV F (dp := 2) (ci := 2) (As := [.int (1 : Int32)]) (c_Hub_wake l _ _ hq _) cv_2_262 hq.1 rfl rfl rfl (Nat.le_of_ble_eq_true rfl) ⟨Nat.le_of_ble_eq_true rfl, Nat.le_of_ble_eq_true rfl⟩ ⟨Nat.zero_le _, Nat.zero_le _⟩ d_Hub_storeEntry_16 (fun r6 σ7 h5 => ?_)
  refine g_pop F d_Hub_storeEntry_19 rfl ?_
  refine g_aload_n F d_Hub_storeEntry_20 0 rfl ?_
  refine g_getR F fs_2_37 hq.1 rfl d_Hub_storeEntry_21 ?_
  refine g_iload_n F d_Hub_storeEntry_24 1 rfl ?_
  refine g_aload_n F d_Hub_storeEntry_25 2 rfl ?_
  refine g_getI F fs_2_214 hq2.1 rfl d_Hub_storeEntry_26 ?_
  refine g_aload_n F d_Hub_storeEntry_29 2 rfl ?_
  refine g_getI F fs_2_247 hq2.1 rfl d_Hub_storeEntry_30 ?_
  refine g_callV F (dp := 1) (ci := 5) (As := [.int p1, .int (σ7 q2 14), .int (σ7 q2 15)]) (c_Sto_add l _ _ _ _ hq.2.2.2.2.2.1 _) cv_2_265 hq.2.2.2.2.2.1.1 rfl rfl rfl (Nat.le_of_ble_eq_true rfl) ⟨Nat.le_of_ble_eq_true rfl, Nat.le_of_ble_eq_true rfl⟩ ⟨Nat.zero_le _, Nat.zero_le _⟩ d_Hub_storeEntry_33 (fun _ σ9 h6 => ?_)
  refine g_aload_n F d_Hub_storeEntry_36 0 rfl ?_
  refine g_aload_n F d_Hub_storeEntry_37 0 rfl ?_
  refine g_getI F fs_2_192 hq.1 rfl d_Hub_storeEntry_38 ?_
  refine g_aload_n F d_Hub_storeEntry_41 0 rfl ?_
  refine g_getR F fs_2_37 hq.1 rfl d_Hub_storeEntry_42 ?_
  refine g_getI F fs_2_65 hq.2.2.2.2.2.1.1 rfl d_Hub_storeEntry_45 ?_
  refine g_callS F (dp := 0) (As := [.int (σ9 q 5), .int (σ9 (q + 8) 0)]) (c_Mat_max l _ _ _) cs_2_124 rfl rfl (Nat.le_of_ble_eq_true rfl) ⟨Nat.le_of_ble_eq_true rfl, Nat.le_of_ble_eq_true rfl⟩ ⟨Nat.zero_le _, Nat.zero_le _⟩ d_Hub_storeEntry_48 (fun r10 σ11 h7 => ?_)
  refine g_putI F fw_2_192 hq.1 rfl d_Hub_storeEntry_51 ?_
  refine g_ltM (fun σ12 _ => ?_)
  exact g_vret F hlk hr d_Hub_storeEntry_54
def y_Hub_storeEntries : MethodName := ⟨"SensorHub$Hub", "storeEntries", "()V"⟩
theorem d_Hub_storeEntries_0 : decode prog_4_method_28_code 0 = .ok (.iconst 0, 1) := by decide +kernel
theorem d_Hub_storeEntries_1 : decode prog_4_method_28_code 1 = .ok (.istore_n 1, 1) := by decide +kernel
theorem d_Hub_storeEntries_2 : decode prog_4_method_28_code 2 = .ok (.iload_n 1, 1) := by decide +kernel
theorem d_Hub_storeEntries_3 : decode prog_4_method_28_code 3 = .ok (.bipush 8, 2) := by decide +kernel
theorem d_Hub_storeEntries_5 : decode prog_4_method_28_code 5 = .ok (.if_icmp .ge 70, 3) := by decide +kernel
theorem d_Hub_storeEntries_8 : decode prog_4_method_28_code 8 = .ok (.aload_n 0, 1) := by decide +kernel
theorem d_Hub_storeEntries_9 : decode prog_4_method_28_code 9 = .ok (.iload_n 1, 1) := by decide +kernel
theorem d_Hub_storeEntries_10 : decode prog_4_method_28_code 10 = .ok (.invokevirtual 130, 3) := by decide +kernel
theorem d_Hub_storeEntries_13 : decode prog_4_method_28_code 13 = .ok (.astore_n 2, 1) := by decide +kernel
theorem d_Hub_storeEntries_14 : decode prog_4_method_28_code 14 = .ok (.aload_n 2, 1) := by decide +kernel
theorem d_Hub_storeEntries_15 : decode prog_4_method_28_code 15 = .ok (.ifnonnull 7, 3) := by decide +kernel
theorem d_Hub_storeEntries_18 : decode prog_4_method_28_code 18 = .ok (.aconst_null, 1) := by decide +kernel
theorem d_Hub_storeEntries_19 : decode prog_4_method_28_code 19 = .ok (.goto 11, 3) := by decide +kernel
theorem d_Hub_storeEntries_22 : decode prog_4_method_28_code 22 = .ok (.aload_n 0, 1) := by decide +kernel
theorem d_Hub_storeEntries_23 : decode prog_4_method_28_code 23 = .ok (.aload_n 2, 1) := by decide +kernel
theorem d_Hub_storeEntries_24 : decode prog_4_method_28_code 24 = .ok (.getfield 149, 3) := by decide +kernel
theorem d_Hub_storeEntries_27 : decode prog_4_method_28_code 27 = .ok (.invokevirtual 101, 3) := by decide +kernel
theorem d_Hub_storeEntries_30 : decode prog_4_method_28_code 30 = .ok (.astore_n 3, 1) := by decide +kernel
theorem d_Hub_storeEntries_31 : decode prog_4_method_28_code 31 = .ok (.aload_n 2, 1) := by decide +kernel
theorem d_Hub_storeEntries_32 : decode prog_4_method_28_code 32 = .ok (.ifnull 37, 3) := by decide +kernel
theorem d_Hub_storeEntries_35 : decode prog_4_method_28_code 35 = .ok (.aload_n 3, 1) := by decide +kernel
theorem d_Hub_storeEntries_36 : decode prog_4_method_28_code 36 = .ok (.ifnull 33, 3) := by decide +kernel
theorem d_Hub_storeEntries_39 : decode prog_4_method_28_code 39 = .ok (.aload_n 3, 1) := by decide +kernel
theorem d_Hub_storeEntries_40 : decode prog_4_method_28_code 40 = .ok (.getfield 204, 3) := by decide +kernel
theorem d_Hub_storeEntries_43 : decode prog_4_method_28_code 43 = .ok (.ifCond .eq 26, 3) := by decide +kernel
theorem d_Hub_storeEntries_46 : decode prog_4_method_28_code 46 = .ok (.aload_n 2, 1) := by decide +kernel
theorem d_Hub_storeEntries_47 : decode prog_4_method_28_code 47 = .ok (.invokevirtual 256, 3) := by decide +kernel
theorem d_Hub_storeEntries_50 : decode prog_4_method_28_code 50 = .ok (.ifCond .eq 9, 3) := by decide +kernel
theorem d_Hub_storeEntries_53 : decode prog_4_method_28_code 53 = .ok (.aload_n 0, 1) := by decide +kernel
theorem d_Hub_storeEntries_54 : decode prog_4_method_28_code 54 = .ok (.iload_n 1, 1) := by decide +kernel
theorem d_Hub_storeEntries_55 : decode prog_4_method_28_code 55 = .ok (.aload_n 3, 1) := by decide +kernel
theorem d_Hub_storeEntries_56 : decode prog_4_method_28_code 56 = .ok (.invokevirtual 259, 3) := by decide +kernel
theorem d_Hub_storeEntries_59 : decode prog_4_method_28_code 59 = .ok (.aload_n 2, 1) := by decide +kernel
theorem d_Hub_storeEntries_60 : decode prog_4_method_28_code 60 = .ok (.dup, 1) := by decide +kernel
theorem d_Hub_storeEntries_61 : decode prog_4_method_28_code 61 = .ok (.getfield 189, 3) := by decide +kernel
theorem d_Hub_storeEntries_64 : decode prog_4_method_28_code 64 = .ok (.iconst 1, 1) := by decide +kernel
theorem d_Hub_storeEntries_65 : decode prog_4_method_28_code 65 = .ok (.iadd, 1) := by decide +kernel
theorem d_Hub_storeEntries_66 : decode prog_4_method_28_code 66 = .ok (.putfield 189, 3) := by decide +kernel
theorem d_Hub_storeEntries_69 : decode prog_4_method_28_code 69 = .ok (.iinc 1 1, 3) := by decide +kernel
theorem d_Hub_storeEntries_72 : decode prog_4_method_28_code 72 = .ok (.goto (-70), 3) := by decide +kernel
theorem d_Hub_storeEntries_75 : decode prog_4_method_28_code 75 = .ok (.return_, 1) := by decide +kernel
theorem cv_2_256 : CSV "SensorHub$Hub" 256 y_Cli_takesNext prog_2_method_3_code 1 (some .boolean) 0 := ⟨gw_I 783 (by decide +kernel) rfl, gw_I 784 (by decide +kernel) rfl, gw_I 785 (by decide +kernel) rfl, gw_I 75 (by decide +kernel) rfl, gw_I 786 (by decide +kernel) rfl, ⟨by decide +kernel, by decide +kernel⟩, by decide +kernel⟩
theorem fs_2_189 : FS "SensorHub$Hub" 189 0 5 := ⟨"SensorHub$Client", T_0, 11, rfl, by decide, rfl, gw_I 241 (by decide +kernel) rfl⟩
theorem cv_2_259 : CSV "SensorHub$Hub" 259 y_Hub_storeEntry prog_4_method_29_code 3 none 2 := ⟨gw_I 788 (by decide +kernel) rfl, gw_I 790 (by decide +kernel) rfl, gw_I 22 (by decide +kernel) rfl, gw_I 71 (by decide +kernel) rfl, gw_I 791 (by decide +kernel) rfl, ⟨by decide +kernel, by decide +kernel⟩, by decide +kernel⟩
def L_Hub_storeEntries_2 (r0 : Nat) (k : Mem → Option (Unit × Mem)) : Nat → Int32 → Mem → Option (Unit × Mem)
  | 0, _, _ => none
  | n + 1, x1, σ =>
    if (8 : Int32) ≤ x1 then
      k σ
    else
      bd (f_Hub_clientAt r0 x1 σ) fun r1 σ2 =>
      oe r1 (
        L_Hub_storeEntries_2 r0 k n (x1 + 1) σ2
      ) (fun o3 =>
        bd (f_Hub_sensorAt r0 (σ2 o3 1) σ2) fun r4 σ5 =>
        oe r4 (
          L_Hub_storeEntries_2 r0 k n (x1 + 1) σ5
        ) (fun o6 =>
          if (σ5 o6 13) = 0 then
            L_Hub_storeEntries_2 r0 k n (x1 + 1) σ5
          else
            bd (f_Cli_takesNext o3 σ5) fun r7 σ8 =>
            if r7 = 0 then
              lt (wr σ8 o3 5 ((σ8 o3 5) + (1 : Int32))) fun σ9 =>
              L_Hub_storeEntries_2 r0 k n (x1 + 1) σ9
            else
              bd (f_Hub_storeEntry r0 x1 o6 σ8) fun _ σ11 =>
              lt (wr σ11 o3 5 ((σ11 o3 5) + (1 : Int32))) fun σ12 =>
              L_Hub_storeEntries_2 r0 k n (x1 + 1) σ12
        )
      )
def f_Hub_storeEntries (q : Nat) (σ : Mem) : Option (Unit × Mem) :=
  L_Hub_storeEntries_2 q (fun σ13 =>
    some ((), σ13)) FU (0 : Int32) σ
set_option maxRecDepth 100000 in
set_option maxHeartbeats 4000000 in
theorem l_L_Hub_storeEntries_2 {X : CX} {p : Program} {l : Launch} {e : Env} {s : State} {m : MethodId} {args : Array Value} {below : List Frame} {meth : Method} {c : Code} (F : FR p s m args c prog_4_method_28_code 4 "SensorHub$Hub" X) (hlk : meth.locks = false) (hr : meth.sig.returnType = none) (r0 : Nat) (hr0 : HubOK X r0) (k : Mem → Option (Unit × Mem)) (hk : ∀  (σ : Mem), G X p l e (rmD 4) s m args below meth c 4 0 0 (QI X below args s vU) 75 [] [] σ (k σ)) : ∀ (n : Nat) (x1 : Int32) (σ : Mem), G X p l e (rmD 4) s m args below meth c 4 0 0 (QI X below args s vU) 2 [(0, .ref (xa X r0)), (1, .int x1)] [] σ (L_Hub_storeEntries_2 r0 k n x1 σ) := by
  intro n
  induction n with
  | zero => intros; exact g_no
  | succ n ih =>
    intro x1 σ
    unfold L_Hub_storeEntries_2
    refine g_iload_n F d_Hub_storeEntries_2 1 rfl ?_
    refine g_bipush F (v := 8) d_Hub_storeEntries_3 (by decide) ?_
    refine g_icmp_ge F (tgt := 75) d_Hub_storeEntries_5 (by decide) (fun h1 => ?_) (fun h2 => ?_)
    · exact g_sub [] rfl (hk  _)
    refine g_aload_n F d_Hub_storeEntries_8 0 rfl ?_
    refine g_iload_n F d_Hub_storeEntries_9 1 rfl ?_
    refine g_callV F (dp := 0) (ci := 2) (As := [.int x1]) (c_Hub_clientAt l _ _ hr0 _) cv_2_130 hr0.1 rfl rfl rfl (Nat.le_of_ble_eq_true rfl) ⟨Nat.le_of_ble_eq_true rfl, Nat.le_of_ble_eq_true rfl⟩ ⟨Nat.zero_le _, Nat.zero_le _⟩ d_Hub_storeEntries_10 (fun r1 σ2 h3 => ?_)
    refine g_oe (fun h4 => ?_) (fun o3 h5 => ?_)
    · refine g_astore_nN F (ls' := [(2, .null), (0, .ref (xa X r0)), (1, .int x1)]) d_Hub_storeEntries_13 (by decide) rfl ?_
      refine g_aload_nN F d_Hub_storeEntries_14 0 rfl ?_
      refine g_ifnonnullN F d_Hub_storeEntries_15 ?_
      refine g_null F d_Hub_storeEntries_18 ?_
      refine g_goto F (tgt := 30) d_Hub_storeEntries_19 (by decide) ?_
      refine g_astore_nN F (ls' := [(3, .null), (2, .null), (0, .ref (xa X r0)), (1, .int x1)]) d_Hub_storeEntries_30 (by decide) rfl ?_
      refine g_aload_nN F d_Hub_storeEntries_31 1 rfl ?_
      refine g_ifnullN F (tgt := 69) d_Hub_storeEntries_32 (by decide) ?_
      refine g_iinc F (v := 1) (ls' := [(1, .int (x1 + 1)), (3, .null), (2, .null), (0, .ref (xa X r0))]) d_Hub_storeEntries_69 3 rfl (by decide) (by decide) rfl ?_
      refine g_goto F (tgt := 2) d_Hub_storeEntries_72 (by decide) ?_
      exact g_sub [3, 0] rfl (ih _ _)
    have h6 : ClientOK X o3 := ok_Hub_clientAt hr0 (h5 ▸ h3)
    refine g_astore_n F (ls' := [(2, .ref (xa X o3)), (0, .ref (xa X r0)), (1, .int x1)]) d_Hub_storeEntries_13 (by decide) rfl ?_
    refine g_aload_n F d_Hub_storeEntries_14 0 rfl ?_
    refine g_ifnonnull F (tgt := 22) d_Hub_storeEntries_15 (by decide) ?_
    refine g_aload_n F d_Hub_storeEntries_22 1 rfl ?_
    refine g_aload_n F d_Hub_storeEntries_23 0 rfl ?_
    refine g_getI F fs_2_149 h6.1 rfl d_Hub_storeEntries_24 ?_
    refine g_callV F (dp := 0) (ci := 2) (As := [.int (σ2 o3 1)]) (c_Hub_sensorAt l _ _ hr0 _) cv_2_101 hr0.1 rfl rfl rfl (Nat.le_of_ble_eq_true rfl) ⟨Nat.le_of_ble_eq_true rfl, Nat.le_of_ble_eq_true rfl⟩ ⟨Nat.zero_le _, Nat.zero_le _⟩ d_Hub_storeEntries_27 (fun r4 σ5 h7 => ?_)
    refine g_oe (fun h8 => ?_) (fun o6 h9 => ?_)
    · refine g_astore_nN F (ls' := [(3, .null), (2, .ref (xa X o3)), (0, .ref (xa X r0)), (1, .int x1)]) d_Hub_storeEntries_30 (by decide) rfl ?_
      refine g_aload_n F d_Hub_storeEntries_31 1 rfl ?_
      refine g_ifnull F d_Hub_storeEntries_32 ?_
      refine g_aload_nN F d_Hub_storeEntries_35 0 rfl ?_
      refine g_ifnullN F (tgt := 69) d_Hub_storeEntries_36 (by decide) ?_
      refine g_iinc F (v := 1) (ls' := [(1, .int (x1 + 1)), (3, .null), (2, .ref (xa X o3)), (0, .ref (xa X r0))]) d_Hub_storeEntries_69 3 rfl (by decide) (by decide) rfl ?_
      refine g_goto F (tgt := 2) d_Hub_storeEntries_72 (by decide) ?_
      exact g_sub [3, 0] rfl (ih _ _)
    have h10 : SensorOK X o6 := ok_Hub_sensorAt hr0 (h9 ▸ h7)
    refine g_astore_n F (ls' := [(3, .ref (xa X o6)), (2, .ref (xa X o3)), (0, .ref (xa X r0)), (1, .int x1)]) d_Hub_storeEntries_30 (by decide) rfl ?_
    refine g_aload_n F d_Hub_storeEntries_31 1 rfl ?_
    refine g_ifnull F d_Hub_storeEntries_32 ?_
    refine g_aload_n F d_Hub_storeEntries_35 0 rfl ?_
    refine g_ifnull F d_Hub_storeEntries_36 ?_
    refine g_aload_n F d_Hub_storeEntries_39 0 rfl ?_
    refine g_getI F fs_2_204 h10.1 rfl d_Hub_storeEntries_40 ?_
    refine g_if_eq F (tgt := 69) d_Hub_storeEntries_43 (by decide) (fun h11 => ?_) (fun h12 => ?_)
    · refine g_iinc F (v := 1) (ls' := [(1, .int (x1 + 1)), (3, .ref (xa X o6)), (2, .ref (xa X o3)), (0, .ref (xa X r0))]) d_Hub_storeEntries_69 3 rfl (by decide) (by decide) rfl ?_
      refine g_goto F (tgt := 2) d_Hub_storeEntries_72 (by decide) ?_
      exact g_sub [3, 0] rfl (ih _ _)
    refine g_aload_n F d_Hub_storeEntries_46 1 rfl ?_
    refine g_callV F (dp := 2) (ci := 0) (As := []) (c_Cli_takesNext l _ h6 _) cv_2_256 h6.1 rfl rfl rfl (Nat.le_of_ble_eq_true rfl) ⟨Nat.le_of_ble_eq_true rfl, Nat.le_of_ble_eq_true rfl⟩ ⟨Nat.zero_le _, Nat.zero_le _⟩ d_Hub_storeEntries_47 (fun r7 σ8 h13 => ?_)
    refine g_if_eq F (tgt := 59) d_Hub_storeEntries_50 (by decide) (fun h14 => ?_) (fun h15 => ?_)
    · refine g_aload_n F d_Hub_storeEntries_59 1 rfl ?_
      refine g_dup F d_Hub_storeEntries_60 rfl ?_
      refine g_getI F fs_2_189 h6.1 rfl d_Hub_storeEntries_61 ?_
      refine g_iconst F (v := 1) d_Hub_storeEntries_64 (by decide) ?_
      refine g_iadd F d_Hub_storeEntries_65 ?_
      refine g_putI F fw_2_189 h6.1 rfl d_Hub_storeEntries_66 ?_
      refine g_ltM (fun σ9 _ => ?_)
      refine g_iinc F (v := 1) (ls' := [(1, .int (x1 + 1)), (3, .ref (xa X o6)), (2, .ref (xa X o3)), (0, .ref (xa X r0))]) d_Hub_storeEntries_69 3 rfl (by decide) (by decide) rfl ?_
      refine g_goto F (tgt := 2) d_Hub_storeEntries_72 (by decide) ?_
      exact g_sub [3, 0] rfl (ih _ _)
    refine g_aload_n F d_Hub_storeEntries_53 2 rfl ?_
    refine g_iload_n F d_Hub_storeEntries_54 3 rfl ?_
    refine g_aload_n F d_Hub_storeEntries_55 0 rfl ?_
    refine g_callV F (dp := 3) (ci := 2) (As := [.int x1, .ref (xa X o6)]) (c_Hub_storeEntry l _ _ _ hr0 h10 _) cv_2_259 hr0.1 rfl rfl rfl (Nat.le_of_ble_eq_true rfl) ⟨Nat.le_of_ble_eq_true rfl, Nat.le_of_ble_eq_true rfl⟩ ⟨Nat.zero_le _, Nat.zero_le _⟩ d_Hub_storeEntries_56 (fun _ σ11 h16 => ?_)
    refine g_aload_n F d_Hub_storeEntries_59 1 rfl ?_
    refine g_dup F d_Hub_storeEntries_60 rfl ?_
    refine g_getI F fs_2_189 h6.1 rfl d_Hub_storeEntries_61 ?_
    refine g_iconst F (v := 1) d_Hub_storeEntries_64 (by decide) ?_
    refine g_iadd F d_Hub_storeEntries_65 ?_
    refine g_putI F fw_2_189 h6.1 rfl d_Hub_storeEntries_66 ?_
    refine g_ltM (fun σ12 _ => ?_)
    refine g_iinc F (v := 1) (ls' := [(1, .int (x1 + 1)), (3, .ref (xa X o6)), (2, .ref (xa X o3)), (0, .ref (xa X r0))]) d_Hub_storeEntries_69 3 rfl (by decide) (by decide) rfl ?_
    refine g_goto F (tgt := 2) d_Hub_storeEntries_72 (by decide) ?_
    exact g_sub [3, 0] rfl (ih _ _)
set_option maxRecDepth 100000 in
set_option maxHeartbeats 4000000 in
theorem c_Hub_storeEntries {X : CX} (l : Launch) (q : Nat) (hq : HubOK X q) (σ : Mem) : CT X l y_Hub_storeEntries prog_4_method_28_code 4 none 4 vU [.ref (xa X q)] σ (f_Hub_storeEntries q σ) := by
  refine CT_of (by decide +kernel) (Nat.le_of_ble_eq_true rfl) ?_
  intro p e s m args below meth c F hlk hr
  have F : FR p s m args c prog_4_method_28_code 4 "SensorHub$Hub" X := F
  show G X p l e (rmD 4) s m args below meth c 4 0 0 (QI X below args s vU) 0 [(0, .ref (xa X q))] [] σ _
  unfold f_Hub_storeEntries
  refine g_iconst F (v := 0) d_Hub_storeEntries_0 (by decide) ?_
  refine g_istore_n F (ls' := [(1, .int (0 : Int32)), (0, .ref (xa X q))]) d_Hub_storeEntries_1 (by decide) rfl ?_
  refine g_sub [1, 0] rfl (l_L_Hub_storeEntries_2 F hlk hr _ hq _ (fun σ13 => ?_) FU _ _)
  exact g_vret F hlk hr d_Hub_storeEntries_75
def y_Hub_deadlineOf : MethodName := ⟨"SensorHub$Hub", "deadlineOf", "(I)I"⟩
theorem d_Hub_deadlineOf_0 : decode prog_4_method_31_code 0 = .ok (.aload_n 0, 1) := by decide +kernel
theorem d_Hub_deadlineOf_1 : decode prog_4_method_31_code 1 = .ok (.aload_n 0, 1) := by decide +kernel
theorem d_Hub_deadlineOf_2 : decode prog_4_method_31_code 2 = .ok (.getfield 37, 3) := by decide +kernel
theorem d_Hub_deadlineOf_5 : decode prog_4_method_31_code 5 = .ok (.iload_n 1, 1) := by decide +kernel
theorem d_Hub_deadlineOf_6 : decode prog_4_method_31_code 6 = .ok (.iconst 0, 1) := by decide +kernel
theorem d_Hub_deadlineOf_7 : decode prog_4_method_31_code 7 = .ok (.invokevirtual 271, 3) := by decide +kernel
theorem d_Hub_deadlineOf_10 : decode prog_4_method_31_code 10 = .ok (.invokevirtual 130, 3) := by decide +kernel
theorem d_Hub_deadlineOf_13 : decode prog_4_method_31_code 13 = .ok (.astore_n 2, 1) := by decide +kernel
theorem d_Hub_deadlineOf_14 : decode prog_4_method_31_code 14 = .ok (.aload_n 2, 1) := by decide +kernel
theorem d_Hub_deadlineOf_15 : decode prog_4_method_31_code 15 = .ok (.ifnonnull 7, 3) := by decide +kernel
theorem d_Hub_deadlineOf_18 : decode prog_4_method_31_code 18 = .ok (.iconst 0, 1) := by decide +kernel
theorem d_Hub_deadlineOf_19 : decode prog_4_method_31_code 19 = .ok (.goto 7, 3) := by decide +kernel
theorem d_Hub_deadlineOf_22 : decode prog_4_method_31_code 22 = .ok (.aload_n 2, 1) := by decide +kernel
theorem d_Hub_deadlineOf_23 : decode prog_4_method_31_code 23 = .ok (.getfield 277, 3) := by decide +kernel
theorem d_Hub_deadlineOf_26 : decode prog_4_method_31_code 26 = .ok (.istore_n 3, 1) := by decide +kernel
theorem d_Hub_deadlineOf_27 : decode prog_4_method_31_code 27 = .ok (.aload_n 0, 1) := by decide +kernel
theorem d_Hub_deadlineOf_28 : decode prog_4_method_31_code 28 = .ok (.getfield 37, 3) := by decide +kernel
theorem d_Hub_deadlineOf_31 : decode prog_4_method_31_code 31 = .ok (.iload_n 1, 1) := by decide +kernel
theorem d_Hub_deadlineOf_32 : decode prog_4_method_31_code 32 = .ok (.iconst 1, 1) := by decide +kernel
theorem d_Hub_deadlineOf_33 : decode prog_4_method_31_code 33 = .ok (.invokevirtual 271, 3) := by decide +kernel
theorem d_Hub_deadlineOf_36 : decode prog_4_method_31_code 36 = .ok (.iload_n 3, 1) := by decide +kernel
theorem d_Hub_deadlineOf_37 : decode prog_4_method_31_code 37 = .ok (.iadd, 1) := by decide +kernel
theorem d_Hub_deadlineOf_38 : decode prog_4_method_31_code 38 = .ok (.ireturn, 1) := by decide +kernel
theorem fs_2_277 : FS "SensorHub$Hub" 277 0 3 := ⟨"SensorHub$Client", T_0, 11, rfl, by decide, rfl, gw_I 236 (by decide +kernel) rfl⟩
def f_Hub_deadlineOf (q : Nat) (p1 : Int32) (σ : Mem) : Option (Int32 × Mem) :=
  bd (f_Sto_part (q + 8) p1 (0 : Int32) σ) fun r1 σ2 =>
  bd (f_Hub_clientAt q r1 σ2) fun r3 σ4 =>
  oe r3 (
    bd (f_Sto_part (q + 8) p1 (1 : Int32) σ4) fun r6 σ7 =>
    some (r6 + (0 : Int32), σ7)
  ) (fun o5 =>
    lt (σ4 o5 3) fun v8 =>
    bd (f_Sto_part (q + 8) p1 (1 : Int32) σ4) fun r9 σ10 =>
    some (r9 + v8, σ10)
  )
set_option maxRecDepth 100000 in
set_option maxHeartbeats 4000000 in
theorem c_Hub_deadlineOf {X : CX} (l : Launch) (q : Nat) (p1 : Int32) (hq : HubOK X q) (σ : Mem) : CT X l y_Hub_deadlineOf prog_4_method_31_code 4 (some .int) 2 vI [.ref (xa X q), .int p1] σ (f_Hub_deadlineOf q p1 σ) := by
  refine CT_of (by decide +kernel) (Nat.le_of_ble_eq_true rfl) ?_
  intro p e s m args below meth c F hlk hr
  have F : FR p s m args c prog_4_method_31_code 4 "SensorHub$Hub" X := F
  show G X p l e (rmD 2) s m args below meth c 4 0 0 (QI X below args s vI) 0 [(0, .ref (xa X q)), (1, .int p1)] [] σ _
  unfold f_Hub_deadlineOf
  refine g_aload_n F d_Hub_deadlineOf_0 0 rfl ?_
  refine g_aload_n F d_Hub_deadlineOf_1 0 rfl ?_
  refine g_getR F fs_2_37 hq.1 rfl d_Hub_deadlineOf_2 ?_
  refine g_iload_n F d_Hub_deadlineOf_5 1 rfl ?_
  refine g_iconst F (v := 0) d_Hub_deadlineOf_6 (by decide) ?_
  refine g_callV F (dp := 1) (ci := 5) (As := [.int p1, .int (0 : Int32)]) (c_Sto_part l _ _ _ hq.2.2.2.2.2.1 _) cv_2_271 hq.2.2.2.2.2.1.1 rfl rfl rfl (Nat.le_of_ble_eq_true rfl) ⟨Nat.le_of_ble_eq_true rfl, Nat.le_of_ble_eq_true rfl⟩ ⟨Nat.zero_le _, Nat.zero_le _⟩ d_Hub_deadlineOf_7 (fun r1 σ2 h1 => ?_)
  refine g_callV F (dp := 0) (ci := 2) (As := [.int r1]) (c_Hub_clientAt l _ _ hq _) cv_2_130 hq.1 rfl rfl rfl (Nat.le_of_ble_eq_true rfl) ⟨Nat.le_of_ble_eq_true rfl, Nat.le_of_ble_eq_true rfl⟩ ⟨Nat.zero_le _, Nat.zero_le _⟩ d_Hub_deadlineOf_10 (fun r3 σ4 h2 => ?_)
  refine g_oe (fun h3 => ?_) (fun o5 h4 => ?_)
  · refine g_astore_nN F (ls' := [(2, .null), (0, .ref (xa X q)), (1, .int p1)]) d_Hub_deadlineOf_13 (by decide) rfl ?_
    refine g_aload_nN F d_Hub_deadlineOf_14 0 rfl ?_
    refine g_ifnonnullN F d_Hub_deadlineOf_15 ?_
    refine g_iconst F (v := 0) d_Hub_deadlineOf_18 (by decide) ?_
    refine g_goto F (tgt := 26) d_Hub_deadlineOf_19 (by decide) ?_
    refine g_istore_n F (ls' := [(3, .int (0 : Int32)), (2, .null), (0, .ref (xa X q)), (1, .int p1)]) d_Hub_deadlineOf_26 (by decide) rfl ?_
    refine g_aload_n F d_Hub_deadlineOf_27 2 rfl ?_
    refine g_getR F fs_2_37 hq.1 rfl d_Hub_deadlineOf_28 ?_
    refine g_iload_n F d_Hub_deadlineOf_31 3 rfl ?_
    refine g_iconst F (v := 1) d_Hub_deadlineOf_32 (by decide) ?_
    refine g_callV F (dp := 1) (ci := 5) (As := [.int p1, .int (1 : Int32)]) (c_Sto_part l _ _ _ hq.2.2.2.2.2.1 _) cv_2_271 hq.2.2.2.2.2.1.1 rfl rfl rfl (Nat.le_of_ble_eq_true rfl) ⟨Nat.le_of_ble_eq_true rfl, Nat.le_of_ble_eq_true rfl⟩ ⟨Nat.zero_le _, Nat.zero_le _⟩ d_Hub_deadlineOf_33 (fun r6 σ7 h6 => ?_)
    refine g_iload_n F d_Hub_deadlineOf_36 0 rfl ?_
    refine g_iadd F d_Hub_deadlineOf_37 ?_
    exact g_iret F hlk hr d_Hub_deadlineOf_38
  have h5 : ClientOK X o5 := ok_Hub_clientAt hq (h4 ▸ h2)
  refine g_astore_n F (ls' := [(2, .ref (xa X o5)), (0, .ref (xa X q)), (1, .int p1)]) d_Hub_deadlineOf_13 (by decide) rfl ?_
  refine g_aload_n F d_Hub_deadlineOf_14 0 rfl ?_
  refine g_ifnonnull F (tgt := 22) d_Hub_deadlineOf_15 (by decide) ?_
  refine g_aload_n F d_Hub_deadlineOf_22 0 rfl ?_
  refine g_getI F fs_2_277 h5.1 rfl d_Hub_deadlineOf_23 ?_
  refine g_ltI (fun v8 _ => ?_)
  refine g_istore_n F (ls' := [(3, .int v8), (2, .ref (xa X o5)), (0, .ref (xa X q)), (1, .int p1)]) d_Hub_deadlineOf_26 (by decide) rfl ?_
  refine g_aload_n F d_Hub_deadlineOf_27 2 rfl ?_
  refine g_getR F fs_2_37 hq.1 rfl d_Hub_deadlineOf_28 ?_
  refine g_iload_n F d_Hub_deadlineOf_31 3 rfl ?_
  refine g_iconst F (v := 1) d_Hub_deadlineOf_32 (by decide) ?_
  refine g_callV F (dp := 1) (ci := 5) (As := [.int p1, .int (1 : Int32)]) (c_Sto_part l _ _ _ hq.2.2.2.2.2.1 _) cv_2_271 hq.2.2.2.2.2.1.1 rfl rfl rfl (Nat.le_of_ble_eq_true rfl) ⟨Nat.le_of_ble_eq_true rfl, Nat.le_of_ble_eq_true rfl⟩ ⟨Nat.zero_le _, Nat.zero_le _⟩ d_Hub_deadlineOf_33 (fun r9 σ10 h7 => ?_)
  refine g_iload_n F d_Hub_deadlineOf_36 0 rfl ?_
  refine g_iadd F d_Hub_deadlineOf_37 ?_
  exact g_iret F hlk hr d_Hub_deadlineOf_38
def y_Hub_wakeIfDue : MethodName := ⟨"SensorHub$Hub", "wakeIfDue", "()V"⟩
theorem d_Hub_wakeIfDue_0 : decode prog_4_method_30_code 0 = .ok (.iconst 0, 1) := by decide +kernel
theorem d_Hub_wakeIfDue_1 : decode prog_4_method_30_code 1 = .ok (.istore_n 1, 1) := by decide +kernel
theorem d_Hub_wakeIfDue_2 : decode prog_4_method_30_code 2 = .ok (.iload_n 1, 1) := by decide +kernel
theorem d_Hub_wakeIfDue_3 : decode prog_4_method_30_code 3 = .ok (.aload_n 0, 1) := by decide +kernel
theorem d_Hub_wakeIfDue_4 : decode prog_4_method_30_code 4 = .ok (.getfield 37, 3) := by decide +kernel
theorem d_Hub_wakeIfDue_7 : decode prog_4_method_30_code 7 = .ok (.getfield 65, 3) := by decide +kernel
theorem d_Hub_wakeIfDue_10 : decode prog_4_method_30_code 10 = .ok (.if_icmp .ge 56, 3) := by decide +kernel
theorem d_Hub_wakeIfDue_13 : decode prog_4_method_30_code 13 = .ok (.aload_n 0, 1) := by decide +kernel
theorem d_Hub_wakeIfDue_14 : decode prog_4_method_30_code 14 = .ok (.iload_n 1, 1) := by decide +kernel
theorem d_Hub_wakeIfDue_15 : decode prog_4_method_30_code 15 = .ok (.invokevirtual 268, 3) := by decide +kernel
theorem d_Hub_wakeIfDue_18 : decode prog_4_method_30_code 18 = .ok (.aload_n 0, 1) := by decide +kernel
theorem d_Hub_wakeIfDue_19 : decode prog_4_method_30_code 19 = .ok (.getfield 46, 3) := by decide +kernel
theorem d_Hub_wakeIfDue_22 : decode prog_4_method_30_code 22 = .ok (.if_icmp .gt 38, 3) := by decide +kernel
theorem d_Hub_wakeIfDue_25 : decode prog_4_method_30_code 25 = .ok (.aload_n 0, 1) := by decide +kernel
theorem d_Hub_wakeIfDue_26 : decode prog_4_method_30_code 26 = .ok (.aload_n 0, 1) := by decide +kernel
theorem d_Hub_wakeIfDue_27 : decode prog_4_method_30_code 27 = .ok (.getfield 37, 3) := by decide +kernel
theorem d_Hub_wakeIfDue_30 : decode prog_4_method_30_code 30 = .ok (.iload_n 1, 1) := by decide +kernel
theorem d_Hub_wakeIfDue_31 : decode prog_4_method_30_code 31 = .ok (.iconst 0, 1) := by decide +kernel
theorem d_Hub_wakeIfDue_32 : decode prog_4_method_30_code 32 = .ok (.invokevirtual 271, 3) := by decide +kernel
theorem d_Hub_wakeIfDue_35 : decode prog_4_method_30_code 35 = .ok (.invokevirtual 130, 3) := by decide +kernel
theorem d_Hub_wakeIfDue_38 : decode prog_4_method_30_code 38 = .ok (.astore_n 2, 1) := by decide +kernel
theorem d_Hub_wakeIfDue_39 : decode prog_4_method_30_code 39 = .ok (.aload_n 2, 1) := by decide +kernel
theorem d_Hub_wakeIfDue_40 : decode prog_4_method_30_code 40 = .ok (.ifnull 13, 3) := by decide +kernel
theorem d_Hub_wakeIfDue_43 : decode prog_4_method_30_code 43 = .ok (.aload_n 2, 1) := by decide +kernel
theorem d_Hub_wakeIfDue_44 : decode prog_4_method_30_code 44 = .ok (.dup, 1) := by decide +kernel
theorem d_Hub_wakeIfDue_45 : decode prog_4_method_30_code 45 = .ok (.getfield 274, 3) := by decide +kernel
theorem d_Hub_wakeIfDue_48 : decode prog_4_method_30_code 48 = .ok (.iconst 1, 1) := by decide +kernel
theorem d_Hub_wakeIfDue_49 : decode prog_4_method_30_code 49 = .ok (.iadd, 1) := by decide +kernel
theorem d_Hub_wakeIfDue_50 : decode prog_4_method_30_code 50 = .ok (.putfield 274, 3) := by decide +kernel
theorem d_Hub_wakeIfDue_53 : decode prog_4_method_30_code 53 = .ok (.aload_n 0, 1) := by decide +kernel
theorem d_Hub_wakeIfDue_54 : decode prog_4_method_30_code 54 = .ok (.iconst 0, 1) := by decide +kernel
theorem d_Hub_wakeIfDue_55 : decode prog_4_method_30_code 55 = .ok (.invokevirtual 262, 3) := by decide +kernel
theorem d_Hub_wakeIfDue_58 : decode prog_4_method_30_code 58 = .ok (.pop, 1) := by decide +kernel
theorem d_Hub_wakeIfDue_59 : decode prog_4_method_30_code 59 = .ok (.return_, 1) := by decide +kernel
theorem d_Hub_wakeIfDue_60 : decode prog_4_method_30_code 60 = .ok (.iinc 1 1, 3) := by decide +kernel
theorem d_Hub_wakeIfDue_63 : decode prog_4_method_30_code 63 = .ok (.goto (-61), 3) := by decide +kernel
theorem d_Hub_wakeIfDue_66 : decode prog_4_method_30_code 66 = .ok (.return_, 1) := by decide +kernel
theorem cv_2_268 : CSV "SensorHub$Hub" 268 y_Hub_deadlineOf prog_4_method_31_code 4 (some .int) 1 := ⟨gw_I 801 (by decide +kernel) rfl, gw_I 803 (by decide +kernel) rfl, gw_I 24 (by decide +kernel) rfl, gw_I 71 (by decide +kernel) rfl, gw_I 804 (by decide +kernel) rfl, ⟨by decide +kernel, by decide +kernel⟩, by decide +kernel⟩
theorem fs_2_274 : FS "SensorHub$Hub" 274 0 9 := ⟨"SensorHub$Client", T_0, 11, rfl, by decide, rfl, gw_I 250 (by decide +kernel) rfl⟩
theorem fw_2_274 : FW "SensorHub$Hub" 274 0 9 .int := ⟨"SensorHub$Client", T_0, 11, rfl, by decide, rfl, gw_I 250 (by decide +kernel) rfl, rfl, by decide +kernel⟩
def L_Hub_wakeIfDue_2 (r0 : Nat) (k : Mem → Option (Unit × Mem)) : Nat → Int32 → Mem → Option (Unit × Mem)
  | 0, _, _ => none
  | n + 1, x1, σ =>
    if (σ (r0 + 8) 0) ≤ x1 then
      k σ
    else
      bd (f_Hub_deadlineOf r0 x1 σ) fun r1 σ2 =>
      if (σ2 r0 0) < r1 then
        L_Hub_wakeIfDue_2 r0 k n (x1 + 1) σ2
      else
        bd (f_Sto_part (r0 + 8) x1 (0 : Int32) σ2) fun r3 σ4 =>
        bd (f_Hub_clientAt r0 r3 σ4) fun r5 σ6 =>
        oe r5 (
          bd (f_Hub_wake r0 (0 : Int32) σ6) fun r8 σ9 =>
          some ((), σ9)
        ) (fun o7 =>
          lt (wr σ6 o7 9 ((σ6 o7 9) + (1 : Int32))) fun σ10 =>
          bd (f_Hub_wake r0 (0 : Int32) σ10) fun r11 σ12 =>
          some ((), σ12)
        )
def f_Hub_wakeIfDue (q : Nat) (σ : Mem) : Option (Unit × Mem) :=
  L_Hub_wakeIfDue_2 q (fun σ13 =>
    some ((), σ13)) FU (0 : Int32) σ
set_option maxRecDepth 100000 in
set_option maxHeartbeats 4000000 in
theorem l_L_Hub_wakeIfDue_2 {X : CX} {p : Program} {l : Launch} {e : Env} {s : State} {m : MethodId} {args : Array Value} {below : List Frame} {meth : Method} {c : Code} (F : FR p s m args c prog_4_method_30_code 3 "SensorHub$Hub" X) (hlk : meth.locks = false) (hr : meth.sig.returnType = none) (r0 : Nat) (hr0 : HubOK X r0) (k : Mem → Option (Unit × Mem)) (hk : ∀  (σ : Mem), G X p l e (rmD 3) s m args below meth c 3 0 0 (QI X below args s vU) 66 [] [] σ (k σ)) : ∀ (n : Nat) (x1 : Int32) (σ : Mem), G X p l e (rmD 3) s m args below meth c 3 0 0 (QI X below args s vU) 2 [(0, .ref (xa X r0)), (1, .int x1)] [] σ (L_Hub_wakeIfDue_2 r0 k n x1 σ) := by
  intro n
  induction n with
  | zero => intros; exact g_no
  | succ n ih =>
    intro x1 σ
    unfold L_Hub_wakeIfDue_2
    refine g_iload_n F d_Hub_wakeIfDue_2 1 rfl ?_
    refine g_aload_n F d_Hub_wakeIfDue_3 0 rfl ?_
    refine g_getR F fs_2_37 hr0.1 rfl d_Hub_wakeIfDue_4 ?_
    refine g_getI F fs_2_65 hr0.2.2.2.2.2.1.1 rfl d_Hub_wakeIfDue_7 ?_
    refine g_icmp_ge F (tgt := 66) d_Hub_wakeIfDue_10 (by decide) (fun h1 => ?_) (fun h2 => ?_)
    · exact g_sub [] rfl (hk  _)
    refine g_aload_n F d_Hub_wakeIfDue_13 0 rfl ?_
    refine g_iload_n F d_Hub_wakeIfDue_14 1 rfl ?_
    refine g_callV F (dp := 2) (ci := 2) (As := [.int x1]) (c_Hub_deadlineOf l _ _ hr0 _) cv_2_268 hr0.1 rfl rfl rfl (Nat.le_of_ble_eq_true rfl) ⟨Nat.le_of_ble_eq_true rfl, Nat.le_of_ble_eq_true rfl⟩ ⟨Nat.zero_le _, Nat.zero_le _⟩ d_Hub_wakeIfDue_15 (fun r1 σ2 h3 => ?_)
    refine g_aload_n F d_Hub_wakeIfDue_18 0 rfl ?_
    refine g_getI F fs_2_46 hr0.1 rfl d_Hub_wakeIfDue_19 ?_
    refine g_icmp_gt F (tgt := 60) d_Hub_wakeIfDue_22 (by decide) (fun h4 => ?_) (fun h5 => ?_)
    · refine g_iinc F (v := 1) (ls' := [(1, .int (x1 + 1)), (0, .ref (xa X r0))]) d_Hub_wakeIfDue_60 1 rfl (by decide) (by decide) rfl ?_
      refine g_goto F (tgt := 2) d_Hub_wakeIfDue_63 (by decide) ?_
      exact g_sub [1, 0] rfl (ih _ _)
    refine g_aload_n F d_Hub_wakeIfDue_25 0 rfl ?_
    refine g_aload_n F d_Hub_wakeIfDue_26 0 rfl ?_
    refine g_getR F fs_2_37 hr0.1 rfl d_Hub_wakeIfDue_27 ?_
    refine g_iload_n F d_Hub_wakeIfDue_30 1 rfl ?_
    refine g_iconst F (v := 0) d_Hub_wakeIfDue_31 (by decide) ?_
    refine g_callV F (dp := 1) (ci := 5) (As := [.int x1, .int (0 : Int32)]) (c_Sto_part l _ _ _ hr0.2.2.2.2.2.1 _) cv_2_271 hr0.2.2.2.2.2.1.1 rfl rfl rfl (Nat.le_of_ble_eq_true rfl) ⟨Nat.le_of_ble_eq_true rfl, Nat.le_of_ble_eq_true rfl⟩ ⟨Nat.zero_le _, Nat.zero_le _⟩ d_Hub_wakeIfDue_32 (fun r3 σ4 h6 => ?_)
    refine g_callV F (dp := 0) (ci := 2) (As := [.int r3]) (c_Hub_clientAt l _ _ hr0 _) cv_2_130 hr0.1 rfl rfl rfl (Nat.le_of_ble_eq_true rfl) ⟨Nat.le_of_ble_eq_true rfl, Nat.le_of_ble_eq_true rfl⟩ ⟨Nat.zero_le _, Nat.zero_le _⟩ d_Hub_wakeIfDue_35 (fun r5 σ6 h7 => ?_)
    refine g_oe (fun h8 => ?_) (fun o7 h9 => ?_)
    · refine g_astore_nN F (ls' := [(2, .null), (0, .ref (xa X r0)), (1, .int x1)]) d_Hub_wakeIfDue_38 (by decide) rfl ?_
      refine g_aload_nN F d_Hub_wakeIfDue_39 0 rfl ?_
      refine g_ifnullN F (tgt := 53) d_Hub_wakeIfDue_40 (by decide) ?_
      refine g_aload_n F d_Hub_wakeIfDue_53 1 rfl ?_
      refine g_iconst F (v := 0) d_Hub_wakeIfDue_54 (by decide) ?_
      refine g_callV F (dp := 2) (ci := 2) (As := [.int (0 : Int32)]) (c_Hub_wake l _ _ hr0 _) cv_2_262 hr0.1 rfl rfl rfl (Nat.le_of_ble_eq_true rfl) ⟨Nat.le_of_ble_eq_true rfl, Nat.le_of_ble_eq_true rfl⟩ ⟨Nat.zero_le _, Nat.zero_le _⟩ d_Hub_wakeIfDue_55 (fun r8 σ9 h11 => ?_)
      refine g_pop F d_Hub_wakeIfDue_58 rfl ?_
      exact g_vret F hlk hr d_Hub_wakeIfDue_59
    have h10 : ClientOK X o7 := ok_Hub_clientAt hr0 (h9 ▸ h7)
    refine g_astore_n F (ls' := [(2, .ref (xa X o7)), (0, .ref (xa X r0)), (1, .int x1)]) d_Hub_wakeIfDue_38 (by decide) rfl ?_
    refine g_aload_n F d_Hub_wakeIfDue_39 0 rfl ?_
    refine g_ifnull F d_Hub_wakeIfDue_40 ?_
    refine g_aload_n F d_Hub_wakeIfDue_43 0 rfl ?_
    refine g_dup F d_Hub_wakeIfDue_44 rfl ?_
    refine g_getI F fs_2_274 h10.1 rfl d_Hub_wakeIfDue_45 ?_
    refine g_iconst F (v := 1) d_Hub_wakeIfDue_48 (by decide) ?_
    refine g_iadd F d_Hub_wakeIfDue_49 ?_
    refine g_putI F fw_2_274 h10.1 rfl d_Hub_wakeIfDue_50 ?_
    refine g_ltM (fun σ10 _ => ?_)
    refine g_aload_n F d_Hub_wakeIfDue_53 1 rfl ?_
    refine g_iconst F (v := 0) d_Hub_wakeIfDue_54 (by decide) ?_
    refine g_callV F (dp := 2) (ci := 2) (As := [.int (0 : Int32)]) (c_Hub_wake l _ _ hr0 _) cv_2_262 hr0.1 rfl rfl rfl (Nat.le_of_ble_eq_true rfl) ⟨Nat.le_of_ble_eq_true rfl, Nat.le_of_ble_eq_true rfl⟩ ⟨Nat.zero_le _, Nat.zero_le _⟩ d_Hub_wakeIfDue_55 (fun r11 σ12 h12 => ?_)
    refine g_pop F d_Hub_wakeIfDue_58 rfl ?_
    exact g_vret F hlk hr d_Hub_wakeIfDue_59
set_option maxRecDepth 100000 in
set_option maxHeartbeats 4000000 in
theorem c_Hub_wakeIfDue {X : CX} (l : Launch) (q : Nat) (hq : HubOK X q) (σ : Mem) : CT X l y_Hub_wakeIfDue prog_4_method_30_code 3 none 3 vU [.ref (xa X q)] σ (f_Hub_wakeIfDue q σ) := by
  refine CT_of (by decide +kernel) (Nat.le_of_ble_eq_true rfl) ?_
  intro p e s m args below meth c F hlk hr
  have F : FR p s m args c prog_4_method_30_code 3 "SensorHub$Hub" X := F
  show G X p l e (rmD 3) s m args below meth c 3 0 0 (QI X below args s vU) 0 [(0, .ref (xa X q))] [] σ _
  unfold f_Hub_wakeIfDue
  refine g_iconst F (v := 0) d_Hub_wakeIfDue_0 (by decide) ?_
  refine g_istore_n F (ls' := [(1, .int (0 : Int32)), (0, .ref (xa X q))]) d_Hub_wakeIfDue_1 (by decide) rfl ?_
  refine g_sub [1, 0] rfl (l_L_Hub_wakeIfDue_2 F hlk hr _ hq _ (fun σ13 => ?_) FU _ _)
  exact g_vret F hlk hr d_Hub_wakeIfDue_66
def y_Hub_runTicks : MethodName := ⟨"SensorHub$Hub", "runTicks", "(I)V"⟩
theorem d_Hub_runTicks_0 : decode prog_4_method_23_code 0 = .ok (.aload_n 0, 1) := by decide +kernel
theorem d_Hub_runTicks_1 : decode prog_4_method_23_code 1 = .ok (.iconst 0, 1) := by decide +kernel
theorem d_Hub_runTicks_2 : decode prog_4_method_23_code 2 = .ok (.putfield 192, 3) := by decide +kernel
theorem d_Hub_runTicks_5 : decode prog_4_method_23_code 5 = .ok (.iconst 0, 1) := by decide +kernel
theorem d_Hub_runTicks_6 : decode prog_4_method_23_code 6 = .ok (.istore_n 2, 1) := by decide +kernel
theorem d_Hub_runTicks_7 : decode prog_4_method_23_code 7 = .ok (.iload_n 2, 1) := by decide +kernel
theorem d_Hub_runTicks_8 : decode prog_4_method_23_code 8 = .ok (.iload_n 1, 1) := by decide +kernel
theorem d_Hub_runTicks_9 : decode prog_4_method_23_code 9 = .ok (.if_icmp .ge 31, 3) := by decide +kernel
theorem d_Hub_runTicks_12 : decode prog_4_method_23_code 12 = .ok (.aload_n 0, 1) := by decide +kernel
theorem d_Hub_runTicks_13 : decode prog_4_method_23_code 13 = .ok (.dup, 1) := by decide +kernel
theorem d_Hub_runTicks_14 : decode prog_4_method_23_code 14 = .ok (.getfield 46, 3) := by decide +kernel
theorem d_Hub_runTicks_17 : decode prog_4_method_23_code 17 = .ok (.iconst 1, 1) := by decide +kernel
theorem d_Hub_runTicks_18 : decode prog_4_method_23_code 18 = .ok (.iadd, 1) := by decide +kernel
theorem d_Hub_runTicks_19 : decode prog_4_method_23_code 19 = .ok (.putfield 46, 3) := by decide +kernel
theorem d_Hub_runTicks_22 : decode prog_4_method_23_code 22 = .ok (.aload_n 0, 1) := by decide +kernel
theorem d_Hub_runTicks_23 : decode prog_4_method_23_code 23 = .ok (.invokevirtual 195, 3) := by decide +kernel
theorem d_Hub_runTicks_26 : decode prog_4_method_23_code 26 = .ok (.aload_n 0, 1) := by decide +kernel
theorem d_Hub_runTicks_27 : decode prog_4_method_23_code 27 = .ok (.invokevirtual 198, 3) := by decide +kernel
theorem d_Hub_runTicks_30 : decode prog_4_method_23_code 30 = .ok (.aload_n 0, 1) := by decide +kernel
theorem d_Hub_runTicks_31 : decode prog_4_method_23_code 31 = .ok (.invokevirtual 201, 3) := by decide +kernel
theorem d_Hub_runTicks_34 : decode prog_4_method_23_code 34 = .ok (.iinc 2 1, 3) := by decide +kernel
theorem d_Hub_runTicks_37 : decode prog_4_method_23_code 37 = .ok (.goto (-30), 3) := by decide +kernel
theorem d_Hub_runTicks_40 : decode prog_4_method_23_code 40 = .ok (.return_, 1) := by decide +kernel
theorem cv_2_195 : CSV "SensorHub$Hub" 195 y_Hub_receiveSamples prog_4_method_24_code 3 none 0 := ⟨gw_I 735 (by decide +kernel) rfl, gw_I 737 (by decide +kernel) rfl, gw_I 17 (by decide +kernel) rfl, gw_I 71 (by decide +kernel) rfl, gw_I 738 (by decide +kernel) rfl, ⟨by decide +kernel, by decide +kernel⟩, by decide +kernel⟩
theorem cv_2_198 : CSV "SensorHub$Hub" 198 y_Hub_storeEntries prog_4_method_28_code 4 none 0 := ⟨gw_I 779 (by decide +kernel) rfl, gw_I 781 (by decide +kernel) rfl, gw_I 21 (by decide +kernel) rfl, gw_I 71 (by decide +kernel) rfl, gw_I 782 (by decide +kernel) rfl, ⟨by decide +kernel, by decide +kernel⟩, by decide +kernel⟩
theorem cv_2_201 : CSV "SensorHub$Hub" 201 y_Hub_wakeIfDue prog_4_method_30_code 3 none 0 := ⟨gw_I 797 (by decide +kernel) rfl, gw_I 799 (by decide +kernel) rfl, gw_I 23 (by decide +kernel) rfl, gw_I 71 (by decide +kernel) rfl, gw_I 800 (by decide +kernel) rfl, ⟨by decide +kernel, by decide +kernel⟩, by decide +kernel⟩
def L_Hub_runTicks_7 (r0 : Nat) (y1 : Int32) (k : Mem → Option (Unit × Mem)) : Nat → Int32 → Mem → Option (Unit × Mem)
  | 0, _, _ => none
  | n + 1, x2, σ =>
    if y1 ≤ x2 then
      k σ
    else
      lt (wr σ r0 0 ((σ r0 0) + (1 : Int32))) fun σ2 =>
      bd (f_Hub_receiveSamples r0 σ2) fun _ σ4 =>
      bd (f_Hub_storeEntries r0 σ4) fun _ σ6 =>
      bd (f_Hub_wakeIfDue r0 σ6) fun _ σ8 =>
      L_Hub_runTicks_7 r0 y1 k n (x2 + 1) σ8
def f_Hub_runTicks (q : Nat) (p1 : Int32) (σ : Mem) : Option (Unit × Mem) :=
  lt (wr σ q 5 (0 : Int32)) fun σ1 =>
  L_Hub_runTicks_7 q p1 (fun σ9 =>
    some ((), σ9)) FU (0 : Int32) σ1
set_option maxRecDepth 100000 in
set_option maxHeartbeats 4000000 in
theorem l_L_Hub_runTicks_7 {X : CX} {p : Program} {l : Launch} {e : Env} {s : State} {m : MethodId} {args : Array Value} {below : List Frame} {meth : Method} {c : Code} (F : FR p s m args c prog_4_method_23_code 3 "SensorHub$Hub" X) (hlk : meth.locks = false) (hr : meth.sig.returnType = none) (r0 : Nat) (y1 : Int32) (hr0 : HubOK X r0) (k : Mem → Option (Unit × Mem)) (hk : ∀  (σ : Mem), G X p l e (rmD 5) s m args below meth c 3 0 0 (QI X below args s vU) 40 [] [] σ (k σ)) : ∀ (n : Nat) (x2 : Int32) (σ : Mem), G X p l e (rmD 5) s m args below meth c 3 0 0 (QI X below args s vU) 7 [(0, .ref (xa X r0)), (1, .int y1), (2, .int x2)] [] σ (L_Hub_runTicks_7 r0 y1 k n x2 σ) := by
  intro n
  induction n with
  | zero => intros; exact g_no
  | succ n ih =>
    intro x2 σ
    unfold L_Hub_runTicks_7
    refine g_iload_n F d_Hub_runTicks_7 2 rfl ?_
    refine g_iload_n F d_Hub_runTicks_8 1 rfl ?_
    refine g_icmp_ge F (tgt := 40) d_Hub_runTicks_9 (by decide) (fun h1 => ?_) (fun h2 => ?_)
    · exact g_sub [] rfl (hk  _)
    refine g_aload_n F d_Hub_runTicks_12 0 rfl ?_
    refine g_dup F d_Hub_runTicks_13 rfl ?_
    refine g_getI F fs_2_46 hr0.1 rfl d_Hub_runTicks_14 ?_
    refine g_iconst F (v := 1) d_Hub_runTicks_17 (by decide) ?_
    refine g_iadd F d_Hub_runTicks_18 ?_
    refine g_putI F fw_2_46 hr0.1 rfl d_Hub_runTicks_19 ?_
    refine g_ltM (fun σ2 _ => ?_)
    refine g_aload_n F d_Hub_runTicks_22 0 rfl ?_
    refine g_callV F (dp := 4) (ci := 2) (As := []) (c_Hub_receiveSamples l _ hr0 _) cv_2_195 hr0.1 rfl rfl rfl (Nat.le_of_ble_eq_true rfl) ⟨Nat.le_of_ble_eq_true rfl, Nat.le_of_ble_eq_true rfl⟩ ⟨Nat.zero_le _, Nat.zero_le _⟩ d_Hub_runTicks_23 (fun _ σ4 h3 => ?_)
    refine g_aload_n F d_Hub_runTicks_26 0 rfl ?_
    refine g_callV F (dp := 4) (ci := 2) (As := []) (c_Hub_storeEntries l _ hr0 _) cv_2_198 hr0.1 rfl rfl rfl (Nat.le_of_ble_eq_true rfl) ⟨Nat.le_of_ble_eq_true rfl, Nat.le_of_ble_eq_true rfl⟩ ⟨Nat.zero_le _, Nat.zero_le _⟩ d_Hub_runTicks_27 (fun _ σ6 h4 => ?_)
    refine g_aload_n F d_Hub_runTicks_30 0 rfl ?_
    refine g_callV F (dp := 3) (ci := 2) (As := []) (c_Hub_wakeIfDue l _ hr0 _) cv_2_201 hr0.1 rfl rfl rfl (Nat.le_of_ble_eq_true rfl) ⟨Nat.le_of_ble_eq_true rfl, Nat.le_of_ble_eq_true rfl⟩ ⟨Nat.zero_le _, Nat.zero_le _⟩ d_Hub_runTicks_31 (fun _ σ8 h5 => ?_)
    refine g_iinc F (v := 1) (ls' := [(2, .int (x2 + 1)), (0, .ref (xa X r0)), (1, .int y1)]) d_Hub_runTicks_34 2 rfl (by decide) (by decide) rfl ?_
    refine g_goto F (tgt := 7) d_Hub_runTicks_37 (by decide) ?_
    exact g_sub [1, 2, 0] rfl (ih _ _)
set_option maxRecDepth 100000 in
set_option maxHeartbeats 4000000 in
theorem c_Hub_runTicks {X : CX} (l : Launch) (q : Nat) (p1 : Int32) (hq : HubOK X q) (σ : Mem) : CT X l y_Hub_runTicks prog_4_method_23_code 3 none 5 vU [.ref (xa X q), .int p1] σ (f_Hub_runTicks q p1 σ) := by
  refine CT_of (by decide +kernel) (Nat.le_of_ble_eq_true rfl) ?_
  intro p e s m args below meth c F hlk hr
  have F : FR p s m args c prog_4_method_23_code 3 "SensorHub$Hub" X := F
  show G X p l e (rmD 5) s m args below meth c 3 0 0 (QI X below args s vU) 0 [(0, .ref (xa X q)), (1, .int p1)] [] σ _
  unfold f_Hub_runTicks
  refine g_aload_n F d_Hub_runTicks_0 0 rfl ?_
  refine g_iconst F (v := 0) d_Hub_runTicks_1 (by decide) ?_
  refine g_putI F fw_2_192 hq.1 rfl d_Hub_runTicks_2 ?_
  refine g_ltM (fun σ1 _ => ?_)
  refine g_iconst F (v := 0) d_Hub_runTicks_5 (by decide) ?_
  refine g_istore_n F (ls' := [(2, .int (0 : Int32)), (0, .ref (xa X q)), (1, .int p1)]) d_Hub_runTicks_6 (by decide) rfl ?_
  refine g_sub [1, 2, 0] rfl (l_L_Hub_runTicks_7 F hlk hr _ _ hq _ (fun σ9 => ?_) FU _ _)
  exact g_vret F hlk hr d_Hub_runTicks_40
def y_Hub_earliestDeadline : MethodName := ⟨"SensorHub$Hub", "earliestDeadline", "()I"⟩
theorem d_Hub_earliestDeadline_0 : decode prog_4_method_32_code 0 = .ok (.aload_n 0, 1) := by decide +kernel
theorem d_Hub_earliestDeadline_1 : decode prog_4_method_32_code 1 = .ok (.getfield 37, 3) := by decide +kernel
theorem d_Hub_earliestDeadline_4 : decode prog_4_method_32_code 4 = .ok (.getfield 65, 3) := by decide +kernel
theorem d_Hub_earliestDeadline_7 : decode prog_4_method_32_code 7 = .ok (.ifCond .ne 6, 3) := by decide +kernel
theorem d_Hub_earliestDeadline_10 : decode prog_4_method_32_code 10 = .ok (.bipush (-9), 2) := by decide +kernel
theorem d_Hub_earliestDeadline_12 : decode prog_4_method_32_code 12 = .ok (.ireturn, 1) := by decide +kernel
theorem d_Hub_earliestDeadline_13 : decode prog_4_method_32_code 13 = .ok (.aload_n 0, 1) := by decide +kernel
theorem d_Hub_earliestDeadline_14 : decode prog_4_method_32_code 14 = .ok (.iconst 0, 1) := by decide +kernel
theorem d_Hub_earliestDeadline_15 : decode prog_4_method_32_code 15 = .ok (.invokevirtual 268, 3) := by decide +kernel
theorem d_Hub_earliestDeadline_18 : decode prog_4_method_32_code 18 = .ok (.istore_n 1, 1) := by decide +kernel
theorem d_Hub_earliestDeadline_19 : decode prog_4_method_32_code 19 = .ok (.iconst 1, 1) := by decide +kernel
theorem d_Hub_earliestDeadline_20 : decode prog_4_method_32_code 20 = .ok (.istore_n 2, 1) := by decide +kernel
theorem d_Hub_earliestDeadline_21 : decode prog_4_method_32_code 21 = .ok (.iload_n 2, 1) := by decide +kernel
theorem d_Hub_earliestDeadline_22 : decode prog_4_method_32_code 22 = .ok (.aload_n 0, 1) := by decide +kernel
theorem d_Hub_earliestDeadline_23 : decode prog_4_method_32_code 23 = .ok (.getfield 37, 3) := by decide +kernel
theorem d_Hub_earliestDeadline_26 : decode prog_4_method_32_code 26 = .ok (.getfield 65, 3) := by decide +kernel
theorem d_Hub_earliestDeadline_29 : decode prog_4_method_32_code 29 = .ok (.if_icmp .ge 19, 3) := by decide +kernel
theorem d_Hub_earliestDeadline_32 : decode prog_4_method_32_code 32 = .ok (.iload_n 1, 1) := by decide +kernel
theorem d_Hub_earliestDeadline_33 : decode prog_4_method_32_code 33 = .ok (.aload_n 0, 1) := by decide +kernel
theorem d_Hub_earliestDeadline_34 : decode prog_4_method_32_code 34 = .ok (.iload_n 2, 1) := by decide +kernel
theorem d_Hub_earliestDeadline_35 : decode prog_4_method_32_code 35 = .ok (.invokevirtual 268, 3) := by decide +kernel
theorem d_Hub_earliestDeadline_38 : decode prog_4_method_32_code 38 = .ok (.invokestatic 280, 3) := by decide +kernel
theorem d_Hub_earliestDeadline_41 : decode prog_4_method_32_code 41 = .ok (.istore_n 1, 1) := by decide +kernel
theorem d_Hub_earliestDeadline_42 : decode prog_4_method_32_code 42 = .ok (.iinc 2 1, 3) := by decide +kernel
theorem d_Hub_earliestDeadline_45 : decode prog_4_method_32_code 45 = .ok (.goto (-24), 3) := by decide +kernel
theorem d_Hub_earliestDeadline_48 : decode prog_4_method_32_code 48 = .ok (.iload_n 1, 1) := by decide +kernel
theorem d_Hub_earliestDeadline_49 : decode prog_4_method_32_code 49 = .ok (.ireturn, 1) := by decide +kernel
theorem cs_2_280 : CSS "SensorHub$Hub" 280 y_Mat_min prog_11_method_69_code 2 (some .int) 2 := ⟨gw_I 868 (by decide +kernel) rfl, gw_I 398 (by decide +kernel) rfl, gw_I 79 (by decide +kernel) rfl, gw_I 399 (by decide +kernel) rfl, ⟨by decide +kernel, by decide +kernel⟩, by decide +kernel⟩
def L_Hub_earliestDeadline_21 (r0 : Nat) (k : Int32 → Mem → Option (Int32 × Mem)) : Nat → Int32 → Int32 → Mem → Option (Int32 × Mem)
  | 0, _, _, _ => none
  | n + 1, x1, x2, σ =>
    if (σ (r0 + 8) 0) ≤ x2 then
      k x1 σ
    else
      bd (f_Hub_deadlineOf r0 x2 σ) fun r3 σ4 =>
      bd (f_Mat_min x1 r3 σ4) fun r5 σ6 =>
      L_Hub_earliestDeadline_21 r0 k n r5 (x2 + 1) σ6
def f_Hub_earliestDeadline (q : Nat) (σ : Mem) : Option (Int32 × Mem) :=
  if (σ (q + 8) 0) = 0 then
    some ((-9 : Int32), σ)
  else
    bd (f_Hub_deadlineOf q (0 : Int32) σ) fun r1 σ2 =>
    L_Hub_earliestDeadline_21 q (fun z7 σ8 =>
      some (z7, σ8)) FU r1 (1 : Int32) σ2
set_option maxRecDepth 100000 in
set_option maxHeartbeats 4000000 in
theorem l_L_Hub_earliestDeadline_21 {X : CX} {p : Program} {l : Launch} {e : Env} {s : State} {m : MethodId} {args : Array Value} {below : List Frame} {meth : Method} {c : Code} (F : FR p s m args c prog_4_method_32_code 3 "SensorHub$Hub" X) (hlk : meth.locks = false) (hr : meth.sig.returnType = some .int) (r0 : Nat) (hr0 : HubOK X r0) (k : Int32 → Mem → Option (Int32 × Mem)) (hk : ∀ (x1 : Int32) (σ : Mem), G X p l e (rmD 3) s m args below meth c 3 0 0 (QI X below args s vI) 48 [(1, .int x1)] [] σ (k x1 σ)) : ∀ (n : Nat) (x1 : Int32) (x2 : Int32) (σ : Mem), G X p l e (rmD 3) s m args below meth c 3 0 0 (QI X below args s vI) 21 [(0, .ref (xa X r0)), (1, .int x1), (2, .int x2)] [] σ (L_Hub_earliestDeadline_21 r0 k n x1 x2 σ) := by
  intro n
  induction n with
  | zero => intros; exact g_no
  | succ n ih =>
    intro x1 x2 σ
    unfold L_Hub_earliestDeadline_21
    refine g_iload_n F d_Hub_earliestDeadline_21 2 rfl ?_
    refine g_aload_n F d_Hub_earliestDeadline_22 0 rfl ?_
    refine g_getR F fs_2_37 hr0.1 rfl d_Hub_earliestDeadline_23 ?_
    refine g_getI F fs_2_65 hr0.2.2.2.2.2.1.1 rfl d_Hub_earliestDeadline_26 ?_
    refine g_icmp_ge F (tgt := 48) d_Hub_earliestDeadline_29 (by decide) (fun h4 => ?_) (fun h5 => ?_)
    · exact g_sub [1] rfl (hk _ _)
    refine g_iload_n F d_Hub_earliestDeadline_32 1 rfl ?_
    refine g_aload_n F d_Hub_earliestDeadline_33 0 rfl ?_
    refine g_iload_n F d_Hub_earliestDeadline_34 2 rfl ?_
    refine g_callV F (dp := 2) (ci := 2) (As := [.int x2]) (c_Hub_deadlineOf l _ _ hr0 _) cv_2_268 hr0.1 rfl rfl rfl (Nat.le_of_ble_eq_true rfl) ⟨Nat.le_of_ble_eq_true rfl, Nat.le_of_ble_eq_true rfl⟩ ⟨Nat.zero_le _, Nat.zero_le _⟩ d_Hub_earliestDeadline_35 (fun r3 σ4 h6 => ?_)
    refine g_callS F (dp := 0) (As := [.int x1, .int r3]) (c_Mat_min l _ _ _) cs_2_280 rfl rfl (Nat.le_of_ble_eq_true rfl) ⟨Nat.le_of_ble_eq_true rfl, Nat.le_of_ble_eq_true rfl⟩ ⟨Nat.zero_le _, Nat.zero_le _⟩ d_Hub_earliestDeadline_38 (fun r5 σ6 h7 => ?_)
    refine g_istore_n F (ls' := [(1, .int r5), (0, .ref (xa X r0)), (2, .int x2)]) d_Hub_earliestDeadline_41 (by decide) rfl ?_
    refine g_iinc F (v := 1) (ls' := [(2, .int (x2 + 1)), (1, .int r5), (0, .ref (xa X r0))]) d_Hub_earliestDeadline_42 2 rfl (by decide) (by decide) rfl ?_
    refine g_goto F (tgt := 21) d_Hub_earliestDeadline_45 (by decide) ?_
    exact g_sub [2, 1, 0] rfl (ih _ _ _)
set_option maxRecDepth 100000 in
set_option maxHeartbeats 4000000 in
theorem c_Hub_earliestDeadline {X : CX} (l : Launch) (q : Nat) (hq : HubOK X q) (σ : Mem) : CT X l y_Hub_earliestDeadline prog_4_method_32_code 3 (some .int) 3 vI [.ref (xa X q)] σ (f_Hub_earliestDeadline q σ) := by
  refine CT_of (by decide +kernel) (Nat.le_of_ble_eq_true rfl) ?_
  intro p e s m args below meth c F hlk hr
  have F : FR p s m args c prog_4_method_32_code 3 "SensorHub$Hub" X := F
  show G X p l e (rmD 3) s m args below meth c 3 0 0 (QI X below args s vI) 0 [(0, .ref (xa X q))] [] σ _
  unfold f_Hub_earliestDeadline
  refine g_aload_n F d_Hub_earliestDeadline_0 0 rfl ?_
  refine g_getR F fs_2_37 hq.1 rfl d_Hub_earliestDeadline_1 ?_
  refine g_getI F fs_2_65 hq.2.2.2.2.2.1.1 rfl d_Hub_earliestDeadline_4 ?_
  refine g_if_ne F (tgt := 13) d_Hub_earliestDeadline_7 (by decide) (fun h1 => ?_) (fun h2 => ?_)
  · refine g_bipush F (v := (-9)) d_Hub_earliestDeadline_10 (by decide) ?_
    exact g_iret F hlk hr d_Hub_earliestDeadline_12
  refine g_aload_n F d_Hub_earliestDeadline_13 0 rfl ?_
  refine g_iconst F (v := 0) d_Hub_earliestDeadline_14 (by decide) ?_
  refine g_callV F (dp := 2) (ci := 2) (As := [.int (0 : Int32)]) (c_Hub_deadlineOf l _ _ hq _) cv_2_268 hq.1 rfl rfl rfl (Nat.le_of_ble_eq_true rfl) ⟨Nat.le_of_ble_eq_true rfl, Nat.le_of_ble_eq_true rfl⟩ ⟨Nat.zero_le _, Nat.zero_le _⟩ d_Hub_earliestDeadline_15 (fun r1 σ2 h3 => ?_)
  refine g_istore_n F (ls' := [(1, .int r1), (0, .ref (xa X q))]) d_Hub_earliestDeadline_18 (by decide) rfl ?_
  refine g_iconst F (v := 1) d_Hub_earliestDeadline_19 (by decide) ?_
  refine g_istore_n F (ls' := [(2, .int (1 : Int32)), (1, .int r1), (0, .ref (xa X q))]) d_Hub_earliestDeadline_20 (by decide) rfl ?_
  refine g_sub [2, 1, 0] rfl (l_L_Hub_earliestDeadline_21 F hlk hr _ hq _ (fun z7 σ8 => ?_) FU _ _ _)
  refine g_iload_n F d_Hub_earliestDeadline_48 0 rfl ?_
  exact g_iret F hlk hr d_Hub_earliestDeadline_49
def y_Hub_wakesOf : MethodName := ⟨"SensorHub$Hub", "wakesOf", "(I)I"⟩
theorem d_Hub_wakesOf_0 : decode prog_4_method_34_code 0 = .ok (.iload_n 1, 1) := by decide +kernel
theorem d_Hub_wakesOf_1 : decode prog_4_method_34_code 1 = .ok (.iconst 0, 1) := by decide +kernel
theorem d_Hub_wakesOf_2 : decode prog_4_method_34_code 2 = .ok (.iconst 3, 1) := by decide +kernel
theorem d_Hub_wakesOf_3 : decode prog_4_method_34_code 3 = .ok (.invokestatic 97, 3) := by decide +kernel
theorem d_Hub_wakesOf_6 : decode prog_4_method_34_code 6 = .ok (.ifCond .eq 12, 3) := by decide +kernel
theorem d_Hub_wakesOf_9 : decode prog_4_method_34_code 9 = .ok (.aload_n 0, 1) := by decide +kernel
theorem d_Hub_wakesOf_10 : decode prog_4_method_34_code 10 = .ok (.getfield 9, 3) := by decide +kernel
theorem d_Hub_wakesOf_13 : decode prog_4_method_34_code 13 = .ok (.iload_n 1, 1) := by decide +kernel
theorem d_Hub_wakesOf_14 : decode prog_4_method_34_code 14 = .ok (.iaload, 1) := by decide +kernel
theorem d_Hub_wakesOf_15 : decode prog_4_method_34_code 15 = .ok (.goto 4, 3) := by decide +kernel
theorem d_Hub_wakesOf_18 : decode prog_4_method_34_code 18 = .ok (.iconst 0, 1) := by decide +kernel
theorem d_Hub_wakesOf_19 : decode prog_4_method_34_code 19 = .ok (.ireturn, 1) := by decide +kernel
def f_Hub_wakesOf (q : Nat) (p1 : Int32) (σ : Mem) : Option (Int32 × Mem) :=
  bd (f_X_isWithin p1 (0 : Int32) (3 : Int32) σ) fun r1 σ2 =>
  if r1 = 0 then
    some ((0 : Int32), σ2)
  else
    if ib p1 4 then
      some (σ2 (q + 1) p1.toNatClampNeg, σ2)
    else none
set_option maxRecDepth 100000 in
set_option maxHeartbeats 4000000 in
theorem c_Hub_wakesOf {X : CX} (l : Launch) (q : Nat) (p1 : Int32) (hq : HubOK X q) (σ : Mem) : CT X l y_Hub_wakesOf prog_4_method_34_code 2 (some .int) 1 vI [.ref (xa X q), .int p1] σ (f_Hub_wakesOf q p1 σ) := by
  refine CT_of (by decide +kernel) (Nat.le_of_ble_eq_true rfl) ?_
  intro p e s m args below meth c F hlk hr
  have F : FR p s m args c prog_4_method_34_code 2 "SensorHub$Hub" X := F
  show G X p l e (rmD 1) s m args below meth c 2 0 0 (QI X below args s vI) 0 [(0, .ref (xa X q)), (1, .int p1)] [] σ _
  unfold f_Hub_wakesOf
  refine g_iload_n F d_Hub_wakesOf_0 1 rfl ?_
  refine g_iconst F (v := 0) d_Hub_wakesOf_1 (by decide) ?_
  refine g_iconst F (v := 3) d_Hub_wakesOf_2 (by decide) ?_
  refine g_callSN F (dp := 0) (As := [.int p1, .int (0 : Int32), .int (3 : Int32)]) (c_X_isWithin l _ _ _ _) cs_2_97 rfl rfl (Nat.le_of_ble_eq_true rfl) ⟨Nat.le_of_ble_eq_true rfl, Nat.le_of_ble_eq_true rfl⟩ ⟨Nat.zero_le _, Nat.zero_le _⟩ d_Hub_wakesOf_3 (fun r1 σ2 h1 => ?_)
  refine g_if_eq F (tgt := 18) d_Hub_wakesOf_6 (by decide) (fun h2 => ?_) (fun h3 => ?_)
  · refine g_iconst F (v := 0) d_Hub_wakesOf_18 (by decide) ?_
    exact g_iret F hlk hr d_Hub_wakesOf_19
  refine g_aload_n F d_Hub_wakesOf_9 0 rfl ?_
  refine g_getR F fs_2_9 hq.1 rfl d_Hub_wakesOf_10 ?_
  refine g_iload_n F d_Hub_wakesOf_13 1 rfl ?_
  refine g_iald F (n := 4) hq.2.1 d_Hub_wakesOf_14 ?_
  refine g_goto F (tgt := 19) d_Hub_wakesOf_15 (by decide) ?_
  exact g_iret F hlk hr d_Hub_wakesOf_19
def y_Hub_allWakes : MethodName := ⟨"SensorHub$Hub", "allWakes", "()I"⟩
theorem d_Hub_allWakes_0 : decode prog_4_method_35_code 0 = .ok (.iconst 0, 1) := by decide +kernel
theorem d_Hub_allWakes_1 : decode prog_4_method_35_code 1 = .ok (.istore_n 1, 1) := by decide +kernel
theorem d_Hub_allWakes_2 : decode prog_4_method_35_code 2 = .ok (.iconst 0, 1) := by decide +kernel
theorem d_Hub_allWakes_3 : decode prog_4_method_35_code 3 = .ok (.istore_n 2, 1) := by decide +kernel
theorem d_Hub_allWakes_4 : decode prog_4_method_35_code 4 = .ok (.iload_n 2, 1) := by decide +kernel
theorem d_Hub_allWakes_5 : decode prog_4_method_35_code 5 = .ok (.iconst 4, 1) := by decide +kernel
theorem d_Hub_allWakes_6 : decode prog_4_method_35_code 6 = .ok (.if_icmp .ge 18, 3) := by decide +kernel
theorem d_Hub_allWakes_9 : decode prog_4_method_35_code 9 = .ok (.iload_n 1, 1) := by decide +kernel
theorem d_Hub_allWakes_10 : decode prog_4_method_35_code 10 = .ok (.aload_n 0, 1) := by decide +kernel
theorem d_Hub_allWakes_11 : decode prog_4_method_35_code 11 = .ok (.getfield 9, 3) := by decide +kernel
theorem d_Hub_allWakes_14 : decode prog_4_method_35_code 14 = .ok (.iload_n 2, 1) := by decide +kernel
theorem d_Hub_allWakes_15 : decode prog_4_method_35_code 15 = .ok (.iaload, 1) := by decide +kernel
theorem d_Hub_allWakes_16 : decode prog_4_method_35_code 16 = .ok (.iadd, 1) := by decide +kernel
theorem d_Hub_allWakes_17 : decode prog_4_method_35_code 17 = .ok (.istore_n 1, 1) := by decide +kernel
theorem d_Hub_allWakes_18 : decode prog_4_method_35_code 18 = .ok (.iinc 2 1, 3) := by decide +kernel
theorem d_Hub_allWakes_21 : decode prog_4_method_35_code 21 = .ok (.goto (-17), 3) := by decide +kernel
theorem d_Hub_allWakes_24 : decode prog_4_method_35_code 24 = .ok (.iload_n 1, 1) := by decide +kernel
theorem d_Hub_allWakes_25 : decode prog_4_method_35_code 25 = .ok (.ireturn, 1) := by decide +kernel
def L_Hub_allWakes_4 (r0 : Nat) (k : Int32 → Mem → Option (Int32 × Mem)) : Nat → Int32 → Int32 → Mem → Option (Int32 × Mem)
  | 0, _, _, _ => none
  | n + 1, x1, x2, σ =>
    if (4 : Int32) ≤ x2 then
      k x1 σ
    else
      if ib x2 4 then
        lt (x1 + (σ (r0 + 1) x2.toNatClampNeg)) fun v1 =>
        L_Hub_allWakes_4 r0 k n v1 (x2 + 1) σ
      else none
def f_Hub_allWakes (q : Nat) (σ : Mem) : Option (Int32 × Mem) :=
  L_Hub_allWakes_4 q (fun z2 σ3 =>
    some (z2, σ3)) FU (0 : Int32) (0 : Int32) σ
set_option maxRecDepth 100000 in
set_option maxHeartbeats 4000000 in
theorem l_L_Hub_allWakes_4 {X : CX} {p : Program} {l : Launch} {e : Env} {s : State} {m : MethodId} {args : Array Value} {below : List Frame} {meth : Method} {c : Code} (F : FR p s m args c prog_4_method_35_code 3 "SensorHub$Hub" X) (hlk : meth.locks = false) (hr : meth.sig.returnType = some .int) (r0 : Nat) (hr0 : HubOK X r0) (k : Int32 → Mem → Option (Int32 × Mem)) (hk : ∀ (x1 : Int32) (σ : Mem), G X p l e (rmD 0) s m args below meth c 3 0 0 (QI X below args s vI) 24 [(1, .int x1)] [] σ (k x1 σ)) : ∀ (n : Nat) (x1 : Int32) (x2 : Int32) (σ : Mem), G X p l e (rmD 0) s m args below meth c 3 0 0 (QI X below args s vI) 4 [(0, .ref (xa X r0)), (1, .int x1), (2, .int x2)] [] σ (L_Hub_allWakes_4 r0 k n x1 x2 σ) := by
  intro n
  induction n with
  | zero => intros; exact g_no
  | succ n ih =>
    intro x1 x2 σ
    unfold L_Hub_allWakes_4
    refine g_iload_n F d_Hub_allWakes_4 2 rfl ?_
    refine g_iconst F (v := 4) d_Hub_allWakes_5 (by decide) ?_
    refine g_icmp_ge F (tgt := 24) d_Hub_allWakes_6 (by decide) (fun h1 => ?_) (fun h2 => ?_)
    · exact g_sub [1] rfl (hk _ _)
    refine g_iload_n F d_Hub_allWakes_9 1 rfl ?_
    refine g_aload_n F d_Hub_allWakes_10 0 rfl ?_
    refine g_getR F fs_2_9 hr0.1 rfl d_Hub_allWakes_11 ?_
    refine g_iload_n F d_Hub_allWakes_14 2 rfl ?_
    refine g_iald F (n := 4) hr0.2.1 d_Hub_allWakes_15 ?_
    refine g_iadd F d_Hub_allWakes_16 ?_
    refine g_ltI (fun v1 _ => ?_)
    refine g_istore_n F (ls' := [(1, .int v1), (0, .ref (xa X r0)), (2, .int x2)]) d_Hub_allWakes_17 (by decide) rfl ?_
    refine g_iinc F (v := 1) (ls' := [(2, .int (x2 + 1)), (1, .int v1), (0, .ref (xa X r0))]) d_Hub_allWakes_18 2 rfl (by decide) (by decide) rfl ?_
    refine g_goto F (tgt := 4) d_Hub_allWakes_21 (by decide) ?_
    exact g_sub [2, 1, 0] rfl (ih _ _ _)
set_option maxRecDepth 100000 in
set_option maxHeartbeats 4000000 in
theorem c_Hub_allWakes {X : CX} (l : Launch) (q : Nat) (hq : HubOK X q) (σ : Mem) : CT X l y_Hub_allWakes prog_4_method_35_code 3 (some .int) 0 vI [.ref (xa X q)] σ (f_Hub_allWakes q σ) := by
  refine CT_of (by decide +kernel) (Nat.le_of_ble_eq_true rfl) ?_
  intro p e s m args below meth c F hlk hr
  have F : FR p s m args c prog_4_method_35_code 3 "SensorHub$Hub" X := F
  show G X p l e (rmD 0) s m args below meth c 3 0 0 (QI X below args s vI) 0 [(0, .ref (xa X q))] [] σ _
  unfold f_Hub_allWakes
  refine g_iconst F (v := 0) d_Hub_allWakes_0 (by decide) ?_
  refine g_istore_n F (ls' := [(1, .int (0 : Int32)), (0, .ref (xa X q))]) d_Hub_allWakes_1 (by decide) rfl ?_
  refine g_iconst F (v := 0) d_Hub_allWakes_2 (by decide) ?_
  refine g_istore_n F (ls' := [(2, .int (0 : Int32)), (1, .int (0 : Int32)), (0, .ref (xa X q))]) d_Hub_allWakes_3 (by decide) rfl ?_
  refine g_sub [2, 1, 0] rfl (l_L_Hub_allWakes_4 F hlk hr _ hq _ (fun z2 σ3 => ?_) FU _ _ _)
  refine g_iload_n F d_Hub_allWakes_24 0 rfl ?_
  exact g_iret F hlk hr d_Hub_allWakes_25
end
section
theorem i_vc : Claimed_1_1 ∧ Claimed_1_2 := sorry
end
