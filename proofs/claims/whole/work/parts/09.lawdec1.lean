theorem dL_806 : decode code 806 = .ok (.aload_n 1, 1) := by decide +kernel
theorem dL_807 : decode code 807 = .ok (.aload_n 0, 1) := by decide +kernel
theorem dL_808 : decode code 808 = .ok (.iload_n 3, 1) := by decide +kernel
theorem dL_809 : decode code 809 = .ok (.iconst 1, 1) := by decide +kernel
theorem dL_810 : decode code 810 = .ok (.iadd, 1) := by decide +kernel
theorem dL_811 : decode code 811 = .ok (.iaload, 1) := by decide +kernel
theorem dL_812 : decode code 812 = .ok (.aload_n 0, 1) := by decide +kernel
theorem dL_813 : decode code 813 = .ok (.iload_n 3, 1) := by decide +kernel
theorem dL_814 : decode code 814 = .ok (.iconst 2, 1) := by decide +kernel
theorem dL_815 : decode code 815 = .ok (.iadd, 1) := by decide +kernel
theorem dL_816 : decode code 816 = .ok (.iaload, 1) := by decide +kernel
theorem dL_817 : decode code 817 = .ok (.invokevirtual 100, 3) := by decide +kernel
theorem dL_820 : decode code 820 = .ok (.aload_n 2, 1) := by decide +kernel
theorem dL_821 : decode code 821 = .ok (.aload_n 0, 1) := by decide +kernel
theorem dL_822 : decode code 822 = .ok (.iload_n 3, 1) := by decide +kernel
theorem dL_823 : decode code 823 = .ok (.iconst 1, 1) := by decide +kernel
theorem dL_824 : decode code 824 = .ok (.iadd, 1) := by decide +kernel
theorem dL_825 : decode code 825 = .ok (.iaload, 1) := by decide +kernel
theorem dL_826 : decode code 826 = .ok (.aload_n 0, 1) := by decide +kernel
theorem dL_827 : decode code 827 = .ok (.iload_n 3, 1) := by decide +kernel
theorem dL_828 : decode code 828 = .ok (.iconst 2, 1) := by decide +kernel
theorem dL_829 : decode code 829 = .ok (.iadd, 1) := by decide +kernel
theorem dL_830 : decode code 830 = .ok (.iaload, 1) := by decide +kernel
theorem dL_831 : decode code 831 = .ok (.invokevirtual 103, 3) := by decide +kernel
theorem dL_834 : decode code 834 = .ok (.if_icmp .eq 604, 3) := by decide +kernel
theorem dL_837 : decode code 837 = .ok (.iconst 0, 1) := by decide +kernel
theorem dL_838 : decode code 838 = .ok (.ireturn, 1) := by decide +kernel
theorem dL_839 : decode code 839 = .ok (.aload_n 1, 1) := by decide +kernel
theorem dL_840 : decode code 840 = .ok (.aload_n 0, 1) := by decide +kernel
theorem dL_841 : decode code 841 = .ok (.iload_n 3, 1) := by decide +kernel
theorem dL_842 : decode code 842 = .ok (.iconst 1, 1) := by decide +kernel
theorem dL_843 : decode code 843 = .ok (.iadd, 1) := by decide +kernel
theorem dL_844 : decode code 844 = .ok (.iaload, 1) := by decide +kernel
theorem dL_845 : decode code 845 = .ok (.aload_n 0, 1) := by decide +kernel
theorem dL_846 : decode code 846 = .ok (.iload_n 3, 1) := by decide +kernel
theorem dL_847 : decode code 847 = .ok (.iconst 2, 1) := by decide +kernel
theorem dL_848 : decode code 848 = .ok (.iadd, 1) := by decide +kernel
theorem dL_849 : decode code 849 = .ok (.iaload, 1) := by decide +kernel
theorem dL_850 : decode code 850 = .ok (.aload_n 0, 1) := by decide +kernel
theorem dL_851 : decode code 851 = .ok (.iload_n 3, 1) := by decide +kernel
theorem dL_852 : decode code 852 = .ok (.iconst 3, 1) := by decide +kernel
theorem dL_853 : decode code 853 = .ok (.iadd, 1) := by decide +kernel
theorem dL_854 : decode code 854 = .ok (.iaload, 1) := by decide +kernel
theorem dL_855 : decode code 855 = .ok (.invokevirtual 104, 3) := by decide +kernel
theorem dL_858 : decode code 858 = .ok (.aload_n 2, 1) := by decide +kernel
theorem dL_859 : decode code 859 = .ok (.aload_n 0, 1) := by decide +kernel
theorem dL_860 : decode code 860 = .ok (.iload_n 3, 1) := by decide +kernel
theorem dL_861 : decode code 861 = .ok (.iconst 1, 1) := by decide +kernel
theorem dL_862 : decode code 862 = .ok (.iadd, 1) := by decide +kernel
theorem dL_863 : decode code 863 = .ok (.iaload, 1) := by decide +kernel
theorem dL_864 : decode code 864 = .ok (.aload_n 0, 1) := by decide +kernel
theorem dL_865 : decode code 865 = .ok (.iload_n 3, 1) := by decide +kernel
theorem dL_866 : decode code 866 = .ok (.iconst 2, 1) := by decide +kernel
theorem dL_867 : decode code 867 = .ok (.iadd, 1) := by decide +kernel
theorem dL_868 : decode code 868 = .ok (.iaload, 1) := by decide +kernel
theorem dL_869 : decode code 869 = .ok (.aload_n 0, 1) := by decide +kernel
theorem dL_870 : decode code 870 = .ok (.iload_n 3, 1) := by decide +kernel
theorem dL_871 : decode code 871 = .ok (.iconst 3, 1) := by decide +kernel
theorem dL_872 : decode code 872 = .ok (.iadd, 1) := by decide +kernel
theorem dL_873 : decode code 873 = .ok (.iaload, 1) := by decide +kernel
theorem dL_874 : decode code 874 = .ok (.invokevirtual 107, 3) := by decide +kernel
theorem dL_877 : decode code 877 = .ok (.if_icmp .eq 561, 3) := by decide +kernel
theorem dL_880 : decode code 880 = .ok (.iconst 0, 1) := by decide +kernel
theorem dL_881 : decode code 881 = .ok (.ireturn, 1) := by decide +kernel
theorem dL_882 : decode code 882 = .ok (.aload_n 1, 1) := by decide +kernel
theorem dL_883 : decode code 883 = .ok (.aload_n 0, 1) := by decide +kernel
theorem dL_884 : decode code 884 = .ok (.iload_n 3, 1) := by decide +kernel
theorem dL_885 : decode code 885 = .ok (.iconst 1, 1) := by decide +kernel
theorem dL_886 : decode code 886 = .ok (.iadd, 1) := by decide +kernel
theorem dL_887 : decode code 887 = .ok (.iaload, 1) := by decide +kernel
theorem dL_888 : decode code 888 = .ok (.aload_n 0, 1) := by decide +kernel
theorem dL_889 : decode code 889 = .ok (.iload_n 3, 1) := by decide +kernel
theorem dL_890 : decode code 890 = .ok (.iconst 2, 1) := by decide +kernel
theorem dL_891 : decode code 891 = .ok (.iadd, 1) := by decide +kernel
theorem dL_892 : decode code 892 = .ok (.iaload, 1) := by decide +kernel
theorem dL_893 : decode code 893 = .ok (.invokevirtual 108, 3) := by decide +kernel
theorem dL_896 : decode code 896 = .ok (.aload_n 2, 1) := by decide +kernel
theorem dL_897 : decode code 897 = .ok (.aload_n 0, 1) := by decide +kernel
theorem dL_898 : decode code 898 = .ok (.iload_n 3, 1) := by decide +kernel
theorem dL_899 : decode code 899 = .ok (.iconst 1, 1) := by decide +kernel
theorem dL_900 : decode code 900 = .ok (.iadd, 1) := by decide +kernel
theorem dL_901 : decode code 901 = .ok (.iaload, 1) := by decide +kernel
theorem dL_902 : decode code 902 = .ok (.aload_n 0, 1) := by decide +kernel
theorem dL_903 : decode code 903 = .ok (.iload_n 3, 1) := by decide +kernel
theorem dL_904 : decode code 904 = .ok (.iconst 2, 1) := by decide +kernel
theorem dL_905 : decode code 905 = .ok (.iadd, 1) := by decide +kernel
theorem dL_906 : decode code 906 = .ok (.iaload, 1) := by decide +kernel
theorem dL_907 : decode code 907 = .ok (.invokevirtual 111, 3) := by decide +kernel
theorem dL_910 : decode code 910 = .ok (.if_icmp .eq 528, 3) := by decide +kernel
theorem dL_913 : decode code 913 = .ok (.iconst 0, 1) := by decide +kernel
theorem dL_914 : decode code 914 = .ok (.ireturn, 1) := by decide +kernel
theorem dL_915 : decode code 915 = .ok (.aload_n 1, 1) := by decide +kernel
theorem dL_916 : decode code 916 = .ok (.aload_n 0, 1) := by decide +kernel
theorem dL_917 : decode code 917 = .ok (.iload_n 3, 1) := by decide +kernel
theorem dL_918 : decode code 918 = .ok (.iconst 1, 1) := by decide +kernel
theorem dL_919 : decode code 919 = .ok (.iadd, 1) := by decide +kernel
theorem dL_920 : decode code 920 = .ok (.iaload, 1) := by decide +kernel
theorem dL_921 : decode code 921 = .ok (.aload_n 0, 1) := by decide +kernel
theorem dL_922 : decode code 922 = .ok (.iload_n 3, 1) := by decide +kernel
theorem dL_923 : decode code 923 = .ok (.iconst 2, 1) := by decide +kernel
theorem dL_924 : decode code 924 = .ok (.iadd, 1) := by decide +kernel
theorem dL_925 : decode code 925 = .ok (.iaload, 1) := by decide +kernel
theorem dL_926 : decode code 926 = .ok (.invokevirtual 112, 3) := by decide +kernel
theorem dL_929 : decode code 929 = .ok (.aload_n 2, 1) := by decide +kernel
theorem dL_930 : decode code 930 = .ok (.aload_n 0, 1) := by decide +kernel
theorem dL_931 : decode code 931 = .ok (.iload_n 3, 1) := by decide +kernel
theorem dL_932 : decode code 932 = .ok (.iconst 1, 1) := by decide +kernel
theorem dL_933 : decode code 933 = .ok (.iadd, 1) := by decide +kernel
theorem dL_934 : decode code 934 = .ok (.iaload, 1) := by decide +kernel
theorem dL_935 : decode code 935 = .ok (.aload_n 0, 1) := by decide +kernel
theorem dL_936 : decode code 936 = .ok (.iload_n 3, 1) := by decide +kernel
theorem dL_937 : decode code 937 = .ok (.iconst 2, 1) := by decide +kernel
theorem dL_938 : decode code 938 = .ok (.iadd, 1) := by decide +kernel
theorem dL_939 : decode code 939 = .ok (.iaload, 1) := by decide +kernel
theorem dL_940 : decode code 940 = .ok (.invokevirtual 115, 3) := by decide +kernel
theorem dL_943 : decode code 943 = .ok (.lcmp, 1) := by decide +kernel
theorem dL_944 : decode code 944 = .ok (.ifCond .eq 494, 3) := by decide +kernel
theorem dL_947 : decode code 947 = .ok (.iconst 0, 1) := by decide +kernel
theorem dL_948 : decode code 948 = .ok (.ireturn, 1) := by decide +kernel
theorem dL_949 : decode code 949 = .ok (.aload_n 1, 1) := by decide +kernel
theorem dL_950 : decode code 950 = .ok (.aload_n 0, 1) := by decide +kernel
theorem dL_951 : decode code 951 = .ok (.iload_n 3, 1) := by decide +kernel
theorem dL_952 : decode code 952 = .ok (.iconst 1, 1) := by decide +kernel
theorem dL_953 : decode code 953 = .ok (.iadd, 1) := by decide +kernel
theorem dL_954 : decode code 954 = .ok (.iaload, 1) := by decide +kernel
theorem dL_955 : decode code 955 = .ok (.invokevirtual 116, 3) := by decide +kernel
theorem dL_958 : decode code 958 = .ok (.aload_n 2, 1) := by decide +kernel
theorem dL_959 : decode code 959 = .ok (.aload_n 0, 1) := by decide +kernel
theorem dL_960 : decode code 960 = .ok (.iload_n 3, 1) := by decide +kernel
theorem dL_961 : decode code 961 = .ok (.iconst 1, 1) := by decide +kernel
theorem dL_962 : decode code 962 = .ok (.iadd, 1) := by decide +kernel
theorem dL_963 : decode code 963 = .ok (.iaload, 1) := by decide +kernel
theorem dL_964 : decode code 964 = .ok (.invokevirtual 119, 3) := by decide +kernel
theorem dL_967 : decode code 967 = .ok (.if_icmp .eq 471, 3) := by decide +kernel
theorem dL_970 : decode code 970 = .ok (.iconst 0, 1) := by decide +kernel
theorem dL_971 : decode code 971 = .ok (.ireturn, 1) := by decide +kernel
theorem dL_972 : decode code 972 = .ok (.aload_n 1, 1) := by decide +kernel
theorem dL_973 : decode code 973 = .ok (.aload_n 0, 1) := by decide +kernel
theorem dL_974 : decode code 974 = .ok (.iload_n 3, 1) := by decide +kernel
theorem dL_975 : decode code 975 = .ok (.iconst 1, 1) := by decide +kernel
theorem dL_976 : decode code 976 = .ok (.iadd, 1) := by decide +kernel
theorem dL_977 : decode code 977 = .ok (.iaload, 1) := by decide +kernel
theorem dL_978 : decode code 978 = .ok (.invokevirtual 120, 3) := by decide +kernel
theorem dL_981 : decode code 981 = .ok (.aload_n 2, 1) := by decide +kernel
theorem dL_982 : decode code 982 = .ok (.aload_n 0, 1) := by decide +kernel
theorem dL_983 : decode code 983 = .ok (.iload_n 3, 1) := by decide +kernel
theorem dL_984 : decode code 984 = .ok (.iconst 1, 1) := by decide +kernel
theorem dL_985 : decode code 985 = .ok (.iadd, 1) := by decide +kernel
theorem dL_986 : decode code 986 = .ok (.iaload, 1) := by decide +kernel
theorem dL_987 : decode code 987 = .ok (.invokevirtual 123, 3) := by decide +kernel
theorem dL_990 : decode code 990 = .ok (.if_icmp .eq 448, 3) := by decide +kernel
theorem dL_993 : decode code 993 = .ok (.iconst 0, 1) := by decide +kernel
theorem dL_994 : decode code 994 = .ok (.ireturn, 1) := by decide +kernel
theorem dL_995 : decode code 995 = .ok (.aload_n 1, 1) := by decide +kernel
theorem dL_996 : decode code 996 = .ok (.invokevirtual 124, 3) := by decide +kernel
theorem dL_999 : decode code 999 = .ok (.aload_n 2, 1) := by decide +kernel
theorem dL_1000 : decode code 1000 = .ok (.invokevirtual 127, 3) := by decide +kernel
theorem dL_1003 : decode code 1003 = .ok (.if_icmp .eq 435, 3) := by decide +kernel
theorem dL_1006 : decode code 1006 = .ok (.iconst 0, 1) := by decide +kernel
theorem dL_1007 : decode code 1007 = .ok (.ireturn, 1) := by decide +kernel
theorem dL_1008 : decode code 1008 = .ok (.aload_n 1, 1) := by decide +kernel
theorem dL_1009 : decode code 1009 = .ok (.invokevirtual 128, 3) := by decide +kernel
theorem dL_1012 : decode code 1012 = .ok (.aload_n 2, 1) := by decide +kernel
theorem dL_1013 : decode code 1013 = .ok (.invokevirtual 131, 3) := by decide +kernel
theorem dL_1016 : decode code 1016 = .ok (.if_icmp .eq 422, 3) := by decide +kernel
theorem dL_1019 : decode code 1019 = .ok (.iconst 0, 1) := by decide +kernel
theorem dL_1020 : decode code 1020 = .ok (.ireturn, 1) := by decide +kernel
theorem dL_1021 : decode code 1021 = .ok (.aload_n 1, 1) := by decide +kernel
theorem dL_1022 : decode code 1022 = .ok (.invokevirtual 132, 3) := by decide +kernel
theorem dL_1025 : decode code 1025 = .ok (.aload_n 2, 1) := by decide +kernel
theorem dL_1026 : decode code 1026 = .ok (.invokevirtual 135, 3) := by decide +kernel
theorem dL_1029 : decode code 1029 = .ok (.if_icmp .eq 409, 3) := by decide +kernel
theorem dL_1032 : decode code 1032 = .ok (.iconst 0, 1) := by decide +kernel
theorem dL_1033 : decode code 1033 = .ok (.ireturn, 1) := by decide +kernel
theorem dL_1034 : decode code 1034 = .ok (.aload_n 1, 1) := by decide +kernel
theorem dL_1035 : decode code 1035 = .ok (.invokevirtual 136, 3) := by decide +kernel
theorem dL_1038 : decode code 1038 = .ok (.aload_n 2, 1) := by decide +kernel
theorem dL_1039 : decode code 1039 = .ok (.invokevirtual 139, 3) := by decide +kernel
theorem dL_1042 : decode code 1042 = .ok (.if_icmp .eq 396, 3) := by decide +kernel
theorem dL_1045 : decode code 1045 = .ok (.iconst 0, 1) := by decide +kernel
theorem dL_1046 : decode code 1046 = .ok (.ireturn, 1) := by decide +kernel
theorem dL_1047 : decode code 1047 = .ok (.aload_n 1, 1) := by decide +kernel
theorem dL_1048 : decode code 1048 = .ok (.aload_n 0, 1) := by decide +kernel
theorem dL_1049 : decode code 1049 = .ok (.iload_n 3, 1) := by decide +kernel
theorem dL_1050 : decode code 1050 = .ok (.iconst 1, 1) := by decide +kernel
theorem dL_1051 : decode code 1051 = .ok (.iadd, 1) := by decide +kernel
theorem dL_1052 : decode code 1052 = .ok (.iaload, 1) := by decide +kernel
theorem dL_1053 : decode code 1053 = .ok (.invokevirtual 140, 3) := by decide +kernel
theorem dL_1056 : decode code 1056 = .ok (.aload_n 2, 1) := by decide +kernel
theorem dL_1057 : decode code 1057 = .ok (.aload_n 0, 1) := by decide +kernel
theorem dL_1058 : decode code 1058 = .ok (.iload_n 3, 1) := by decide +kernel
theorem dL_1059 : decode code 1059 = .ok (.iconst 1, 1) := by decide +kernel
theorem dL_1060 : decode code 1060 = .ok (.iadd, 1) := by decide +kernel
theorem dL_1061 : decode code 1061 = .ok (.iaload, 1) := by decide +kernel
theorem dL_1062 : decode code 1062 = .ok (.invokevirtual 143, 3) := by decide +kernel
theorem dL_1065 : decode code 1065 = .ok (.if_icmp .eq 373, 3) := by decide +kernel
theorem dL_1068 : decode code 1068 = .ok (.iconst 0, 1) := by decide +kernel
theorem dL_1069 : decode code 1069 = .ok (.ireturn, 1) := by decide +kernel
theorem dL_1070 : decode code 1070 = .ok (.aload_n 1, 1) := by decide +kernel
theorem dL_1071 : decode code 1071 = .ok (.aload_n 0, 1) := by decide +kernel
theorem dL_1072 : decode code 1072 = .ok (.iload_n 3, 1) := by decide +kernel
theorem dL_1073 : decode code 1073 = .ok (.iconst 1, 1) := by decide +kernel
theorem dL_1074 : decode code 1074 = .ok (.iadd, 1) := by decide +kernel
theorem dL_1075 : decode code 1075 = .ok (.iaload, 1) := by decide +kernel
theorem dL_1076 : decode code 1076 = .ok (.aload_n 0, 1) := by decide +kernel
theorem dL_1077 : decode code 1077 = .ok (.iload_n 3, 1) := by decide +kernel
theorem dL_1078 : decode code 1078 = .ok (.iconst 2, 1) := by decide +kernel
theorem dL_1079 : decode code 1079 = .ok (.iadd, 1) := by decide +kernel
theorem dL_1080 : decode code 1080 = .ok (.iaload, 1) := by decide +kernel
theorem dL_1081 : decode code 1081 = .ok (.aload_n 0, 1) := by decide +kernel
theorem dL_1082 : decode code 1082 = .ok (.iload_n 3, 1) := by decide +kernel
theorem dL_1083 : decode code 1083 = .ok (.iconst 3, 1) := by decide +kernel
theorem dL_1084 : decode code 1084 = .ok (.iadd, 1) := by decide +kernel
theorem dL_1085 : decode code 1085 = .ok (.iaload, 1) := by decide +kernel
theorem dL_1086 : decode code 1086 = .ok (.invokevirtual 144, 3) := by decide +kernel
theorem dL_1089 : decode code 1089 = .ok (.aload_n 2, 1) := by decide +kernel
theorem dL_1090 : decode code 1090 = .ok (.aload_n 0, 1) := by decide +kernel
theorem dL_1091 : decode code 1091 = .ok (.iload_n 3, 1) := by decide +kernel
theorem dL_1092 : decode code 1092 = .ok (.iconst 1, 1) := by decide +kernel
theorem dL_1093 : decode code 1093 = .ok (.iadd, 1) := by decide +kernel
theorem dL_1094 : decode code 1094 = .ok (.iaload, 1) := by decide +kernel
theorem dL_1095 : decode code 1095 = .ok (.aload_n 0, 1) := by decide +kernel
theorem dL_1096 : decode code 1096 = .ok (.iload_n 3, 1) := by decide +kernel
theorem dL_1097 : decode code 1097 = .ok (.iconst 2, 1) := by decide +kernel
theorem dL_1098 : decode code 1098 = .ok (.iadd, 1) := by decide +kernel
theorem dL_1099 : decode code 1099 = .ok (.iaload, 1) := by decide +kernel
theorem dL_1100 : decode code 1100 = .ok (.aload_n 0, 1) := by decide +kernel
theorem dL_1101 : decode code 1101 = .ok (.iload_n 3, 1) := by decide +kernel
theorem dL_1102 : decode code 1102 = .ok (.iconst 3, 1) := by decide +kernel
theorem dL_1103 : decode code 1103 = .ok (.iadd, 1) := by decide +kernel
theorem dL_1104 : decode code 1104 = .ok (.iaload, 1) := by decide +kernel
theorem dL_1105 : decode code 1105 = .ok (.invokevirtual 147, 3) := by decide +kernel
theorem dL_1108 : decode code 1108 = .ok (.if_icmp .eq 330, 3) := by decide +kernel
theorem dL_1111 : decode code 1111 = .ok (.iconst 0, 1) := by decide +kernel
theorem dL_1112 : decode code 1112 = .ok (.ireturn, 1) := by decide +kernel
theorem dL_1113 : decode code 1113 = .ok (.aload_n 1, 1) := by decide +kernel
theorem dL_1114 : decode code 1114 = .ok (.aload_n 0, 1) := by decide +kernel
theorem dL_1115 : decode code 1115 = .ok (.iload_n 3, 1) := by decide +kernel
theorem dL_1116 : decode code 1116 = .ok (.iconst 1, 1) := by decide +kernel
theorem dL_1117 : decode code 1117 = .ok (.iadd, 1) := by decide +kernel
theorem dL_1118 : decode code 1118 = .ok (.iaload, 1) := by decide +kernel
theorem dL_1119 : decode code 1119 = .ok (.invokevirtual 148, 3) := by decide +kernel
theorem dL_1122 : decode code 1122 = .ok (.aload_n 2, 1) := by decide +kernel
theorem dL_1123 : decode code 1123 = .ok (.aload_n 0, 1) := by decide +kernel
theorem dL_1124 : decode code 1124 = .ok (.iload_n 3, 1) := by decide +kernel
theorem dL_1125 : decode code 1125 = .ok (.iconst 1, 1) := by decide +kernel
theorem dL_1126 : decode code 1126 = .ok (.iadd, 1) := by decide +kernel
theorem dL_1127 : decode code 1127 = .ok (.iaload, 1) := by decide +kernel
theorem dL_1128 : decode code 1128 = .ok (.invokevirtual 151, 3) := by decide +kernel
theorem dL_1131 : decode code 1131 = .ok (.if_icmp .eq 307, 3) := by decide +kernel
theorem dL_1134 : decode code 1134 = .ok (.iconst 0, 1) := by decide +kernel
theorem dL_1135 : decode code 1135 = .ok (.ireturn, 1) := by decide +kernel
theorem dL_1136 : decode code 1136 = .ok (.aload_n 1, 1) := by decide +kernel
theorem dL_1137 : decode code 1137 = .ok (.aload_n 0, 1) := by decide +kernel
theorem dL_1138 : decode code 1138 = .ok (.iload_n 3, 1) := by decide +kernel
theorem dL_1139 : decode code 1139 = .ok (.iconst 1, 1) := by decide +kernel
theorem dL_1140 : decode code 1140 = .ok (.iadd, 1) := by decide +kernel
theorem dL_1141 : decode code 1141 = .ok (.iaload, 1) := by decide +kernel
theorem dL_1142 : decode code 1142 = .ok (.aload_n 0, 1) := by decide +kernel
theorem dL_1143 : decode code 1143 = .ok (.iload_n 3, 1) := by decide +kernel
theorem dL_1144 : decode code 1144 = .ok (.iconst 2, 1) := by decide +kernel
theorem dL_1145 : decode code 1145 = .ok (.iadd, 1) := by decide +kernel
theorem dL_1146 : decode code 1146 = .ok (.iaload, 1) := by decide +kernel
theorem dL_1147 : decode code 1147 = .ok (.invokevirtual 152, 3) := by decide +kernel
theorem dL_1150 : decode code 1150 = .ok (.aload_n 2, 1) := by decide +kernel
theorem dL_1151 : decode code 1151 = .ok (.aload_n 0, 1) := by decide +kernel
theorem dL_1152 : decode code 1152 = .ok (.iload_n 3, 1) := by decide +kernel
theorem dL_1153 : decode code 1153 = .ok (.iconst 1, 1) := by decide +kernel
theorem dL_1154 : decode code 1154 = .ok (.iadd, 1) := by decide +kernel
theorem dL_1155 : decode code 1155 = .ok (.iaload, 1) := by decide +kernel
theorem dL_1156 : decode code 1156 = .ok (.aload_n 0, 1) := by decide +kernel
theorem dL_1157 : decode code 1157 = .ok (.iload_n 3, 1) := by decide +kernel
theorem dL_1158 : decode code 1158 = .ok (.iconst 2, 1) := by decide +kernel
theorem dL_1159 : decode code 1159 = .ok (.iadd, 1) := by decide +kernel
theorem dL_1160 : decode code 1160 = .ok (.iaload, 1) := by decide +kernel
theorem dL_1161 : decode code 1161 = .ok (.invokevirtual 155, 3) := by decide +kernel
theorem dL_1164 : decode code 1164 = .ok (.if_icmp .eq 274, 3) := by decide +kernel
theorem dL_1167 : decode code 1167 = .ok (.iconst 0, 1) := by decide +kernel
theorem dL_1168 : decode code 1168 = .ok (.ireturn, 1) := by decide +kernel
theorem dL_1169 : decode code 1169 = .ok (.aload_n 1, 1) := by decide +kernel
theorem dL_1170 : decode code 1170 = .ok (.aload_n 0, 1) := by decide +kernel
theorem dL_1171 : decode code 1171 = .ok (.iload_n 3, 1) := by decide +kernel
theorem dL_1172 : decode code 1172 = .ok (.iconst 1, 1) := by decide +kernel
theorem dL_1173 : decode code 1173 = .ok (.iadd, 1) := by decide +kernel
theorem dL_1174 : decode code 1174 = .ok (.iaload, 1) := by decide +kernel
theorem dL_1175 : decode code 1175 = .ok (.aload_n 0, 1) := by decide +kernel
theorem dL_1176 : decode code 1176 = .ok (.iload_n 3, 1) := by decide +kernel
theorem dL_1177 : decode code 1177 = .ok (.iconst 2, 1) := by decide +kernel
theorem dL_1178 : decode code 1178 = .ok (.iadd, 1) := by decide +kernel
theorem dL_1179 : decode code 1179 = .ok (.iaload, 1) := by decide +kernel
theorem dL_1180 : decode code 1180 = .ok (.aload_n 0, 1) := by decide +kernel
theorem dL_1181 : decode code 1181 = .ok (.iload_n 3, 1) := by decide +kernel
theorem dL_1182 : decode code 1182 = .ok (.iconst 3, 1) := by decide +kernel
theorem dL_1183 : decode code 1183 = .ok (.iadd, 1) := by decide +kernel
theorem dL_1184 : decode code 1184 = .ok (.iaload, 1) := by decide +kernel
theorem dL_1185 : decode code 1185 = .ok (.invokevirtual 156, 3) := by decide +kernel
theorem dL_1188 : decode code 1188 = .ok (.aload_n 2, 1) := by decide +kernel
theorem dL_1189 : decode code 1189 = .ok (.aload_n 0, 1) := by decide +kernel
theorem dL_1190 : decode code 1190 = .ok (.iload_n 3, 1) := by decide +kernel
theorem dL_1191 : decode code 1191 = .ok (.iconst 1, 1) := by decide +kernel
theorem dL_1192 : decode code 1192 = .ok (.iadd, 1) := by decide +kernel
theorem dL_1193 : decode code 1193 = .ok (.iaload, 1) := by decide +kernel
theorem dL_1194 : decode code 1194 = .ok (.aload_n 0, 1) := by decide +kernel
theorem dL_1195 : decode code 1195 = .ok (.iload_n 3, 1) := by decide +kernel
theorem dL_1196 : decode code 1196 = .ok (.iconst 2, 1) := by decide +kernel
theorem dL_1197 : decode code 1197 = .ok (.iadd, 1) := by decide +kernel
theorem dL_1198 : decode code 1198 = .ok (.iaload, 1) := by decide +kernel
theorem dL_1199 : decode code 1199 = .ok (.aload_n 0, 1) := by decide +kernel
theorem dL_1200 : decode code 1200 = .ok (.iload_n 3, 1) := by decide +kernel
theorem dL_1201 : decode code 1201 = .ok (.iconst 3, 1) := by decide +kernel
theorem dL_1202 : decode code 1202 = .ok (.iadd, 1) := by decide +kernel
theorem dL_1203 : decode code 1203 = .ok (.iaload, 1) := by decide +kernel
theorem dL_1204 : decode code 1204 = .ok (.invokevirtual 159, 3) := by decide +kernel
theorem dL_1207 : decode code 1207 = .ok (.if_icmp .eq 231, 3) := by decide +kernel
theorem dL_1210 : decode code 1210 = .ok (.iconst 0, 1) := by decide +kernel
theorem dL_1211 : decode code 1211 = .ok (.ireturn, 1) := by decide +kernel
theorem dL_1212 : decode code 1212 = .ok (.aload_n 1, 1) := by decide +kernel
theorem dL_1213 : decode code 1213 = .ok (.aload_n 0, 1) := by decide +kernel
theorem dL_1214 : decode code 1214 = .ok (.iload_n 3, 1) := by decide +kernel
theorem dL_1215 : decode code 1215 = .ok (.iconst 1, 1) := by decide +kernel
theorem dL_1216 : decode code 1216 = .ok (.iadd, 1) := by decide +kernel
theorem dL_1217 : decode code 1217 = .ok (.iaload, 1) := by decide +kernel
theorem dL_1218 : decode code 1218 = .ok (.aload_n 0, 1) := by decide +kernel
theorem dL_1219 : decode code 1219 = .ok (.iload_n 3, 1) := by decide +kernel
theorem dL_1220 : decode code 1220 = .ok (.iconst 2, 1) := by decide +kernel
theorem dL_1221 : decode code 1221 = .ok (.iadd, 1) := by decide +kernel
theorem dL_1222 : decode code 1222 = .ok (.iaload, 1) := by decide +kernel
theorem dL_1223 : decode code 1223 = .ok (.aload_n 0, 1) := by decide +kernel
theorem dL_1224 : decode code 1224 = .ok (.iload_n 3, 1) := by decide +kernel
theorem dL_1225 : decode code 1225 = .ok (.iconst 3, 1) := by decide +kernel
theorem dL_1226 : decode code 1226 = .ok (.iadd, 1) := by decide +kernel
theorem dL_1227 : decode code 1227 = .ok (.iaload, 1) := by decide +kernel
theorem dL_1228 : decode code 1228 = .ok (.i2l, 1) := by decide +kernel
theorem dL_1229 : decode code 1229 = .ok (.bipush 32, 2) := by decide +kernel
theorem dL_1231 : decode code 1231 = .ok (.lshl, 1) := by decide +kernel
theorem dL_1232 : decode code 1232 = .ok (.aload_n 0, 1) := by decide +kernel
theorem dL_1233 : decode code 1233 = .ok (.iload_n 3, 1) := by decide +kernel
theorem dL_1234 : decode code 1234 = .ok (.iconst 4, 1) := by decide +kernel
theorem dL_1235 : decode code 1235 = .ok (.iadd, 1) := by decide +kernel
theorem dL_1236 : decode code 1236 = .ok (.iaload, 1) := by decide +kernel
theorem dL_1237 : decode code 1237 = .ok (.i2l, 1) := by decide +kernel
theorem dL_1238 : decode code 1238 = .ok (.ldc2_w 160, 3) := by decide +kernel
theorem dL_1241 : decode code 1241 = .ok (.land, 1) := by decide +kernel
theorem dL_1242 : decode code 1242 = .ok (.lor, 1) := by decide +kernel
theorem dL_1243 : decode code 1243 = .ok (.invokevirtual 162, 3) := by decide +kernel
theorem dL_1246 : decode code 1246 = .ok (.aload_n 2, 1) := by decide +kernel
theorem dL_1247 : decode code 1247 = .ok (.aload_n 0, 1) := by decide +kernel
theorem dL_1248 : decode code 1248 = .ok (.iload_n 3, 1) := by decide +kernel
theorem dL_1249 : decode code 1249 = .ok (.iconst 1, 1) := by decide +kernel
theorem dL_1250 : decode code 1250 = .ok (.iadd, 1) := by decide +kernel
theorem dL_1251 : decode code 1251 = .ok (.iaload, 1) := by decide +kernel
theorem dL_1252 : decode code 1252 = .ok (.aload_n 0, 1) := by decide +kernel
theorem dL_1253 : decode code 1253 = .ok (.iload_n 3, 1) := by decide +kernel
theorem dL_1254 : decode code 1254 = .ok (.iconst 2, 1) := by decide +kernel
theorem dL_1255 : decode code 1255 = .ok (.iadd, 1) := by decide +kernel
theorem dL_1256 : decode code 1256 = .ok (.iaload, 1) := by decide +kernel
theorem dL_1257 : decode code 1257 = .ok (.aload_n 0, 1) := by decide +kernel
theorem dL_1258 : decode code 1258 = .ok (.iload_n 3, 1) := by decide +kernel
theorem dL_1259 : decode code 1259 = .ok (.iconst 3, 1) := by decide +kernel
theorem dL_1260 : decode code 1260 = .ok (.iadd, 1) := by decide +kernel
theorem dL_1261 : decode code 1261 = .ok (.iaload, 1) := by decide +kernel
theorem dL_1262 : decode code 1262 = .ok (.i2l, 1) := by decide +kernel
theorem dL_1263 : decode code 1263 = .ok (.bipush 32, 2) := by decide +kernel
theorem dL_1265 : decode code 1265 = .ok (.lshl, 1) := by decide +kernel
theorem dL_1266 : decode code 1266 = .ok (.aload_n 0, 1) := by decide +kernel
theorem dL_1267 : decode code 1267 = .ok (.iload_n 3, 1) := by decide +kernel
theorem dL_1268 : decode code 1268 = .ok (.iconst 4, 1) := by decide +kernel
theorem dL_1269 : decode code 1269 = .ok (.iadd, 1) := by decide +kernel
theorem dL_1270 : decode code 1270 = .ok (.iaload, 1) := by decide +kernel
theorem dL_1271 : decode code 1271 = .ok (.i2l, 1) := by decide +kernel
theorem dL_1272 : decode code 1272 = .ok (.ldc2_w 160, 3) := by decide +kernel
theorem dL_1275 : decode code 1275 = .ok (.land, 1) := by decide +kernel
theorem dL_1276 : decode code 1276 = .ok (.lor, 1) := by decide +kernel
theorem dL_1277 : decode code 1277 = .ok (.invokevirtual 166, 3) := by decide +kernel
theorem dL_1280 : decode code 1280 = .ok (.if_icmp .eq 158, 3) := by decide +kernel
theorem dL_1283 : decode code 1283 = .ok (.iconst 0, 1) := by decide +kernel
theorem dL_1284 : decode code 1284 = .ok (.ireturn, 1) := by decide +kernel
theorem dL_1285 : decode code 1285 = .ok (.aload_n 1, 1) := by decide +kernel
theorem dL_1286 : decode code 1286 = .ok (.aload_n 0, 1) := by decide +kernel
theorem dL_1287 : decode code 1287 = .ok (.iload_n 3, 1) := by decide +kernel
theorem dL_1288 : decode code 1288 = .ok (.iconst 1, 1) := by decide +kernel
theorem dL_1289 : decode code 1289 = .ok (.iadd, 1) := by decide +kernel
theorem dL_1290 : decode code 1290 = .ok (.iaload, 1) := by decide +kernel
theorem dL_1291 : decode code 1291 = .ok (.aload_n 0, 1) := by decide +kernel
theorem dL_1292 : decode code 1292 = .ok (.iload_n 3, 1) := by decide +kernel
theorem dL_1293 : decode code 1293 = .ok (.iconst 2, 1) := by decide +kernel
theorem dL_1294 : decode code 1294 = .ok (.iadd, 1) := by decide +kernel
theorem dL_1295 : decode code 1295 = .ok (.iaload, 1) := by decide +kernel
theorem dL_1296 : decode code 1296 = .ok (.invokevirtual 167, 3) := by decide +kernel
theorem dL_1299 : decode code 1299 = .ok (.aload_n 2, 1) := by decide +kernel
theorem dL_1300 : decode code 1300 = .ok (.aload_n 0, 1) := by decide +kernel
theorem dL_1301 : decode code 1301 = .ok (.iload_n 3, 1) := by decide +kernel
theorem dL_1302 : decode code 1302 = .ok (.iconst 1, 1) := by decide +kernel
theorem dL_1303 : decode code 1303 = .ok (.iadd, 1) := by decide +kernel
theorem dL_1304 : decode code 1304 = .ok (.iaload, 1) := by decide +kernel
theorem dL_1305 : decode code 1305 = .ok (.aload_n 0, 1) := by decide +kernel
theorem dL_1306 : decode code 1306 = .ok (.iload_n 3, 1) := by decide +kernel
theorem dL_1307 : decode code 1307 = .ok (.iconst 2, 1) := by decide +kernel
theorem dL_1308 : decode code 1308 = .ok (.iadd, 1) := by decide +kernel
theorem dL_1309 : decode code 1309 = .ok (.iaload, 1) := by decide +kernel
theorem dL_1310 : decode code 1310 = .ok (.invokevirtual 170, 3) := by decide +kernel
theorem dL_1313 : decode code 1313 = .ok (.lcmp, 1) := by decide +kernel
theorem dL_1314 : decode code 1314 = .ok (.ifCond .eq 124, 3) := by decide +kernel
theorem dL_1317 : decode code 1317 = .ok (.iconst 0, 1) := by decide +kernel
theorem dL_1318 : decode code 1318 = .ok (.ireturn, 1) := by decide +kernel
theorem dL_1319 : decode code 1319 = .ok (.aload_n 1, 1) := by decide +kernel
theorem dL_1320 : decode code 1320 = .ok (.aload_n 0, 1) := by decide +kernel
theorem dL_1321 : decode code 1321 = .ok (.iload_n 3, 1) := by decide +kernel
theorem dL_1322 : decode code 1322 = .ok (.iconst 1, 1) := by decide +kernel
theorem dL_1323 : decode code 1323 = .ok (.iadd, 1) := by decide +kernel
theorem dL_1324 : decode code 1324 = .ok (.iaload, 1) := by decide +kernel
theorem dL_1325 : decode code 1325 = .ok (.aload_n 0, 1) := by decide +kernel
theorem dL_1326 : decode code 1326 = .ok (.iload_n 3, 1) := by decide +kernel
theorem dL_1327 : decode code 1327 = .ok (.iconst 2, 1) := by decide +kernel
theorem dL_1328 : decode code 1328 = .ok (.iadd, 1) := by decide +kernel
theorem dL_1329 : decode code 1329 = .ok (.iaload, 1) := by decide +kernel
theorem dL_1330 : decode code 1330 = .ok (.aload_n 0, 1) := by decide +kernel
theorem dL_1331 : decode code 1331 = .ok (.iload_n 3, 1) := by decide +kernel
theorem dL_1332 : decode code 1332 = .ok (.iconst 3, 1) := by decide +kernel
theorem dL_1333 : decode code 1333 = .ok (.iadd, 1) := by decide +kernel
theorem dL_1334 : decode code 1334 = .ok (.iaload, 1) := by decide +kernel
theorem dL_1335 : decode code 1335 = .ok (.aload_n 0, 1) := by decide +kernel
theorem dL_1336 : decode code 1336 = .ok (.iload_n 3, 1) := by decide +kernel
theorem dL_1337 : decode code 1337 = .ok (.iconst 4, 1) := by decide +kernel
theorem dL_1338 : decode code 1338 = .ok (.iadd, 1) := by decide +kernel
theorem dL_1339 : decode code 1339 = .ok (.iaload, 1) := by decide +kernel
theorem dL_1340 : decode code 1340 = .ok (.aload_n 0, 1) := by decide +kernel
theorem dL_1341 : decode code 1341 = .ok (.iload_n 3, 1) := by decide +kernel
theorem dL_1342 : decode code 1342 = .ok (.iconst 5, 1) := by decide +kernel
theorem dL_1343 : decode code 1343 = .ok (.iadd, 1) := by decide +kernel
theorem dL_1344 : decode code 1344 = .ok (.iaload, 1) := by decide +kernel
theorem dL_1345 : decode code 1345 = .ok (.invokevirtual 171, 3) := by decide +kernel
theorem dL_1348 : decode code 1348 = .ok (.aload_n 2, 1) := by decide +kernel
theorem dL_1349 : decode code 1349 = .ok (.aload_n 0, 1) := by decide +kernel
theorem dL_1350 : decode code 1350 = .ok (.iload_n 3, 1) := by decide +kernel
theorem dL_1351 : decode code 1351 = .ok (.iconst 1, 1) := by decide +kernel
theorem dL_1352 : decode code 1352 = .ok (.iadd, 1) := by decide +kernel
theorem dL_1353 : decode code 1353 = .ok (.iaload, 1) := by decide +kernel
theorem dL_1354 : decode code 1354 = .ok (.aload_n 0, 1) := by decide +kernel
theorem dL_1355 : decode code 1355 = .ok (.iload_n 3, 1) := by decide +kernel
theorem dL_1356 : decode code 1356 = .ok (.iconst 2, 1) := by decide +kernel
theorem dL_1357 : decode code 1357 = .ok (.iadd, 1) := by decide +kernel
theorem dL_1358 : decode code 1358 = .ok (.iaload, 1) := by decide +kernel
theorem dL_1359 : decode code 1359 = .ok (.aload_n 0, 1) := by decide +kernel
theorem dL_1360 : decode code 1360 = .ok (.iload_n 3, 1) := by decide +kernel
theorem dL_1361 : decode code 1361 = .ok (.iconst 3, 1) := by decide +kernel
theorem dL_1362 : decode code 1362 = .ok (.iadd, 1) := by decide +kernel
theorem dL_1363 : decode code 1363 = .ok (.iaload, 1) := by decide +kernel
theorem dL_1364 : decode code 1364 = .ok (.aload_n 0, 1) := by decide +kernel
theorem dL_1365 : decode code 1365 = .ok (.iload_n 3, 1) := by decide +kernel
theorem dL_1366 : decode code 1366 = .ok (.iconst 4, 1) := by decide +kernel
theorem dL_1367 : decode code 1367 = .ok (.iadd, 1) := by decide +kernel
theorem dL_1368 : decode code 1368 = .ok (.iaload, 1) := by decide +kernel
theorem dL_1369 : decode code 1369 = .ok (.aload_n 0, 1) := by decide +kernel
theorem dL_1370 : decode code 1370 = .ok (.iload_n 3, 1) := by decide +kernel
theorem dL_1371 : decode code 1371 = .ok (.iconst 5, 1) := by decide +kernel
theorem dL_1372 : decode code 1372 = .ok (.iadd, 1) := by decide +kernel
theorem dL_1373 : decode code 1373 = .ok (.iaload, 1) := by decide +kernel
theorem dL_1374 : decode code 1374 = .ok (.invokevirtual 175, 3) := by decide +kernel
theorem dL_1377 : decode code 1377 = .ok (.if_icmp .eq 61, 3) := by decide +kernel
theorem dL_1380 : decode code 1380 = .ok (.iconst 0, 1) := by decide +kernel
theorem dL_1381 : decode code 1381 = .ok (.ireturn, 1) := by decide +kernel
theorem dL_1382 : decode code 1382 = .ok (.aload_n 1, 1) := by decide +kernel
theorem dL_1383 : decode code 1383 = .ok (.aload_n 0, 1) := by decide +kernel
theorem dL_1384 : decode code 1384 = .ok (.iload_n 3, 1) := by decide +kernel
theorem dL_1385 : decode code 1385 = .ok (.iconst 1, 1) := by decide +kernel
theorem dL_1386 : decode code 1386 = .ok (.iadd, 1) := by decide +kernel
theorem dL_1387 : decode code 1387 = .ok (.iaload, 1) := by decide +kernel
theorem dL_1388 : decode code 1388 = .ok (.aload_n 0, 1) := by decide +kernel
theorem dL_1389 : decode code 1389 = .ok (.iload_n 3, 1) := by decide +kernel
theorem dL_1390 : decode code 1390 = .ok (.iconst 2, 1) := by decide +kernel
theorem dL_1391 : decode code 1391 = .ok (.iadd, 1) := by decide +kernel
theorem dL_1392 : decode code 1392 = .ok (.iaload, 1) := by decide +kernel
theorem dL_1393 : decode code 1393 = .ok (.invokevirtual 176, 3) := by decide +kernel
theorem dL_1396 : decode code 1396 = .ok (.aload_n 2, 1) := by decide +kernel
theorem dL_1397 : decode code 1397 = .ok (.aload_n 0, 1) := by decide +kernel
theorem dL_1398 : decode code 1398 = .ok (.iload_n 3, 1) := by decide +kernel
theorem dL_1399 : decode code 1399 = .ok (.iconst 1, 1) := by decide +kernel
theorem dL_1400 : decode code 1400 = .ok (.iadd, 1) := by decide +kernel
theorem dL_1401 : decode code 1401 = .ok (.iaload, 1) := by decide +kernel
theorem dL_1402 : decode code 1402 = .ok (.aload_n 0, 1) := by decide +kernel
theorem dL_1403 : decode code 1403 = .ok (.iload_n 3, 1) := by decide +kernel
theorem dL_1404 : decode code 1404 = .ok (.iconst 2, 1) := by decide +kernel
theorem dL_1405 : decode code 1405 = .ok (.iadd, 1) := by decide +kernel
theorem dL_1406 : decode code 1406 = .ok (.iaload, 1) := by decide +kernel
theorem dL_1407 : decode code 1407 = .ok (.invokevirtual 179, 3) := by decide +kernel
theorem dL_1410 : decode code 1410 = .ok (.if_icmp .eq 28, 3) := by decide +kernel
theorem dL_1413 : decode code 1413 = .ok (.iconst 0, 1) := by decide +kernel
theorem dL_1414 : decode code 1414 = .ok (.ireturn, 1) := by decide +kernel
theorem dL_1415 : decode code 1415 = .ok (.aload_n 1, 1) := by decide +kernel
theorem dL_1416 : decode code 1416 = .ok (.aload_n 0, 1) := by decide +kernel
theorem dL_1417 : decode code 1417 = .ok (.iload_n 3, 1) := by decide +kernel
theorem dL_1418 : decode code 1418 = .ok (.iconst 1, 1) := by decide +kernel
theorem dL_1419 : decode code 1419 = .ok (.iadd, 1) := by decide +kernel
theorem dL_1420 : decode code 1420 = .ok (.iaload, 1) := by decide +kernel
theorem dL_1421 : decode code 1421 = .ok (.invokevirtual 180, 3) := by decide +kernel
theorem dL_1424 : decode code 1424 = .ok (.aload_n 2, 1) := by decide +kernel
theorem dL_1425 : decode code 1425 = .ok (.aload_n 0, 1) := by decide +kernel
theorem dL_1426 : decode code 1426 = .ok (.iload_n 3, 1) := by decide +kernel
theorem dL_1427 : decode code 1427 = .ok (.iconst 1, 1) := by decide +kernel
theorem dL_1428 : decode code 1428 = .ok (.iadd, 1) := by decide +kernel
theorem dL_1429 : decode code 1429 = .ok (.iaload, 1) := by decide +kernel
theorem dL_1430 : decode code 1430 = .ok (.invokevirtual 183, 3) := by decide +kernel
theorem dL_1433 : decode code 1433 = .ok (.if_icmp .eq 5, 3) := by decide +kernel
theorem dL_1436 : decode code 1436 = .ok (.iconst 0, 1) := by decide +kernel
theorem dL_1437 : decode code 1437 = .ok (.ireturn, 1) := by decide +kernel
theorem dL_1438 : decode code 1438 = .ok (.iinc 3 6, 3) := by decide +kernel
theorem dL_1441 : decode code 1441 = .ok (.goto (-1423), 3) := by decide +kernel
theorem dL_1444 : decode code 1444 = .ok (.iconst 1, 1) := by decide +kernel
theorem dL_1445 : decode code 1445 = .ok (.ireturn, 1) := by decide +kernel
